/-! OrderlyNets$Cycles: decode rows (printed), and each method kept by its F -/
theorem dX1_orders_0 : decode cX1_orders 0 = .ok (.lconst 1, 1) := by decide +kernel
theorem dX1_orders_1 : decode cX1_orders 1 = .ok (.lstore_n 1, 1) := by decide +kernel
theorem dX1_orders_2 : decode cX1_orders 2 = .ok (.iconst 2, 1) := by decide +kernel
theorem dX1_orders_3 : decode cX1_orders 3 = .ok (.istore_n 3, 1) := by decide +kernel
theorem dX1_orders_4 : decode cX1_orders 4 = .ok (.iload_n 3, 1) := by decide +kernel
theorem dX1_orders_5 : decode cX1_orders 5 = .ok (.iload_n 0, 1) := by decide +kernel
theorem dX1_orders_6 : decode cX1_orders 6 = .ok (.if_icmp .gt 14, 3) := by decide +kernel
theorem dX1_orders_9 : decode cX1_orders 9 = .ok (.lload_n 1, 1) := by decide +kernel
theorem dX1_orders_10 : decode cX1_orders 10 = .ok (.iload_n 3, 1) := by decide +kernel
theorem dX1_orders_11 : decode cX1_orders 11 = .ok (.i2l, 1) := by decide +kernel
theorem dX1_orders_12 : decode cX1_orders 12 = .ok (.lmul, 1) := by decide +kernel
theorem dX1_orders_13 : decode cX1_orders 13 = .ok (.lstore_n 1, 1) := by decide +kernel
theorem dX1_orders_14 : decode cX1_orders 14 = .ok (.iinc 3 1, 3) := by decide +kernel
theorem dX1_orders_17 : decode cX1_orders 17 = .ok (.goto (-13), 3) := by decide +kernel
theorem dX1_orders_20 : decode cX1_orders 20 = .ok (.lload_n 1, 1) := by decide +kernel
theorem dX1_orders_21 : decode cX1_orders 21 = .ok (.lreturn, 1) := by decide +kernel
set_option maxHeartbeats 4000000 in
set_option maxRecDepth 100000 in
theorem c_X1_orders (l : Launch) (D : eD) (T : Nat → ClassId)  (p0 : Int32) (post : Int64 → Prop) (h : F_X1_orders p0 post) : cJ l D T yX1_orders cX1_orders 4 (some .long) 0 0 0 0 [.int p0] [] (fun r w1 => w1 = [] ∧ post r ) := by
  refine xJ_of (by decide +kernel) (Nat.le_of_ble_eq_true rfl) rfl ?_
  intro G X hret
  change G 0 0 0 [(0, .int p0)] [] []
  unfold F_X1_orders at h
  have k4 : ∀ (n4 : Nat) (x0 : Int32) (x1 : Int64) (x3 : Int32), F_X1_orders_4 post n4 x0 x1 x3 → G 0 0 4 [(0, .int x0), (1, .long x1), (3, .int x3)] [] [] := by
    intro n4
    induction n4 with
    | zero => intro x0 x1 x3 h; exact h.elim
    | succ n4 ih4 =>
      intro x0 x1 x3 h
      rw [F_X1_orders_4] at h
      refine x_iload_n X dX1_orders_4 2 rfl ?_
      refine x_iload_n X dX1_orders_5 0 rfl ?_
      refine x_icmp_gt (tgt := 20) X dX1_orders_6 (by decide) (fun hc => ?_) (fun hc => ?_)
      · have h := h.1 hc
        refine x_lload_n X dX1_orders_20 1 rfl ?_
        exact hret _ _ _ _ dX1_orders_21 ⟨rfl, h⟩
      · have h := h.2 hc
        refine x_lload_n X dX1_orders_9 1 rfl ?_
        refine x_iload_n X dX1_orders_10 2 rfl ?_
        refine x_i2l X dX1_orders_11 ?_
        refine x_lmul X dX1_orders_12 ?_
        refine x_lstore_n (lv' := [(1, .long (x1 * x3.toInt64)), (0, .int x0), (3, .int x3)]) X dX1_orders_13 (by decide) rfl ?_
        refine x_iinc (v := (x3 + 1)) (lv' := [(3, .int (x3 + 1)), (1, .long (x1 * x3.toInt64)), (0, .int x0)]) X dX1_orders_14 2 rfl rfl (by decide) rfl ?_
        refine x_goto (tgt := 4) X dX1_orders_17 (by decide) ?_
        exact x_sub X [2, 1, 0] rfl (ih4 x0 (x1 * x3.toInt64) (x3 + 1) h)
  refine x_lconst (v := 1) X dX1_orders_0 (by decide) ?_
  refine x_lstore_n (lv' := [(1, .long (1 : Int64)), (0, .int p0)]) X dX1_orders_1 (by decide) rfl ?_
  refine x_iconst (v := 2) X dX1_orders_2 (by decide) ?_
  refine x_istore_n (lv' := [(3, .int (2 : Int32)), (1, .long (1 : Int64)), (0, .int p0)]) X dX1_orders_3 (by decide) rfl ?_
  obtain ⟨n4, h⟩ := h
  exact x_sub X [2, 1, 0] rfl (k4 n4 p0 (1 : Int64) (2 : Int32) h)
theorem dX1_partAt_0 : decode cX1_partAt 0 = .ok (.iload_n 1, 1) := by decide +kernel
theorem dX1_partAt_1 : decode cX1_partAt 1 = .ok (.ifCond .lt 21, 3) := by decide +kernel
theorem dX1_partAt_4 : decode cX1_partAt 4 = .ok (.iload_n 1, 1) := by decide +kernel
theorem dX1_partAt_5 : decode cX1_partAt 5 = .ok (.aload_n 0, 1) := by decide +kernel
theorem dX1_partAt_6 : decode cX1_partAt 6 = .ok (.getfield 9, 3) := by decide +kernel
theorem dX1_partAt_9 : decode cX1_partAt 9 = .ok (.arraylength, 1) := by decide +kernel
theorem dX1_partAt_10 : decode cX1_partAt 10 = .ok (.if_icmp .ge 12, 3) := by decide +kernel
theorem dX1_partAt_13 : decode cX1_partAt 13 = .ok (.aload_n 0, 1) := by decide +kernel
theorem dX1_partAt_14 : decode cX1_partAt 14 = .ok (.getfield 9, 3) := by decide +kernel
theorem dX1_partAt_17 : decode cX1_partAt 17 = .ok (.iload_n 1, 1) := by decide +kernel
theorem dX1_partAt_18 : decode cX1_partAt 18 = .ok (.iaload, 1) := by decide +kernel
theorem dX1_partAt_19 : decode cX1_partAt 19 = .ok (.goto 4, 3) := by decide +kernel
theorem dX1_partAt_22 : decode cX1_partAt 22 = .ok (.iconst 0, 1) := by decide +kernel
theorem dX1_partAt_23 : decode cX1_partAt 23 = .ok (.ireturn, 1) := by decide +kernel
set_option maxHeartbeats 4000000 in
set_option maxRecDepth 100000 in
theorem c_X1_partAt (l : Launch) (D : eD) (T : Nat → ClassId) (h_t h_t_parts h_t_ways : Nat) (t_edges : Int32) (t_hasDark : Int32) (t_parts : Nat → Int32) (p1 : Int32) (post : Int32 → Prop) (h : F_X1_partAt t_parts p1 post) : cI l D T yX1_partAt cX1_partAt 2 (some .int) 0 0 0 0 [.ref h_t, .int p1] [(h_t, .inr (0, [.ref h_t_parts, .ref h_t_ways, .int t_edges, .int t_hasDark])), (h_t_parts, aI T 6 t_parts)] (fun r w1 => w1 = [(h_t, .inr (0, [.ref h_t_parts, .ref h_t_ways, .int t_edges, .int t_hasDark])), (h_t_parts, aI T 6 t_parts)] ∧ post r ) := by
  refine xI_of (ty := .int) (by decide +kernel) (Nat.le_of_ble_eq_true rfl) rfl ?_
  intro G X hret
  change G 0 0 0 [(0, .ref h_t), (1, .int p1)] [] [(h_t, .inr (0, [.ref h_t_parts, .ref h_t_ways, .int t_edges, .int t_hasDark])), (h_t_parts, aI T 6 t_parts)]
  unfold F_X1_partAt at h
  have k23 : ∀ (s0 : Int32), F_X1_partAt_23 t_parts post s0 → G 0 0 23 [] [.int s0] [(h_t, .inr (0, [.ref h_t_parts, .ref h_t_ways, .int t_edges, .int t_hasDark])), (h_t_parts, aI T 6 t_parts)] := by
    intro s0 h
    unfold F_X1_partAt_23 at h
    exact hret _ _ _ _ dX1_partAt_23 rfl ⟨rfl, h⟩
  have k22 : F_X1_partAt_22 t_parts post (fun s0 => F_X1_partAt_23 t_parts post s0) → G 0 0 22 [] [] [(h_t, .inr (0, [.ref h_t_parts, .ref h_t_ways, .int t_edges, .int t_hasDark])), (h_t_parts, aI T 6 t_parts)] := by
    intro  h
    unfold F_X1_partAt_22 at h
    refine x_iconst (v := 0) X dX1_partAt_22 (by decide) ?_
    exact x_sub X [] rfl (k23 (0 : Int32) h)
  refine x_iload_n X dX1_partAt_0 1 rfl ?_
  refine x_if_lt (tgt := 22) X dX1_partAt_1 (by decide) (fun hc => ?_) (fun hc => ?_)
  · have h := h.1 hc
    exact x_sub X [] rfl (k22 h)
  · have h := h.2 hc
    refine x_iload_n X dX1_partAt_4 1 rfl ?_
    refine x_aload_n X dX1_partAt_5 0 rfl ?_
    refine x_get X inGX1 0 (by decide) rfl tw_303 dX1_partAt_6 rfl 0 rfl rfl ?_
    refine x_alen (v := (6 : Int32)) X dX1_partAt_9 1 1 rfl rfl rfl ?_
    refine x_icmp_ge (tgt := 22) X dX1_partAt_10 (by decide) (fun hc => ?_) (fun hc => ?_)
    · have h := h.1 hc
      exact x_sub X [] rfl (k22 h)
    · have h := h.2 hc
      refine x_aload_n X dX1_partAt_13 0 rfl ?_
      refine x_get X inGX1 0 (by decide) rfl tw_303 dX1_partAt_14 rfl 0 rfl rfl ?_
      refine x_iload_n X dX1_partAt_17 1 rfl ?_
      obtain ⟨hi, h⟩ := h
      refine x_iald X dX1_partAt_18 1 rfl hi ?_
      refine x_goto (tgt := 23) X dX1_partAt_19 (by decide) ?_
      exact x_sub X [] rfl (k23 (t_parts p1.toNatClampNeg) h)
theorem dX1_alike_0 : decode cX1_alike 0 = .ok (.lconst 1, 1) := by decide +kernel
theorem dX1_alike_1 : decode cX1_alike 1 = .ok (.lstore 4, 2) := by decide +kernel
theorem dX1_alike_3 : decode cX1_alike 3 = .ok (.iconst 0, 1) := by decide +kernel
theorem dX1_alike_4 : decode cX1_alike 4 = .ok (.istore 6, 2) := by decide +kernel
theorem dX1_alike_6 : decode cX1_alike 6 = .ok (.iconst 0, 1) := by decide +kernel
theorem dX1_alike_7 : decode cX1_alike 7 = .ok (.istore 7, 2) := by decide +kernel
theorem dX1_alike_9 : decode cX1_alike 9 = .ok (.iload 7, 2) := by decide +kernel
theorem dX1_alike_11 : decode cX1_alike 11 = .ok (.iload_n 1, 1) := by decide +kernel
theorem dX1_alike_12 : decode cX1_alike 12 = .ok (.if_icmp .ge 56, 3) := by decide +kernel
theorem dX1_alike_15 : decode cX1_alike 15 = .ok (.iload 7, 2) := by decide +kernel
theorem dX1_alike_17 : decode cX1_alike 17 = .ok (.ifCond .le 27, 3) := by decide +kernel
theorem dX1_alike_20 : decode cX1_alike 20 = .ok (.aload_n 0, 1) := by decide +kernel
theorem dX1_alike_21 : decode cX1_alike 21 = .ok (.iload 7, 2) := by decide +kernel
theorem dX1_alike_23 : decode cX1_alike 23 = .ok (.invokevirtual 55, 3) := by decide +kernel
theorem dX1_alike_26 : decode cX1_alike 26 = .ok (.aload_n 0, 1) := by decide +kernel
theorem dX1_alike_27 : decode cX1_alike 27 = .ok (.iload 7, 2) := by decide +kernel
theorem dX1_alike_29 : decode cX1_alike 29 = .ok (.iconst 1, 1) := by decide +kernel
theorem dX1_alike_30 : decode cX1_alike 30 = .ok (.isub, 1) := by decide +kernel
theorem dX1_alike_31 : decode cX1_alike 31 = .ok (.invokevirtual 55, 3) := by decide +kernel
theorem dX1_alike_34 : decode cX1_alike 34 = .ok (.if_icmp .ne 10, 3) := by decide +kernel
theorem dX1_alike_37 : decode cX1_alike 37 = .ok (.iload 6, 2) := by decide +kernel
theorem dX1_alike_39 : decode cX1_alike 39 = .ok (.iconst 1, 1) := by decide +kernel
theorem dX1_alike_40 : decode cX1_alike 40 = .ok (.iadd, 1) := by decide +kernel
theorem dX1_alike_41 : decode cX1_alike 41 = .ok (.goto 4, 3) := by decide +kernel
theorem dX1_alike_44 : decode cX1_alike 44 = .ok (.iconst 1, 1) := by decide +kernel
theorem dX1_alike_45 : decode cX1_alike 45 = .ok (.istore 6, 2) := by decide +kernel
theorem dX1_alike_47 : decode cX1_alike 47 = .ok (.lload 4, 2) := by decide +kernel
theorem dX1_alike_49 : decode cX1_alike 49 = .ok (.aload_n 0, 1) := by decide +kernel
theorem dX1_alike_50 : decode cX1_alike 50 = .ok (.iload 7, 2) := by decide +kernel
theorem dX1_alike_52 : decode cX1_alike 52 = .ok (.invokevirtual 55, 3) := by decide +kernel
theorem dX1_alike_55 : decode cX1_alike 55 = .ok (.iload 6, 2) := by decide +kernel
theorem dX1_alike_57 : decode cX1_alike 57 = .ok (.imul, 1) := by decide +kernel
theorem dX1_alike_58 : decode cX1_alike 58 = .ok (.i2l, 1) := by decide +kernel
theorem dX1_alike_59 : decode cX1_alike 59 = .ok (.lmul, 1) := by decide +kernel
theorem dX1_alike_60 : decode cX1_alike 60 = .ok (.lstore 4, 2) := by decide +kernel
theorem dX1_alike_62 : decode cX1_alike 62 = .ok (.iinc 7 1, 3) := by decide +kernel
theorem dX1_alike_65 : decode cX1_alike 65 = .ok (.goto (-56), 3) := by decide +kernel
theorem dX1_alike_68 : decode cX1_alike 68 = .ok (.lload 4, 2) := by decide +kernel
theorem dX1_alike_70 : decode cX1_alike 70 = .ok (.lconst 0, 1) := by decide +kernel
theorem dX1_alike_71 : decode cX1_alike 71 = .ok (.lcmp, 1) := by decide +kernel
theorem dX1_alike_72 : decode cX1_alike 72 = .ok (.ifCond .le 10, 3) := by decide +kernel
theorem dX1_alike_75 : decode cX1_alike 75 = .ok (.lload_n 2, 1) := by decide +kernel
theorem dX1_alike_76 : decode cX1_alike 76 = .ok (.lload 4, 2) := by decide +kernel
theorem dX1_alike_78 : decode cX1_alike 78 = .ok (.ldiv, 1) := by decide +kernel
theorem dX1_alike_79 : decode cX1_alike 79 = .ok (.goto 4, 3) := by decide +kernel
theorem dX1_alike_82 : decode cX1_alike 82 = .ok (.lconst 0, 1) := by decide +kernel
theorem dX1_alike_83 : decode cX1_alike 83 = .ok (.lreturn, 1) := by decide +kernel
set_option maxHeartbeats 4000000 in
set_option maxRecDepth 100000 in
theorem c_X1_alike (l : Launch) (D : eD) (T : Nat → ClassId) (h_t h_t_parts h_t_ways : Nat) (t_edges : Int32) (t_hasDark : Int32) (t_parts : Nat → Int32) (p1 : Int32) (p2 : Int64) (post : Int64 → Prop) (h : F_X1_alike t_parts p1 p2 post) : cJ l D T yX1_alike cX1_alike 8 (some .long) 1 21 0 0 [.ref h_t, .int p1, .long p2] [(h_t, .inr (0, [.ref h_t_parts, .ref h_t_ways, .int t_edges, .int t_hasDark])), (h_t_parts, aI T 6 t_parts)] (fun r w1 => w1 = [(h_t, .inr (0, [.ref h_t_parts, .ref h_t_ways, .int t_edges, .int t_hasDark])), (h_t_parts, aI T 6 t_parts)] ∧ post r ) := by
  refine xJ_of (by decide +kernel) (Nat.le_of_ble_eq_true rfl) rfl ?_
  intro G X hret
  change G 0 0 0 [(0, .ref h_t), (1, .int p1), (2, .long p2)] [] [(h_t, .inr (0, [.ref h_t_parts, .ref h_t_ways, .int t_edges, .int t_hasDark])), (h_t_parts, aI T 6 t_parts)]
  unfold F_X1_alike at h
  have k9 : ∀ (n9 : Nat) (x1 : Int32) (x2 : Int64) (x4 : Int64) (x6 : Int32) (x7 : Int32), F_X1_alike_9 t_parts post n9 x1 x2 x4 x6 x7 → G 0 0 9 [(0, .ref h_t), (1, .int x1), (2, .long x2), (4, .long x4), (6, .int x6), (7, .int x7)] [] [(h_t, .inr (0, [.ref h_t_parts, .ref h_t_ways, .int t_edges, .int t_hasDark])), (h_t_parts, aI T 6 t_parts)] := by
    intro n9
    induction n9 with
    | zero => intro x1 x2 x4 x6 x7 h; exact h.elim
    | succ n9 ih9 =>
      intro x1 x2 x4 x6 x7 h
      rw [F_X1_alike_9] at h
      have k45 : ∀ (x1 : Int32) (x2 : Int64) (x4 : Int64) (x7 : Int32) (s0 : Int32), F_X1_alike_45 t_parts post (F_X1_alike_9 t_parts post n9) x1 x2 x4 x7 s0 → G 0 0 45 [(0, .ref h_t), (1, .int x1), (2, .long x2), (4, .long x4), (7, .int x7)] [.int s0] [(h_t, .inr (0, [.ref h_t_parts, .ref h_t_ways, .int t_edges, .int t_hasDark])), (h_t_parts, aI T 6 t_parts)] := by
        intro x1 x2 x4 x7 s0 h
        unfold F_X1_alike_45 at h
        refine x_istore (lv' := [(6, .int s0), (0, .ref h_t), (1, .int x1), (2, .long x2), (4, .long x4), (7, .int x7)]) X dX1_alike_45 (by decide) rfl ?_
        refine x_lload X dX1_alike_47 4 rfl ?_
        refine x_aload_n X dX1_alike_49 1 rfl ?_
        refine x_iload X dX1_alike_50 5 rfl ?_
        refine x_callVI (av := [.int x7]) (st := [.long x4]) (wr := []) X (c_X1_partAt l D T h_t h_t_parts h_t_ways t_edges t_hasDark t_parts x7 _ h) yk_X1_partAt tw_1211 dX1_alike_52 0 rfl rfl [0, 1] [] rfl rfl rfl rfl (by decide) rfl rfl (Nat.le_of_ble_eq_true rfl) (Nat.le_of_ble_eq_true rfl) (Nat.le_of_ble_eq_true rfl) (Nat.zero_le _) (Nat.zero_le _) (fun r52 w1 hw => ?_)
        obtain ⟨rfl, h⟩ := hw
        refine x_perm (ws2 := [(h_t, .inr (0, [.ref h_t_parts, .ref h_t_ways, .int t_edges, .int t_hasDark])), (h_t_parts, aI T 6 t_parts)]) X [0, 1] rfl rfl ?_
        refine x_iload X dX1_alike_55 0 rfl ?_
        refine x_imul X dX1_alike_57 ?_
        refine x_i2l X dX1_alike_58 ?_
        refine x_lmul X dX1_alike_59 ?_
        refine x_lstore (lv' := [(4, .long (x4 * ((r52 * s0).toInt64))), (6, .int s0), (0, .ref h_t), (1, .int x1), (2, .long x2), (7, .int x7)]) X dX1_alike_60 (by decide) rfl ?_
        refine x_iinc (v := (x7 + 1)) (lv' := [(7, .int (x7 + 1)), (4, .long (x4 * ((r52 * s0).toInt64))), (6, .int s0), (0, .ref h_t), (1, .int x1), (2, .long x2)]) X dX1_alike_62 5 rfl rfl (by decide) rfl ?_
        refine x_goto (tgt := 9) X dX1_alike_65 (by decide) ?_
        exact x_sub X [3, 4, 5, 1, 2, 0] rfl (ih9 x1 x2 (x4 * ((r52 * s0).toInt64)) s0 (x7 + 1) h)
      have k44 : ∀ (x1 : Int32) (x2 : Int64) (x4 : Int64) (x7 : Int32), F_X1_alike_44 t_parts post (fun x1 x2 x4 x7 s0 => F_X1_alike_45 t_parts post (F_X1_alike_9 t_parts post n9) x1 x2 x4 x7 s0) x1 x2 x4 x7 → G 0 0 44 [(0, .ref h_t), (1, .int x1), (2, .long x2), (4, .long x4), (7, .int x7)] [] [(h_t, .inr (0, [.ref h_t_parts, .ref h_t_ways, .int t_edges, .int t_hasDark])), (h_t_parts, aI T 6 t_parts)] := by
        intro x1 x2 x4 x7 h
        unfold F_X1_alike_44 at h
        refine x_iconst (v := 1) X dX1_alike_44 (by decide) ?_
        exact x_sub X [0, 1, 2, 3, 4] rfl (k45 x1 x2 x4 x7 (1 : Int32) h)
      have k83 : ∀ (s0 : Int64), F_X1_alike_83 t_parts post s0 → G 0 0 83 [] [.long s0] [(h_t, .inr (0, [.ref h_t_parts, .ref h_t_ways, .int t_edges, .int t_hasDark])), (h_t_parts, aI T 6 t_parts)] := by
        intro s0 h
        unfold F_X1_alike_83 at h
        exact hret _ _ _ _ dX1_alike_83 ⟨rfl, h⟩
      refine x_iload X dX1_alike_9 5 rfl ?_
      refine x_iload_n X dX1_alike_11 1 rfl ?_
      refine x_icmp_ge (tgt := 68) X dX1_alike_12 (by decide) (fun hc => ?_) (fun hc => ?_)
      · have h := h.1 hc
        refine x_lload X dX1_alike_68 3 rfl ?_
        refine x_lconst (v := 0) X dX1_alike_70 (by decide) ?_
        refine x_lcmp X dX1_alike_71 ?_
        refine x_if_le (tgt := 82) X dX1_alike_72 (by decide) (fun hc => ?_) (fun hc => ?_)
        · have h := h.1 hc
          refine x_lconst (v := 0) X dX1_alike_82 (by decide) ?_
          exact x_sub X [] rfl (k83 (0 : Int64) h)
        · have h := h.2 hc
          refine x_lload_n X dX1_alike_75 2 rfl ?_
          refine x_lload X dX1_alike_76 3 rfl ?_
          obtain ⟨hne, h⟩ := h
          refine x_ldiv X dX1_alike_78 hne ?_
          refine x_goto (tgt := 83) X dX1_alike_79 (by decide) ?_
          exact x_sub X [] rfl (k83 (x2 / x4) h)
      · have h := h.2 hc
        refine x_iload X dX1_alike_15 5 rfl ?_
        refine x_if_le (tgt := 44) X dX1_alike_17 (by decide) (fun hc => ?_) (fun hc => ?_)
        · have h := h.1 hc
          exact x_sub X [0, 1, 2, 3, 5] rfl (k44 x1 x2 x4 x7 h)
        · have h := h.2 hc
          refine x_aload_n X dX1_alike_20 0 rfl ?_
          refine x_iload X dX1_alike_21 5 rfl ?_
          refine x_callVI (av := [.int x7]) (st := []) (wr := []) X (c_X1_partAt l D T h_t h_t_parts h_t_ways t_edges t_hasDark t_parts x7 _ h) yk_X1_partAt tw_1211 dX1_alike_23 0 rfl rfl [0, 1] [] rfl rfl rfl rfl (by decide) rfl rfl (Nat.le_of_ble_eq_true rfl) (Nat.le_of_ble_eq_true rfl) (Nat.le_of_ble_eq_true rfl) (Nat.zero_le _) (Nat.zero_le _) (fun r23 w1 hw => ?_)
          obtain ⟨rfl, h⟩ := hw
          refine x_perm (ws2 := [(h_t, .inr (0, [.ref h_t_parts, .ref h_t_ways, .int t_edges, .int t_hasDark])), (h_t_parts, aI T 6 t_parts)]) X [0, 1] rfl rfl ?_
          refine x_aload_n X dX1_alike_26 0 rfl ?_
          refine x_iload X dX1_alike_27 5 rfl ?_
          refine x_iconst (v := 1) X dX1_alike_29 (by decide) ?_
          refine x_isub X dX1_alike_30 ?_
          refine x_callVI (av := [.int (x7 - (1 : Int32))]) (st := [.int r23]) (wr := []) X (c_X1_partAt l D T h_t h_t_parts h_t_ways t_edges t_hasDark t_parts (x7 - (1 : Int32)) _ h) yk_X1_partAt tw_1211 dX1_alike_31 0 rfl rfl [0, 1] [] rfl rfl rfl rfl (by decide) rfl rfl (Nat.le_of_ble_eq_true rfl) (Nat.le_of_ble_eq_true rfl) (Nat.le_of_ble_eq_true rfl) (Nat.zero_le _) (Nat.zero_le _) (fun r31 w1 hw => ?_)
          obtain ⟨rfl, h⟩ := hw
          refine x_perm (ws2 := [(h_t, .inr (0, [.ref h_t_parts, .ref h_t_ways, .int t_edges, .int t_hasDark])), (h_t_parts, aI T 6 t_parts)]) X [0, 1] rfl rfl ?_
          refine x_icmp_ne (tgt := 44) X dX1_alike_34 (by decide) (fun hc => ?_) (fun hc => ?_)
          · have h := h.1 hc
            exact x_sub X [0, 1, 2, 3, 5] rfl (k44 x1 x2 x4 x7 h)
          · have h := h.2 hc
            refine x_iload X dX1_alike_37 4 rfl ?_
            refine x_iconst (v := 1) X dX1_alike_39 (by decide) ?_
            refine x_iadd X dX1_alike_40 ?_
            refine x_goto (tgt := 45) X dX1_alike_41 (by decide) ?_
            exact x_sub X [0, 1, 2, 3, 5] rfl (k45 x1 x2 x4 x7 (x6 + (1 : Int32)) h)
  refine x_lconst (v := 1) X dX1_alike_0 (by decide) ?_
  refine x_lstore (lv' := [(4, .long (1 : Int64)), (0, .ref h_t), (1, .int p1), (2, .long p2)]) X dX1_alike_1 (by decide) rfl ?_
  refine x_iconst (v := 0) X dX1_alike_3 (by decide) ?_
  refine x_istore (lv' := [(6, .int (0 : Int32)), (4, .long (1 : Int64)), (0, .ref h_t), (1, .int p1), (2, .long p2)]) X dX1_alike_4 (by decide) rfl ?_
  refine x_iconst (v := 0) X dX1_alike_6 (by decide) ?_
  refine x_istore (lv' := [(7, .int (0 : Int32)), (6, .int (0 : Int32)), (4, .long (1 : Int64)), (0, .ref h_t), (1, .int p1), (2, .long p2)]) X dX1_alike_7 (by decide) rfl ?_
  obtain ⟨n9, h⟩ := h
  exact x_sub X [3, 4, 5, 2, 1, 0] rfl (k9 n9 p1 p2 (1 : Int64) (0 : Int32) (0 : Int32) h)
theorem dX1_addCycles_0 : decode cX1_addCycles 0 = .ok (.iconst 0, 1) := by decide +kernel
theorem dX1_addCycles_1 : decode cX1_addCycles 1 = .ok (.istore_n 3, 1) := by decide +kernel
theorem dX1_addCycles_2 : decode cX1_addCycles 2 = .ok (.iload_n 3, 1) := by decide +kernel
theorem dX1_addCycles_3 : decode cX1_addCycles 3 = .ok (.iload_n 1, 1) := by decide +kernel
theorem dX1_addCycles_4 : decode cX1_addCycles 4 = .ok (.if_icmp .ge 53, 3) := by decide +kernel
theorem dX1_addCycles_7 : decode cX1_addCycles 7 = .ok (.aload_n 0, 1) := by decide +kernel
theorem dX1_addCycles_8 : decode cX1_addCycles 8 = .ok (.getfield 15, 3) := by decide +kernel
theorem dX1_addCycles_11 : decode cX1_addCycles 11 = .ok (.arraylength, 1) := by decide +kernel
theorem dX1_addCycles_12 : decode cX1_addCycles 12 = .ok (.iconst 1, 1) := by decide +kernel
theorem dX1_addCycles_13 : decode cX1_addCycles 13 = .ok (.isub, 1) := by decide +kernel
theorem dX1_addCycles_14 : decode cX1_addCycles 14 = .ok (.istore 4, 2) := by decide +kernel
theorem dX1_addCycles_16 : decode cX1_addCycles 16 = .ok (.iload 4, 2) := by decide +kernel
theorem dX1_addCycles_18 : decode cX1_addCycles 18 = .ok (.iload_n 2, 1) := by decide +kernel
theorem dX1_addCycles_19 : decode cX1_addCycles 19 = .ok (.if_icmp .lt 32, 3) := by decide +kernel
theorem dX1_addCycles_22 : decode cX1_addCycles 22 = .ok (.iload_n 2, 1) := by decide +kernel
theorem dX1_addCycles_23 : decode cX1_addCycles 23 = .ok (.ifCond .le 28, 3) := by decide +kernel
theorem dX1_addCycles_26 : decode cX1_addCycles 26 = .ok (.aload_n 0, 1) := by decide +kernel
theorem dX1_addCycles_27 : decode cX1_addCycles 27 = .ok (.getfield 15, 3) := by decide +kernel
theorem dX1_addCycles_30 : decode cX1_addCycles 30 = .ok (.iload 4, 2) := by decide +kernel
theorem dX1_addCycles_32 : decode cX1_addCycles 32 = .ok (.dup2, 1) := by decide +kernel
theorem dX1_addCycles_33 : decode cX1_addCycles 33 = .ok (.laload, 1) := by decide +kernel
theorem dX1_addCycles_34 : decode cX1_addCycles 34 = .ok (.aload_n 0, 1) := by decide +kernel
theorem dX1_addCycles_35 : decode cX1_addCycles 35 = .ok (.getfield 15, 3) := by decide +kernel
theorem dX1_addCycles_38 : decode cX1_addCycles 38 = .ok (.iload 4, 2) := by decide +kernel
theorem dX1_addCycles_40 : decode cX1_addCycles 40 = .ok (.iload_n 2, 1) := by decide +kernel
theorem dX1_addCycles_41 : decode cX1_addCycles 41 = .ok (.isub, 1) := by decide +kernel
theorem dX1_addCycles_42 : decode cX1_addCycles 42 = .ok (.laload, 1) := by decide +kernel
theorem dX1_addCycles_43 : decode cX1_addCycles 43 = .ok (.ladd, 1) := by decide +kernel
theorem dX1_addCycles_44 : decode cX1_addCycles 44 = .ok (.lastore, 1) := by decide +kernel
theorem dX1_addCycles_45 : decode cX1_addCycles 45 = .ok (.iinc 4 (-1), 3) := by decide +kernel
theorem dX1_addCycles_48 : decode cX1_addCycles 48 = .ok (.goto (-32), 3) := by decide +kernel
theorem dX1_addCycles_51 : decode cX1_addCycles 51 = .ok (.iinc 3 1, 3) := by decide +kernel
theorem dX1_addCycles_54 : decode cX1_addCycles 54 = .ok (.goto (-52), 3) := by decide +kernel
theorem dX1_addCycles_57 : decode cX1_addCycles 57 = .ok (.return_, 1) := by decide +kernel
set_option maxHeartbeats 4000000 in
set_option maxRecDepth 100000 in
theorem c_X1_addCycles (l : Launch) (D : eD) (T : Nat → ClassId) (h_t h_t_parts h_t_ways : Nat) (t_edges : Int32) (t_hasDark : Int32) (t_ways : Nat → Int64) (p1 : Int32) (p2 : Int32) (post : (Nat → Int64) → Prop) (h : F_X1_addCycles t_ways p1 p2 post) : cV l D T yX1_addCycles cX1_addCycles 5 none 0 0 0 0 [.ref h_t, .int p1, .int p2] [(h_t, .inr (0, [.ref h_t_parts, .ref h_t_ways, .int t_edges, .int t_hasDark])), (h_t_ways, aJ T 16 t_ways)] (fun w1 => ∃ (t_ways1 : Nat → Int64), w1 = [(h_t, .inr (0, [.ref h_t_parts, .ref h_t_ways, .int t_edges, .int t_hasDark])), (h_t_ways, aJ T 16 t_ways1)] ∧ post t_ways1) := by
  refine xV_of (by decide +kernel) (Nat.le_of_ble_eq_true rfl) rfl ?_
  intro G X hret
  change G 0 0 0 [(0, .ref h_t), (1, .int p1), (2, .int p2)] [] [(h_t, .inr (0, [.ref h_t_parts, .ref h_t_ways, .int t_edges, .int t_hasDark])), (h_t_ways, aJ T 16 t_ways)]
  unfold F_X1_addCycles at h
  have k2 : ∀ (n2 : Nat) (x1 : Int32) (x2 : Int32) (x3 : Int32) (t_ways : Nat → Int64), F_X1_addCycles_2 post n2 x1 x2 x3 t_ways → G 0 0 2 [(0, .ref h_t), (1, .int x1), (2, .int x2), (3, .int x3)] [] [(h_t, .inr (0, [.ref h_t_parts, .ref h_t_ways, .int t_edges, .int t_hasDark])), (h_t_ways, aJ T 16 t_ways)] := by
    intro n2
    induction n2 with
    | zero => intro x1 x2 x3 t_ways h; exact h.elim
    | succ n2 ih2 =>
      intro x1 x2 x3 t_ways h
      rw [F_X1_addCycles_2] at h
      have k16 : ∀ (n16 : Nat) (x1 : Int32) (x2 : Int32) (x3 : Int32) (x4 : Int32) (t_ways : Nat → Int64), F_X1_addCycles_16 post (F_X1_addCycles_2 post n2) n16 x1 x2 x3 x4 t_ways → G 0 0 16 [(0, .ref h_t), (1, .int x1), (2, .int x2), (3, .int x3), (4, .int x4)] [] [(h_t, .inr (0, [.ref h_t_parts, .ref h_t_ways, .int t_edges, .int t_hasDark])), (h_t_ways, aJ T 16 t_ways)] := by
        intro n16
        induction n16 with
        | zero => intro x1 x2 x3 x4 t_ways h; exact h.elim
        | succ n16 ih16 =>
          intro x1 x2 x3 x4 t_ways h
          rw [F_X1_addCycles_16] at h
          have k51 : ∀ (x1 : Int32) (x2 : Int32) (x3 : Int32) (t_ways : Nat → Int64), F_X1_addCycles_51 post (F_X1_addCycles_2 post n2) x1 x2 x3 t_ways → G 0 0 51 [(0, .ref h_t), (1, .int x1), (2, .int x2), (3, .int x3)] [] [(h_t, .inr (0, [.ref h_t_parts, .ref h_t_ways, .int t_edges, .int t_hasDark])), (h_t_ways, aJ T 16 t_ways)] := by
            intro x1 x2 x3 t_ways h
            unfold F_X1_addCycles_51 at h
            refine x_iinc (v := (x3 + 1)) (lv' := [(3, .int (x3 + 1)), (0, .ref h_t), (1, .int x1), (2, .int x2)]) X dX1_addCycles_51 3 rfl rfl (by decide) rfl ?_
            refine x_goto (tgt := 2) X dX1_addCycles_54 (by decide) ?_
            exact x_sub X [1, 2, 3, 0] rfl (ih2 x1 x2 (x3 + 1) t_ways h)
          refine x_iload X dX1_addCycles_16 4 rfl ?_
          refine x_iload_n X dX1_addCycles_18 2 rfl ?_
          refine x_icmp_lt (tgt := 51) X dX1_addCycles_19 (by decide) (fun hc => ?_) (fun hc => ?_)
          · have h := h.1 hc
            exact x_sub X [0, 1, 2, 3] rfl (k51 x1 x2 x3 t_ways h)
          · have h := h.2 hc
            refine x_iload_n X dX1_addCycles_22 2 rfl ?_
            refine x_if_le (tgt := 51) X dX1_addCycles_23 (by decide) (fun hc => ?_) (fun hc => ?_)
            · have h := h.1 hc
              exact x_sub X [0, 1, 2, 3] rfl (k51 x1 x2 x3 t_ways h)
            · have h := h.2 hc
              refine x_aload_n X dX1_addCycles_26 0 rfl ?_
              refine x_get X inGX1 1 (by decide) rfl tw_304 dX1_addCycles_27 rfl 0 rfl rfl ?_
              refine x_iload X dX1_addCycles_30 4 rfl ?_
              refine x_dup2 X dX1_addCycles_32 rfl rfl ?_
              obtain ⟨hi, h⟩ := h
              refine x_lald X dX1_addCycles_33 1 rfl hi ?_
              refine x_aload_n X dX1_addCycles_34 0 rfl ?_
              refine x_get X inGX1 1 (by decide) rfl tw_304 dX1_addCycles_35 rfl 0 rfl rfl ?_
              refine x_iload X dX1_addCycles_38 4 rfl ?_
              refine x_iload_n X dX1_addCycles_40 2 rfl ?_
              refine x_isub X dX1_addCycles_41 ?_
              obtain ⟨hi, h⟩ := h
              refine x_lald X dX1_addCycles_42 1 rfl hi ?_
              refine x_ladd X dX1_addCycles_43 ?_
              obtain ⟨hi, h⟩ := h
              refine x_last (ws' := [(h_t, .inr (0, [.ref h_t_parts, .ref h_t_ways, .int t_edges, .int t_hasDark])), (h_t_ways, aJ T 16 (vp_updL t_ways x4.toNatClampNeg ((t_ways x4.toNatClampNeg) + (t_ways (x4 - x2).toNatClampNeg))))]) X dX1_addCycles_44 1 rfl hi rfl ?_
              refine x_iinc (v := (x4 + (-1))) (lv' := [(4, .int (x4 + (-1))), (0, .ref h_t), (1, .int x1), (2, .int x2), (3, .int x3)]) X dX1_addCycles_45 4 rfl rfl (by decide) rfl ?_
              refine x_goto (tgt := 16) X dX1_addCycles_48 (by decide) ?_
              exact x_sub X [1, 2, 3, 4, 0] rfl (ih16 x1 x2 x3 (x4 + (-1)) (vp_updL t_ways x4.toNatClampNeg ((t_ways x4.toNatClampNeg) + (t_ways (x4 - x2).toNatClampNeg))) h)
      refine x_iload_n X dX1_addCycles_2 3 rfl ?_
      refine x_iload_n X dX1_addCycles_3 1 rfl ?_
      refine x_icmp_ge (tgt := 57) X dX1_addCycles_4 (by decide) (fun hc => ?_) (fun hc => ?_)
      · have h := h.1 hc
        exact hret _ _ _ dX1_addCycles_57 ⟨t_ways, rfl, h⟩
      · have h := h.2 hc
        refine x_aload_n X dX1_addCycles_7 0 rfl ?_
        refine x_get X inGX1 1 (by decide) rfl tw_304 dX1_addCycles_8 rfl 0 rfl rfl ?_
        refine x_alen (v := (16 : Int32)) X dX1_addCycles_11 1 2 rfl rfl rfl ?_
        refine x_iconst (v := 1) X dX1_addCycles_12 (by decide) ?_
        refine x_isub X dX1_addCycles_13 ?_
        refine x_istore (lv' := [(4, .int ((16 : Int32) - (1 : Int32))), (0, .ref h_t), (1, .int x1), (2, .int x2), (3, .int x3)]) X dX1_addCycles_14 (by decide) rfl ?_
        obtain ⟨n16, h⟩ := h
        exact x_sub X [1, 2, 3, 4, 0] rfl (k16 n16 x1 x2 x3 ((16 : Int32) - (1 : Int32)) t_ways h)
  refine x_iconst (v := 0) X dX1_addCycles_0 (by decide) ?_
  refine x_istore_n (lv' := [(3, .int (0 : Int32)), (0, .ref h_t), (1, .int p1), (2, .int p2)]) X dX1_addCycles_1 (by decide) rfl ?_
  obtain ⟨n2, h⟩ := h
  exact x_sub X [1, 2, 3, 0] rfl (k2 n2 p1 p2 (0 : Int32) t_ways h)
theorem dX1_commonDivisor_0 : decode cX1_commonDivisor 0 = .ok (.iload_n 0, 1) := by decide +kernel
theorem dX1_commonDivisor_1 : decode cX1_commonDivisor 1 = .ok (.iload_n 1, 1) := by decide +kernel
theorem dX1_commonDivisor_2 : decode cX1_commonDivisor 2 = .ok (.invokestatic 48, 3) := by decide +kernel
theorem dX1_commonDivisor_5 : decode cX1_commonDivisor 5 = .ok (.istore_n 2, 1) := by decide +kernel
theorem dX1_commonDivisor_6 : decode cX1_commonDivisor 6 = .ok (.iload_n 2, 1) := by decide +kernel
theorem dX1_commonDivisor_7 : decode cX1_commonDivisor 7 = .ok (.iconst 1, 1) := by decide +kernel
theorem dX1_commonDivisor_8 : decode cX1_commonDivisor 8 = .ok (.if_icmp .le 23, 3) := by decide +kernel
theorem dX1_commonDivisor_11 : decode cX1_commonDivisor 11 = .ok (.iload_n 0, 1) := by decide +kernel
theorem dX1_commonDivisor_12 : decode cX1_commonDivisor 12 = .ok (.iload_n 2, 1) := by decide +kernel
theorem dX1_commonDivisor_13 : decode cX1_commonDivisor 13 = .ok (.irem, 1) := by decide +kernel
theorem dX1_commonDivisor_14 : decode cX1_commonDivisor 14 = .ok (.ifCond .ne 11, 3) := by decide +kernel
theorem dX1_commonDivisor_17 : decode cX1_commonDivisor 17 = .ok (.iload_n 1, 1) := by decide +kernel
theorem dX1_commonDivisor_18 : decode cX1_commonDivisor 18 = .ok (.iload_n 2, 1) := by decide +kernel
theorem dX1_commonDivisor_19 : decode cX1_commonDivisor 19 = .ok (.irem, 1) := by decide +kernel
theorem dX1_commonDivisor_20 : decode cX1_commonDivisor 20 = .ok (.ifCond .ne 5, 3) := by decide +kernel
theorem dX1_commonDivisor_23 : decode cX1_commonDivisor 23 = .ok (.iload_n 2, 1) := by decide +kernel
theorem dX1_commonDivisor_24 : decode cX1_commonDivisor 24 = .ok (.ireturn, 1) := by decide +kernel
theorem dX1_commonDivisor_25 : decode cX1_commonDivisor 25 = .ok (.iinc 2 (-1), 3) := by decide +kernel
theorem dX1_commonDivisor_28 : decode cX1_commonDivisor 28 = .ok (.goto (-22), 3) := by decide +kernel
theorem dX1_commonDivisor_31 : decode cX1_commonDivisor 31 = .ok (.iconst 1, 1) := by decide +kernel
theorem dX1_commonDivisor_32 : decode cX1_commonDivisor 32 = .ok (.ireturn, 1) := by decide +kernel
set_option maxHeartbeats 4000000 in
set_option maxRecDepth 100000 in
theorem c_X1_commonDivisor (l : Launch) (D : eD) (T : Nat → ClassId)  (p0 : Int32) (p1 : Int32) (post : Int32 → Prop) (h : F_X1_commonDivisor p0 p1 post) : cI l D T yX1_commonDivisor cX1_commonDivisor 3 (some .int) 1 50 0 0 [.int p0, .int p1] [] (fun r w1 => w1 = [] ∧ post r ) := by
  refine xI_of (ty := .int) (by decide +kernel) (Nat.le_of_ble_eq_true rfl) rfl ?_
  intro G X hret
  change G 0 0 0 [(0, .int p0), (1, .int p1)] [] []
  unfold F_X1_commonDivisor at h
  have k6 : ∀ (n6 : Nat) (x0 : Int32) (x1 : Int32) (x2 : Int32), F_X1_commonDivisor_6 post n6 x0 x1 x2 → G 0 0 6 [(0, .int x0), (1, .int x1), (2, .int x2)] [] [] := by
    intro n6
    induction n6 with
    | zero => intro x0 x1 x2 h; exact h.elim
    | succ n6 ih6 =>
      intro x0 x1 x2 h
      rw [F_X1_commonDivisor_6] at h
      have k25 : ∀ (x0 : Int32) (x1 : Int32) (x2 : Int32), F_X1_commonDivisor_25 post (F_X1_commonDivisor_6 post n6) x0 x1 x2 → G 0 0 25 [(0, .int x0), (1, .int x1), (2, .int x2)] [] [] := by
        intro x0 x1 x2 h
        unfold F_X1_commonDivisor_25 at h
        refine x_iinc (v := (x2 + (-1))) (lv' := [(2, .int (x2 + (-1))), (0, .int x0), (1, .int x1)]) X dX1_commonDivisor_25 2 rfl rfl (by decide) rfl ?_
        refine x_goto (tgt := 6) X dX1_commonDivisor_28 (by decide) ?_
        exact x_sub X [1, 2, 0] rfl (ih6 x0 x1 (x2 + (-1)) h)
      refine x_iload_n X dX1_commonDivisor_6 2 rfl ?_
      refine x_iconst (v := 1) X dX1_commonDivisor_7 (by decide) ?_
      refine x_icmp_le (tgt := 31) X dX1_commonDivisor_8 (by decide) (fun hc => ?_) (fun hc => ?_)
      · have h := h.1 hc
        refine x_iconst (v := 1) X dX1_commonDivisor_31 (by decide) ?_
        exact hret _ _ _ _ dX1_commonDivisor_32 rfl ⟨rfl, h⟩
      · have h := h.2 hc
        refine x_iload_n X dX1_commonDivisor_11 0 rfl ?_
        refine x_iload_n X dX1_commonDivisor_12 2 rfl ?_
        obtain ⟨hne, h⟩ := h
        refine x_irem X dX1_commonDivisor_13 hne ?_
        refine x_if_ne (tgt := 25) X dX1_commonDivisor_14 (by decide) (fun hc => ?_) (fun hc => ?_)
        · have h := h.1 hc
          exact x_sub X [0, 1, 2] rfl (k25 x0 x1 x2 h)
        · have h := h.2 hc
          refine x_iload_n X dX1_commonDivisor_17 1 rfl ?_
          refine x_iload_n X dX1_commonDivisor_18 2 rfl ?_
          obtain ⟨hne, h⟩ := h
          refine x_irem X dX1_commonDivisor_19 hne ?_
          refine x_if_ne (tgt := 25) X dX1_commonDivisor_20 (by decide) (fun hc => ?_) (fun hc => ?_)
          · have h := h.1 hc
            exact x_sub X [0, 1, 2] rfl (k25 x0 x1 x2 h)
          · have h := h.2 hc
            refine x_iload_n X dX1_commonDivisor_23 2 rfl ?_
            exact hret _ _ _ _ dX1_commonDivisor_24 rfl ⟨rfl, h⟩
  refine x_iload_n X dX1_commonDivisor_0 0 rfl ?_
  refine x_iload_n X dX1_commonDivisor_1 1 rfl ?_
  refine x_mmin X tw_1229 tw_353 tw_12 tw_354 (Nat.le_of_ble_eq_true rfl) (Nat.le_of_ble_eq_true rfl) (Nat.le_of_ble_eq_true rfl) (Nat.zero_le _) (Nat.zero_le _) dX1_commonDivisor_2 ?_
  refine x_istore_n (lv' := [(2, .int (if p1 < p0 then p1 else p0)), (0, .int p0), (1, .int p1)]) X dX1_commonDivisor_5 (by decide) rfl ?_
  obtain ⟨n6, h⟩ := h
  exact x_sub X [1, 2, 0] rfl (k6 n6 p0 p1 (if p1 < p0 then p1 else p0) h)
theorem dX1_fixedNets_0 : decode cX1_fixedNets 0 = .ok (.aload_n 0, 1) := by decide +kernel
theorem dX1_fixedNets_1 : decode cX1_fixedNets 1 = .ok (.getfield 15, 3) := by decide +kernel
theorem dX1_fixedNets_4 : decode cX1_fixedNets 4 = .ok (.lconst 0, 1) := by decide +kernel
theorem dX1_fixedNets_5 : decode cX1_fixedNets 5 = .ok (.invokestatic 59, 3) := by decide +kernel
theorem dX1_fixedNets_8 : decode cX1_fixedNets 8 = .ok (.aload_n 0, 1) := by decide +kernel
theorem dX1_fixedNets_9 : decode cX1_fixedNets 9 = .ok (.getfield 15, 3) := by decide +kernel
theorem dX1_fixedNets_12 : decode cX1_fixedNets 12 = .ok (.iconst 0, 1) := by decide +kernel
theorem dX1_fixedNets_13 : decode cX1_fixedNets 13 = .ok (.lconst 1, 1) := by decide +kernel
theorem dX1_fixedNets_14 : decode cX1_fixedNets 14 = .ok (.lastore, 1) := by decide +kernel
theorem dX1_fixedNets_15 : decode cX1_fixedNets 15 = .ok (.iconst 0, 1) := by decide +kernel
theorem dX1_fixedNets_16 : decode cX1_fixedNets 16 = .ok (.istore_n 2, 1) := by decide +kernel
theorem dX1_fixedNets_17 : decode cX1_fixedNets 17 = .ok (.iload_n 2, 1) := by decide +kernel
theorem dX1_fixedNets_18 : decode cX1_fixedNets 18 = .ok (.iload_n 1, 1) := by decide +kernel
theorem dX1_fixedNets_19 : decode cX1_fixedNets 19 = .ok (.if_icmp .ge 96, 3) := by decide +kernel
theorem dX1_fixedNets_22 : decode cX1_fixedNets 22 = .ok (.aload_n 0, 1) := by decide +kernel
theorem dX1_fixedNets_23 : decode cX1_fixedNets 23 = .ok (.iload_n 2, 1) := by decide +kernel
theorem dX1_fixedNets_24 : decode cX1_fixedNets 24 = .ok (.invokevirtual 55, 3) := by decide +kernel
theorem dX1_fixedNets_27 : decode cX1_fixedNets 27 = .ok (.istore_n 3, 1) := by decide +kernel
theorem dX1_fixedNets_28 : decode cX1_fixedNets 28 = .ok (.aload_n 0, 1) := by decide +kernel
theorem dX1_fixedNets_29 : decode cX1_fixedNets 29 = .ok (.iload_n 3, 1) := by decide +kernel
theorem dX1_fixedNets_30 : decode cX1_fixedNets 30 = .ok (.iconst 1, 1) := by decide +kernel
theorem dX1_fixedNets_31 : decode cX1_fixedNets 31 = .ok (.isub, 1) := by decide +kernel
theorem dX1_fixedNets_32 : decode cX1_fixedNets 32 = .ok (.iconst 2, 1) := by decide +kernel
theorem dX1_fixedNets_33 : decode cX1_fixedNets 33 = .ok (.idiv, 1) := by decide +kernel
theorem dX1_fixedNets_34 : decode cX1_fixedNets 34 = .ok (.iload_n 3, 1) := by decide +kernel
theorem dX1_fixedNets_35 : decode cX1_fixedNets 35 = .ok (.invokevirtual 65, 3) := by decide +kernel
theorem dX1_fixedNets_38 : decode cX1_fixedNets 38 = .ok (.aload_n 0, 1) := by decide +kernel
theorem dX1_fixedNets_39 : decode cX1_fixedNets 39 = .ok (.iload_n 3, 1) := by decide +kernel
theorem dX1_fixedNets_40 : decode cX1_fixedNets 40 = .ok (.iconst 2, 1) := by decide +kernel
theorem dX1_fixedNets_41 : decode cX1_fixedNets 41 = .ok (.irem, 1) := by decide +kernel
theorem dX1_fixedNets_42 : decode cX1_fixedNets 42 = .ok (.ifCond .ne 7, 3) := by decide +kernel
theorem dX1_fixedNets_45 : decode cX1_fixedNets 45 = .ok (.iconst 1, 1) := by decide +kernel
theorem dX1_fixedNets_46 : decode cX1_fixedNets 46 = .ok (.goto 4, 3) := by decide +kernel
theorem dX1_fixedNets_49 : decode cX1_fixedNets 49 = .ok (.iconst 0, 1) := by decide +kernel
theorem dX1_fixedNets_50 : decode cX1_fixedNets 50 = .ok (.iload_n 3, 1) := by decide +kernel
theorem dX1_fixedNets_51 : decode cX1_fixedNets 51 = .ok (.iconst 2, 1) := by decide +kernel
theorem dX1_fixedNets_52 : decode cX1_fixedNets 52 = .ok (.idiv, 1) := by decide +kernel
theorem dX1_fixedNets_53 : decode cX1_fixedNets 53 = .ok (.invokevirtual 65, 3) := by decide +kernel
theorem dX1_fixedNets_56 : decode cX1_fixedNets 56 = .ok (.iconst 0, 1) := by decide +kernel
theorem dX1_fixedNets_57 : decode cX1_fixedNets 57 = .ok (.istore 4, 2) := by decide +kernel
theorem dX1_fixedNets_59 : decode cX1_fixedNets 59 = .ok (.iload 4, 2) := by decide +kernel
theorem dX1_fixedNets_61 : decode cX1_fixedNets 61 = .ok (.iload_n 2, 1) := by decide +kernel
theorem dX1_fixedNets_62 : decode cX1_fixedNets 62 = .ok (.if_icmp .ge 47, 3) := by decide +kernel
theorem dX1_fixedNets_65 : decode cX1_fixedNets 65 = .ok (.iload_n 3, 1) := by decide +kernel
theorem dX1_fixedNets_66 : decode cX1_fixedNets 66 = .ok (.aload_n 0, 1) := by decide +kernel
theorem dX1_fixedNets_67 : decode cX1_fixedNets 67 = .ok (.iload 4, 2) := by decide +kernel
theorem dX1_fixedNets_69 : decode cX1_fixedNets 69 = .ok (.invokevirtual 55, 3) := by decide +kernel
theorem dX1_fixedNets_72 : decode cX1_fixedNets 72 = .ok (.invokestatic 69, 3) := by decide +kernel
theorem dX1_fixedNets_75 : decode cX1_fixedNets 75 = .ok (.istore 5, 2) := by decide +kernel
theorem dX1_fixedNets_77 : decode cX1_fixedNets 77 = .ok (.aload_n 0, 1) := by decide +kernel
theorem dX1_fixedNets_78 : decode cX1_fixedNets 78 = .ok (.iload 5, 2) := by decide +kernel
theorem dX1_fixedNets_80 : decode cX1_fixedNets 80 = .ok (.iload 5, 2) := by decide +kernel
theorem dX1_fixedNets_82 : decode cX1_fixedNets 82 = .ok (.ifCond .le 17, 3) := by decide +kernel
theorem dX1_fixedNets_85 : decode cX1_fixedNets 85 = .ok (.iload_n 3, 1) := by decide +kernel
theorem dX1_fixedNets_86 : decode cX1_fixedNets 86 = .ok (.iload 5, 2) := by decide +kernel
theorem dX1_fixedNets_88 : decode cX1_fixedNets 88 = .ok (.idiv, 1) := by decide +kernel
theorem dX1_fixedNets_89 : decode cX1_fixedNets 89 = .ok (.aload_n 0, 1) := by decide +kernel
theorem dX1_fixedNets_90 : decode cX1_fixedNets 90 = .ok (.iload 4, 2) := by decide +kernel
theorem dX1_fixedNets_92 : decode cX1_fixedNets 92 = .ok (.invokevirtual 55, 3) := by decide +kernel
theorem dX1_fixedNets_95 : decode cX1_fixedNets 95 = .ok (.imul, 1) := by decide +kernel
theorem dX1_fixedNets_96 : decode cX1_fixedNets 96 = .ok (.goto 4, 3) := by decide +kernel
theorem dX1_fixedNets_99 : decode cX1_fixedNets 99 = .ok (.iconst 0, 1) := by decide +kernel
theorem dX1_fixedNets_100 : decode cX1_fixedNets 100 = .ok (.invokevirtual 65, 3) := by decide +kernel
theorem dX1_fixedNets_103 : decode cX1_fixedNets 103 = .ok (.iinc 4 1, 3) := by decide +kernel
theorem dX1_fixedNets_106 : decode cX1_fixedNets 106 = .ok (.goto (-47), 3) := by decide +kernel
theorem dX1_fixedNets_109 : decode cX1_fixedNets 109 = .ok (.iinc 2 1, 3) := by decide +kernel
theorem dX1_fixedNets_112 : decode cX1_fixedNets 112 = .ok (.goto (-95), 3) := by decide +kernel
theorem dX1_fixedNets_115 : decode cX1_fixedNets 115 = .ok (.lconst 0, 1) := by decide +kernel
theorem dX1_fixedNets_116 : decode cX1_fixedNets 116 = .ok (.lstore_n 2, 1) := by decide +kernel
theorem dX1_fixedNets_117 : decode cX1_fixedNets 117 = .ok (.iconst 0, 1) := by decide +kernel
theorem dX1_fixedNets_118 : decode cX1_fixedNets 118 = .ok (.istore 4, 2) := by decide +kernel
theorem dX1_fixedNets_120 : decode cX1_fixedNets 120 = .ok (.iload 4, 2) := by decide +kernel
theorem dX1_fixedNets_122 : decode cX1_fixedNets 122 = .ok (.aload_n 0, 1) := by decide +kernel
theorem dX1_fixedNets_123 : decode cX1_fixedNets 123 = .ok (.getfield 15, 3) := by decide +kernel
theorem dX1_fixedNets_126 : decode cX1_fixedNets 126 = .ok (.arraylength, 1) := by decide +kernel
theorem dX1_fixedNets_127 : decode cX1_fixedNets 127 = .ok (.if_icmp .ge 40, 3) := by decide +kernel
theorem dX1_fixedNets_130 : decode cX1_fixedNets 130 = .ok (.lload_n 2, 1) := by decide +kernel
theorem dX1_fixedNets_131 : decode cX1_fixedNets 131 = .ok (.aload_n 0, 1) := by decide +kernel
theorem dX1_fixedNets_132 : decode cX1_fixedNets 132 = .ok (.getfield 19, 3) := by decide +kernel
theorem dX1_fixedNets_135 : decode cX1_fixedNets 135 = .ok (.iconst (-1), 1) := by decide +kernel
theorem dX1_fixedNets_136 : decode cX1_fixedNets 136 = .ok (.if_icmp .eq 12, 3) := by decide +kernel
theorem dX1_fixedNets_139 : decode cX1_fixedNets 139 = .ok (.aload_n 0, 1) := by decide +kernel
theorem dX1_fixedNets_140 : decode cX1_fixedNets 140 = .ok (.getfield 19, 3) := by decide +kernel
theorem dX1_fixedNets_143 : decode cX1_fixedNets 143 = .ok (.iload 4, 2) := by decide +kernel
theorem dX1_fixedNets_145 : decode cX1_fixedNets 145 = .ok (.if_icmp .ne 13, 3) := by decide +kernel
theorem dX1_fixedNets_148 : decode cX1_fixedNets 148 = .ok (.aload_n 0, 1) := by decide +kernel
theorem dX1_fixedNets_149 : decode cX1_fixedNets 149 = .ok (.getfield 15, 3) := by decide +kernel
theorem dX1_fixedNets_152 : decode cX1_fixedNets 152 = .ok (.iload 4, 2) := by decide +kernel
theorem dX1_fixedNets_154 : decode cX1_fixedNets 154 = .ok (.laload, 1) := by decide +kernel
theorem dX1_fixedNets_155 : decode cX1_fixedNets 155 = .ok (.goto 4, 3) := by decide +kernel
theorem dX1_fixedNets_158 : decode cX1_fixedNets 158 = .ok (.lconst 0, 1) := by decide +kernel
theorem dX1_fixedNets_159 : decode cX1_fixedNets 159 = .ok (.ladd, 1) := by decide +kernel
theorem dX1_fixedNets_160 : decode cX1_fixedNets 160 = .ok (.lstore_n 2, 1) := by decide +kernel
theorem dX1_fixedNets_161 : decode cX1_fixedNets 161 = .ok (.iinc 4 1, 3) := by decide +kernel
theorem dX1_fixedNets_164 : decode cX1_fixedNets 164 = .ok (.goto (-44), 3) := by decide +kernel
theorem dX1_fixedNets_167 : decode cX1_fixedNets 167 = .ok (.aload_n 0, 1) := by decide +kernel
theorem dX1_fixedNets_168 : decode cX1_fixedNets 168 = .ok (.getfield 23, 3) := by decide +kernel
theorem dX1_fixedNets_171 : decode cX1_fixedNets 171 = .ok (.ifCond .eq 9, 3) := by decide +kernel
theorem dX1_fixedNets_174 : decode cX1_fixedNets 174 = .ok (.lload_n 2, 1) := by decide +kernel
theorem dX1_fixedNets_175 : decode cX1_fixedNets 175 = .ok (.iload_n 1, 1) := by decide +kernel
theorem dX1_fixedNets_176 : decode cX1_fixedNets 176 = .ok (.lshl, 1) := by decide +kernel
theorem dX1_fixedNets_177 : decode cX1_fixedNets 177 = .ok (.goto 4, 3) := by decide +kernel
theorem dX1_fixedNets_180 : decode cX1_fixedNets 180 = .ok (.lload_n 2, 1) := by decide +kernel
theorem dX1_fixedNets_181 : decode cX1_fixedNets 181 = .ok (.lreturn, 1) := by decide +kernel
set_option maxHeartbeats 4000000 in
set_option maxRecDepth 100000 in
theorem c_X1_fixedNets (l : Launch) (D : eD) (T : Nat → ClassId) (h_t h_t_parts h_t_ways : Nat) (t_edges : Int32) (t_hasDark : Int32) (t_parts : Nat → Int32) (t_ways : Nat → Int64) (p1 : Int32) (post : Int64 → (Nat → Int64) → Prop) (h : F_X1_fixedNets t_edges t_hasDark t_parts t_ways p1 post) : cJ l D T yX1_fixedNets cX1_fixedNets 6 (some .long) 2 72 0 0 [.ref h_t, .int p1] [(h_t, .inr (0, [.ref h_t_parts, .ref h_t_ways, .int t_edges, .int t_hasDark])), (h_t_parts, aI T 6 t_parts), (h_t_ways, aJ T 16 t_ways)] (fun r w1 => ∃ (t_ways1 : Nat → Int64), w1 = [(h_t, .inr (0, [.ref h_t_parts, .ref h_t_ways, .int t_edges, .int t_hasDark])), (h_t_parts, aI T 6 t_parts), (h_t_ways, aJ T 16 t_ways1)] ∧ post r t_ways1) := by
  refine xJ_of (by decide +kernel) (Nat.le_of_ble_eq_true rfl) rfl ?_
  intro G X hret
  change G 0 0 0 [(0, .ref h_t), (1, .int p1)] [] [(h_t, .inr (0, [.ref h_t_parts, .ref h_t_ways, .int t_edges, .int t_hasDark])), (h_t_parts, aI T 6 t_parts), (h_t_ways, aJ T 16 t_ways)]
  unfold F_X1_fixedNets at h
  have k17 : ∀ (n17 : Nat) (x1 : Int32) (x2 : Int32) (t_ways : Nat → Int64), F_X1_fixedNets_17 t_edges t_hasDark t_parts post n17 x1 x2 t_ways → G 0 0 17 [(0, .ref h_t), (1, .int x1), (2, .int x2)] [] [(h_t, .inr (0, [.ref h_t_parts, .ref h_t_ways, .int t_edges, .int t_hasDark])), (h_t_parts, aI T 6 t_parts), (h_t_ways, aJ T 16 t_ways)] := by
    intro n17
    induction n17 with
    | zero => intro x1 x2 t_ways h; exact h.elim
    | succ n17 ih17 =>
      intro x1 x2 t_ways h
      rw [F_X1_fixedNets_17] at h
      have k50 : ∀ (x1 : Int32) (x2 : Int32) (x3 : Int32) (s1 : Int32) (t_ways : Nat → Int64), F_X1_fixedNets_50 t_edges t_hasDark t_parts post (F_X1_fixedNets_17 t_edges t_hasDark t_parts post n17) x1 x2 x3 s1 t_ways → G 0 0 50 [(0, .ref h_t), (1, .int x1), (2, .int x2), (3, .int x3)] [.int s1, .ref h_t] [(h_t, .inr (0, [.ref h_t_parts, .ref h_t_ways, .int t_edges, .int t_hasDark])), (h_t_parts, aI T 6 t_parts), (h_t_ways, aJ T 16 t_ways)] := by
        intro x1 x2 x3 s1 t_ways h
        unfold F_X1_fixedNets_50 at h
        have k59 : ∀ (n59 : Nat) (x1 : Int32) (x2 : Int32) (x3 : Int32) (x4 : Int32) (t_ways : Nat → Int64), F_X1_fixedNets_59 t_edges t_hasDark t_parts post (F_X1_fixedNets_17 t_edges t_hasDark t_parts post n17) n59 x1 x2 x3 x4 t_ways → G 0 0 59 [(0, .ref h_t), (1, .int x1), (2, .int x2), (3, .int x3), (4, .int x4)] [] [(h_t, .inr (0, [.ref h_t_parts, .ref h_t_ways, .int t_edges, .int t_hasDark])), (h_t_parts, aI T 6 t_parts), (h_t_ways, aJ T 16 t_ways)] := by
          intro n59
          induction n59 with
          | zero => intro x1 x2 x3 x4 t_ways h; exact h.elim
          | succ n59 ih59 =>
            intro x1 x2 x3 x4 t_ways h
            rw [F_X1_fixedNets_59] at h
            have k100 : ∀ (x1 : Int32) (x2 : Int32) (x3 : Int32) (x4 : Int32) (s1 : Int32) (s2 : Int32) (t_ways : Nat → Int64), F_X1_fixedNets_100 t_edges t_hasDark t_parts post (F_X1_fixedNets_59 t_edges t_hasDark t_parts post (F_X1_fixedNets_17 t_edges t_hasDark t_parts post n17) n59) x1 x2 x3 x4 s1 s2 t_ways → G 0 0 100 [(0, .ref h_t), (1, .int x1), (2, .int x2), (3, .int x3), (4, .int x4)] [.int s2, .int s1, .ref h_t] [(h_t, .inr (0, [.ref h_t_parts, .ref h_t_ways, .int t_edges, .int t_hasDark])), (h_t_parts, aI T 6 t_parts), (h_t_ways, aJ T 16 t_ways)] := by
              intro x1 x2 x3 x4 s1 s2 t_ways h
              unfold F_X1_fixedNets_100 at h
              refine x_callVV (av := [.int s1, .int s2]) (st := []) (wr := [(h_t_parts, aI T 6 t_parts)]) X (c_X1_addCycles l D T h_t h_t_parts h_t_ways t_edges t_hasDark t_ways s1 s2 _ h) yk_X1_addCycles tw_1222 dX1_fixedNets_100 0 rfl rfl [0, 2] [1] rfl rfl rfl rfl (by decide) rfl rfl (Nat.le_of_ble_eq_true rfl) (Nat.le_of_ble_eq_true rfl) (Nat.le_of_ble_eq_true rfl) (Nat.zero_le _) (Nat.zero_le _) (fun w1 hw => ?_)
              obtain ⟨t_ways_100, rfl, h⟩ := hw
              refine x_perm (ws2 := [(h_t, .inr (0, [.ref h_t_parts, .ref h_t_ways, .int t_edges, .int t_hasDark])), (h_t_parts, aI T 6 t_parts), (h_t_ways, aJ T 16 t_ways_100)]) X [1, 0, 2] rfl rfl ?_
              refine x_iinc (v := (x4 + 1)) (lv' := [(4, .int (x4 + 1)), (0, .ref h_t), (1, .int x1), (2, .int x2), (3, .int x3)]) X dX1_fixedNets_103 4 rfl rfl (by decide) rfl ?_
              refine x_goto (tgt := 59) X dX1_fixedNets_106 (by decide) ?_
              exact x_sub X [1, 2, 3, 4, 0] rfl (ih59 x1 x2 x3 (x4 + 1) t_ways_100 h)
            refine x_iload X dX1_fixedNets_59 4 rfl ?_
            refine x_iload_n X dX1_fixedNets_61 2 rfl ?_
            refine x_icmp_ge (tgt := 109) X dX1_fixedNets_62 (by decide) (fun hc => ?_) (fun hc => ?_)
            · have h := h.1 hc
              refine x_iinc (v := (x2 + 1)) (lv' := [(2, .int (x2 + 1)), (0, .ref h_t), (1, .int x1), (3, .int x3), (4, .int x4)]) X dX1_fixedNets_109 2 rfl rfl (by decide) rfl ?_
              refine x_goto (tgt := 17) X dX1_fixedNets_112 (by decide) ?_
              exact x_sub X [1, 2, 0] rfl (ih17 x1 (x2 + 1) t_ways h)
            · have h := h.2 hc
              refine x_iload_n X dX1_fixedNets_65 3 rfl ?_
              refine x_aload_n X dX1_fixedNets_66 0 rfl ?_
              refine x_iload X dX1_fixedNets_67 4 rfl ?_
              refine x_callVI (av := [.int x4]) (st := [.int x3]) (wr := [(h_t_ways, aJ T 16 t_ways)]) X (c_X1_partAt l D T h_t h_t_parts h_t_ways t_edges t_hasDark t_parts x4 _ h) yk_X1_partAt tw_1211 dX1_fixedNets_69 0 rfl rfl [0, 1] [2] rfl rfl rfl rfl (by decide) rfl rfl (Nat.le_of_ble_eq_true rfl) (Nat.le_of_ble_eq_true rfl) (Nat.le_of_ble_eq_true rfl) (Nat.zero_le _) (Nat.zero_le _) (fun r69 w1 hw => ?_)
              obtain ⟨rfl, h⟩ := hw
              refine x_perm (ws2 := [(h_t, .inr (0, [.ref h_t_parts, .ref h_t_ways, .int t_edges, .int t_hasDark])), (h_t_parts, aI T 6 t_parts), (h_t_ways, aJ T 16 t_ways)]) X [1, 2, 0] rfl rfl ?_
              refine x_callSI (av := [.int x3, .int r69]) (st := []) (wr := [(h_t, .inr (0, [.ref h_t_parts, .ref h_t_ways, .int t_edges, .int t_hasDark])), (h_t_parts, aI T 6 t_parts), (h_t_ways, aJ T 16 t_ways)]) X (c_X1_commonDivisor l D T  x3 r69 _ h) yk_X1_commonDivisor tw_1226 dX1_fixedNets_72 [] [0, 1, 2] rfl rfl rfl rfl (by decide) rfl rfl (Nat.le_of_ble_eq_true rfl) (Nat.le_of_ble_eq_true rfl) (Nat.le_of_ble_eq_true rfl) (Nat.zero_le _) (Nat.zero_le _) (fun r72 w1 hw => ?_)
              obtain ⟨rfl, h⟩ := hw
              refine x_perm (ws2 := [(h_t, .inr (0, [.ref h_t_parts, .ref h_t_ways, .int t_edges, .int t_hasDark])), (h_t_parts, aI T 6 t_parts), (h_t_ways, aJ T 16 t_ways)]) X [0, 1, 2] rfl rfl ?_
              refine x_istore (lv' := [(5, .int r72), (0, .ref h_t), (1, .int x1), (2, .int x2), (3, .int x3), (4, .int x4)]) X dX1_fixedNets_75 (by decide) rfl ?_
              refine x_aload_n X dX1_fixedNets_77 1 rfl ?_
              refine x_iload X dX1_fixedNets_78 0 rfl ?_
              refine x_iload X dX1_fixedNets_80 0 rfl ?_
              refine x_if_le (tgt := 99) X dX1_fixedNets_82 (by decide) (fun hc => ?_) (fun hc => ?_)
              · have h := h.1 hc
                refine x_iconst (v := 0) X dX1_fixedNets_99 (by decide) ?_
                exact x_sub X [1, 2, 3, 4, 5] rfl (k100 x1 x2 x3 x4 r72 (0 : Int32) t_ways h)
              · have h := h.2 hc
                refine x_iload_n X dX1_fixedNets_85 4 rfl ?_
                refine x_iload X dX1_fixedNets_86 0 rfl ?_
                obtain ⟨hne, h⟩ := h
                refine x_idiv X dX1_fixedNets_88 hne ?_
                refine x_aload_n X dX1_fixedNets_89 1 rfl ?_
                refine x_iload X dX1_fixedNets_90 5 rfl ?_
                refine x_callVI (av := [.int x4]) (st := [.int (x3 / r72), .int r72, .ref h_t]) (wr := [(h_t_ways, aJ T 16 t_ways)]) X (c_X1_partAt l D T h_t h_t_parts h_t_ways t_edges t_hasDark t_parts x4 _ h) yk_X1_partAt tw_1211 dX1_fixedNets_92 0 rfl rfl [0, 1] [2] rfl rfl rfl rfl (by decide) rfl rfl (Nat.le_of_ble_eq_true rfl) (Nat.le_of_ble_eq_true rfl) (Nat.le_of_ble_eq_true rfl) (Nat.zero_le _) (Nat.zero_le _) (fun r92 w1 hw => ?_)
                obtain ⟨rfl, h⟩ := hw
                refine x_perm (ws2 := [(h_t, .inr (0, [.ref h_t_parts, .ref h_t_ways, .int t_edges, .int t_hasDark])), (h_t_parts, aI T 6 t_parts), (h_t_ways, aJ T 16 t_ways)]) X [1, 2, 0] rfl rfl ?_
                refine x_imul X dX1_fixedNets_95 ?_
                refine x_goto (tgt := 100) X dX1_fixedNets_96 (by decide) ?_
                exact x_sub X [1, 2, 3, 4, 5] rfl (k100 x1 x2 x3 x4 r72 ((x3 / r72) * r92) t_ways h)
        refine x_iload_n X dX1_fixedNets_50 3 rfl ?_
        refine x_iconst (v := 2) X dX1_fixedNets_51 (by decide) ?_
        refine x_idiv X dX1_fixedNets_52 (by decide) ?_
        refine x_callVV (av := [.int s1, .int (x3 / (2 : Int32))]) (st := []) (wr := [(h_t_parts, aI T 6 t_parts)]) X (c_X1_addCycles l D T h_t h_t_parts h_t_ways t_edges t_hasDark t_ways s1 (x3 / (2 : Int32)) _ h) yk_X1_addCycles tw_1222 dX1_fixedNets_53 0 rfl rfl [0, 2] [1] rfl rfl rfl rfl (by decide) rfl rfl (Nat.le_of_ble_eq_true rfl) (Nat.le_of_ble_eq_true rfl) (Nat.le_of_ble_eq_true rfl) (Nat.zero_le _) (Nat.zero_le _) (fun w1 hw => ?_)
        obtain ⟨t_ways_53, rfl, h⟩ := hw
        refine x_perm (ws2 := [(h_t, .inr (0, [.ref h_t_parts, .ref h_t_ways, .int t_edges, .int t_hasDark])), (h_t_parts, aI T 6 t_parts), (h_t_ways, aJ T 16 t_ways_53)]) X [1, 0, 2] rfl rfl ?_
        refine x_iconst (v := 0) X dX1_fixedNets_56 (by decide) ?_
        refine x_istore (lv' := [(4, .int (0 : Int32)), (0, .ref h_t), (1, .int x1), (2, .int x2), (3, .int x3)]) X dX1_fixedNets_57 (by decide) rfl ?_
        obtain ⟨n59, h⟩ := h
        exact x_sub X [1, 2, 3, 4, 0] rfl (k59 n59 x1 x2 x3 (0 : Int32) t_ways_53 h)
      have k120 : ∀ (n120 : Nat) (x1 : Int32) (x2 : Int64) (x4 : Int32) (t_ways : Nat → Int64), F_X1_fixedNets_120 t_edges t_hasDark t_parts post n120 x1 x2 x4 t_ways → G 0 0 120 [(0, .ref h_t), (1, .int x1), (2, .long x2), (4, .int x4)] [] [(h_t, .inr (0, [.ref h_t_parts, .ref h_t_ways, .int t_edges, .int t_hasDark])), (h_t_parts, aI T 6 t_parts), (h_t_ways, aJ T 16 t_ways)] := by
        intro n120
        induction n120 with
        | zero => intro x1 x2 x4 t_ways h; exact h.elim
        | succ n120 ih120 =>
          intro x1 x2 x4 t_ways h
          rw [F_X1_fixedNets_120] at h
          have k159 : ∀ (x1 : Int32) (x4 : Int32) (s0 : Int64) (s1 : Int64) (t_ways : Nat → Int64), F_X1_fixedNets_159 t_edges t_hasDark t_parts post (F_X1_fixedNets_120 t_edges t_hasDark t_parts post n120) x1 x4 s0 s1 t_ways → G 0 0 159 [(0, .ref h_t), (1, .int x1), (4, .int x4)] [.long s1, .long s0] [(h_t, .inr (0, [.ref h_t_parts, .ref h_t_ways, .int t_edges, .int t_hasDark])), (h_t_parts, aI T 6 t_parts), (h_t_ways, aJ T 16 t_ways)] := by
            intro x1 x4 s0 s1 t_ways h
            unfold F_X1_fixedNets_159 at h
            refine x_ladd X dX1_fixedNets_159 ?_
            refine x_lstore_n (lv' := [(2, .long (s0 + s1)), (0, .ref h_t), (1, .int x1), (4, .int x4)]) X dX1_fixedNets_160 (by decide) rfl ?_
            refine x_iinc (v := (x4 + 1)) (lv' := [(4, .int (x4 + 1)), (2, .long (s0 + s1)), (0, .ref h_t), (1, .int x1)]) X dX1_fixedNets_161 3 rfl rfl (by decide) rfl ?_
            refine x_goto (tgt := 120) X dX1_fixedNets_164 (by decide) ?_
            exact x_sub X [2, 3, 1, 0] rfl (ih120 x1 (s0 + s1) (x4 + 1) t_ways h)
          have k148 : ∀ (x1 : Int32) (x4 : Int32) (s0 : Int64) (t_ways : Nat → Int64), F_X1_fixedNets_148 t_edges t_hasDark t_parts post (fun x1 x4 s0 s1 t_ways => F_X1_fixedNets_159 t_edges t_hasDark t_parts post (F_X1_fixedNets_120 t_edges t_hasDark t_parts post n120) x1 x4 s0 s1 t_ways) x1 x4 s0 t_ways → G 0 0 148 [(0, .ref h_t), (1, .int x1), (4, .int x4)] [.long s0] [(h_t, .inr (0, [.ref h_t_parts, .ref h_t_ways, .int t_edges, .int t_hasDark])), (h_t_parts, aI T 6 t_parts), (h_t_ways, aJ T 16 t_ways)] := by
            intro x1 x4 s0 t_ways h
            unfold F_X1_fixedNets_148 at h
            refine x_aload_n X dX1_fixedNets_148 0 rfl ?_
            refine x_get X inGX1 1 (by decide) rfl tw_304 dX1_fixedNets_149 rfl 0 rfl rfl ?_
            refine x_iload X dX1_fixedNets_152 2 rfl ?_
            obtain ⟨hi, h⟩ := h
            refine x_lald X dX1_fixedNets_154 2 rfl hi ?_
            refine x_goto (tgt := 159) X dX1_fixedNets_155 (by decide) ?_
            exact x_sub X [0, 1, 2] rfl (k159 x1 x4 s0 (t_ways x4.toNatClampNeg) t_ways h)
          have k181 : ∀ (s0 : Int64) (t_ways : Nat → Int64), F_X1_fixedNets_181 t_edges t_hasDark t_parts post s0 t_ways → G 0 0 181 [] [.long s0] [(h_t, .inr (0, [.ref h_t_parts, .ref h_t_ways, .int t_edges, .int t_hasDark])), (h_t_parts, aI T 6 t_parts), (h_t_ways, aJ T 16 t_ways)] := by
            intro s0 t_ways h
            unfold F_X1_fixedNets_181 at h
            exact hret _ _ _ _ dX1_fixedNets_181 ⟨t_ways, rfl, h⟩
          refine x_iload X dX1_fixedNets_120 3 rfl ?_
          refine x_aload_n X dX1_fixedNets_122 0 rfl ?_
          refine x_get X inGX1 1 (by decide) rfl tw_304 dX1_fixedNets_123 rfl 0 rfl rfl ?_
          refine x_alen (v := (16 : Int32)) X dX1_fixedNets_126 2 2 rfl rfl rfl ?_
          refine x_icmp_ge (tgt := 167) X dX1_fixedNets_127 (by decide) (fun hc => ?_) (fun hc => ?_)
          · have h := h.1 hc
            refine x_aload_n X dX1_fixedNets_167 0 rfl ?_
            refine x_get X inGX1 3 (by decide) rfl tw_306 dX1_fixedNets_168 rfl 0 rfl rfl ?_
            refine x_if_eq (tgt := 180) X dX1_fixedNets_171 (by decide) (fun hc => ?_) (fun hc => ?_)
            · have h := h.1 hc
              refine x_lload_n X dX1_fixedNets_180 2 rfl ?_
              exact x_sub X [] rfl (k181 x2 t_ways h)
            · have h := h.2 hc
              refine x_lload_n X dX1_fixedNets_174 2 rfl ?_
              refine x_iload_n X dX1_fixedNets_175 1 rfl ?_
              refine x_lshl X dX1_fixedNets_176 ?_
              refine x_goto (tgt := 181) X dX1_fixedNets_177 (by decide) ?_
              exact x_sub X [] rfl (k181 (x2 <<< (x1.toInt64 &&& 63)) t_ways h)
          · have h := h.2 hc
            refine x_lload_n X dX1_fixedNets_130 2 rfl ?_
            refine x_aload_n X dX1_fixedNets_131 0 rfl ?_
            refine x_get X inGX1 2 (by decide) rfl tw_305 dX1_fixedNets_132 rfl 0 rfl rfl ?_
            refine x_iconst (v := -1) X dX1_fixedNets_135 (by decide) ?_
            refine x_icmp_eq (tgt := 148) X dX1_fixedNets_136 (by decide) (fun hc => ?_) (fun hc => ?_)
            · have h := h.1 hc
              exact x_sub X [0, 1, 3] rfl (k148 x1 x4 x2 t_ways h)
            · have h := h.2 hc
              refine x_aload_n X dX1_fixedNets_139 0 rfl ?_
              refine x_get X inGX1 2 (by decide) rfl tw_305 dX1_fixedNets_140 rfl 0 rfl rfl ?_
              refine x_iload X dX1_fixedNets_143 3 rfl ?_
              refine x_icmp_ne (tgt := 158) X dX1_fixedNets_145 (by decide) (fun hc => ?_) (fun hc => ?_)
              · have h := h.1 hc
                refine x_lconst (v := 0) X dX1_fixedNets_158 (by decide) ?_
                exact x_sub X [0, 1, 3] rfl (k159 x1 x4 x2 (0 : Int64) t_ways h)
              · have h := h.2 hc
                exact x_sub X [0, 1, 3] rfl (k148 x1 x4 x2 t_ways h)
      refine x_iload_n X dX1_fixedNets_17 2 rfl ?_
      refine x_iload_n X dX1_fixedNets_18 1 rfl ?_
      refine x_icmp_ge (tgt := 115) X dX1_fixedNets_19 (by decide) (fun hc => ?_) (fun hc => ?_)
      · have h := h.1 hc
        refine x_lconst (v := 0) X dX1_fixedNets_115 (by decide) ?_
        refine x_lstore_n (lv' := [(2, .long (0 : Int64)), (0, .ref h_t), (1, .int x1)]) X dX1_fixedNets_116 (by decide) rfl ?_
        refine x_iconst (v := 0) X dX1_fixedNets_117 (by decide) ?_
        refine x_istore (lv' := [(4, .int (0 : Int32)), (2, .long (0 : Int64)), (0, .ref h_t), (1, .int x1)]) X dX1_fixedNets_118 (by decide) rfl ?_
        obtain ⟨n120, h⟩ := h
        exact x_sub X [2, 3, 1, 0] rfl (k120 n120 x1 (0 : Int64) (0 : Int32) t_ways h)
      · have h := h.2 hc
        refine x_aload_n X dX1_fixedNets_22 0 rfl ?_
        refine x_iload_n X dX1_fixedNets_23 2 rfl ?_
        refine x_callVI (av := [.int x2]) (st := []) (wr := [(h_t_ways, aJ T 16 t_ways)]) X (c_X1_partAt l D T h_t h_t_parts h_t_ways t_edges t_hasDark t_parts x2 _ h) yk_X1_partAt tw_1211 dX1_fixedNets_24 0 rfl rfl [0, 1] [2] rfl rfl rfl rfl (by decide) rfl rfl (Nat.le_of_ble_eq_true rfl) (Nat.le_of_ble_eq_true rfl) (Nat.le_of_ble_eq_true rfl) (Nat.zero_le _) (Nat.zero_le _) (fun r24 w1 hw => ?_)
        obtain ⟨rfl, h⟩ := hw
        refine x_perm (ws2 := [(h_t, .inr (0, [.ref h_t_parts, .ref h_t_ways, .int t_edges, .int t_hasDark])), (h_t_parts, aI T 6 t_parts), (h_t_ways, aJ T 16 t_ways)]) X [1, 2, 0] rfl rfl ?_
        refine x_istore_n (lv' := [(3, .int r24), (0, .ref h_t), (1, .int x1), (2, .int x2)]) X dX1_fixedNets_27 (by decide) rfl ?_
        refine x_aload_n X dX1_fixedNets_28 1 rfl ?_
        refine x_iload_n X dX1_fixedNets_29 0 rfl ?_
        refine x_iconst (v := 1) X dX1_fixedNets_30 (by decide) ?_
        refine x_isub X dX1_fixedNets_31 ?_
        refine x_iconst (v := 2) X dX1_fixedNets_32 (by decide) ?_
        refine x_idiv X dX1_fixedNets_33 (by decide) ?_
        refine x_iload_n X dX1_fixedNets_34 0 rfl ?_
        refine x_callVV (av := [.int ((r24 - (1 : Int32)) / (2 : Int32)), .int r24]) (st := []) (wr := [(h_t_parts, aI T 6 t_parts)]) X (c_X1_addCycles l D T h_t h_t_parts h_t_ways t_edges t_hasDark t_ways ((r24 - (1 : Int32)) / (2 : Int32)) r24 _ h) yk_X1_addCycles tw_1222 dX1_fixedNets_35 0 rfl rfl [0, 2] [1] rfl rfl rfl rfl (by decide) rfl rfl (Nat.le_of_ble_eq_true rfl) (Nat.le_of_ble_eq_true rfl) (Nat.le_of_ble_eq_true rfl) (Nat.zero_le _) (Nat.zero_le _) (fun w1 hw => ?_)
        obtain ⟨t_ways_35, rfl, h⟩ := hw
        refine x_perm (ws2 := [(h_t, .inr (0, [.ref h_t_parts, .ref h_t_ways, .int t_edges, .int t_hasDark])), (h_t_parts, aI T 6 t_parts), (h_t_ways, aJ T 16 t_ways_35)]) X [1, 0, 2] rfl rfl ?_
        refine x_aload_n X dX1_fixedNets_38 1 rfl ?_
        refine x_iload_n X dX1_fixedNets_39 0 rfl ?_
        refine x_iconst (v := 2) X dX1_fixedNets_40 (by decide) ?_
        refine x_irem X dX1_fixedNets_41 (by decide) ?_
        refine x_if_ne (tgt := 49) X dX1_fixedNets_42 (by decide) (fun hc => ?_) (fun hc => ?_)
        · have h := h.1 hc
          refine x_iconst (v := 0) X dX1_fixedNets_49 (by decide) ?_
          exact x_sub X [1, 2, 3, 0] rfl (k50 x1 x2 r24 (0 : Int32) t_ways_35 h)
        · have h := h.2 hc
          refine x_iconst (v := 1) X dX1_fixedNets_45 (by decide) ?_
          refine x_goto (tgt := 50) X dX1_fixedNets_46 (by decide) ?_
          exact x_sub X [1, 2, 3, 0] rfl (k50 x1 x2 r24 (1 : Int32) t_ways_35 h)
  refine x_aload_n X dX1_fixedNets_0 0 rfl ?_
  refine x_get X inGX1 1 (by decide) rfl tw_304 dX1_fixedNets_1 rfl 0 rfl rfl ?_
  refine x_lconst (v := 0) X dX1_fixedNets_4 (by decide) ?_
  refine x_callSV (av := [.ref h_t_ways, .long (0 : Int64)]) (st := []) (wr := [(h_t, .inr (0, [.ref h_t_parts, .ref h_t_ways, .int t_edges, .int t_hasDark])), (h_t_parts, aI T 6 t_parts)]) X (c_J7_fill_d0a16 l D T h_t_ways 16 t_ways (0 : Int64) _ h) yk_J7_fill_d0a16 tw_1219 dX1_fixedNets_5 [2] [0, 1] rfl rfl rfl rfl (by decide) rfl rfl (Nat.le_of_ble_eq_true rfl) (Nat.le_of_ble_eq_true rfl) (Nat.le_of_ble_eq_true rfl) (Nat.zero_le _) (Nat.zero_le _) (fun w1 hw => ?_)
  obtain ⟨t_ways_5, rfl, h⟩ := hw
  refine x_perm (ws2 := [(h_t, .inr (0, [.ref h_t_parts, .ref h_t_ways, .int t_edges, .int t_hasDark])), (h_t_parts, aI T 6 t_parts), (h_t_ways, aJ T 16 t_ways_5)]) X [0, 1, 2] rfl rfl ?_
  refine x_aload_n X dX1_fixedNets_8 0 rfl ?_
  refine x_get X inGX1 1 (by decide) rfl tw_304 dX1_fixedNets_9 rfl 0 rfl rfl ?_
  refine x_iconst (v := 0) X dX1_fixedNets_12 (by decide) ?_
  refine x_lconst (v := 1) X dX1_fixedNets_13 (by decide) ?_
  obtain ⟨hi, h⟩ := h
  refine x_last (ws' := [(h_t, .inr (0, [.ref h_t_parts, .ref h_t_ways, .int t_edges, .int t_hasDark])), (h_t_parts, aI T 6 t_parts), (h_t_ways, aJ T 16 (vp_updL t_ways_5 (0 : Int32).toNatClampNeg (1 : Int64)))]) X dX1_fixedNets_14 2 rfl hi rfl ?_
  refine x_iconst (v := 0) X dX1_fixedNets_15 (by decide) ?_
  refine x_istore_n (lv' := [(2, .int (0 : Int32)), (0, .ref h_t), (1, .int p1)]) X dX1_fixedNets_16 (by decide) rfl ?_
  obtain ⟨n17, h⟩ := h
  exact x_sub X [1, 2, 0] rfl (k17 n17 p1 (0 : Int32) (vp_updL t_ways_5 (0 : Int32).toNatClampNeg (1 : Int64)) h)
theorem dX1_split_0 : decode cX1_split 0 = .ok (.iload_n 2, 1) := by decide +kernel
theorem dX1_split_1 : decode cX1_split 1 = .ok (.ifCond .lt 19, 3) := by decide +kernel
theorem dX1_split_4 : decode cX1_split 4 = .ok (.iload_n 2, 1) := by decide +kernel
theorem dX1_split_5 : decode cX1_split 5 = .ok (.aload_n 0, 1) := by decide +kernel
theorem dX1_split_6 : decode cX1_split 6 = .ok (.getfield 9, 3) := by decide +kernel
theorem dX1_split_9 : decode cX1_split 9 = .ok (.arraylength, 1) := by decide +kernel
theorem dX1_split_10 : decode cX1_split 10 = .ok (.if_icmp .ge 10, 3) := by decide +kernel
theorem dX1_split_13 : decode cX1_split 13 = .ok (.aload_n 0, 1) := by decide +kernel
theorem dX1_split_14 : decode cX1_split 14 = .ok (.getfield 9, 3) := by decide +kernel
theorem dX1_split_17 : decode cX1_split 17 = .ok (.iload_n 2, 1) := by decide +kernel
theorem dX1_split_18 : decode cX1_split 18 = .ok (.iload_n 1, 1) := by decide +kernel
theorem dX1_split_19 : decode cX1_split 19 = .ok (.iastore, 1) := by decide +kernel
theorem dX1_split_20 : decode cX1_split 20 = .ok (.aload_n 0, 1) := by decide +kernel
theorem dX1_split_21 : decode cX1_split 21 = .ok (.iload_n 2, 1) := by decide +kernel
theorem dX1_split_22 : decode cX1_split 22 = .ok (.iconst 1, 1) := by decide +kernel
theorem dX1_split_23 : decode cX1_split 23 = .ok (.iadd, 1) := by decide +kernel
theorem dX1_split_24 : decode cX1_split 24 = .ok (.iload_n 3, 1) := by decide +kernel
theorem dX1_split_25 : decode cX1_split 25 = .ok (.iload_n 1, 1) := by decide +kernel
theorem dX1_split_26 : decode cX1_split 26 = .ok (.isub, 1) := by decide +kernel
theorem dX1_split_27 : decode cX1_split 27 = .ok (.iload_n 1, 1) := by decide +kernel
theorem dX1_split_28 : decode cX1_split 28 = .ok (.lload 4, 2) := by decide +kernel
theorem dX1_split_30 : decode cX1_split 30 = .ok (.invokevirtual 31, 3) := by decide +kernel
theorem dX1_split_33 : decode cX1_split 33 = .ok (.lreturn, 1) := by decide +kernel
set_option maxHeartbeats 4000000 in
set_option maxRecDepth 100000 in
theorem c_X1_split (l : Launch) (D : eD) (T : Nat → ClassId) (h_t h_t_parts h_t_ways : Nat) (FA : Int32 → Int32 → (Nat → Int32) → (Nat → Int64) → Int32 → Int32 → Int32 → Int64 → (Int64 → (Nat → Int32) → (Nat → Int64) → Prop) → Prop) (fA lA : Nat) (ih : ∀ (t_edges : Int32) (t_hasDark : Int32) (t_parts : Nat → Int32) (t_ways : Nat → Int64) (p1 : Int32) (p2 : Int32) (p3 : Int32) (p4 : Int64) (post : Int64 → (Nat → Int32) → (Nat → Int64) → Prop), FA t_edges t_hasDark t_parts t_ways p1 p2 p3 p4 post → cJ l D T yX1_splitNext cX1_splitNext 9 (some .long) fA lA 0 0 [.ref h_t, .int p1, .int p2, .int p3, .long p4] [(h_t, .inr (0, [.ref h_t_parts, .ref h_t_ways, .int t_edges, .int t_hasDark])), (h_t_parts, aI T 6 t_parts), (h_t_ways, aJ T 16 t_ways)] (fun r w1 => ∃ (t_parts1 : Nat → Int32) (t_ways1 : Nat → Int64), w1 = [(h_t, .inr (0, [.ref h_t_parts, .ref h_t_ways, .int t_edges, .int t_hasDark])), (h_t_parts, aI T 6 t_parts1), (h_t_ways, aJ T 16 t_ways1)] ∧ post r t_parts1 t_ways1)) (t_edges : Int32) (t_hasDark : Int32) (t_parts : Nat → Int32) (t_ways : Nat → Int64) (p1 : Int32) (p2 : Int32) (p3 : Int32) (p4 : Int64) (post : Int64 → (Nat → Int32) → (Nat → Int64) → Prop) (h : F_X1_split FA t_edges t_hasDark t_parts t_ways p1 p2 p3 p4 post) : cJ l D T yX1_split cX1_split 6 (some .long) (fA + 1) (lA + 28) 0 0 [.ref h_t, .int p1, .int p2, .int p3, .long p4] [(h_t, .inr (0, [.ref h_t_parts, .ref h_t_ways, .int t_edges, .int t_hasDark])), (h_t_parts, aI T 6 t_parts), (h_t_ways, aJ T 16 t_ways)] (fun r w1 => ∃ (t_parts1 : Nat → Int32) (t_ways1 : Nat → Int64), w1 = [(h_t, .inr (0, [.ref h_t_parts, .ref h_t_ways, .int t_edges, .int t_hasDark])), (h_t_parts, aI T 6 t_parts1), (h_t_ways, aJ T 16 t_ways1)] ∧ post r t_parts1 t_ways1) := by
  refine xJ_of (by decide +kernel) (Nat.le_of_ble_eq_true rfl) rfl ?_
  intro G X hret
  change G 0 0 0 [(0, .ref h_t), (1, .int p1), (2, .int p2), (3, .int p3), (4, .long p4)] [] [(h_t, .inr (0, [.ref h_t_parts, .ref h_t_ways, .int t_edges, .int t_hasDark])), (h_t_parts, aI T 6 t_parts), (h_t_ways, aJ T 16 t_ways)]
  unfold F_X1_split at h
  have k20 : ∀ (x1 : Int32) (x2 : Int32) (x3 : Int32) (x4 : Int64) (t_parts : Nat → Int32) (t_ways : Nat → Int64), F_X1_split_20 FA t_edges t_hasDark post x1 x2 x3 x4 t_parts t_ways → G 0 0 20 [(0, .ref h_t), (1, .int x1), (2, .int x2), (3, .int x3), (4, .long x4)] [] [(h_t, .inr (0, [.ref h_t_parts, .ref h_t_ways, .int t_edges, .int t_hasDark])), (h_t_parts, aI T 6 t_parts), (h_t_ways, aJ T 16 t_ways)] := by
    intro x1 x2 x3 x4 t_parts t_ways h
    unfold F_X1_split_20 at h
    refine x_aload_n X dX1_split_20 0 rfl ?_
    refine x_iload_n X dX1_split_21 2 rfl ?_
    refine x_iconst (v := 1) X dX1_split_22 (by decide) ?_
    refine x_iadd X dX1_split_23 ?_
    refine x_iload_n X dX1_split_24 3 rfl ?_
    refine x_iload_n X dX1_split_25 1 rfl ?_
    refine x_isub X dX1_split_26 ?_
    refine x_iload_n X dX1_split_27 1 rfl ?_
    refine x_lload X dX1_split_28 4 rfl ?_
    refine x_callVJ (av := [.int (x2 + (1 : Int32)), .int (x3 - x1), .int x1, .long x4]) (st := []) (wr := []) X (ih t_edges t_hasDark t_parts t_ways (x2 + (1 : Int32)) (x3 - x1) x1 x4 _ h) yk_X1_splitNext tw_1203 dX1_split_30 0 rfl rfl [0, 1, 2] [] rfl rfl rfl rfl (by decide) rfl rfl (Nat.le_of_ble_eq_true rfl) (by dsimp only [eR]; omega) (by dsimp only [eR]; omega) (Nat.zero_le _) (Nat.zero_le _) (fun r30 w1 hw => ?_)
    obtain ⟨t_parts_30, t_ways_30, rfl, h⟩ := hw
    refine x_perm (ws2 := [(h_t, .inr (0, [.ref h_t_parts, .ref h_t_ways, .int t_edges, .int t_hasDark])), (h_t_parts, aI T 6 t_parts_30), (h_t_ways, aJ T 16 t_ways_30)]) X [0, 1, 2] rfl rfl ?_
    exact hret _ _ _ _ dX1_split_33 ⟨t_parts_30, t_ways_30, rfl, h⟩
  refine x_iload_n X dX1_split_0 2 rfl ?_
  refine x_if_lt (tgt := 20) X dX1_split_1 (by decide) (fun hc => ?_) (fun hc => ?_)
  · have h := h.1 hc
    exact x_sub X [0, 1, 2, 3, 4] rfl (k20 p1 p2 p3 p4 t_parts t_ways h)
  · have h := h.2 hc
    refine x_iload_n X dX1_split_4 2 rfl ?_
    refine x_aload_n X dX1_split_5 0 rfl ?_
    refine x_get X inGX1 0 (by decide) rfl tw_303 dX1_split_6 rfl 0 rfl rfl ?_
    refine x_alen (v := (6 : Int32)) X dX1_split_9 1 1 rfl rfl rfl ?_
    refine x_icmp_ge (tgt := 20) X dX1_split_10 (by decide) (fun hc => ?_) (fun hc => ?_)
    · have h := h.1 hc
      exact x_sub X [0, 1, 2, 3, 4] rfl (k20 p1 p2 p3 p4 t_parts t_ways h)
    · have h := h.2 hc
      refine x_aload_n X dX1_split_13 0 rfl ?_
      refine x_get X inGX1 0 (by decide) rfl tw_303 dX1_split_14 rfl 0 rfl rfl ?_
      refine x_iload_n X dX1_split_17 2 rfl ?_
      refine x_iload_n X dX1_split_18 1 rfl ?_
      obtain ⟨hi, h⟩ := h
      refine x_iast (ws' := [(h_t, .inr (0, [.ref h_t_parts, .ref h_t_ways, .int t_edges, .int t_hasDark])), (h_t_parts, aI T 6 (upd t_parts p2.toNatClampNeg p1)), (h_t_ways, aJ T 16 t_ways)]) X dX1_split_19 1 rfl hi rfl ?_
      exact x_sub X [0, 1, 2, 3, 4] rfl (k20 p1 p2 p3 p4 (upd t_parts p2.toNatClampNeg p1) t_ways h)
theorem dX1_splitNext_0 : decode cX1_splitNext 0 = .ok (.iload_n 2, 1) := by decide +kernel
theorem dX1_splitNext_1 : decode cX1_splitNext 1 = .ok (.ifCond .le 12, 3) := by decide +kernel
theorem dX1_splitNext_4 : decode cX1_splitNext 4 = .ok (.iload_n 1, 1) := by decide +kernel
theorem dX1_splitNext_5 : decode cX1_splitNext 5 = .ok (.aload_n 0, 1) := by decide +kernel
theorem dX1_splitNext_6 : decode cX1_splitNext 6 = .ok (.getfield 9, 3) := by decide +kernel
theorem dX1_splitNext_9 : decode cX1_splitNext 9 = .ok (.arraylength, 1) := by decide +kernel
theorem dX1_splitNext_10 : decode cX1_splitNext 10 = .ok (.if_icmp .lt 17, 3) := by decide +kernel
theorem dX1_splitNext_13 : decode cX1_splitNext 13 = .ok (.aload_n 0, 1) := by decide +kernel
theorem dX1_splitNext_14 : decode cX1_splitNext 14 = .ok (.iload_n 1, 1) := by decide +kernel
theorem dX1_splitNext_15 : decode cX1_splitNext 15 = .ok (.lload 4, 2) := by decide +kernel
theorem dX1_splitNext_17 : decode cX1_splitNext 17 = .ok (.invokevirtual 41, 3) := by decide +kernel
theorem dX1_splitNext_20 : decode cX1_splitNext 20 = .ok (.aload_n 0, 1) := by decide +kernel
theorem dX1_splitNext_21 : decode cX1_splitNext 21 = .ok (.iload_n 1, 1) := by decide +kernel
theorem dX1_splitNext_22 : decode cX1_splitNext 22 = .ok (.invokevirtual 45, 3) := by decide +kernel
theorem dX1_splitNext_25 : decode cX1_splitNext 25 = .ok (.lmul, 1) := by decide +kernel
theorem dX1_splitNext_26 : decode cX1_splitNext 26 = .ok (.lreturn, 1) := by decide +kernel
theorem dX1_splitNext_27 : decode cX1_splitNext 27 = .ok (.lconst 0, 1) := by decide +kernel
theorem dX1_splitNext_28 : decode cX1_splitNext 28 = .ok (.lstore 6, 2) := by decide +kernel
theorem dX1_splitNext_30 : decode cX1_splitNext 30 = .ok (.iload_n 2, 1) := by decide +kernel
theorem dX1_splitNext_31 : decode cX1_splitNext 31 = .ok (.iload_n 3, 1) := by decide +kernel
theorem dX1_splitNext_32 : decode cX1_splitNext 32 = .ok (.invokestatic 48, 3) := by decide +kernel
theorem dX1_splitNext_35 : decode cX1_splitNext 35 = .ok (.istore 8, 2) := by decide +kernel
theorem dX1_splitNext_37 : decode cX1_splitNext 37 = .ok (.iload 8, 2) := by decide +kernel
theorem dX1_splitNext_39 : decode cX1_splitNext 39 = .ok (.ifCond .le 24, 3) := by decide +kernel
theorem dX1_splitNext_42 : decode cX1_splitNext 42 = .ok (.lload 6, 2) := by decide +kernel
theorem dX1_splitNext_44 : decode cX1_splitNext 44 = .ok (.aload_n 0, 1) := by decide +kernel
theorem dX1_splitNext_45 : decode cX1_splitNext 45 = .ok (.iload 8, 2) := by decide +kernel
theorem dX1_splitNext_47 : decode cX1_splitNext 47 = .ok (.iload_n 1, 1) := by decide +kernel
theorem dX1_splitNext_48 : decode cX1_splitNext 48 = .ok (.iload_n 2, 1) := by decide +kernel
theorem dX1_splitNext_49 : decode cX1_splitNext 49 = .ok (.lload 4, 2) := by decide +kernel
theorem dX1_splitNext_51 : decode cX1_splitNext 51 = .ok (.invokevirtual 52, 3) := by decide +kernel
theorem dX1_splitNext_54 : decode cX1_splitNext 54 = .ok (.ladd, 1) := by decide +kernel
theorem dX1_splitNext_55 : decode cX1_splitNext 55 = .ok (.lstore 6, 2) := by decide +kernel
theorem dX1_splitNext_57 : decode cX1_splitNext 57 = .ok (.iinc 8 (-1), 3) := by decide +kernel
theorem dX1_splitNext_60 : decode cX1_splitNext 60 = .ok (.goto (-23), 3) := by decide +kernel
theorem dX1_splitNext_63 : decode cX1_splitNext 63 = .ok (.lload 6, 2) := by decide +kernel
theorem dX1_splitNext_65 : decode cX1_splitNext 65 = .ok (.lreturn, 1) := by decide +kernel
set_option maxHeartbeats 4000000 in
set_option maxRecDepth 100000 in
theorem c_X1_splitNext (l : Launch) (D : eD) (T : Nat → ClassId) (h_t h_t_parts h_t_ways : Nat) : ∀ d : Nat, ∀ (t_edges : Int32) (t_hasDark : Int32) (t_parts : Nat → Int32) (t_ways : Nat → Int64) (p1 : Int32) (p2 : Int32) (p3 : Int32) (p4 : Int64) (post : Int64 → (Nat → Int32) → (Nat → Int64) → Prop), F_X1_splitNext d t_edges t_hasDark t_parts t_ways p1 p2 p3 p4 post → cJ l D T yX1_splitNext cX1_splitNext 9 (some .long) (2 * d + 3) (53 * d + 97) 0 0 [.ref h_t, .int p1, .int p2, .int p3, .long p4] [(h_t, .inr (0, [.ref h_t_parts, .ref h_t_ways, .int t_edges, .int t_hasDark])), (h_t_parts, aI T 6 t_parts), (h_t_ways, aJ T 16 t_ways)] (fun r w1 => ∃ (t_parts1 : Nat → Int32) (t_ways1 : Nat → Int64), w1 = [(h_t, .inr (0, [.ref h_t_parts, .ref h_t_ways, .int t_edges, .int t_hasDark])), (h_t_parts, aI T 6 t_parts1), (h_t_ways, aJ T 16 t_ways1)] ∧ post r t_parts1 t_ways1) := by
  intro d
  induction d with
  | zero =>
    intro t_edges t_hasDark t_parts t_ways p1 p2 p3 p4 post h
    exact h.elim
  | succ d ih =>
  intro t_edges t_hasDark t_parts t_ways p1 p2 p3 p4 post h
  have h : FB_X1_splitNext (F_X1_splitNext d) t_edges t_hasDark t_parts t_ways p1 p2 p3 p4 post := h
  generalize F_X1_splitNext d = FA at h ih
  refine xJ_of (by decide +kernel) (Nat.le_of_ble_eq_true rfl) rfl ?_
  intro G X hret
  change G 0 0 0 [(0, .ref h_t), (1, .int p1), (2, .int p2), (3, .int p3), (4, .long p4)] [] [(h_t, .inr (0, [.ref h_t_parts, .ref h_t_ways, .int t_edges, .int t_hasDark])), (h_t_parts, aI T 6 t_parts), (h_t_ways, aJ T 16 t_ways)]
  unfold FB_X1_splitNext at h
  have k13 : ∀ (x1 : Int32) (x4 : Int64) (t_parts : Nat → Int32) (t_ways : Nat → Int64), F_X1_splitNext_13 FA t_edges t_hasDark post x1 x4 t_parts t_ways → G 0 0 13 [(0, .ref h_t), (1, .int x1), (4, .long x4)] [] [(h_t, .inr (0, [.ref h_t_parts, .ref h_t_ways, .int t_edges, .int t_hasDark])), (h_t_parts, aI T 6 t_parts), (h_t_ways, aJ T 16 t_ways)] := by
    intro x1 x4 t_parts t_ways h
    unfold F_X1_splitNext_13 at h
    refine x_aload_n X dX1_splitNext_13 0 rfl ?_
    refine x_iload_n X dX1_splitNext_14 1 rfl ?_
    refine x_lload X dX1_splitNext_15 2 rfl ?_
    refine x_callVJ (av := [.int x1, .long x4]) (st := []) (wr := [(h_t_ways, aJ T 16 t_ways)]) X (c_X1_alike l D T h_t h_t_parts h_t_ways t_edges t_hasDark t_parts x1 x4 _ h) yk_X1_alike tw_1207 dX1_splitNext_17 0 rfl rfl [0, 1] [2] rfl rfl rfl rfl (by decide) rfl rfl (Nat.le_of_ble_eq_true rfl) (by dsimp only [eR]; omega) (by dsimp only [eR]; omega) (Nat.zero_le _) (Nat.zero_le _) (fun r17 w1 hw => ?_)
    obtain ⟨rfl, h⟩ := hw
    refine x_perm (ws2 := [(h_t, .inr (0, [.ref h_t_parts, .ref h_t_ways, .int t_edges, .int t_hasDark])), (h_t_parts, aI T 6 t_parts), (h_t_ways, aJ T 16 t_ways)]) X [1, 2, 0] rfl rfl ?_
    refine x_aload_n X dX1_splitNext_20 0 rfl ?_
    refine x_iload_n X dX1_splitNext_21 1 rfl ?_
    refine x_callVJ (av := [.int x1]) (st := [.long r17]) (wr := []) X (c_X1_fixedNets l D T h_t h_t_parts h_t_ways t_edges t_hasDark t_parts t_ways x1 _ h) yk_X1_fixedNets tw_1215 dX1_splitNext_22 0 rfl rfl [0, 1, 2] [] rfl rfl rfl rfl (by decide) rfl rfl (Nat.le_of_ble_eq_true rfl) (by dsimp only [eR]; omega) (by dsimp only [eR]; omega) (Nat.zero_le _) (Nat.zero_le _) (fun r22 w1 hw => ?_)
    obtain ⟨t_ways_22, rfl, h⟩ := hw
    refine x_perm (ws2 := [(h_t, .inr (0, [.ref h_t_parts, .ref h_t_ways, .int t_edges, .int t_hasDark])), (h_t_parts, aI T 6 t_parts), (h_t_ways, aJ T 16 t_ways_22)]) X [0, 1, 2] rfl rfl ?_
    refine x_lmul X dX1_splitNext_25 ?_
    exact hret _ _ _ _ dX1_splitNext_26 ⟨t_parts, t_ways_22, rfl, h⟩
  have k37 : ∀ (n37 : Nat) (x1 : Int32) (x2 : Int32) (x4 : Int64) (x6 : Int64) (x8 : Int32) (t_parts : Nat → Int32) (t_ways : Nat → Int64), F_X1_splitNext_37 FA t_edges t_hasDark post n37 x1 x2 x4 x6 x8 t_parts t_ways → G 0 0 37 [(0, .ref h_t), (1, .int x1), (2, .int x2), (4, .long x4), (6, .long x6), (8, .int x8)] [] [(h_t, .inr (0, [.ref h_t_parts, .ref h_t_ways, .int t_edges, .int t_hasDark])), (h_t_parts, aI T 6 t_parts), (h_t_ways, aJ T 16 t_ways)] := by
    intro n37
    induction n37 with
    | zero => intro x1 x2 x4 x6 x8 t_parts t_ways h; exact h.elim
    | succ n37 ih37 =>
      intro x1 x2 x4 x6 x8 t_parts t_ways h
      rw [F_X1_splitNext_37] at h
      refine x_iload X dX1_splitNext_37 5 rfl ?_
      refine x_if_le (tgt := 63) X dX1_splitNext_39 (by decide) (fun hc => ?_) (fun hc => ?_)
      · have h := h.1 hc
        refine x_lload X dX1_splitNext_63 4 rfl ?_
        exact hret _ _ _ _ dX1_splitNext_65 ⟨t_parts, t_ways, rfl, h⟩
      · have h := h.2 hc
        refine x_lload X dX1_splitNext_42 4 rfl ?_
        refine x_aload_n X dX1_splitNext_44 0 rfl ?_
        refine x_iload X dX1_splitNext_45 5 rfl ?_
        refine x_iload_n X dX1_splitNext_47 1 rfl ?_
        refine x_iload_n X dX1_splitNext_48 2 rfl ?_
        refine x_lload X dX1_splitNext_49 3 rfl ?_
        refine x_callVJ (av := [.int x8, .int x1, .int x2, .long x4]) (st := [.long x6]) (wr := []) X (c_X1_split l D T h_t h_t_parts h_t_ways FA (2 * d + 3) (53 * d + 97) ih t_edges t_hasDark t_parts t_ways x8 x1 x2 x4 _ h) yk_X1_split tw_1230 dX1_splitNext_51 0 rfl rfl [0, 1, 2] [] rfl rfl rfl rfl (by decide) rfl rfl (Nat.le_of_ble_eq_true rfl) (by dsimp only [eR]; omega) (by dsimp only [eR]; omega) (Nat.zero_le _) (Nat.zero_le _) (fun r51 w1 hw => ?_)
        obtain ⟨t_parts_51, t_ways_51, rfl, h⟩ := hw
        refine x_perm (ws2 := [(h_t, .inr (0, [.ref h_t_parts, .ref h_t_ways, .int t_edges, .int t_hasDark])), (h_t_parts, aI T 6 t_parts_51), (h_t_ways, aJ T 16 t_ways_51)]) X [0, 1, 2] rfl rfl ?_
        refine x_ladd X dX1_splitNext_54 ?_
        refine x_lstore (lv' := [(6, .long (x6 + r51)), (0, .ref h_t), (1, .int x1), (2, .int x2), (4, .long x4), (8, .int x8)]) X dX1_splitNext_55 (by decide) rfl ?_
        refine x_iinc (v := (x8 + (-1))) (lv' := [(8, .int (x8 + (-1))), (6, .long (x6 + r51)), (0, .ref h_t), (1, .int x1), (2, .int x2), (4, .long x4)]) X dX1_splitNext_57 5 rfl rfl (by decide) rfl ?_
        refine x_goto (tgt := 37) X dX1_splitNext_60 (by decide) ?_
        exact x_sub X [2, 3, 4, 5, 1, 0] rfl (ih37 x1 x2 x4 (x6 + r51) (x8 + (-1)) t_parts_51 t_ways_51 h)
  refine x_iload_n X dX1_splitNext_0 2 rfl ?_
  refine x_if_le (tgt := 13) X dX1_splitNext_1 (by decide) (fun hc => ?_) (fun hc => ?_)
  · have h := h.1 hc
    exact x_sub X [0, 1, 4] rfl (k13 p1 p4 t_parts t_ways h)
  · have h := h.2 hc
    refine x_iload_n X dX1_splitNext_4 1 rfl ?_
    refine x_aload_n X dX1_splitNext_5 0 rfl ?_
    refine x_get X inGX1 0 (by decide) rfl tw_303 dX1_splitNext_6 rfl 0 rfl rfl ?_
    refine x_alen (v := (6 : Int32)) X dX1_splitNext_9 1 1 rfl rfl rfl ?_
    refine x_icmp_lt (tgt := 27) X dX1_splitNext_10 (by decide) (fun hc => ?_) (fun hc => ?_)
    · have h := h.1 hc
      refine x_lconst (v := 0) X dX1_splitNext_27 (by decide) ?_
      refine x_lstore (lv' := [(6, .long (0 : Int64)), (0, .ref h_t), (1, .int p1), (2, .int p2), (3, .int p3), (4, .long p4)]) X dX1_splitNext_28 (by decide) rfl ?_
      refine x_iload_n X dX1_splitNext_30 3 rfl ?_
      refine x_iload_n X dX1_splitNext_31 4 rfl ?_
      refine x_mmin X tw_1229 tw_353 tw_12 tw_354 (by dsimp only [eR]; omega) (by dsimp only [eR]; omega) (Nat.le_of_ble_eq_true rfl) (Nat.zero_le _) (Nat.zero_le _) dX1_splitNext_32 ?_
      refine x_istore (lv' := [(8, .int (if p3 < p2 then p3 else p2)), (6, .long (0 : Int64)), (0, .ref h_t), (1, .int p1), (2, .int p2), (3, .int p3), (4, .long p4)]) X dX1_splitNext_35 (by decide) rfl ?_
      obtain ⟨n37, h⟩ := h
      exact x_sub X [2, 3, 4, 6, 1, 0] rfl (k37 n37 p1 p2 p4 (0 : Int64) (if p3 < p2 then p3 else p2) t_parts t_ways h)
    · have h := h.2 hc
      exact x_sub X [0, 1, 4] rfl (k13 p1 p4 t_parts t_ways h)
theorem dX1_unlikeNets_0 : decode cX1_unlikeNets 0 = .ok (.aload_n 0, 1) := by decide +kernel
theorem dX1_unlikeNets_1 : decode cX1_unlikeNets 1 = .ok (.iload_n 2, 1) := by decide +kernel
theorem dX1_unlikeNets_2 : decode cX1_unlikeNets 2 = .ok (.putfield 19, 3) := by decide +kernel
theorem dX1_unlikeNets_5 : decode cX1_unlikeNets 5 = .ok (.aload_n 0, 1) := by decide +kernel
theorem dX1_unlikeNets_6 : decode cX1_unlikeNets 6 = .ok (.iload_n 3, 1) := by decide +kernel
theorem dX1_unlikeNets_7 : decode cX1_unlikeNets 7 = .ok (.putfield 23, 3) := by decide +kernel
theorem dX1_unlikeNets_10 : decode cX1_unlikeNets 10 = .ok (.aload_n 0, 1) := by decide +kernel
theorem dX1_unlikeNets_11 : decode cX1_unlikeNets 11 = .ok (.iconst 0, 1) := by decide +kernel
theorem dX1_unlikeNets_12 : decode cX1_unlikeNets 12 = .ok (.iload_n 1, 1) := by decide +kernel
theorem dX1_unlikeNets_13 : decode cX1_unlikeNets 13 = .ok (.iload_n 1, 1) := by decide +kernel
theorem dX1_unlikeNets_14 : decode cX1_unlikeNets 14 = .ok (.iload_n 1, 1) := by decide +kernel
theorem dX1_unlikeNets_15 : decode cX1_unlikeNets 15 = .ok (.invokestatic 27, 3) := by decide +kernel
theorem dX1_unlikeNets_18 : decode cX1_unlikeNets 18 = .ok (.invokevirtual 31, 3) := by decide +kernel
theorem dX1_unlikeNets_21 : decode cX1_unlikeNets 21 = .ok (.lconst 1, 1) := by decide +kernel
theorem dX1_unlikeNets_22 : decode cX1_unlikeNets 22 = .ok (.iload_n 1, 1) := by decide +kernel
theorem dX1_unlikeNets_23 : decode cX1_unlikeNets 23 = .ok (.invokestatic 27, 3) := by decide +kernel
theorem dX1_unlikeNets_26 : decode cX1_unlikeNets 26 = .ok (.invokestatic 35, 3) := by decide +kernel
theorem dX1_unlikeNets_29 : decode cX1_unlikeNets 29 = .ok (.ldiv, 1) := by decide +kernel
theorem dX1_unlikeNets_30 : decode cX1_unlikeNets 30 = .ok (.lreturn, 1) := by decide +kernel
set_option maxHeartbeats 4000000 in
set_option maxRecDepth 100000 in
theorem c_X1_unlikeNets (l : Launch) (D : eD) (T : Nat → ClassId) (h_t h_t_parts h_t_ways : Nat) (t_edges : Int32) (t_hasDark : Int32) (t_parts : Nat → Int32) (t_ways : Nat → Int64) (p1 : Int32) (p2 : Int32) (p3 : Int32) (post : Int64 → Int32 → Int32 → (Nat → Int32) → (Nat → Int64) → Prop) (h : F_X1_unlikeNets t_edges t_hasDark t_parts t_ways p1 p2 p3 post) : cJ l D T yX1_unlikeNets cX1_unlikeNets 4 (some .long) 24 655 0 0 [.ref h_t, .int p1, .int p2, .int p3] [(h_t, .inr (0, [.ref h_t_parts, .ref h_t_ways, .int t_edges, .int t_hasDark])), (h_t_parts, aI T 6 t_parts), (h_t_ways, aJ T 16 t_ways)] (fun r w1 => ∃ (t_edges1 : Int32) (t_hasDark1 : Int32) (t_parts1 : Nat → Int32) (t_ways1 : Nat → Int64), w1 = [(h_t, .inr (0, [.ref h_t_parts, .ref h_t_ways, .int t_edges1, .int t_hasDark1])), (h_t_parts, aI T 6 t_parts1), (h_t_ways, aJ T 16 t_ways1)] ∧ post r t_edges1 t_hasDark1 t_parts1 t_ways1) := by
  refine xJ_of (by decide +kernel) (Nat.le_of_ble_eq_true rfl) rfl ?_
  intro G X hret
  change G 0 0 0 [(0, .ref h_t), (1, .int p1), (2, .int p2), (3, .int p3)] [] [(h_t, .inr (0, [.ref h_t_parts, .ref h_t_ways, .int t_edges, .int t_hasDark])), (h_t_parts, aI T 6 t_parts), (h_t_ways, aJ T 16 t_ways)]
  unfold F_X1_unlikeNets at h
  refine x_aload_n X dX1_unlikeNets_0 0 rfl ?_
  refine x_iload_n X dX1_unlikeNets_1 2 rfl ?_
  refine x_put (ws' := [(h_t, .inr (0, [.ref h_t_parts, .ref h_t_ways, .int p2, .int t_hasDark])), (h_t_parts, aI T 6 t_parts), (h_t_ways, aJ T 16 t_ways)]) X inGX1 tyX1_ok nmX1 2 (by decide) rfl tw_305 dX1_unlikeNets_2 rfl rfl 0 rfl rfl rfl (Nat.le_of_ble_eq_true rfl) rfl ?_
  refine x_aload_n X dX1_unlikeNets_5 0 rfl ?_
  refine x_iload_n X dX1_unlikeNets_6 3 rfl ?_
  obtain ⟨hz, h⟩ := h
  refine x_put (ws' := [(h_t, .inr (0, [.ref h_t_parts, .ref h_t_ways, .int p2, .int p3])), (h_t_parts, aI T 6 t_parts), (h_t_ways, aJ T 16 t_ways)]) X inGX1 tyX1_ok nmX1 3 (by decide) rfl tw_306 dX1_unlikeNets_7 rfl rfl 0 rfl (e_nz hz) (e_fz hz) (Nat.le_of_ble_eq_true rfl) rfl ?_
  refine x_aload_n X dX1_unlikeNets_10 0 rfl ?_
  refine x_iconst (v := 0) X dX1_unlikeNets_11 (by decide) ?_
  refine x_iload_n X dX1_unlikeNets_12 1 rfl ?_
  refine x_iload_n X dX1_unlikeNets_13 1 rfl ?_
  refine x_iload_n X dX1_unlikeNets_14 1 rfl ?_
  refine x_callSJ (av := [.int p1]) (st := [.int p1, .int p1, .int (0 : Int32), .ref h_t]) (wr := [(h_t, .inr (0, [.ref h_t_parts, .ref h_t_ways, .int p2, .int p3])), (h_t_parts, aI T 6 t_parts), (h_t_ways, aJ T 16 t_ways)]) X (c_X1_orders l D T  p1 _ h) yk_X1_orders tw_1202 dX1_unlikeNets_15 [] [0, 1, 2] rfl rfl rfl rfl (by decide) rfl rfl (Nat.le_of_ble_eq_true rfl) (Nat.le_of_ble_eq_true rfl) (Nat.le_of_ble_eq_true rfl) (Nat.zero_le _) (Nat.zero_le _) (fun r15 w1 hw => ?_)
  obtain ⟨rfl, h⟩ := hw
  refine x_perm (ws2 := [(h_t, .inr (0, [.ref h_t_parts, .ref h_t_ways, .int p2, .int p3])), (h_t_parts, aI T 6 t_parts), (h_t_ways, aJ T 16 t_ways)]) X [0, 1, 2] rfl rfl ?_
  refine x_callVJ (av := [.int (0 : Int32), .int p1, .int p1, .long r15]) (st := []) (wr := []) X (c_X1_splitNext l D T h_t h_t_parts h_t_ways 10 p2 p3 t_parts t_ways (0 : Int32) p1 p1 r15 _ h) yk_X1_splitNext tw_1203 dX1_unlikeNets_18 0 rfl rfl [0, 1, 2] [] rfl rfl rfl rfl (by decide) rfl rfl (Nat.le_of_ble_eq_true rfl) (Nat.le_of_ble_eq_true rfl) (Nat.le_of_ble_eq_true rfl) (Nat.zero_le _) (Nat.zero_le _) (fun r18 w1 hw => ?_)
  obtain ⟨t_parts_18, t_ways_18, rfl, h⟩ := hw
  refine x_perm (ws2 := [(h_t, .inr (0, [.ref h_t_parts, .ref h_t_ways, .int p2, .int p3])), (h_t_parts, aI T 6 t_parts_18), (h_t_ways, aJ T 16 t_ways_18)]) X [0, 1, 2] rfl rfl ?_
  refine x_lconst (v := 1) X dX1_unlikeNets_21 (by decide) ?_
  refine x_iload_n X dX1_unlikeNets_22 1 rfl ?_
  refine x_callSJ (av := [.int p1]) (st := [.long (1 : Int64), .long r18]) (wr := [(h_t, .inr (0, [.ref h_t_parts, .ref h_t_ways, .int p2, .int p3])), (h_t_parts, aI T 6 t_parts_18), (h_t_ways, aJ T 16 t_ways_18)]) X (c_X1_orders l D T  p1 _ h) yk_X1_orders tw_1202 dX1_unlikeNets_23 [] [0, 1, 2] rfl rfl rfl rfl (by decide) rfl rfl (Nat.le_of_ble_eq_true rfl) (Nat.le_of_ble_eq_true rfl) (Nat.le_of_ble_eq_true rfl) (Nat.zero_le _) (Nat.zero_le _) (fun r23 w1 hw => ?_)
  obtain ⟨rfl, h⟩ := hw
  refine x_perm (ws2 := [(h_t, .inr (0, [.ref h_t_parts, .ref h_t_ways, .int p2, .int p3])), (h_t_parts, aI T 6 t_parts_18), (h_t_ways, aJ T 16 t_ways_18)]) X [0, 1, 2] rfl rfl ?_
  refine x_lmmax X tw_1234 tw_1174 tw_12 tw_1175 (Nat.le_of_ble_eq_true rfl) (Nat.le_of_ble_eq_true rfl) (Nat.le_of_ble_eq_true rfl) (Nat.zero_le _) (Nat.zero_le _) dX1_unlikeNets_26 ?_
  obtain ⟨hne, h⟩ := h
  refine x_ldiv X dX1_unlikeNets_29 hne ?_
  exact hret _ _ _ _ dX1_unlikeNets_30 ⟨p2, p3, t_parts_18, t_ways_18, rfl, h⟩
