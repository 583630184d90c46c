/-! OrderlyNets$Walkers: decode rows (printed), and each method kept by its F -/
theorem dX10_put_0 : decode cX10_put 0 = .ok (.aload_n 0, 1) := by decide +kernel
theorem dX10_put_1 : decode cX10_put 1 = .ok (.ifnull 17, 3) := by decide +kernel
theorem dX10_put_4 : decode cX10_put 4 = .ok (.iload_n 1, 1) := by decide +kernel
theorem dX10_put_5 : decode cX10_put 5 = .ok (.ifCond .lt 13, 3) := by decide +kernel
theorem dX10_put_8 : decode cX10_put 8 = .ok (.iload_n 1, 1) := by decide +kernel
theorem dX10_put_9 : decode cX10_put 9 = .ok (.aload_n 0, 1) := by decide +kernel
theorem dX10_put_10 : decode cX10_put 10 = .ok (.arraylength, 1) := by decide +kernel
theorem dX10_put_11 : decode cX10_put 11 = .ok (.if_icmp .ge 7, 3) := by decide +kernel
theorem dX10_put_14 : decode cX10_put 14 = .ok (.aload_n 0, 1) := by decide +kernel
theorem dX10_put_15 : decode cX10_put 15 = .ok (.iload_n 1, 1) := by decide +kernel
theorem dX10_put_16 : decode cX10_put 16 = .ok (.iload_n 2, 1) := by decide +kernel
theorem dX10_put_17 : decode cX10_put 17 = .ok (.iastore, 1) := by decide +kernel
theorem dX10_put_18 : decode cX10_put 18 = .ok (.return_, 1) := by decide +kernel
set_option maxHeartbeats 4000000 in
set_option maxRecDepth 100000 in
theorem c_X10_put (l : Launch) (D : eD) (T : Nat → ClassId) (h_p0 : Nat) (n_p0 : Nat) (p0 : Nat → Int32) (p1 : Int32) (p2 : Int32) (post : (Nat → Int32) → Prop) (h : F_X10_put n_p0 p0 p1 p2 post) : cV l D T yX10_put cX10_put 3 none 0 0 0 0 [.ref h_p0, .int p1, .int p2] [(h_p0, aI T n_p0 p0)] (fun w1 => ∃ (p01 : Nat → Int32), w1 = [(h_p0, aI T n_p0 p01)] ∧ post p01) := by
  refine xV_of (by decide +kernel) (Nat.le_of_ble_eq_true rfl) rfl ?_
  intro G X hret
  change G 0 0 0 [(0, .ref h_p0), (1, .int p1), (2, .int p2)] [] [(h_p0, aI T n_p0 p0)]
  unfold F_X10_put at h
  have k18 : ∀ (p0 : Nat → Int32), F_X10_put_18 n_p0 post p0 → G 0 0 18 [] [] [(h_p0, aI T n_p0 p0)] := by
    intro p0 h
    unfold F_X10_put_18 at h
    exact hret _ _ _ dX10_put_18 ⟨p0, rfl, h⟩
  refine x_aload_n X dX10_put_0 0 rfl ?_
  refine x_ifnull X dX10_put_1 ?_
  refine x_iload_n X dX10_put_4 1 rfl ?_
  refine x_if_lt (tgt := 18) X dX10_put_5 (by decide) (fun hc => ?_) (fun hc => ?_)
  · have h := h.1 hc
    exact x_sub X [] rfl (k18 p0 h)
  · have h := h.2 hc
    refine x_iload_n X dX10_put_8 1 rfl ?_
    refine x_aload_n X dX10_put_9 0 rfl ?_
    refine x_alen (v := (Int32.ofNat n_p0)) X dX10_put_10 0 1 rfl rfl rfl ?_
    refine x_icmp_ge (tgt := 18) X dX10_put_11 (by decide) (fun hc => ?_) (fun hc => ?_)
    · have h := h.1 hc
      exact x_sub X [] rfl (k18 p0 h)
    · have h := h.2 hc
      refine x_aload_n X dX10_put_14 0 rfl ?_
      refine x_iload_n X dX10_put_15 1 rfl ?_
      refine x_iload_n X dX10_put_16 2 rfl ?_
      obtain ⟨hi, h⟩ := h
      refine x_iast (ws' := [(h_p0, aI T n_p0 (upd p0 p1.toNatClampNeg p2))]) X dX10_put_17 0 rfl hi rfl ?_
      exact x_sub X [] rfl (k18 (upd p0 p1.toNatClampNeg p2) h)
theorem dX10_give_0 : decode cX10_give 0 = .ok (.aload_n 0, 1) := by decide +kernel
theorem dX10_give_1 : decode cX10_give 1 = .ok (.getfield 9, 3) := by decide +kernel
theorem dX10_give_4 : decode cX10_give 4 = .ok (.iload_n 1, 1) := by decide +kernel
theorem dX10_give_5 : decode cX10_give 5 = .ok (.iload_n 2, 1) := by decide +kernel
theorem dX10_give_6 : decode cX10_give 6 = .ok (.invokestatic 34, 3) := by decide +kernel
theorem dX10_give_9 : decode cX10_give 9 = .ok (.aload_n 0, 1) := by decide +kernel
theorem dX10_give_10 : decode cX10_give 10 = .ok (.getfield 15, 3) := by decide +kernel
theorem dX10_give_13 : decode cX10_give 13 = .ok (.iload_n 1, 1) := by decide +kernel
theorem dX10_give_14 : decode cX10_give 14 = .ok (.iload_n 3, 1) := by decide +kernel
theorem dX10_give_15 : decode cX10_give 15 = .ok (.invokestatic 34, 3) := by decide +kernel
theorem dX10_give_18 : decode cX10_give 18 = .ok (.aload_n 0, 1) := by decide +kernel
theorem dX10_give_19 : decode cX10_give 19 = .ok (.getfield 18, 3) := by decide +kernel
theorem dX10_give_22 : decode cX10_give 22 = .ok (.iload_n 1, 1) := by decide +kernel
theorem dX10_give_23 : decode cX10_give 23 = .ok (.iload 4, 2) := by decide +kernel
theorem dX10_give_25 : decode cX10_give 25 = .ok (.invokestatic 34, 3) := by decide +kernel
theorem dX10_give_28 : decode cX10_give 28 = .ok (.aload_n 0, 1) := by decide +kernel
theorem dX10_give_29 : decode cX10_give 29 = .ok (.getfield 21, 3) := by decide +kernel
theorem dX10_give_32 : decode cX10_give 32 = .ok (.iload_n 1, 1) := by decide +kernel
theorem dX10_give_33 : decode cX10_give 33 = .ok (.iconst 0, 1) := by decide +kernel
theorem dX10_give_34 : decode cX10_give 34 = .ok (.invokestatic 34, 3) := by decide +kernel
theorem dX10_give_37 : decode cX10_give 37 = .ok (.return_, 1) := by decide +kernel
set_option maxHeartbeats 4000000 in
set_option maxRecDepth 100000 in
theorem c_X10_give (l : Launch) (D : eD) (T : Nat → ClassId) (h_t h_t_depths h_t_allParts h_t_ownParts h_t_lists : Nat) (t_allParts : Nat → Int32) (t_depths : Nat → Int32) (t_lists : Nat → Int32) (t_ownParts : Nat → Int32) (p1 : Int32) (p2 : Int32) (p3 : Int32) (p4 : Int32) (post : (Nat → Int32) → (Nat → Int32) → (Nat → Int32) → (Nat → Int32) → Prop) (h : F_X10_give t_allParts t_depths t_lists t_ownParts p1 p2 p3 p4 post) : cV l D T yX10_give cX10_give 5 none 1 22 0 0 [.ref h_t, .int p1, .int p2, .int p3, .int p4] [(h_t, .inr (9, [.ref h_t_depths, .ref h_t_allParts, .ref h_t_ownParts, .ref h_t_lists])), (h_t_allParts, aI T 3 t_allParts), (h_t_depths, aI T 3 t_depths), (h_t_lists, aI T 3 t_lists), (h_t_ownParts, aI T 3 t_ownParts)] (fun w1 => ∃ (t_allParts1 : Nat → Int32) (t_depths1 : Nat → Int32) (t_lists1 : Nat → Int32) (t_ownParts1 : Nat → Int32), w1 = [(h_t, .inr (9, [.ref h_t_depths, .ref h_t_allParts, .ref h_t_ownParts, .ref h_t_lists])), (h_t_allParts, aI T 3 t_allParts1), (h_t_depths, aI T 3 t_depths1), (h_t_lists, aI T 3 t_lists1), (h_t_ownParts, aI T 3 t_ownParts1)] ∧ post t_allParts1 t_depths1 t_lists1 t_ownParts1) := by
  refine xV_of (by decide +kernel) (Nat.le_of_ble_eq_true rfl) rfl ?_
  intro G X hret
  change G 0 0 0 [(0, .ref h_t), (1, .int p1), (2, .int p2), (3, .int p3), (4, .int p4)] [] [(h_t, .inr (9, [.ref h_t_depths, .ref h_t_allParts, .ref h_t_ownParts, .ref h_t_lists])), (h_t_allParts, aI T 3 t_allParts), (h_t_depths, aI T 3 t_depths), (h_t_lists, aI T 3 t_lists), (h_t_ownParts, aI T 3 t_ownParts)]
  unfold F_X10_give at h
  refine x_aload_n X dX10_give_0 0 rfl ?_
  refine x_get X inGX10 0 (by decide) rfl tw_157 dX10_give_1 rfl 0 rfl rfl ?_
  refine x_iload_n X dX10_give_4 1 rfl ?_
  refine x_iload_n X dX10_give_5 2 rfl ?_
  refine x_callSV (av := [.ref h_t_depths, .int p1, .int p2]) (st := []) (wr := [(h_t, .inr (9, [.ref h_t_depths, .ref h_t_allParts, .ref h_t_ownParts, .ref h_t_lists])), (h_t_allParts, aI T 3 t_allParts), (h_t_lists, aI T 3 t_lists), (h_t_ownParts, aI T 3 t_ownParts)]) X (c_X10_put l D T h_t_depths 3 t_depths p1 p2 _ h) yk_X10_put tw_838 dX10_give_6 [2] [0, 1, 3, 4] rfl rfl rfl rfl (by decide) rfl rfl (Nat.le_of_ble_eq_true rfl) (Nat.le_of_ble_eq_true rfl) (Nat.le_of_ble_eq_true rfl) (Nat.zero_le _) (Nat.zero_le _) (fun w1 hw => ?_)
  obtain ⟨t_depths_6, rfl, h⟩ := hw
  refine x_perm (ws2 := [(h_t, .inr (9, [.ref h_t_depths, .ref h_t_allParts, .ref h_t_ownParts, .ref h_t_lists])), (h_t_allParts, aI T 3 t_allParts), (h_t_depths, aI T 3 t_depths_6), (h_t_lists, aI T 3 t_lists), (h_t_ownParts, aI T 3 t_ownParts)]) X [0, 1, 4, 2, 3] rfl rfl ?_
  refine x_aload_n X dX10_give_9 0 rfl ?_
  refine x_get X inGX10 1 (by decide) rfl tw_158 dX10_give_10 rfl 0 rfl rfl ?_
  refine x_iload_n X dX10_give_13 1 rfl ?_
  refine x_iload_n X dX10_give_14 3 rfl ?_
  refine x_callSV (av := [.ref h_t_allParts, .int p1, .int p3]) (st := []) (wr := [(h_t, .inr (9, [.ref h_t_depths, .ref h_t_allParts, .ref h_t_ownParts, .ref h_t_lists])), (h_t_depths, aI T 3 t_depths_6), (h_t_lists, aI T 3 t_lists), (h_t_ownParts, aI T 3 t_ownParts)]) X (c_X10_put l D T h_t_allParts 3 t_allParts p1 p3 _ h) yk_X10_put tw_838 dX10_give_15 [1] [0, 2, 3, 4] rfl rfl rfl rfl (by decide) rfl rfl (Nat.le_of_ble_eq_true rfl) (Nat.le_of_ble_eq_true rfl) (Nat.le_of_ble_eq_true rfl) (Nat.zero_le _) (Nat.zero_le _) (fun w1 hw => ?_)
  obtain ⟨t_allParts_15, rfl, h⟩ := hw
  refine x_perm (ws2 := [(h_t, .inr (9, [.ref h_t_depths, .ref h_t_allParts, .ref h_t_ownParts, .ref h_t_lists])), (h_t_allParts, aI T 3 t_allParts_15), (h_t_depths, aI T 3 t_depths_6), (h_t_lists, aI T 3 t_lists), (h_t_ownParts, aI T 3 t_ownParts)]) X [0, 4, 1, 2, 3] rfl rfl ?_
  refine x_aload_n X dX10_give_18 0 rfl ?_
  refine x_get X inGX10 2 (by decide) rfl tw_159 dX10_give_19 rfl 0 rfl rfl ?_
  refine x_iload_n X dX10_give_22 1 rfl ?_
  refine x_iload X dX10_give_23 4 rfl ?_
  refine x_callSV (av := [.ref h_t_ownParts, .int p1, .int p4]) (st := []) (wr := [(h_t, .inr (9, [.ref h_t_depths, .ref h_t_allParts, .ref h_t_ownParts, .ref h_t_lists])), (h_t_allParts, aI T 3 t_allParts_15), (h_t_depths, aI T 3 t_depths_6), (h_t_lists, aI T 3 t_lists)]) X (c_X10_put l D T h_t_ownParts 3 t_ownParts p1 p4 _ h) yk_X10_put tw_838 dX10_give_25 [4] [0, 1, 2, 3] rfl rfl rfl rfl (by decide) rfl rfl (Nat.le_of_ble_eq_true rfl) (Nat.le_of_ble_eq_true rfl) (Nat.le_of_ble_eq_true rfl) (Nat.zero_le _) (Nat.zero_le _) (fun w1 hw => ?_)
  obtain ⟨t_ownParts_25, rfl, h⟩ := hw
  refine x_perm (ws2 := [(h_t, .inr (9, [.ref h_t_depths, .ref h_t_allParts, .ref h_t_ownParts, .ref h_t_lists])), (h_t_allParts, aI T 3 t_allParts_15), (h_t_depths, aI T 3 t_depths_6), (h_t_lists, aI T 3 t_lists), (h_t_ownParts, aI T 3 t_ownParts_25)]) X [0, 1, 2, 3, 4] rfl rfl ?_
  refine x_aload_n X dX10_give_28 0 rfl ?_
  refine x_get X inGX10 3 (by decide) rfl tw_160 dX10_give_29 rfl 0 rfl rfl ?_
  refine x_iload_n X dX10_give_32 1 rfl ?_
  refine x_iconst (v := 0) X dX10_give_33 (by decide) ?_
  refine x_callSV (av := [.ref h_t_lists, .int p1, .int (0 : Int32)]) (st := []) (wr := [(h_t, .inr (9, [.ref h_t_depths, .ref h_t_allParts, .ref h_t_ownParts, .ref h_t_lists])), (h_t_allParts, aI T 3 t_allParts_15), (h_t_depths, aI T 3 t_depths_6), (h_t_ownParts, aI T 3 t_ownParts_25)]) X (c_X10_put l D T h_t_lists 3 t_lists p1 (0 : Int32) _ h) yk_X10_put tw_838 dX10_give_34 [3] [0, 1, 2, 4] rfl rfl rfl rfl (by decide) rfl rfl (Nat.le_of_ble_eq_true rfl) (Nat.le_of_ble_eq_true rfl) (Nat.le_of_ble_eq_true rfl) (Nat.zero_le _) (Nat.zero_le _) (fun w1 hw => ?_)
  obtain ⟨t_lists_34, rfl, h⟩ := hw
  refine x_perm (ws2 := [(h_t, .inr (9, [.ref h_t_depths, .ref h_t_allParts, .ref h_t_ownParts, .ref h_t_lists])), (h_t_allParts, aI T 3 t_allParts_15), (h_t_depths, aI T 3 t_depths_6), (h_t_lists, aI T 3 t_lists_34), (h_t_ownParts, aI T 3 t_ownParts_25)]) X [0, 1, 2, 4, 3] rfl rfl ?_
  exact hret _ _ _ dX10_give_37 ⟨t_allParts_15, t_depths_6, t_lists_34, t_ownParts_25, rfl, h⟩
theorem dX10_clear_0 : decode cX10_clear 0 = .ok (.iconst 0, 1) := by decide +kernel
theorem dX10_clear_1 : decode cX10_clear 1 = .ok (.istore_n 1, 1) := by decide +kernel
theorem dX10_clear_2 : decode cX10_clear 2 = .ok (.iload_n 1, 1) := by decide +kernel
theorem dX10_clear_3 : decode cX10_clear 3 = .ok (.iconst 3, 1) := by decide +kernel
theorem dX10_clear_4 : decode cX10_clear 4 = .ok (.if_icmp .ge 17, 3) := by decide +kernel
theorem dX10_clear_7 : decode cX10_clear 7 = .ok (.aload_n 0, 1) := by decide +kernel
theorem dX10_clear_8 : decode cX10_clear 8 = .ok (.iload_n 1, 1) := by decide +kernel
theorem dX10_clear_9 : decode cX10_clear 9 = .ok (.iconst 0, 1) := by decide +kernel
theorem dX10_clear_10 : decode cX10_clear 10 = .ok (.iconst 0, 1) := by decide +kernel
theorem dX10_clear_11 : decode cX10_clear 11 = .ok (.iconst 0, 1) := by decide +kernel
theorem dX10_clear_12 : decode cX10_clear 12 = .ok (.invokevirtual 24, 3) := by decide +kernel
theorem dX10_clear_15 : decode cX10_clear 15 = .ok (.iinc 1 1, 3) := by decide +kernel
theorem dX10_clear_18 : decode cX10_clear 18 = .ok (.goto (-16), 3) := by decide +kernel
theorem dX10_clear_21 : decode cX10_clear 21 = .ok (.return_, 1) := by decide +kernel
set_option maxHeartbeats 4000000 in
set_option maxRecDepth 100000 in
theorem c_X10_clear (l : Launch) (D : eD) (T : Nat → ClassId) (h_t h_t_depths h_t_allParts h_t_ownParts h_t_lists : Nat) (t_allParts : Nat → Int32) (t_depths : Nat → Int32) (t_lists : Nat → Int32) (t_ownParts : Nat → Int32) (post : (Nat → Int32) → (Nat → Int32) → (Nat → Int32) → (Nat → Int32) → Prop) (h : F_X10_clear t_allParts t_depths t_lists t_ownParts post) : cV l D T yX10_clear cX10_clear 2 none 2 46 0 0 [.ref h_t] [(h_t, .inr (9, [.ref h_t_depths, .ref h_t_allParts, .ref h_t_ownParts, .ref h_t_lists])), (h_t_allParts, aI T 3 t_allParts), (h_t_depths, aI T 3 t_depths), (h_t_lists, aI T 3 t_lists), (h_t_ownParts, aI T 3 t_ownParts)] (fun w1 => ∃ (t_allParts1 : Nat → Int32) (t_depths1 : Nat → Int32) (t_lists1 : Nat → Int32) (t_ownParts1 : Nat → Int32), w1 = [(h_t, .inr (9, [.ref h_t_depths, .ref h_t_allParts, .ref h_t_ownParts, .ref h_t_lists])), (h_t_allParts, aI T 3 t_allParts1), (h_t_depths, aI T 3 t_depths1), (h_t_lists, aI T 3 t_lists1), (h_t_ownParts, aI T 3 t_ownParts1)] ∧ post t_allParts1 t_depths1 t_lists1 t_ownParts1) := by
  refine xV_of (by decide +kernel) (Nat.le_of_ble_eq_true rfl) rfl ?_
  intro G X hret
  change G 0 0 0 [(0, .ref h_t)] [] [(h_t, .inr (9, [.ref h_t_depths, .ref h_t_allParts, .ref h_t_ownParts, .ref h_t_lists])), (h_t_allParts, aI T 3 t_allParts), (h_t_depths, aI T 3 t_depths), (h_t_lists, aI T 3 t_lists), (h_t_ownParts, aI T 3 t_ownParts)]
  unfold F_X10_clear at h
  have k2 : ∀ (n2 : Nat) (x1 : Int32) (t_allParts : Nat → Int32) (t_depths : Nat → Int32) (t_lists : Nat → Int32) (t_ownParts : Nat → Int32), F_X10_clear_2 post n2 x1 t_allParts t_depths t_lists t_ownParts → G 0 0 2 [(0, .ref h_t), (1, .int x1)] [] [(h_t, .inr (9, [.ref h_t_depths, .ref h_t_allParts, .ref h_t_ownParts, .ref h_t_lists])), (h_t_allParts, aI T 3 t_allParts), (h_t_depths, aI T 3 t_depths), (h_t_lists, aI T 3 t_lists), (h_t_ownParts, aI T 3 t_ownParts)] := by
    intro n2
    induction n2 with
    | zero => intro x1 t_allParts t_depths t_lists t_ownParts h; exact h.elim
    | succ n2 ih2 =>
      intro x1 t_allParts t_depths t_lists t_ownParts h
      rw [F_X10_clear_2] at h
      refine x_iload_n X dX10_clear_2 1 rfl ?_
      refine x_iconst (v := 3) X dX10_clear_3 (by decide) ?_
      refine x_icmp_ge (tgt := 21) X dX10_clear_4 (by decide) (fun hc => ?_) (fun hc => ?_)
      · have h := h.1 hc
        exact hret _ _ _ dX10_clear_21 ⟨t_allParts, t_depths, t_lists, t_ownParts, rfl, h⟩
      · have h := h.2 hc
        refine x_aload_n X dX10_clear_7 0 rfl ?_
        refine x_iload_n X dX10_clear_8 1 rfl ?_
        refine x_iconst (v := 0) X dX10_clear_9 (by decide) ?_
        refine x_iconst (v := 0) X dX10_clear_10 (by decide) ?_
        refine x_iconst (v := 0) X dX10_clear_11 (by decide) ?_
        refine x_callVV (av := [.int x1, .int (0 : Int32), .int (0 : Int32), .int (0 : Int32)]) (st := []) (wr := []) X (c_X10_give l D T h_t h_t_depths h_t_allParts h_t_ownParts h_t_lists t_allParts t_depths t_lists t_ownParts x1 (0 : Int32) (0 : Int32) (0 : Int32) _ h) yk_X10_give tw_834 dX10_clear_12 0 rfl rfl [0, 1, 2, 3, 4] [] rfl rfl rfl rfl (by decide) rfl rfl (Nat.le_of_ble_eq_true rfl) (Nat.le_of_ble_eq_true rfl) (Nat.le_of_ble_eq_true rfl) (Nat.zero_le _) (Nat.zero_le _) (fun w1 hw => ?_)
        obtain ⟨t_allParts_12, t_depths_12, t_lists_12, t_ownParts_12, rfl, h⟩ := hw
        refine x_perm (ws2 := [(h_t, .inr (9, [.ref h_t_depths, .ref h_t_allParts, .ref h_t_ownParts, .ref h_t_lists])), (h_t_allParts, aI T 3 t_allParts_12), (h_t_depths, aI T 3 t_depths_12), (h_t_lists, aI T 3 t_lists_12), (h_t_ownParts, aI T 3 t_ownParts_12)]) X [0, 1, 2, 3, 4] rfl rfl ?_
        refine x_iinc (v := (x1 + 1)) (lv' := [(1, .int (x1 + 1)), (0, .ref h_t)]) X dX10_clear_15 1 rfl rfl (by decide) rfl ?_
        refine x_goto (tgt := 2) X dX10_clear_18 (by decide) ?_
        exact x_sub X [1, 0] rfl (ih2 (x1 + 1) t_allParts_12 t_depths_12 t_lists_12 t_ownParts_12 h)
  refine x_iconst (v := 0) X dX10_clear_0 (by decide) ?_
  refine x_istore_n (lv' := [(1, .int (0 : Int32)), (0, .ref h_t)]) X dX10_clear_1 (by decide) rfl ?_
  obtain ⟨n2, h⟩ := h
  exact x_sub X [1, 0] rfl (k2 n2 (0 : Int32) t_allParts t_depths t_lists t_ownParts h)
theorem dX10_copyFrom_0 : decode cX10_copyFrom 0 = .ok (.aload_n 1, 1) := by decide +kernel
theorem dX10_copyFrom_1 : decode cX10_copyFrom 1 = .ok (.getfield 9, 3) := by decide +kernel
theorem dX10_copyFrom_4 : decode cX10_copyFrom 4 = .ok (.iconst 0, 1) := by decide +kernel
theorem dX10_copyFrom_5 : decode cX10_copyFrom 5 = .ok (.aload_n 0, 1) := by decide +kernel
theorem dX10_copyFrom_6 : decode cX10_copyFrom 6 = .ok (.getfield 9, 3) := by decide +kernel
theorem dX10_copyFrom_9 : decode cX10_copyFrom 9 = .ok (.iconst 0, 1) := by decide +kernel
theorem dX10_copyFrom_10 : decode cX10_copyFrom 10 = .ok (.iconst 3, 1) := by decide +kernel
theorem dX10_copyFrom_11 : decode cX10_copyFrom 11 = .ok (.invokestatic 28, 3) := by decide +kernel
theorem dX10_copyFrom_14 : decode cX10_copyFrom 14 = .ok (.aload_n 1, 1) := by decide +kernel
theorem dX10_copyFrom_15 : decode cX10_copyFrom 15 = .ok (.getfield 15, 3) := by decide +kernel
theorem dX10_copyFrom_18 : decode cX10_copyFrom 18 = .ok (.iconst 0, 1) := by decide +kernel
theorem dX10_copyFrom_19 : decode cX10_copyFrom 19 = .ok (.aload_n 0, 1) := by decide +kernel
theorem dX10_copyFrom_20 : decode cX10_copyFrom 20 = .ok (.getfield 15, 3) := by decide +kernel
theorem dX10_copyFrom_23 : decode cX10_copyFrom 23 = .ok (.iconst 0, 1) := by decide +kernel
theorem dX10_copyFrom_24 : decode cX10_copyFrom 24 = .ok (.iconst 3, 1) := by decide +kernel
theorem dX10_copyFrom_25 : decode cX10_copyFrom 25 = .ok (.invokestatic 28, 3) := by decide +kernel
theorem dX10_copyFrom_28 : decode cX10_copyFrom 28 = .ok (.aload_n 1, 1) := by decide +kernel
theorem dX10_copyFrom_29 : decode cX10_copyFrom 29 = .ok (.getfield 18, 3) := by decide +kernel
theorem dX10_copyFrom_32 : decode cX10_copyFrom 32 = .ok (.iconst 0, 1) := by decide +kernel
theorem dX10_copyFrom_33 : decode cX10_copyFrom 33 = .ok (.aload_n 0, 1) := by decide +kernel
theorem dX10_copyFrom_34 : decode cX10_copyFrom 34 = .ok (.getfield 18, 3) := by decide +kernel
theorem dX10_copyFrom_37 : decode cX10_copyFrom 37 = .ok (.iconst 0, 1) := by decide +kernel
theorem dX10_copyFrom_38 : decode cX10_copyFrom 38 = .ok (.iconst 3, 1) := by decide +kernel
theorem dX10_copyFrom_39 : decode cX10_copyFrom 39 = .ok (.invokestatic 28, 3) := by decide +kernel
theorem dX10_copyFrom_42 : decode cX10_copyFrom 42 = .ok (.aload_n 1, 1) := by decide +kernel
theorem dX10_copyFrom_43 : decode cX10_copyFrom 43 = .ok (.getfield 21, 3) := by decide +kernel
theorem dX10_copyFrom_46 : decode cX10_copyFrom 46 = .ok (.iconst 0, 1) := by decide +kernel
theorem dX10_copyFrom_47 : decode cX10_copyFrom 47 = .ok (.aload_n 0, 1) := by decide +kernel
theorem dX10_copyFrom_48 : decode cX10_copyFrom 48 = .ok (.getfield 21, 3) := by decide +kernel
theorem dX10_copyFrom_51 : decode cX10_copyFrom 51 = .ok (.iconst 0, 1) := by decide +kernel
theorem dX10_copyFrom_52 : decode cX10_copyFrom 52 = .ok (.iconst 3, 1) := by decide +kernel
theorem dX10_copyFrom_53 : decode cX10_copyFrom 53 = .ok (.invokestatic 28, 3) := by decide +kernel
theorem dX10_copyFrom_56 : decode cX10_copyFrom 56 = .ok (.return_, 1) := by decide +kernel
set_option maxHeartbeats 4000000 in
set_option maxRecDepth 100000 in
theorem c_X10_copyFrom (l : Launch) (D : eD) (T : Nat → ClassId) (h_p1 h_p1_depths h_p1_allParts h_p1_ownParts h_p1_lists h_t h_t_depths h_t_allParts h_t_ownParts h_t_lists : Nat) (p1_allParts : Nat → Int32) (p1_depths : Nat → Int32) (p1_lists : Nat → Int32) (p1_ownParts : Nat → Int32) (t_allParts : Nat → Int32) (t_depths : Nat → Int32) (t_lists : Nat → Int32) (t_ownParts : Nat → Int32) (post : (Nat → Int32) → (Nat → Int32) → (Nat → Int32) → (Nat → Int32) → Prop) (h : F_X10_copyFrom p1_allParts p1_depths p1_lists p1_ownParts t_allParts t_depths t_lists t_ownParts post) : cV l D T yX10_copyFrom cX10_copyFrom 2 none 1 50 0 0 [.ref h_t, .ref h_p1] [(h_p1, .inr (9, [.ref h_p1_depths, .ref h_p1_allParts, .ref h_p1_ownParts, .ref h_p1_lists])), (h_p1_allParts, aI T 3 p1_allParts), (h_p1_depths, aI T 3 p1_depths), (h_p1_lists, aI T 3 p1_lists), (h_p1_ownParts, aI T 3 p1_ownParts), (h_t, .inr (9, [.ref h_t_depths, .ref h_t_allParts, .ref h_t_ownParts, .ref h_t_lists])), (h_t_allParts, aI T 3 t_allParts), (h_t_depths, aI T 3 t_depths), (h_t_lists, aI T 3 t_lists), (h_t_ownParts, aI T 3 t_ownParts)] (fun w1 => ∃ (t_allParts1 : Nat → Int32) (t_depths1 : Nat → Int32) (t_lists1 : Nat → Int32) (t_ownParts1 : Nat → Int32), w1 = [(h_p1, .inr (9, [.ref h_p1_depths, .ref h_p1_allParts, .ref h_p1_ownParts, .ref h_p1_lists])), (h_p1_allParts, aI T 3 p1_allParts), (h_p1_depths, aI T 3 p1_depths), (h_p1_lists, aI T 3 p1_lists), (h_p1_ownParts, aI T 3 p1_ownParts), (h_t, .inr (9, [.ref h_t_depths, .ref h_t_allParts, .ref h_t_ownParts, .ref h_t_lists])), (h_t_allParts, aI T 3 t_allParts1), (h_t_depths, aI T 3 t_depths1), (h_t_lists, aI T 3 t_lists1), (h_t_ownParts, aI T 3 t_ownParts1)] ∧ post t_allParts1 t_depths1 t_lists1 t_ownParts1) := by
  refine xV_of (by decide +kernel) (Nat.le_of_ble_eq_true rfl) rfl ?_
  intro G X hret
  change G 0 0 0 [(0, .ref h_t), (1, .ref h_p1)] [] [(h_p1, .inr (9, [.ref h_p1_depths, .ref h_p1_allParts, .ref h_p1_ownParts, .ref h_p1_lists])), (h_p1_allParts, aI T 3 p1_allParts), (h_p1_depths, aI T 3 p1_depths), (h_p1_lists, aI T 3 p1_lists), (h_p1_ownParts, aI T 3 p1_ownParts), (h_t, .inr (9, [.ref h_t_depths, .ref h_t_allParts, .ref h_t_ownParts, .ref h_t_lists])), (h_t_allParts, aI T 3 t_allParts), (h_t_depths, aI T 3 t_depths), (h_t_lists, aI T 3 t_lists), (h_t_ownParts, aI T 3 t_ownParts)]
  unfold F_X10_copyFrom at h
  refine x_aload_n X dX10_copyFrom_0 1 rfl ?_
  refine x_get X inGX10 0 (by decide) rfl tw_157 dX10_copyFrom_1 rfl 0 rfl rfl ?_
  refine x_iconst (v := 0) X dX10_copyFrom_4 (by decide) ?_
  refine x_aload_n X dX10_copyFrom_5 0 rfl ?_
  refine x_get X inGX10 0 (by decide) rfl tw_157 dX10_copyFrom_6 rfl 5 rfl rfl ?_
  refine x_iconst (v := 0) X dX10_copyFrom_9 (by decide) ?_
  refine x_iconst (v := 3) X dX10_copyFrom_10 (by decide) ?_
  obtain ⟨⟨g1, g2, g3, g4, g5⟩, h⟩ := h
  refine x_acopy (ws' := [(h_p1, .inr (9, [.ref h_p1_depths, .ref h_p1_allParts, .ref h_p1_ownParts, .ref h_p1_lists])), (h_p1_allParts, aI T 3 p1_allParts), (h_p1_depths, aI T 3 p1_depths), (h_p1_lists, aI T 3 p1_lists), (h_p1_ownParts, aI T 3 p1_ownParts), (h_t, .inr (9, [.ref h_t_depths, .ref h_t_allParts, .ref h_t_ownParts, .ref h_t_lists])), (h_t_allParts, aI T 3 t_allParts), (h_t_depths, aI T 3 (va_cpy p1_depths t_depths (0 : Int32).toNatClampNeg (0 : Int32).toNatClampNeg (3 : Int32).toNatClampNeg)), (h_t_lists, aI T 3 t_lists), (h_t_ownParts, aI T 3 t_ownParts)]) X tw_581 tw_571 tw_570 tw_24 2 7 rfl rfl g1 g2 g3 g4 g5 (Nat.le_of_ble_eq_true rfl) (Nat.le_of_ble_eq_true rfl) (Nat.le_of_ble_eq_true rfl) dX10_copyFrom_11 rfl ?_
  refine x_aload_n X dX10_copyFrom_14 1 rfl ?_
  refine x_get X inGX10 1 (by decide) rfl tw_158 dX10_copyFrom_15 rfl 0 rfl rfl ?_
  refine x_iconst (v := 0) X dX10_copyFrom_18 (by decide) ?_
  refine x_aload_n X dX10_copyFrom_19 0 rfl ?_
  refine x_get X inGX10 1 (by decide) rfl tw_158 dX10_copyFrom_20 rfl 5 rfl rfl ?_
  refine x_iconst (v := 0) X dX10_copyFrom_23 (by decide) ?_
  refine x_iconst (v := 3) X dX10_copyFrom_24 (by decide) ?_
  obtain ⟨⟨g1, g2, g3, g4, g5⟩, h⟩ := h
  refine x_acopy (ws' := [(h_p1, .inr (9, [.ref h_p1_depths, .ref h_p1_allParts, .ref h_p1_ownParts, .ref h_p1_lists])), (h_p1_allParts, aI T 3 p1_allParts), (h_p1_depths, aI T 3 p1_depths), (h_p1_lists, aI T 3 p1_lists), (h_p1_ownParts, aI T 3 p1_ownParts), (h_t, .inr (9, [.ref h_t_depths, .ref h_t_allParts, .ref h_t_ownParts, .ref h_t_lists])), (h_t_allParts, aI T 3 (va_cpy p1_allParts t_allParts (0 : Int32).toNatClampNeg (0 : Int32).toNatClampNeg (3 : Int32).toNatClampNeg)), (h_t_depths, aI T 3 (va_cpy p1_depths t_depths (0 : Int32).toNatClampNeg (0 : Int32).toNatClampNeg (3 : Int32).toNatClampNeg)), (h_t_lists, aI T 3 t_lists), (h_t_ownParts, aI T 3 t_ownParts)]) X tw_581 tw_571 tw_570 tw_24 1 6 rfl rfl g1 g2 g3 g4 g5 (Nat.le_of_ble_eq_true rfl) (Nat.le_of_ble_eq_true rfl) (Nat.le_of_ble_eq_true rfl) dX10_copyFrom_25 rfl ?_
  refine x_aload_n X dX10_copyFrom_28 1 rfl ?_
  refine x_get X inGX10 2 (by decide) rfl tw_159 dX10_copyFrom_29 rfl 0 rfl rfl ?_
  refine x_iconst (v := 0) X dX10_copyFrom_32 (by decide) ?_
  refine x_aload_n X dX10_copyFrom_33 0 rfl ?_
  refine x_get X inGX10 2 (by decide) rfl tw_159 dX10_copyFrom_34 rfl 5 rfl rfl ?_
  refine x_iconst (v := 0) X dX10_copyFrom_37 (by decide) ?_
  refine x_iconst (v := 3) X dX10_copyFrom_38 (by decide) ?_
  obtain ⟨⟨g1, g2, g3, g4, g5⟩, h⟩ := h
  refine x_acopy (ws' := [(h_p1, .inr (9, [.ref h_p1_depths, .ref h_p1_allParts, .ref h_p1_ownParts, .ref h_p1_lists])), (h_p1_allParts, aI T 3 p1_allParts), (h_p1_depths, aI T 3 p1_depths), (h_p1_lists, aI T 3 p1_lists), (h_p1_ownParts, aI T 3 p1_ownParts), (h_t, .inr (9, [.ref h_t_depths, .ref h_t_allParts, .ref h_t_ownParts, .ref h_t_lists])), (h_t_allParts, aI T 3 (va_cpy p1_allParts t_allParts (0 : Int32).toNatClampNeg (0 : Int32).toNatClampNeg (3 : Int32).toNatClampNeg)), (h_t_depths, aI T 3 (va_cpy p1_depths t_depths (0 : Int32).toNatClampNeg (0 : Int32).toNatClampNeg (3 : Int32).toNatClampNeg)), (h_t_lists, aI T 3 t_lists), (h_t_ownParts, aI T 3 (va_cpy p1_ownParts t_ownParts (0 : Int32).toNatClampNeg (0 : Int32).toNatClampNeg (3 : Int32).toNatClampNeg))]) X tw_581 tw_571 tw_570 tw_24 4 9 rfl rfl g1 g2 g3 g4 g5 (Nat.le_of_ble_eq_true rfl) (Nat.le_of_ble_eq_true rfl) (Nat.le_of_ble_eq_true rfl) dX10_copyFrom_39 rfl ?_
  refine x_aload_n X dX10_copyFrom_42 1 rfl ?_
  refine x_get X inGX10 3 (by decide) rfl tw_160 dX10_copyFrom_43 rfl 0 rfl rfl ?_
  refine x_iconst (v := 0) X dX10_copyFrom_46 (by decide) ?_
  refine x_aload_n X dX10_copyFrom_47 0 rfl ?_
  refine x_get X inGX10 3 (by decide) rfl tw_160 dX10_copyFrom_48 rfl 5 rfl rfl ?_
  refine x_iconst (v := 0) X dX10_copyFrom_51 (by decide) ?_
  refine x_iconst (v := 3) X dX10_copyFrom_52 (by decide) ?_
  obtain ⟨⟨g1, g2, g3, g4, g5⟩, h⟩ := h
  refine x_acopy (ws' := [(h_p1, .inr (9, [.ref h_p1_depths, .ref h_p1_allParts, .ref h_p1_ownParts, .ref h_p1_lists])), (h_p1_allParts, aI T 3 p1_allParts), (h_p1_depths, aI T 3 p1_depths), (h_p1_lists, aI T 3 p1_lists), (h_p1_ownParts, aI T 3 p1_ownParts), (h_t, .inr (9, [.ref h_t_depths, .ref h_t_allParts, .ref h_t_ownParts, .ref h_t_lists])), (h_t_allParts, aI T 3 (va_cpy p1_allParts t_allParts (0 : Int32).toNatClampNeg (0 : Int32).toNatClampNeg (3 : Int32).toNatClampNeg)), (h_t_depths, aI T 3 (va_cpy p1_depths t_depths (0 : Int32).toNatClampNeg (0 : Int32).toNatClampNeg (3 : Int32).toNatClampNeg)), (h_t_lists, aI T 3 (va_cpy p1_lists t_lists (0 : Int32).toNatClampNeg (0 : Int32).toNatClampNeg (3 : Int32).toNatClampNeg)), (h_t_ownParts, aI T 3 (va_cpy p1_ownParts t_ownParts (0 : Int32).toNatClampNeg (0 : Int32).toNatClampNeg (3 : Int32).toNatClampNeg))]) X tw_581 tw_571 tw_570 tw_24 3 8 rfl rfl g1 g2 g3 g4 g5 (Nat.le_of_ble_eq_true rfl) (Nat.le_of_ble_eq_true rfl) (Nat.le_of_ble_eq_true rfl) dX10_copyFrom_53 rfl ?_
  exact hret _ _ _ dX10_copyFrom_56 ⟨(va_cpy p1_allParts t_allParts (0 : Int32).toNatClampNeg (0 : Int32).toNatClampNeg (3 : Int32).toNatClampNeg), (va_cpy p1_depths t_depths (0 : Int32).toNatClampNeg (0 : Int32).toNatClampNeg (3 : Int32).toNatClampNeg), (va_cpy p1_lists t_lists (0 : Int32).toNatClampNeg (0 : Int32).toNatClampNeg (3 : Int32).toNatClampNeg), (va_cpy p1_ownParts t_ownParts (0 : Int32).toNatClampNeg (0 : Int32).toNatClampNeg (3 : Int32).toNatClampNeg), rfl, h⟩
theorem dX10_setListed_0 : decode cX10_setListed 0 = .ok (.aload_n 0, 1) := by decide +kernel
theorem dX10_setListed_1 : decode cX10_setListed 1 = .ok (.getfield 21, 3) := by decide +kernel
theorem dX10_setListed_4 : decode cX10_setListed 4 = .ok (.iload_n 1, 1) := by decide +kernel
theorem dX10_setListed_5 : decode cX10_setListed 5 = .ok (.iload_n 2, 1) := by decide +kernel
theorem dX10_setListed_6 : decode cX10_setListed 6 = .ok (.invokestatic 34, 3) := by decide +kernel
theorem dX10_setListed_9 : decode cX10_setListed 9 = .ok (.return_, 1) := by decide +kernel
set_option maxHeartbeats 4000000 in
set_option maxRecDepth 100000 in
theorem c_X10_setListed (l : Launch) (D : eD) (T : Nat → ClassId) (h_t h_t_depths h_t_allParts h_t_ownParts h_t_lists : Nat) (t_lists : Nat → Int32) (p1 : Int32) (p2 : Int32) (post : (Nat → Int32) → Prop) (h : F_X10_setListed t_lists p1 p2 post) : cV l D T yX10_setListed cX10_setListed 3 none 1 22 0 0 [.ref h_t, .int p1, .int p2] [(h_t, .inr (9, [.ref h_t_depths, .ref h_t_allParts, .ref h_t_ownParts, .ref h_t_lists])), (h_t_lists, aI T 3 t_lists)] (fun w1 => ∃ (t_lists1 : Nat → Int32), w1 = [(h_t, .inr (9, [.ref h_t_depths, .ref h_t_allParts, .ref h_t_ownParts, .ref h_t_lists])), (h_t_lists, aI T 3 t_lists1)] ∧ post t_lists1) := by
  refine xV_of (by decide +kernel) (Nat.le_of_ble_eq_true rfl) rfl ?_
  intro G X hret
  change G 0 0 0 [(0, .ref h_t), (1, .int p1), (2, .int p2)] [] [(h_t, .inr (9, [.ref h_t_depths, .ref h_t_allParts, .ref h_t_ownParts, .ref h_t_lists])), (h_t_lists, aI T 3 t_lists)]
  unfold F_X10_setListed at h
  refine x_aload_n X dX10_setListed_0 0 rfl ?_
  refine x_get X inGX10 3 (by decide) rfl tw_160 dX10_setListed_1 rfl 0 rfl rfl ?_
  refine x_iload_n X dX10_setListed_4 1 rfl ?_
  refine x_iload_n X dX10_setListed_5 2 rfl ?_
  refine x_callSV (av := [.ref h_t_lists, .int p1, .int p2]) (st := []) (wr := [(h_t, .inr (9, [.ref h_t_depths, .ref h_t_allParts, .ref h_t_ownParts, .ref h_t_lists]))]) X (c_X10_put l D T h_t_lists 3 t_lists p1 p2 _ h) yk_X10_put tw_838 dX10_setListed_6 [1] [0] rfl rfl rfl rfl (by decide) rfl rfl (Nat.le_of_ble_eq_true rfl) (Nat.le_of_ble_eq_true rfl) (Nat.le_of_ble_eq_true rfl) (Nat.zero_le _) (Nat.zero_le _) (fun w1 hw => ?_)
  obtain ⟨t_lists_6, rfl, h⟩ := hw
  refine x_perm (ws2 := [(h_t, .inr (9, [.ref h_t_depths, .ref h_t_allParts, .ref h_t_ownParts, .ref h_t_lists])), (h_t_lists, aI T 3 t_lists_6)]) X [0, 1] rfl rfl ?_
  exact hret _ _ _ dX10_setListed_9 ⟨t_lists_6, rfl, h⟩
theorem dX10_look_0 : decode cX10_look 0 = .ok (.aload_n 0, 1) := by decide +kernel
theorem dX10_look_1 : decode cX10_look 1 = .ok (.ifnull 19, 3) := by decide +kernel
theorem dX10_look_4 : decode cX10_look 4 = .ok (.iload_n 1, 1) := by decide +kernel
theorem dX10_look_5 : decode cX10_look 5 = .ok (.ifCond .lt 15, 3) := by decide +kernel
theorem dX10_look_8 : decode cX10_look 8 = .ok (.iload_n 1, 1) := by decide +kernel
theorem dX10_look_9 : decode cX10_look 9 = .ok (.aload_n 0, 1) := by decide +kernel
theorem dX10_look_10 : decode cX10_look 10 = .ok (.arraylength, 1) := by decide +kernel
theorem dX10_look_11 : decode cX10_look 11 = .ok (.if_icmp .ge 9, 3) := by decide +kernel
theorem dX10_look_14 : decode cX10_look 14 = .ok (.aload_n 0, 1) := by decide +kernel
theorem dX10_look_15 : decode cX10_look 15 = .ok (.iload_n 1, 1) := by decide +kernel
theorem dX10_look_16 : decode cX10_look 16 = .ok (.iaload, 1) := by decide +kernel
theorem dX10_look_17 : decode cX10_look 17 = .ok (.goto 4, 3) := by decide +kernel
theorem dX10_look_20 : decode cX10_look 20 = .ok (.iconst 0, 1) := by decide +kernel
theorem dX10_look_21 : decode cX10_look 21 = .ok (.ireturn, 1) := by decide +kernel
set_option maxHeartbeats 4000000 in
set_option maxRecDepth 100000 in
theorem c_X10_look (l : Launch) (D : eD) (T : Nat → ClassId) (h_p0 : Nat) (n_p0 : Nat) (p0 : Nat → Int32) (p1 : Int32) (post : Int32 → Prop) (h : F_X10_look n_p0 p0 p1 post) : cI l D T yX10_look cX10_look 2 (some .int) 0 0 0 0 [.ref h_p0, .int p1] [(h_p0, aI T n_p0 p0)] (fun r w1 => w1 = [(h_p0, aI T n_p0 p0)] ∧ post r ) := by
  refine xI_of (ty := .int) (by decide +kernel) (Nat.le_of_ble_eq_true rfl) rfl ?_
  intro G X hret
  change G 0 0 0 [(0, .ref h_p0), (1, .int p1)] [] [(h_p0, aI T n_p0 p0)]
  unfold F_X10_look at h
  have k21 : ∀ (s0 : Int32), F_X10_look_21 n_p0 p0 post s0 → G 0 0 21 [] [.int s0] [(h_p0, aI T n_p0 p0)] := by
    intro s0 h
    unfold F_X10_look_21 at h
    exact hret _ _ _ _ dX10_look_21 rfl ⟨rfl, h⟩
  have k20 : F_X10_look_20 n_p0 p0 post (fun s0 => F_X10_look_21 n_p0 p0 post s0) → G 0 0 20 [] [] [(h_p0, aI T n_p0 p0)] := by
    intro  h
    unfold F_X10_look_20 at h
    refine x_iconst (v := 0) X dX10_look_20 (by decide) ?_
    exact x_sub X [] rfl (k21 (0 : Int32) h)
  refine x_aload_n X dX10_look_0 0 rfl ?_
  refine x_ifnull X dX10_look_1 ?_
  refine x_iload_n X dX10_look_4 1 rfl ?_
  refine x_if_lt (tgt := 20) X dX10_look_5 (by decide) (fun hc => ?_) (fun hc => ?_)
  · have h := h.1 hc
    exact x_sub X [] rfl (k20 h)
  · have h := h.2 hc
    refine x_iload_n X dX10_look_8 1 rfl ?_
    refine x_aload_n X dX10_look_9 0 rfl ?_
    refine x_alen (v := (Int32.ofNat n_p0)) X dX10_look_10 0 1 rfl rfl rfl ?_
    refine x_icmp_ge (tgt := 20) X dX10_look_11 (by decide) (fun hc => ?_) (fun hc => ?_)
    · have h := h.1 hc
      exact x_sub X [] rfl (k20 h)
    · have h := h.2 hc
      refine x_aload_n X dX10_look_14 0 rfl ?_
      refine x_iload_n X dX10_look_15 1 rfl ?_
      obtain ⟨hi, h⟩ := h
      refine x_iald X dX10_look_16 0 rfl hi ?_
      refine x_goto (tgt := 21) X dX10_look_17 (by decide) ?_
      exact x_sub X [] rfl (k21 (p0 p1.toNatClampNeg) h)
theorem dX10_depth_0 : decode cX10_depth 0 = .ok (.aload_n 0, 1) := by decide +kernel
theorem dX10_depth_1 : decode cX10_depth 1 = .ok (.getfield 9, 3) := by decide +kernel
theorem dX10_depth_4 : decode cX10_depth 4 = .ok (.iload_n 1, 1) := by decide +kernel
theorem dX10_depth_5 : decode cX10_depth 5 = .ok (.invokestatic 46, 3) := by decide +kernel
theorem dX10_depth_8 : decode cX10_depth 8 = .ok (.ireturn, 1) := by decide +kernel
set_option maxHeartbeats 4000000 in
set_option maxRecDepth 100000 in
theorem c_X10_depth (l : Launch) (D : eD) (T : Nat → ClassId) (h_t h_t_depths h_t_allParts h_t_ownParts h_t_lists : Nat) (t_depths : Nat → Int32) (p1 : Int32) (post : Int32 → Prop) (h : F_X10_depth t_depths p1 post) : cI l D T yX10_depth cX10_depth 2 (some .int) 1 21 0 0 [.ref h_t, .int p1] [(h_t, .inr (9, [.ref h_t_depths, .ref h_t_allParts, .ref h_t_ownParts, .ref h_t_lists])), (h_t_depths, aI T 3 t_depths)] (fun r w1 => w1 = [(h_t, .inr (9, [.ref h_t_depths, .ref h_t_allParts, .ref h_t_ownParts, .ref h_t_lists])), (h_t_depths, aI T 3 t_depths)] ∧ post r ) := by
  refine xI_of (ty := .int) (by decide +kernel) (Nat.le_of_ble_eq_true rfl) rfl ?_
  intro G X hret
  change G 0 0 0 [(0, .ref h_t), (1, .int p1)] [] [(h_t, .inr (9, [.ref h_t_depths, .ref h_t_allParts, .ref h_t_ownParts, .ref h_t_lists])), (h_t_depths, aI T 3 t_depths)]
  unfold F_X10_depth at h
  refine x_aload_n X dX10_depth_0 0 rfl ?_
  refine x_get X inGX10 0 (by decide) rfl tw_157 dX10_depth_1 rfl 0 rfl rfl ?_
  refine x_iload_n X dX10_depth_4 1 rfl ?_
  refine x_callSI (av := [.ref h_t_depths, .int p1]) (st := []) (wr := [(h_t, .inr (9, [.ref h_t_depths, .ref h_t_allParts, .ref h_t_ownParts, .ref h_t_lists]))]) X (c_X10_look l D T h_t_depths 3 t_depths p1 _ h) yk_X10_look tw_602 dX10_depth_5 [1] [0] rfl rfl rfl rfl (by decide) rfl rfl (Nat.le_of_ble_eq_true rfl) (Nat.le_of_ble_eq_true rfl) (Nat.le_of_ble_eq_true rfl) (Nat.zero_le _) (Nat.zero_le _) (fun r5 w1 hw => ?_)
  obtain ⟨rfl, h⟩ := hw
  refine x_perm (ws2 := [(h_t, .inr (9, [.ref h_t_depths, .ref h_t_allParts, .ref h_t_ownParts, .ref h_t_lists])), (h_t_depths, aI T 3 t_depths)]) X [0, 1] rfl rfl ?_
  exact hret _ _ _ _ dX10_depth_8 rfl ⟨rfl, h⟩
theorem dX10_hasShare_0 : decode cX10_hasShare 0 = .ok (.aload_n 0, 1) := by decide +kernel
theorem dX10_hasShare_1 : decode cX10_hasShare 1 = .ok (.iload_n 1, 1) := by decide +kernel
theorem dX10_hasShare_2 : decode cX10_hasShare 2 = .ok (.invokevirtual 38, 3) := by decide +kernel
theorem dX10_hasShare_5 : decode cX10_hasShare 5 = .ok (.ifCond .le 7, 3) := by decide +kernel
theorem dX10_hasShare_8 : decode cX10_hasShare 8 = .ok (.iconst 1, 1) := by decide +kernel
theorem dX10_hasShare_9 : decode cX10_hasShare 9 = .ok (.goto 4, 3) := by decide +kernel
theorem dX10_hasShare_12 : decode cX10_hasShare 12 = .ok (.iconst 0, 1) := by decide +kernel
theorem dX10_hasShare_13 : decode cX10_hasShare 13 = .ok (.ireturn, 1) := by decide +kernel
set_option maxHeartbeats 4000000 in
set_option maxRecDepth 100000 in
theorem c_X10_hasShare (l : Launch) (D : eD) (T : Nat → ClassId) (h_t h_t_depths h_t_allParts h_t_ownParts h_t_lists : Nat) (t_depths : Nat → Int32) (p1 : Int32) (post : Int32 → Prop) (h : F_X10_hasShare t_depths p1 post) : cI l D T yX10_hasShare cX10_hasShare 2 (some .boolean) 2 42 0 0 [.ref h_t, .int p1] [(h_t, .inr (9, [.ref h_t_depths, .ref h_t_allParts, .ref h_t_ownParts, .ref h_t_lists])), (h_t_depths, aI T 3 t_depths)] (fun r w1 => w1 = [(h_t, .inr (9, [.ref h_t_depths, .ref h_t_allParts, .ref h_t_ownParts, .ref h_t_lists])), (h_t_depths, aI T 3 t_depths)] ∧ post r ) := by
  refine xI_of (ty := .boolean) (by decide +kernel) (Nat.le_of_ble_eq_true rfl) rfl ?_
  intro G X hret
  change G 0 0 0 [(0, .ref h_t), (1, .int p1)] [] [(h_t, .inr (9, [.ref h_t_depths, .ref h_t_allParts, .ref h_t_ownParts, .ref h_t_lists])), (h_t_depths, aI T 3 t_depths)]
  unfold F_X10_hasShare at h
  have k13 : ∀ (s0 : Int32), F_X10_hasShare_13 t_depths post s0 → G 0 0 13 [] [.int s0] [(h_t, .inr (9, [.ref h_t_depths, .ref h_t_allParts, .ref h_t_ownParts, .ref h_t_lists])), (h_t_depths, aI T 3 t_depths)] := by
    intro s0 h
    unfold F_X10_hasShare_13 at h
    obtain ⟨hz, h⟩ := h
    exact hret _ _ _ _ dX10_hasShare_13 (e_nz hz) ⟨rfl, h⟩
  refine x_aload_n X dX10_hasShare_0 0 rfl ?_
  refine x_iload_n X dX10_hasShare_1 1 rfl ?_
  refine x_callVI (av := [.int p1]) (st := []) (wr := []) X (c_X10_depth l D T h_t h_t_depths h_t_allParts h_t_ownParts h_t_lists t_depths p1 _ h) yk_X10_depth tw_598 dX10_hasShare_2 0 rfl rfl [0, 1] [] rfl rfl rfl rfl (by decide) rfl rfl (Nat.le_of_ble_eq_true rfl) (Nat.le_of_ble_eq_true rfl) (Nat.le_of_ble_eq_true rfl) (Nat.zero_le _) (Nat.zero_le _) (fun r2 w1 hw => ?_)
  obtain ⟨rfl, h⟩ := hw
  refine x_perm (ws2 := [(h_t, .inr (9, [.ref h_t_depths, .ref h_t_allParts, .ref h_t_ownParts, .ref h_t_lists])), (h_t_depths, aI T 3 t_depths)]) X [0, 1] rfl rfl ?_
  refine x_if_le (tgt := 12) X dX10_hasShare_5 (by decide) (fun hc => ?_) (fun hc => ?_)
  · have h := h.1 hc
    refine x_iconst (v := 0) X dX10_hasShare_12 (by decide) ?_
    exact x_sub X [] rfl (k13 (0 : Int32) h)
  · have h := h.2 hc
    refine x_iconst (v := 1) X dX10_hasShare_8 (by decide) ?_
    refine x_goto (tgt := 13) X dX10_hasShare_9 (by decide) ?_
    exact x_sub X [] rfl (k13 (1 : Int32) h)
theorem dX10_withShare_0 : decode cX10_withShare 0 = .ok (.iconst 0, 1) := by decide +kernel
theorem dX10_withShare_1 : decode cX10_withShare 1 = .ok (.istore_n 1, 1) := by decide +kernel
theorem dX10_withShare_2 : decode cX10_withShare 2 = .ok (.iconst 0, 1) := by decide +kernel
theorem dX10_withShare_3 : decode cX10_withShare 3 = .ok (.istore_n 2, 1) := by decide +kernel
theorem dX10_withShare_4 : decode cX10_withShare 4 = .ok (.iload_n 2, 1) := by decide +kernel
theorem dX10_withShare_5 : decode cX10_withShare 5 = .ok (.iconst 3, 1) := by decide +kernel
theorem dX10_withShare_6 : decode cX10_withShare 6 = .ok (.if_icmp .ge 27, 3) := by decide +kernel
theorem dX10_withShare_9 : decode cX10_withShare 9 = .ok (.iload_n 1, 1) := by decide +kernel
theorem dX10_withShare_10 : decode cX10_withShare 10 = .ok (.aload_n 0, 1) := by decide +kernel
theorem dX10_withShare_11 : decode cX10_withShare 11 = .ok (.iload_n 2, 1) := by decide +kernel
theorem dX10_withShare_12 : decode cX10_withShare 12 = .ok (.invokevirtual 42, 3) := by decide +kernel
theorem dX10_withShare_15 : decode cX10_withShare 15 = .ok (.ifCond .eq 9, 3) := by decide +kernel
theorem dX10_withShare_18 : decode cX10_withShare 18 = .ok (.iconst 1, 1) := by decide +kernel
theorem dX10_withShare_19 : decode cX10_withShare 19 = .ok (.iload_n 2, 1) := by decide +kernel
theorem dX10_withShare_20 : decode cX10_withShare 20 = .ok (.ishl, 1) := by decide +kernel
theorem dX10_withShare_21 : decode cX10_withShare 21 = .ok (.goto 4, 3) := by decide +kernel
theorem dX10_withShare_24 : decode cX10_withShare 24 = .ok (.iconst 0, 1) := by decide +kernel
theorem dX10_withShare_25 : decode cX10_withShare 25 = .ok (.ior, 1) := by decide +kernel
theorem dX10_withShare_26 : decode cX10_withShare 26 = .ok (.istore_n 1, 1) := by decide +kernel
theorem dX10_withShare_27 : decode cX10_withShare 27 = .ok (.iinc 2 1, 3) := by decide +kernel
theorem dX10_withShare_30 : decode cX10_withShare 30 = .ok (.goto (-26), 3) := by decide +kernel
theorem dX10_withShare_33 : decode cX10_withShare 33 = .ok (.iload_n 1, 1) := by decide +kernel
theorem dX10_withShare_34 : decode cX10_withShare 34 = .ok (.ireturn, 1) := by decide +kernel
set_option maxHeartbeats 4000000 in
set_option maxRecDepth 100000 in
theorem c_X10_withShare (l : Launch) (D : eD) (T : Nat → ClassId) (h_t h_t_depths h_t_allParts h_t_ownParts h_t_lists : Nat) (t_depths : Nat → Int32) (post : Int32 → Prop) (h : F_X10_withShare t_depths post) : cI l D T yX10_withShare cX10_withShare 3 (some .int) 3 63 0 0 [.ref h_t] [(h_t, .inr (9, [.ref h_t_depths, .ref h_t_allParts, .ref h_t_ownParts, .ref h_t_lists])), (h_t_depths, aI T 3 t_depths)] (fun r w1 => w1 = [(h_t, .inr (9, [.ref h_t_depths, .ref h_t_allParts, .ref h_t_ownParts, .ref h_t_lists])), (h_t_depths, aI T 3 t_depths)] ∧ post r ) := by
  refine xI_of (ty := .int) (by decide +kernel) (Nat.le_of_ble_eq_true rfl) rfl ?_
  intro G X hret
  change G 0 0 0 [(0, .ref h_t)] [] [(h_t, .inr (9, [.ref h_t_depths, .ref h_t_allParts, .ref h_t_ownParts, .ref h_t_lists])), (h_t_depths, aI T 3 t_depths)]
  unfold F_X10_withShare at h
  have k4 : ∀ (n4 : Nat) (x1 : Int32) (x2 : Int32), F_X10_withShare_4 t_depths post n4 x1 x2 → G 0 0 4 [(0, .ref h_t), (1, .int x1), (2, .int x2)] [] [(h_t, .inr (9, [.ref h_t_depths, .ref h_t_allParts, .ref h_t_ownParts, .ref h_t_lists])), (h_t_depths, aI T 3 t_depths)] := by
    intro n4
    induction n4 with
    | zero => intro x1 x2 h; exact h.elim
    | succ n4 ih4 =>
      intro x1 x2 h
      rw [F_X10_withShare_4] at h
      have k25 : ∀ (x2 : Int32) (s0 : Int32) (s1 : Int32), F_X10_withShare_25 t_depths post (F_X10_withShare_4 t_depths post n4) x2 s0 s1 → G 0 0 25 [(0, .ref h_t), (2, .int x2)] [.int s1, .int s0] [(h_t, .inr (9, [.ref h_t_depths, .ref h_t_allParts, .ref h_t_ownParts, .ref h_t_lists])), (h_t_depths, aI T 3 t_depths)] := by
        intro x2 s0 s1 h
        unfold F_X10_withShare_25 at h
        refine x_ior X dX10_withShare_25 ?_
        refine x_istore_n (lv' := [(1, .int (s0 ||| s1)), (0, .ref h_t), (2, .int x2)]) X dX10_withShare_26 (by decide) rfl ?_
        refine x_iinc (v := (x2 + 1)) (lv' := [(2, .int (x2 + 1)), (1, .int (s0 ||| s1)), (0, .ref h_t)]) X dX10_withShare_27 2 rfl rfl (by decide) rfl ?_
        refine x_goto (tgt := 4) X dX10_withShare_30 (by decide) ?_
        exact x_sub X [2, 1, 0] rfl (ih4 (s0 ||| s1) (x2 + 1) h)
      refine x_iload_n X dX10_withShare_4 2 rfl ?_
      refine x_iconst (v := 3) X dX10_withShare_5 (by decide) ?_
      refine x_icmp_ge (tgt := 33) X dX10_withShare_6 (by decide) (fun hc => ?_) (fun hc => ?_)
      · have h := h.1 hc
        refine x_iload_n X dX10_withShare_33 1 rfl ?_
        exact hret _ _ _ _ dX10_withShare_34 rfl ⟨rfl, h⟩
      · have h := h.2 hc
        refine x_iload_n X dX10_withShare_9 1 rfl ?_
        refine x_aload_n X dX10_withShare_10 0 rfl ?_
        refine x_iload_n X dX10_withShare_11 2 rfl ?_
        refine x_callVI (av := [.int x2]) (st := [.int x1]) (wr := []) X (c_X10_hasShare l D T h_t h_t_depths h_t_allParts h_t_ownParts h_t_lists t_depths x2 _ h) yk_X10_hasShare tw_594 dX10_withShare_12 0 rfl rfl [0, 1] [] rfl rfl rfl rfl (by decide) rfl rfl (Nat.le_of_ble_eq_true rfl) (Nat.le_of_ble_eq_true rfl) (Nat.le_of_ble_eq_true rfl) (Nat.zero_le _) (Nat.zero_le _) (fun r12 w1 hw => ?_)
        obtain ⟨rfl, h⟩ := hw
        refine x_perm (ws2 := [(h_t, .inr (9, [.ref h_t_depths, .ref h_t_allParts, .ref h_t_ownParts, .ref h_t_lists])), (h_t_depths, aI T 3 t_depths)]) X [0, 1] rfl rfl ?_
        refine x_if_eq (tgt := 24) X dX10_withShare_15 (by decide) (fun hc => ?_) (fun hc => ?_)
        · have h := h.1 hc
          refine x_iconst (v := 0) X dX10_withShare_24 (by decide) ?_
          exact x_sub X [0, 2] rfl (k25 x2 x1 (0 : Int32) h)
        · have h := h.2 hc
          refine x_iconst (v := 1) X dX10_withShare_18 (by decide) ?_
          refine x_iload_n X dX10_withShare_19 2 rfl ?_
          refine x_ishl X dX10_withShare_20 ?_
          refine x_goto (tgt := 25) X dX10_withShare_21 (by decide) ?_
          exact x_sub X [0, 2] rfl (k25 x2 x1 ((1 : Int32) <<< (x2 &&& 31)) h)
  refine x_iconst (v := 0) X dX10_withShare_0 (by decide) ?_
  refine x_istore_n (lv' := [(1, .int (0 : Int32)), (0, .ref h_t)]) X dX10_withShare_1 (by decide) rfl ?_
  refine x_iconst (v := 0) X dX10_withShare_2 (by decide) ?_
  refine x_istore_n (lv' := [(2, .int (0 : Int32)), (1, .int (0 : Int32)), (0, .ref h_t)]) X dX10_withShare_3 (by decide) rfl ?_
  obtain ⟨n4, h⟩ := h
  exact x_sub X [2, 1, 0] rfl (k4 n4 (0 : Int32) (0 : Int32) h)
theorem dX10_parts_0 : decode cX10_parts 0 = .ok (.aload_n 0, 1) := by decide +kernel
theorem dX10_parts_1 : decode cX10_parts 1 = .ok (.getfield 15, 3) := by decide +kernel
theorem dX10_parts_4 : decode cX10_parts 4 = .ok (.iload_n 1, 1) := by decide +kernel
theorem dX10_parts_5 : decode cX10_parts 5 = .ok (.invokestatic 46, 3) := by decide +kernel
theorem dX10_parts_8 : decode cX10_parts 8 = .ok (.ireturn, 1) := by decide +kernel
set_option maxHeartbeats 4000000 in
set_option maxRecDepth 100000 in
theorem c_X10_parts (l : Launch) (D : eD) (T : Nat → ClassId) (h_t h_t_depths h_t_allParts h_t_ownParts h_t_lists : Nat) (t_allParts : Nat → Int32) (p1 : Int32) (post : Int32 → Prop) (h : F_X10_parts t_allParts p1 post) : cI l D T yX10_parts cX10_parts 2 (some .int) 1 21 0 0 [.ref h_t, .int p1] [(h_t, .inr (9, [.ref h_t_depths, .ref h_t_allParts, .ref h_t_ownParts, .ref h_t_lists])), (h_t_allParts, aI T 3 t_allParts)] (fun r w1 => w1 = [(h_t, .inr (9, [.ref h_t_depths, .ref h_t_allParts, .ref h_t_ownParts, .ref h_t_lists])), (h_t_allParts, aI T 3 t_allParts)] ∧ post r ) := by
  refine xI_of (ty := .int) (by decide +kernel) (Nat.le_of_ble_eq_true rfl) rfl ?_
  intro G X hret
  change G 0 0 0 [(0, .ref h_t), (1, .int p1)] [] [(h_t, .inr (9, [.ref h_t_depths, .ref h_t_allParts, .ref h_t_ownParts, .ref h_t_lists])), (h_t_allParts, aI T 3 t_allParts)]
  unfold F_X10_parts at h
  refine x_aload_n X dX10_parts_0 0 rfl ?_
  refine x_get X inGX10 1 (by decide) rfl tw_158 dX10_parts_1 rfl 0 rfl rfl ?_
  refine x_iload_n X dX10_parts_4 1 rfl ?_
  refine x_callSI (av := [.ref h_t_allParts, .int p1]) (st := []) (wr := [(h_t, .inr (9, [.ref h_t_depths, .ref h_t_allParts, .ref h_t_ownParts, .ref h_t_lists]))]) X (c_X10_look l D T h_t_allParts 3 t_allParts p1 _ h) yk_X10_look tw_602 dX10_parts_5 [1] [0] rfl rfl rfl rfl (by decide) rfl rfl (Nat.le_of_ble_eq_true rfl) (Nat.le_of_ble_eq_true rfl) (Nat.le_of_ble_eq_true rfl) (Nat.zero_le _) (Nat.zero_le _) (fun r5 w1 hw => ?_)
  obtain ⟨rfl, h⟩ := hw
  refine x_perm (ws2 := [(h_t, .inr (9, [.ref h_t_depths, .ref h_t_allParts, .ref h_t_ownParts, .ref h_t_lists])), (h_t_allParts, aI T 3 t_allParts)]) X [0, 1] rfl rfl ?_
  exact hret _ _ _ _ dX10_parts_8 rfl ⟨rfl, h⟩
theorem dX10_part_0 : decode cX10_part 0 = .ok (.aload_n 0, 1) := by decide +kernel
theorem dX10_part_1 : decode cX10_part 1 = .ok (.getfield 18, 3) := by decide +kernel
theorem dX10_part_4 : decode cX10_part 4 = .ok (.iload_n 1, 1) := by decide +kernel
theorem dX10_part_5 : decode cX10_part 5 = .ok (.invokestatic 46, 3) := by decide +kernel
theorem dX10_part_8 : decode cX10_part 8 = .ok (.ireturn, 1) := by decide +kernel
set_option maxHeartbeats 4000000 in
set_option maxRecDepth 100000 in
theorem c_X10_part (l : Launch) (D : eD) (T : Nat → ClassId) (h_t h_t_depths h_t_allParts h_t_ownParts h_t_lists : Nat) (t_ownParts : Nat → Int32) (p1 : Int32) (post : Int32 → Prop) (h : F_X10_part t_ownParts p1 post) : cI l D T yX10_part cX10_part 2 (some .int) 1 21 0 0 [.ref h_t, .int p1] [(h_t, .inr (9, [.ref h_t_depths, .ref h_t_allParts, .ref h_t_ownParts, .ref h_t_lists])), (h_t_ownParts, aI T 3 t_ownParts)] (fun r w1 => w1 = [(h_t, .inr (9, [.ref h_t_depths, .ref h_t_allParts, .ref h_t_ownParts, .ref h_t_lists])), (h_t_ownParts, aI T 3 t_ownParts)] ∧ post r ) := by
  refine xI_of (ty := .int) (by decide +kernel) (Nat.le_of_ble_eq_true rfl) rfl ?_
  intro G X hret
  change G 0 0 0 [(0, .ref h_t), (1, .int p1)] [] [(h_t, .inr (9, [.ref h_t_depths, .ref h_t_allParts, .ref h_t_ownParts, .ref h_t_lists])), (h_t_ownParts, aI T 3 t_ownParts)]
  unfold F_X10_part at h
  refine x_aload_n X dX10_part_0 0 rfl ?_
  refine x_get X inGX10 2 (by decide) rfl tw_159 dX10_part_1 rfl 0 rfl rfl ?_
  refine x_iload_n X dX10_part_4 1 rfl ?_
  refine x_callSI (av := [.ref h_t_ownParts, .int p1]) (st := []) (wr := [(h_t, .inr (9, [.ref h_t_depths, .ref h_t_allParts, .ref h_t_ownParts, .ref h_t_lists]))]) X (c_X10_look l D T h_t_ownParts 3 t_ownParts p1 _ h) yk_X10_look tw_602 dX10_part_5 [1] [0] rfl rfl rfl rfl (by decide) rfl rfl (Nat.le_of_ble_eq_true rfl) (Nat.le_of_ble_eq_true rfl) (Nat.le_of_ble_eq_true rfl) (Nat.zero_le _) (Nat.zero_le _) (fun r5 w1 hw => ?_)
  obtain ⟨rfl, h⟩ := hw
  refine x_perm (ws2 := [(h_t, .inr (9, [.ref h_t_depths, .ref h_t_allParts, .ref h_t_ownParts, .ref h_t_lists])), (h_t_ownParts, aI T 3 t_ownParts)]) X [0, 1] rfl rfl ?_
  exact hret _ _ _ _ dX10_part_8 rfl ⟨rfl, h⟩
theorem dX10_listed_0 : decode cX10_listed 0 = .ok (.aload_n 0, 1) := by decide +kernel
theorem dX10_listed_1 : decode cX10_listed 1 = .ok (.getfield 21, 3) := by decide +kernel
theorem dX10_listed_4 : decode cX10_listed 4 = .ok (.iload_n 1, 1) := by decide +kernel
theorem dX10_listed_5 : decode cX10_listed 5 = .ok (.invokestatic 46, 3) := by decide +kernel
theorem dX10_listed_8 : decode cX10_listed 8 = .ok (.ireturn, 1) := by decide +kernel
set_option maxHeartbeats 4000000 in
set_option maxRecDepth 100000 in
theorem c_X10_listed (l : Launch) (D : eD) (T : Nat → ClassId) (h_t h_t_depths h_t_allParts h_t_ownParts h_t_lists : Nat) (t_lists : Nat → Int32) (p1 : Int32) (post : Int32 → Prop) (h : F_X10_listed t_lists p1 post) : cI l D T yX10_listed cX10_listed 2 (some .int) 1 21 0 0 [.ref h_t, .int p1] [(h_t, .inr (9, [.ref h_t_depths, .ref h_t_allParts, .ref h_t_ownParts, .ref h_t_lists])), (h_t_lists, aI T 3 t_lists)] (fun r w1 => w1 = [(h_t, .inr (9, [.ref h_t_depths, .ref h_t_allParts, .ref h_t_ownParts, .ref h_t_lists])), (h_t_lists, aI T 3 t_lists)] ∧ post r ) := by
  refine xI_of (ty := .int) (by decide +kernel) (Nat.le_of_ble_eq_true rfl) rfl ?_
  intro G X hret
  change G 0 0 0 [(0, .ref h_t), (1, .int p1)] [] [(h_t, .inr (9, [.ref h_t_depths, .ref h_t_allParts, .ref h_t_ownParts, .ref h_t_lists])), (h_t_lists, aI T 3 t_lists)]
  unfold F_X10_listed at h
  refine x_aload_n X dX10_listed_0 0 rfl ?_
  refine x_get X inGX10 3 (by decide) rfl tw_160 dX10_listed_1 rfl 0 rfl rfl ?_
  refine x_iload_n X dX10_listed_4 1 rfl ?_
  refine x_callSI (av := [.ref h_t_lists, .int p1]) (st := []) (wr := [(h_t, .inr (9, [.ref h_t_depths, .ref h_t_allParts, .ref h_t_ownParts, .ref h_t_lists]))]) X (c_X10_look l D T h_t_lists 3 t_lists p1 _ h) yk_X10_look tw_602 dX10_listed_5 [1] [0] rfl rfl rfl rfl (by decide) rfl rfl (Nat.le_of_ble_eq_true rfl) (Nat.le_of_ble_eq_true rfl) (Nat.le_of_ble_eq_true rfl) (Nat.zero_le _) (Nat.zero_le _) (fun r5 w1 hw => ?_)
  obtain ⟨rfl, h⟩ := hw
  refine x_perm (ws2 := [(h_t, .inr (9, [.ref h_t_depths, .ref h_t_allParts, .ref h_t_ownParts, .ref h_t_lists])), (h_t_lists, aI T 3 t_lists)]) X [0, 1] rfl rfl ?_
  exact hret _ _ _ _ dX10_listed_8 rfl ⟨rfl, h⟩
