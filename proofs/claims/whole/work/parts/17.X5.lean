/-! OrderlyNets$Page: decode rows (printed), and each method kept by its F -/
theorem dX5_at_0 : decode cX5_at 0 = .ok (.iload_n 1, 1) := by decide +kernel
theorem dX5_at_1 : decode cX5_at 1 = .ok (.ifCond .lt 29, 3) := by decide +kernel
theorem dX5_at_4 : decode cX5_at 4 = .ok (.iload_n 1, 1) := by decide +kernel
theorem dX5_at_5 : decode cX5_at 5 = .ok (.aload_n 0, 1) := by decide +kernel
theorem dX5_at_6 : decode cX5_at 6 = .ok (.getfield 15, 3) := by decide +kernel
theorem dX5_at_9 : decode cX5_at 9 = .ok (.if_icmp .ge 21, 3) := by decide +kernel
theorem dX5_at_12 : decode cX5_at 12 = .ok (.iload_n 1, 1) := by decide +kernel
theorem dX5_at_13 : decode cX5_at 13 = .ok (.aload_n 0, 1) := by decide +kernel
theorem dX5_at_14 : decode cX5_at 14 = .ok (.getfield 11, 3) := by decide +kernel
theorem dX5_at_17 : decode cX5_at 17 = .ok (.arraylength, 1) := by decide +kernel
theorem dX5_at_18 : decode cX5_at 18 = .ok (.if_icmp .ge 12, 3) := by decide +kernel
theorem dX5_at_21 : decode cX5_at 21 = .ok (.aload_n 0, 1) := by decide +kernel
theorem dX5_at_22 : decode cX5_at 22 = .ok (.getfield 11, 3) := by decide +kernel
theorem dX5_at_25 : decode cX5_at 25 = .ok (.iload_n 1, 1) := by decide +kernel
theorem dX5_at_26 : decode cX5_at 26 = .ok (.iaload, 1) := by decide +kernel
theorem dX5_at_27 : decode cX5_at 27 = .ok (.goto 4, 3) := by decide +kernel
theorem dX5_at_30 : decode cX5_at 30 = .ok (.iconst (-1), 1) := by decide +kernel
theorem dX5_at_31 : decode cX5_at 31 = .ok (.ireturn, 1) := by decide +kernel
set_option maxHeartbeats 4000000 in
set_option maxRecDepth 100000 in
theorem c_X5_at (l : Launch) (D : eD) (T : Nat → ClassId) (h_t h_t_bytes : Nat) (t_length : Int32) (t_bytes : Nat → Int32) (p1 : Int32) (post : Int32 → Prop) (h : F_X5_at t_length t_bytes p1 post) : cI l D T yX5_at cX5_at 2 (some .int) 0 0 0 0 [.ref h_t, .int p1] [(h_t, .inr (4, [.ref h_t_bytes, .int t_length])), (h_t_bytes, aI T 96 t_bytes)] (fun r w1 => w1 = [(h_t, .inr (4, [.ref h_t_bytes, .int t_length])), (h_t_bytes, aI T 96 t_bytes)] ∧ post r ) := by
  refine xI_of (ty := .int) (by decide +kernel) (Nat.le_of_ble_eq_true rfl) rfl ?_
  intro G X hret
  change G 0 0 0 [(0, .ref h_t), (1, .int p1)] [] [(h_t, .inr (4, [.ref h_t_bytes, .int t_length])), (h_t_bytes, aI T 96 t_bytes)]
  unfold F_X5_at at h
  have k31 : ∀ (s0 : Int32), F_X5_at_31 t_length t_bytes post s0 → G 0 0 31 [] [.int s0] [(h_t, .inr (4, [.ref h_t_bytes, .int t_length])), (h_t_bytes, aI T 96 t_bytes)] := by
    intro s0 h
    unfold F_X5_at_31 at h
    exact hret _ _ _ _ dX5_at_31 rfl ⟨rfl, h⟩
  have k30 : F_X5_at_30 t_length t_bytes post (fun s0 => F_X5_at_31 t_length t_bytes post s0) → G 0 0 30 [] [] [(h_t, .inr (4, [.ref h_t_bytes, .int t_length])), (h_t_bytes, aI T 96 t_bytes)] := by
    intro  h
    unfold F_X5_at_30 at h
    refine x_iconst (v := -1) X dX5_at_30 (by decide) ?_
    exact x_sub X [] rfl (k31 (-1 : Int32) h)
  refine x_iload_n X dX5_at_0 1 rfl ?_
  refine x_if_lt (tgt := 30) X dX5_at_1 (by decide) (fun hc => ?_) (fun hc => ?_)
  · have h := h.1 hc
    exact x_sub X [] rfl (k30 h)
  · have h := h.2 hc
    refine x_iload_n X dX5_at_4 1 rfl ?_
    refine x_aload_n X dX5_at_5 0 rfl ?_
    refine x_get X inGX5 1 (by decide) rfl tw_192 dX5_at_6 rfl 0 rfl rfl ?_
    refine x_icmp_ge (tgt := 30) X dX5_at_9 (by decide) (fun hc => ?_) (fun hc => ?_)
    · have h := h.1 hc
      exact x_sub X [] rfl (k30 h)
    · have h := h.2 hc
      refine x_iload_n X dX5_at_12 1 rfl ?_
      refine x_aload_n X dX5_at_13 0 rfl ?_
      refine x_get X inGX5 0 (by decide) rfl tw_191 dX5_at_14 rfl 0 rfl rfl ?_
      refine x_alen (v := (96 : Int32)) X dX5_at_17 1 1 rfl rfl rfl ?_
      refine x_icmp_ge (tgt := 30) X dX5_at_18 (by decide) (fun hc => ?_) (fun hc => ?_)
      · have h := h.1 hc
        exact x_sub X [] rfl (k30 h)
      · have h := h.2 hc
        refine x_aload_n X dX5_at_21 0 rfl ?_
        refine x_get X inGX5 0 (by decide) rfl tw_191 dX5_at_22 rfl 0 rfl rfl ?_
        refine x_iload_n X dX5_at_25 1 rfl ?_
        obtain ⟨hi, h⟩ := h
        refine x_iald X dX5_at_26 1 rfl hi ?_
        refine x_goto (tgt := 31) X dX5_at_27 (by decide) ?_
        exact x_sub X [] rfl (k31 (t_bytes p1.toNatClampNeg) h)
theorem dX5_put_0 : decode cX5_put 0 = .ok (.aload_n 0, 1) := by decide +kernel
theorem dX5_put_1 : decode cX5_put 1 = .ok (.getfield 15, 3) := by decide +kernel
theorem dX5_put_4 : decode cX5_put 4 = .ok (.ifCond .lt 35, 3) := by decide +kernel
theorem dX5_put_7 : decode cX5_put 7 = .ok (.aload_n 0, 1) := by decide +kernel
theorem dX5_put_8 : decode cX5_put 8 = .ok (.getfield 15, 3) := by decide +kernel
theorem dX5_put_11 : decode cX5_put 11 = .ok (.aload_n 0, 1) := by decide +kernel
theorem dX5_put_12 : decode cX5_put 12 = .ok (.getfield 11, 3) := by decide +kernel
theorem dX5_put_15 : decode cX5_put 15 = .ok (.arraylength, 1) := by decide +kernel
theorem dX5_put_16 : decode cX5_put 16 = .ok (.if_icmp .ge 23, 3) := by decide +kernel
theorem dX5_put_19 : decode cX5_put 19 = .ok (.aload_n 0, 1) := by decide +kernel
theorem dX5_put_20 : decode cX5_put 20 = .ok (.getfield 11, 3) := by decide +kernel
theorem dX5_put_23 : decode cX5_put 23 = .ok (.aload_n 0, 1) := by decide +kernel
theorem dX5_put_24 : decode cX5_put 24 = .ok (.getfield 15, 3) := by decide +kernel
theorem dX5_put_27 : decode cX5_put 27 = .ok (.iload_n 1, 1) := by decide +kernel
theorem dX5_put_28 : decode cX5_put 28 = .ok (.iastore, 1) := by decide +kernel
theorem dX5_put_29 : decode cX5_put 29 = .ok (.aload_n 0, 1) := by decide +kernel
theorem dX5_put_30 : decode cX5_put 30 = .ok (.dup, 1) := by decide +kernel
theorem dX5_put_31 : decode cX5_put 31 = .ok (.getfield 15, 3) := by decide +kernel
theorem dX5_put_34 : decode cX5_put 34 = .ok (.iconst 1, 1) := by decide +kernel
theorem dX5_put_35 : decode cX5_put 35 = .ok (.iadd, 1) := by decide +kernel
theorem dX5_put_36 : decode cX5_put 36 = .ok (.putfield 15, 3) := by decide +kernel
theorem dX5_put_39 : decode cX5_put 39 = .ok (.return_, 1) := by decide +kernel
set_option maxHeartbeats 4000000 in
set_option maxRecDepth 100000 in
theorem c_X5_put (l : Launch) (D : eD) (T : Nat → ClassId) (h_t h_t_bytes : Nat) (t_length : Int32) (t_bytes : Nat → Int32) (p1 : Int32) (post : Int32 → (Nat → Int32) → Prop) (h : F_X5_put t_length t_bytes p1 post) : cV l D T yX5_put cX5_put 2 none 0 0 0 0 [.ref h_t, .int p1] [(h_t, .inr (4, [.ref h_t_bytes, .int t_length])), (h_t_bytes, aI T 96 t_bytes)] (fun w1 => ∃ (t_length1 : Int32) (t_bytes1 : Nat → Int32), w1 = [(h_t, .inr (4, [.ref h_t_bytes, .int t_length1])), (h_t_bytes, aI T 96 t_bytes1)] ∧ post t_length1 t_bytes1) := by
  refine xV_of (by decide +kernel) (Nat.le_of_ble_eq_true rfl) rfl ?_
  intro G X hret
  change G 0 0 0 [(0, .ref h_t), (1, .int p1)] [] [(h_t, .inr (4, [.ref h_t_bytes, .int t_length])), (h_t_bytes, aI T 96 t_bytes)]
  unfold F_X5_put at h
  have k39 : ∀ (t_length : Int32) (t_bytes : Nat → Int32), F_X5_put_39 post t_length t_bytes → G 0 0 39 [] [] [(h_t, .inr (4, [.ref h_t_bytes, .int t_length])), (h_t_bytes, aI T 96 t_bytes)] := by
    intro t_length t_bytes h
    unfold F_X5_put_39 at h
    exact hret _ _ _ dX5_put_39 ⟨t_length, t_bytes, rfl, h⟩
  refine x_aload_n X dX5_put_0 0 rfl ?_
  refine x_get X inGX5 1 (by decide) rfl tw_192 dX5_put_1 rfl 0 rfl rfl ?_
  refine x_if_lt (tgt := 39) X dX5_put_4 (by decide) (fun hc => ?_) (fun hc => ?_)
  · have h := h.1 hc
    exact x_sub X [] rfl (k39 t_length t_bytes h)
  · have h := h.2 hc
    refine x_aload_n X dX5_put_7 0 rfl ?_
    refine x_get X inGX5 1 (by decide) rfl tw_192 dX5_put_8 rfl 0 rfl rfl ?_
    refine x_aload_n X dX5_put_11 0 rfl ?_
    refine x_get X inGX5 0 (by decide) rfl tw_191 dX5_put_12 rfl 0 rfl rfl ?_
    refine x_alen (v := (96 : Int32)) X dX5_put_15 1 1 rfl rfl rfl ?_
    refine x_icmp_ge (tgt := 39) X dX5_put_16 (by decide) (fun hc => ?_) (fun hc => ?_)
    · have h := h.1 hc
      exact x_sub X [] rfl (k39 t_length t_bytes h)
    · have h := h.2 hc
      refine x_aload_n X dX5_put_19 0 rfl ?_
      refine x_get X inGX5 0 (by decide) rfl tw_191 dX5_put_20 rfl 0 rfl rfl ?_
      refine x_aload_n X dX5_put_23 0 rfl ?_
      refine x_get X inGX5 1 (by decide) rfl tw_192 dX5_put_24 rfl 0 rfl rfl ?_
      refine x_iload_n X dX5_put_27 1 rfl ?_
      obtain ⟨hi, h⟩ := h
      refine x_iast (ws' := [(h_t, .inr (4, [.ref h_t_bytes, .int t_length])), (h_t_bytes, aI T 96 (upd t_bytes t_length.toNatClampNeg p1))]) X dX5_put_28 1 rfl hi rfl ?_
      refine x_aload_n X dX5_put_29 0 rfl ?_
      refine x_dup X dX5_put_30 rfl ?_
      refine x_get X inGX5 1 (by decide) rfl tw_192 dX5_put_31 rfl 0 rfl rfl ?_
      refine x_iconst (v := 1) X dX5_put_34 (by decide) ?_
      refine x_iadd X dX5_put_35 ?_
      refine x_put (ws' := [(h_t, .inr (4, [.ref h_t_bytes, .int (t_length + (1 : Int32))])), (h_t_bytes, aI T 96 (upd t_bytes t_length.toNatClampNeg p1))]) X inGX5 tyX5_ok nmX5 1 (by decide) rfl tw_192 dX5_put_36 rfl rfl 0 rfl rfl rfl (Nat.le_of_ble_eq_true rfl) rfl ?_
      exact x_sub X [] rfl (k39 (t_length + (1 : Int32)) (upd t_bytes t_length.toNatClampNeg p1) h)
theorem dX5_putBlank_0 : decode cX5_putBlank 0 = .ok (.aload_n 0, 1) := by decide +kernel
theorem dX5_putBlank_1 : decode cX5_putBlank 1 = .ok (.getfield 15, 3) := by decide +kernel
theorem dX5_putBlank_4 : decode cX5_putBlank 4 = .ok (.ifCond .le 9, 3) := by decide +kernel
theorem dX5_putBlank_7 : decode cX5_putBlank 7 = .ok (.aload_n 0, 1) := by decide +kernel
theorem dX5_putBlank_8 : decode cX5_putBlank 8 = .ok (.bipush 32, 2) := by decide +kernel
theorem dX5_putBlank_10 : decode cX5_putBlank 10 = .ok (.invokevirtual 52, 3) := by decide +kernel
theorem dX5_putBlank_13 : decode cX5_putBlank 13 = .ok (.return_, 1) := by decide +kernel
set_option maxHeartbeats 4000000 in
set_option maxRecDepth 100000 in
theorem c_X5_putBlank (l : Launch) (D : eD) (T : Nat → ClassId) (h_t h_t_bytes : Nat) (t_length : Int32) (t_bytes : Nat → Int32) (post : Int32 → (Nat → Int32) → Prop) (h : F_X5_putBlank t_length t_bytes post) : cV l D T yX5_putBlank cX5_putBlank 1 none 1 21 0 0 [.ref h_t] [(h_t, .inr (4, [.ref h_t_bytes, .int t_length])), (h_t_bytes, aI T 96 t_bytes)] (fun w1 => ∃ (t_length1 : Int32) (t_bytes1 : Nat → Int32), w1 = [(h_t, .inr (4, [.ref h_t_bytes, .int t_length1])), (h_t_bytes, aI T 96 t_bytes1)] ∧ post t_length1 t_bytes1) := by
  refine xV_of (by decide +kernel) (Nat.le_of_ble_eq_true rfl) rfl ?_
  intro G X hret
  change G 0 0 0 [(0, .ref h_t)] [] [(h_t, .inr (4, [.ref h_t_bytes, .int t_length])), (h_t_bytes, aI T 96 t_bytes)]
  unfold F_X5_putBlank at h
  have k13 : ∀ (t_length : Int32) (t_bytes : Nat → Int32), F_X5_putBlank_13 post t_length t_bytes → G 0 0 13 [] [] [(h_t, .inr (4, [.ref h_t_bytes, .int t_length])), (h_t_bytes, aI T 96 t_bytes)] := by
    intro t_length t_bytes h
    unfold F_X5_putBlank_13 at h
    exact hret _ _ _ dX5_putBlank_13 ⟨t_length, t_bytes, rfl, h⟩
  refine x_aload_n X dX5_putBlank_0 0 rfl ?_
  refine x_get X inGX5 1 (by decide) rfl tw_192 dX5_putBlank_1 rfl 0 rfl rfl ?_
  refine x_if_le (tgt := 13) X dX5_putBlank_4 (by decide) (fun hc => ?_) (fun hc => ?_)
  · have h := h.1 hc
    exact x_sub X [] rfl (k13 t_length t_bytes h)
  · have h := h.2 hc
    refine x_aload_n X dX5_putBlank_7 0 rfl ?_
    refine x_bipush (v := 32) X dX5_putBlank_8 (by decide) ?_
    refine x_callVV (av := [.int (32 : Int32)]) (st := []) (wr := []) X (c_X5_put l D T h_t h_t_bytes t_length t_bytes (32 : Int32) _ h) yk_X5_put tw_1367 dX5_putBlank_10 0 rfl rfl [0, 1] [] rfl rfl rfl rfl (by decide) rfl rfl (Nat.le_of_ble_eq_true rfl) (Nat.le_of_ble_eq_true rfl) (Nat.le_of_ble_eq_true rfl) (Nat.zero_le _) (Nat.zero_le _) (fun w1 hw => ?_)
    obtain ⟨t_length_10, t_bytes_10, rfl, h⟩ := hw
    refine x_perm (ws2 := [(h_t, .inr (4, [.ref h_t_bytes, .int t_length_10])), (h_t_bytes, aI T 96 t_bytes_10)]) X [0, 1] rfl rfl ?_
    exact x_sub X [] rfl (k13 t_length_10 t_bytes_10 h)
theorem dX5_putNumber_0 : decode cX5_putNumber 0 = .ok (.aload_n 0, 1) := by decide +kernel
theorem dX5_putNumber_1 : decode cX5_putNumber 1 = .ok (.invokevirtual 55, 3) := by decide +kernel
theorem dX5_putNumber_4 : decode cX5_putNumber 4 = .ok (.aload_n 0, 1) := by decide +kernel
theorem dX5_putNumber_5 : decode cX5_putNumber 5 = .ok (.bipush 48, 2) := by decide +kernel
theorem dX5_putNumber_7 : decode cX5_putNumber 7 = .ok (.iload_n 1, 1) := by decide +kernel
theorem dX5_putNumber_8 : decode cX5_putNumber 8 = .ok (.iadd, 1) := by decide +kernel
theorem dX5_putNumber_9 : decode cX5_putNumber 9 = .ok (.invokevirtual 52, 3) := by decide +kernel
theorem dX5_putNumber_12 : decode cX5_putNumber 12 = .ok (.return_, 1) := by decide +kernel
set_option maxHeartbeats 4000000 in
set_option maxRecDepth 100000 in
theorem c_X5_putNumber (l : Launch) (D : eD) (T : Nat → ClassId) (h_t h_t_bytes : Nat) (t_length : Int32) (t_bytes : Nat → Int32) (p1 : Int32) (post : Int32 → (Nat → Int32) → Prop) (h : F_X5_putNumber t_length t_bytes p1 post) : cV l D T yX5_putNumber cX5_putNumber 2 none 2 41 0 0 [.ref h_t, .int p1] [(h_t, .inr (4, [.ref h_t_bytes, .int t_length])), (h_t_bytes, aI T 96 t_bytes)] (fun w1 => ∃ (t_length1 : Int32) (t_bytes1 : Nat → Int32), w1 = [(h_t, .inr (4, [.ref h_t_bytes, .int t_length1])), (h_t_bytes, aI T 96 t_bytes1)] ∧ post t_length1 t_bytes1) := by
  refine xV_of (by decide +kernel) (Nat.le_of_ble_eq_true rfl) rfl ?_
  intro G X hret
  change G 0 0 0 [(0, .ref h_t), (1, .int p1)] [] [(h_t, .inr (4, [.ref h_t_bytes, .int t_length])), (h_t_bytes, aI T 96 t_bytes)]
  unfold F_X5_putNumber at h
  refine x_aload_n X dX5_putNumber_0 0 rfl ?_
  refine x_callVV (av := []) (st := []) (wr := []) X (c_X5_putBlank l D T h_t h_t_bytes t_length t_bytes _ h) yk_X5_putBlank tw_1363 dX5_putNumber_1 0 rfl rfl [0, 1] [] rfl rfl rfl rfl (by decide) rfl rfl (Nat.le_of_ble_eq_true rfl) (Nat.le_of_ble_eq_true rfl) (Nat.le_of_ble_eq_true rfl) (Nat.zero_le _) (Nat.zero_le _) (fun w1 hw => ?_)
  obtain ⟨t_length_1, t_bytes_1, rfl, h⟩ := hw
  refine x_perm (ws2 := [(h_t, .inr (4, [.ref h_t_bytes, .int t_length_1])), (h_t_bytes, aI T 96 t_bytes_1)]) X [0, 1] rfl rfl ?_
  refine x_aload_n X dX5_putNumber_4 0 rfl ?_
  refine x_bipush (v := 48) X dX5_putNumber_5 (by decide) ?_
  refine x_iload_n X dX5_putNumber_7 1 rfl ?_
  refine x_iadd X dX5_putNumber_8 ?_
  refine x_callVV (av := [.int ((48 : Int32) + p1)]) (st := []) (wr := []) X (c_X5_put l D T h_t h_t_bytes t_length_1 t_bytes_1 ((48 : Int32) + p1) _ h) yk_X5_put tw_1367 dX5_putNumber_9 0 rfl rfl [0, 1] [] rfl rfl rfl rfl (by decide) rfl rfl (Nat.le_of_ble_eq_true rfl) (Nat.le_of_ble_eq_true rfl) (Nat.le_of_ble_eq_true rfl) (Nat.zero_le _) (Nat.zero_le _) (fun w1 hw => ?_)
  obtain ⟨t_length_9, t_bytes_9, rfl, h⟩ := hw
  refine x_perm (ws2 := [(h_t, .inr (4, [.ref h_t_bytes, .int t_length_9])), (h_t_bytes, aI T 96 t_bytes_9)]) X [0, 1] rfl rfl ?_
  exact hret _ _ _ dX5_putNumber_12 ⟨t_length_9, t_bytes_9, rfl, h⟩
theorem dX5_putWord_0 : decode cX5_putWord 0 = .ok (.aload_n 0, 1) := by decide +kernel
theorem dX5_putWord_1 : decode cX5_putWord 1 = .ok (.invokevirtual 55, 3) := by decide +kernel
theorem dX5_putWord_4 : decode cX5_putWord 4 = .ok (.iconst 0, 1) := by decide +kernel
theorem dX5_putWord_5 : decode cX5_putWord 5 = .ok (.istore_n 2, 1) := by decide +kernel
theorem dX5_putWord_6 : decode cX5_putWord 6 = .ok (.iload_n 2, 1) := by decide +kernel
theorem dX5_putWord_7 : decode cX5_putWord 7 = .ok (.aload_n 1, 1) := by decide +kernel
theorem dX5_putWord_8 : decode cX5_putWord 8 = .ok (.invokevirtual 58, 3) := by decide +kernel
theorem dX5_putWord_11 : decode cX5_putWord 11 = .ok (.if_icmp .ge 18, 3) := by decide +kernel
theorem dX5_putWord_14 : decode cX5_putWord 14 = .ok (.aload_n 0, 1) := by decide +kernel
theorem dX5_putWord_15 : decode cX5_putWord 15 = .ok (.aload_n 1, 1) := by decide +kernel
theorem dX5_putWord_16 : decode cX5_putWord 16 = .ok (.iload_n 2, 1) := by decide +kernel
theorem dX5_putWord_17 : decode cX5_putWord 17 = .ok (.invokevirtual 63, 3) := by decide +kernel
theorem dX5_putWord_20 : decode cX5_putWord 20 = .ok (.invokevirtual 52, 3) := by decide +kernel
theorem dX5_putWord_23 : decode cX5_putWord 23 = .ok (.iinc 2 1, 3) := by decide +kernel
theorem dX5_putWord_26 : decode cX5_putWord 26 = .ok (.goto (-20), 3) := by decide +kernel
theorem dX5_putWord_29 : decode cX5_putWord 29 = .ok (.return_, 1) := by decide +kernel
set_option maxHeartbeats 4000000 in
set_option maxRecDepth 100000 in
theorem c_X5_putWord (l : Launch) (D : eD) (T : Nat → ClassId) (h_t h_t_bytes : Nat) (t_length : Int32) (t_bytes : Nat → Int32) (p1 : Nat) (post : Int32 → (Nat → Int32) → Prop) (h : F_X5_putWord t_length t_bytes p1 post) : cV l D T yX5_putWord cX5_putWord 3 none 5 140 0 0 [.ref h_t, .ref (D.2.1 p1)] [(h_t, .inr (4, [.ref h_t_bytes, .int t_length])), (h_t_bytes, aI T 96 t_bytes)] (fun w1 => ∃ (t_length1 : Int32) (t_bytes1 : Nat → Int32), w1 = [(h_t, .inr (4, [.ref h_t_bytes, .int t_length1])), (h_t_bytes, aI T 96 t_bytes1)] ∧ post t_length1 t_bytes1) := by
  refine xV_of (by decide +kernel) (Nat.le_of_ble_eq_true rfl) rfl ?_
  intro G X hret
  change G 0 0 0 [(0, .ref h_t), (1, .ref (D.2.1 p1))] [] [(h_t, .inr (4, [.ref h_t_bytes, .int t_length])), (h_t_bytes, aI T 96 t_bytes)]
  unfold F_X5_putWord at h
  have k6 : ∀ (n6 : Nat) (x1 : Nat) (x2 : Int32) (t_length : Int32) (t_bytes : Nat → Int32), F_X5_putWord_6 post n6 x1 x2 t_length t_bytes → G 0 0 6 [(0, .ref h_t), (1, .ref (D.2.1 x1)), (2, .int x2)] [] [(h_t, .inr (4, [.ref h_t_bytes, .int t_length])), (h_t_bytes, aI T 96 t_bytes)] := by
    intro n6
    induction n6 with
    | zero => intro x1 x2 t_length t_bytes h; exact h.elim
    | succ n6 ih6 =>
      intro x1 x2 t_length t_bytes h
      rw [F_X5_putWord_6] at h
      refine x_iload_n X dX5_putWord_6 2 rfl ?_
      refine x_aload_n X dX5_putWord_7 1 rfl ?_
      obtain ⟨hsi, h⟩ := h
      refine x_callVS (av := []) (st := [.int x2]) X x1 hsi (c_J0_length l D T x1 hsi) rfl yk_J0_length tw_1371 dX5_putWord_8 rfl rfl (Nat.le_of_ble_eq_true rfl) (Nat.le_of_ble_eq_true rfl) (Nat.le_of_ble_eq_true rfl) (Nat.zero_le _) (Nat.zero_le _) (fun _ _ hw => hw.1) (fun v hw => ?_)
      obtain ⟨-, rfl⟩ := hw
      refine x_icmp_ge (tgt := 29) X dX5_putWord_11 (by decide) (fun hc => ?_) (fun hc => ?_)
      · have h := h.1 hc
        exact hret _ _ _ dX5_putWord_29 ⟨t_length, t_bytes, rfl, h⟩
      · have h := h.2 hc
        refine x_aload_n X dX5_putWord_14 0 rfl ?_
        refine x_aload_n X dX5_putWord_15 1 rfl ?_
        refine x_iload_n X dX5_putWord_16 2 rfl ?_
        obtain ⟨hsi, h⟩ := h
        obtain ⟨hki, h⟩ := h
        refine x_callVS (av := [.int x2]) (st := [.ref h_t]) X x1 hsi (c_J0_charAt l D T x1 hsi x2 hki) rfl yk_J0_charAt tw_1372 dX5_putWord_17 rfl rfl (Nat.le_of_ble_eq_true rfl) (Nat.le_of_ble_eq_true rfl) (Nat.le_of_ble_eq_true rfl) (Nat.zero_le _) (Nat.zero_le _) (fun _ _ hw => hw.1) (fun v hw => ?_)
        obtain ⟨-, rfl⟩ := hw
        refine x_callVV (av := [.int (eCh x1 x2)]) (st := []) (wr := []) X (c_X5_put l D T h_t h_t_bytes t_length t_bytes (eCh x1 x2) _ h) yk_X5_put tw_1367 dX5_putWord_20 0 rfl rfl [0, 1] [] rfl rfl rfl rfl (by decide) rfl rfl (Nat.le_of_ble_eq_true rfl) (Nat.le_of_ble_eq_true rfl) (Nat.le_of_ble_eq_true rfl) (Nat.zero_le _) (Nat.zero_le _) (fun w1 hw => ?_)
        obtain ⟨t_length_20, t_bytes_20, rfl, h⟩ := hw
        refine x_perm (ws2 := [(h_t, .inr (4, [.ref h_t_bytes, .int t_length_20])), (h_t_bytes, aI T 96 t_bytes_20)]) X [0, 1] rfl rfl ?_
        refine x_iinc (v := (x2 + 1)) (lv' := [(2, .int (x2 + 1)), (0, .ref h_t), (1, .ref (D.2.1 x1))]) X dX5_putWord_23 2 rfl rfl (by decide) rfl ?_
        refine x_goto (tgt := 6) X dX5_putWord_26 (by decide) ?_
        exact x_sub X [1, 2, 0] rfl (ih6 x1 (x2 + 1) t_length_20 t_bytes_20 h)
  refine x_aload_n X dX5_putWord_0 0 rfl ?_
  refine x_callVV (av := []) (st := []) (wr := []) X (c_X5_putBlank l D T h_t h_t_bytes t_length t_bytes _ h) yk_X5_putBlank tw_1363 dX5_putWord_1 0 rfl rfl [0, 1] [] rfl rfl rfl rfl (by decide) rfl rfl (Nat.le_of_ble_eq_true rfl) (Nat.le_of_ble_eq_true rfl) (Nat.le_of_ble_eq_true rfl) (Nat.zero_le _) (Nat.zero_le _) (fun w1 hw => ?_)
  obtain ⟨t_length_1, t_bytes_1, rfl, h⟩ := hw
  refine x_perm (ws2 := [(h_t, .inr (4, [.ref h_t_bytes, .int t_length_1])), (h_t_bytes, aI T 96 t_bytes_1)]) X [0, 1] rfl rfl ?_
  refine x_iconst (v := 0) X dX5_putWord_4 (by decide) ?_
  refine x_istore_n (lv' := [(2, .int (0 : Int32)), (0, .ref h_t), (1, .ref (D.2.1 p1))]) X dX5_putWord_5 (by decide) rfl ?_
  obtain ⟨n6, h⟩ := h
  exact x_sub X [1, 2, 0] rfl (k6 n6 p1 (0 : Int32) t_length_1 t_bytes_1 h)
theorem dX5_writeEdges_0 : decode cX5_writeEdges 0 = .ok (.iload_n 1, 1) := by decide +kernel
theorem dX5_writeEdges_1 : decode cX5_writeEdges 1 = .ok (.iload_n 2, 1) := by decide +kernel
theorem dX5_writeEdges_2 : decode cX5_writeEdges 2 = .ok (.invokestatic 43, 3) := by decide +kernel
theorem dX5_writeEdges_5 : decode cX5_writeEdges 5 = .ok (.istore_n 3, 1) := by decide +kernel
theorem dX5_writeEdges_6 : decode cX5_writeEdges 6 = .ok (.iload_n 3, 1) := by decide +kernel
theorem dX5_writeEdges_7 : decode cX5_writeEdges 7 = .ok (.ifCond .le 9, 3) := by decide +kernel
theorem dX5_writeEdges_10 : decode cX5_writeEdges 10 = .ok (.aload_n 0, 1) := by decide +kernel
theorem dX5_writeEdges_11 : decode cX5_writeEdges 11 = .ok (.ldc 46, 2) := by decide +kernel
theorem dX5_writeEdges_13 : decode cX5_writeEdges 13 = .ok (.invokevirtual 21, 3) := by decide +kernel
theorem dX5_writeEdges_16 : decode cX5_writeEdges 16 = .ok (.iconst 0, 1) := by decide +kernel
theorem dX5_writeEdges_17 : decode cX5_writeEdges 17 = .ok (.istore 4, 2) := by decide +kernel
theorem dX5_writeEdges_19 : decode cX5_writeEdges 19 = .ok (.iload 4, 2) := by decide +kernel
theorem dX5_writeEdges_21 : decode cX5_writeEdges 21 = .ok (.iload_n 1, 1) := by decide +kernel
theorem dX5_writeEdges_22 : decode cX5_writeEdges 22 = .ok (.if_icmp .ge 64, 3) := by decide +kernel
theorem dX5_writeEdges_25 : decode cX5_writeEdges 25 = .ok (.iload 4, 2) := by decide +kernel
theorem dX5_writeEdges_27 : decode cX5_writeEdges 27 = .ok (.iconst 1, 1) := by decide +kernel
theorem dX5_writeEdges_28 : decode cX5_writeEdges 28 = .ok (.iadd, 1) := by decide +kernel
theorem dX5_writeEdges_29 : decode cX5_writeEdges 29 = .ok (.istore 5, 2) := by decide +kernel
theorem dX5_writeEdges_31 : decode cX5_writeEdges 31 = .ok (.iload 5, 2) := by decide +kernel
theorem dX5_writeEdges_33 : decode cX5_writeEdges 33 = .ok (.iload_n 1, 1) := by decide +kernel
theorem dX5_writeEdges_34 : decode cX5_writeEdges 34 = .ok (.if_icmp .ge 46, 3) := by decide +kernel
theorem dX5_writeEdges_37 : decode cX5_writeEdges 37 = .ok (.iload_n 1, 1) := by decide +kernel
theorem dX5_writeEdges_38 : decode cX5_writeEdges 38 = .ok (.iload_n 2, 1) := by decide +kernel
theorem dX5_writeEdges_39 : decode cX5_writeEdges 39 = .ok (.iload 4, 2) := by decide +kernel
theorem dX5_writeEdges_41 : decode cX5_writeEdges 41 = .ok (.iload 5, 2) := by decide +kernel
theorem dX5_writeEdges_43 : decode cX5_writeEdges 43 = .ok (.invokestatic 48, 3) := by decide +kernel
theorem dX5_writeEdges_46 : decode cX5_writeEdges 46 = .ok (.ifCond .eq 28, 3) := by decide +kernel
theorem dX5_writeEdges_49 : decode cX5_writeEdges 49 = .ok (.aload_n 0, 1) := by decide +kernel
theorem dX5_writeEdges_50 : decode cX5_writeEdges 50 = .ok (.iload 4, 2) := by decide +kernel
theorem dX5_writeEdges_52 : decode cX5_writeEdges 52 = .ok (.invokevirtual 25, 3) := by decide +kernel
theorem dX5_writeEdges_55 : decode cX5_writeEdges 55 = .ok (.aload_n 0, 1) := by decide +kernel
theorem dX5_writeEdges_56 : decode cX5_writeEdges 56 = .ok (.iload 5, 2) := by decide +kernel
theorem dX5_writeEdges_58 : decode cX5_writeEdges 58 = .ok (.invokevirtual 25, 3) := by decide +kernel
theorem dX5_writeEdges_61 : decode cX5_writeEdges 61 = .ok (.iinc 3 (-1), 3) := by decide +kernel
theorem dX5_writeEdges_64 : decode cX5_writeEdges 64 = .ok (.iload_n 3, 1) := by decide +kernel
theorem dX5_writeEdges_65 : decode cX5_writeEdges 65 = .ok (.ifCond .le 9, 3) := by decide +kernel
theorem dX5_writeEdges_68 : decode cX5_writeEdges 68 = .ok (.aload_n 0, 1) := by decide +kernel
theorem dX5_writeEdges_69 : decode cX5_writeEdges 69 = .ok (.bipush 44, 2) := by decide +kernel
theorem dX5_writeEdges_71 : decode cX5_writeEdges 71 = .ok (.invokevirtual 52, 3) := by decide +kernel
theorem dX5_writeEdges_74 : decode cX5_writeEdges 74 = .ok (.iinc 5 1, 3) := by decide +kernel
theorem dX5_writeEdges_77 : decode cX5_writeEdges 77 = .ok (.goto (-46), 3) := by decide +kernel
theorem dX5_writeEdges_80 : decode cX5_writeEdges 80 = .ok (.iinc 4 1, 3) := by decide +kernel
theorem dX5_writeEdges_83 : decode cX5_writeEdges 83 = .ok (.goto (-64), 3) := by decide +kernel
theorem dX5_writeEdges_86 : decode cX5_writeEdges 86 = .ok (.return_, 1) := by decide +kernel
set_option maxHeartbeats 4000000 in
set_option maxRecDepth 100000 in
theorem c_X5_writeEdges (l : Launch) (D : eD) (T : Nat → ClassId) (h_t h_t_bytes : Nat) (t_length : Int32) (t_bytes : Nat → Int32) (p1 : Int32) (p2 : Int32) (post : Int32 → (Nat → Int32) → Prop) (h : F_X5_writeEdges t_length t_bytes p1 p2 post) : cV l D T yX5_writeEdges cX5_writeEdges 6 none 6 162 0 0 [.ref h_t, .int p1, .int p2] [(h_t, .inr (4, [.ref h_t_bytes, .int t_length])), (h_t_bytes, aI T 96 t_bytes)] (fun w1 => ∃ (t_length1 : Int32) (t_bytes1 : Nat → Int32), w1 = [(h_t, .inr (4, [.ref h_t_bytes, .int t_length1])), (h_t_bytes, aI T 96 t_bytes1)] ∧ post t_length1 t_bytes1) := by
  refine xV_of (by decide +kernel) (Nat.le_of_ble_eq_true rfl) rfl ?_
  intro G X hret
  change G 0 0 0 [(0, .ref h_t), (1, .int p1), (2, .int p2)] [] [(h_t, .inr (4, [.ref h_t_bytes, .int t_length])), (h_t_bytes, aI T 96 t_bytes)]
  unfold F_X5_writeEdges at h
  have k16 : ∀ (x1 : Int32) (x2 : Int32) (x3 : Int32) (t_length : Int32) (t_bytes : Nat → Int32), F_X5_writeEdges_16 post x1 x2 x3 t_length t_bytes → G 0 0 16 [(0, .ref h_t), (1, .int x1), (2, .int x2), (3, .int x3)] [] [(h_t, .inr (4, [.ref h_t_bytes, .int t_length])), (h_t_bytes, aI T 96 t_bytes)] := by
    intro x1 x2 x3 t_length t_bytes h
    unfold F_X5_writeEdges_16 at h
    have k19 : ∀ (n19 : Nat) (x1 : Int32) (x2 : Int32) (x3 : Int32) (x4 : Int32) (t_length : Int32) (t_bytes : Nat → Int32), F_X5_writeEdges_19 post n19 x1 x2 x3 x4 t_length t_bytes → G 0 0 19 [(0, .ref h_t), (1, .int x1), (2, .int x2), (3, .int x3), (4, .int x4)] [] [(h_t, .inr (4, [.ref h_t_bytes, .int t_length])), (h_t_bytes, aI T 96 t_bytes)] := by
      intro n19
      induction n19 with
      | zero => intro x1 x2 x3 x4 t_length t_bytes h; exact h.elim
      | succ n19 ih19 =>
        intro x1 x2 x3 x4 t_length t_bytes h
        rw [F_X5_writeEdges_19] at h
        have k31 : ∀ (n31 : Nat) (x1 : Int32) (x2 : Int32) (x3 : Int32) (x4 : Int32) (x5 : Int32) (t_length : Int32) (t_bytes : Nat → Int32), F_X5_writeEdges_31 post (F_X5_writeEdges_19 post n19) n31 x1 x2 x3 x4 x5 t_length t_bytes → G 0 0 31 [(0, .ref h_t), (1, .int x1), (2, .int x2), (3, .int x3), (4, .int x4), (5, .int x5)] [] [(h_t, .inr (4, [.ref h_t_bytes, .int t_length])), (h_t_bytes, aI T 96 t_bytes)] := by
          intro n31
          induction n31 with
          | zero => intro x1 x2 x3 x4 x5 t_length t_bytes h; exact h.elim
          | succ n31 ih31 =>
            intro x1 x2 x3 x4 x5 t_length t_bytes h
            rw [F_X5_writeEdges_31] at h
            have k74 : ∀ (x1 : Int32) (x2 : Int32) (x3 : Int32) (x4 : Int32) (x5 : Int32) (t_length : Int32) (t_bytes : Nat → Int32), F_X5_writeEdges_74 post (F_X5_writeEdges_31 post (F_X5_writeEdges_19 post n19) n31) x1 x2 x3 x4 x5 t_length t_bytes → G 0 0 74 [(0, .ref h_t), (1, .int x1), (2, .int x2), (3, .int x3), (4, .int x4), (5, .int x5)] [] [(h_t, .inr (4, [.ref h_t_bytes, .int t_length])), (h_t_bytes, aI T 96 t_bytes)] := by
              intro x1 x2 x3 x4 x5 t_length t_bytes h
              unfold F_X5_writeEdges_74 at h
              refine x_iinc (v := (x5 + 1)) (lv' := [(5, .int (x5 + 1)), (0, .ref h_t), (1, .int x1), (2, .int x2), (3, .int x3), (4, .int x4)]) X dX5_writeEdges_74 5 rfl rfl (by decide) rfl ?_
              refine x_goto (tgt := 31) X dX5_writeEdges_77 (by decide) ?_
              exact x_sub X [1, 2, 3, 4, 5, 0] rfl (ih31 x1 x2 x3 x4 (x5 + 1) t_length t_bytes h)
            refine x_iload X dX5_writeEdges_31 5 rfl ?_
            refine x_iload_n X dX5_writeEdges_33 1 rfl ?_
            refine x_icmp_ge (tgt := 80) X dX5_writeEdges_34 (by decide) (fun hc => ?_) (fun hc => ?_)
            · have h := h.1 hc
              refine x_iinc (v := (x4 + 1)) (lv' := [(4, .int (x4 + 1)), (0, .ref h_t), (1, .int x1), (2, .int x2), (3, .int x3), (5, .int x5)]) X dX5_writeEdges_80 4 rfl rfl (by decide) rfl ?_
              refine x_goto (tgt := 19) X dX5_writeEdges_83 (by decide) ?_
              exact x_sub X [1, 2, 3, 4, 0] rfl (ih19 x1 x2 x3 (x4 + 1) t_length t_bytes h)
            · have h := h.2 hc
              refine x_iload_n X dX5_writeEdges_37 1 rfl ?_
              refine x_iload_n X dX5_writeEdges_38 2 rfl ?_
              refine x_iload X dX5_writeEdges_39 4 rfl ?_
              refine x_iload X dX5_writeEdges_41 5 rfl ?_
              refine x_callSI (av := [.int x1, .int x2, .int x4, .int x5]) (st := []) (wr := [(h_t, .inr (4, [.ref h_t_bytes, .int t_length])), (h_t_bytes, aI T 96 t_bytes)]) X (c_X0_areJoined l D T  x1 x2 x4 x5 _ h) yk_X0_areJoined tw_1386 dX5_writeEdges_43 [] [0, 1] rfl rfl rfl rfl (by decide) rfl rfl (Nat.le_of_ble_eq_true rfl) (Nat.le_of_ble_eq_true rfl) (Nat.le_of_ble_eq_true rfl) (Nat.zero_le _) (Nat.zero_le _) (fun r43 w1 hw => ?_)
              obtain ⟨rfl, h⟩ := hw
              refine x_perm (ws2 := [(h_t, .inr (4, [.ref h_t_bytes, .int t_length])), (h_t_bytes, aI T 96 t_bytes)]) X [0, 1] rfl rfl ?_
              refine x_if_eq (tgt := 74) X dX5_writeEdges_46 (by decide) (fun hc => ?_) (fun hc => ?_)
              · have h := h.1 hc
                exact x_sub X [0, 1, 2, 3, 4, 5] rfl (k74 x1 x2 x3 x4 x5 t_length t_bytes h)
              · have h := h.2 hc
                refine x_aload_n X dX5_writeEdges_49 0 rfl ?_
                refine x_iload X dX5_writeEdges_50 4 rfl ?_
                refine x_callVV (av := [.int x4]) (st := []) (wr := []) X (c_X5_putNumber l D T h_t h_t_bytes t_length t_bytes x4 _ h) yk_X5_putNumber tw_1373 dX5_writeEdges_52 0 rfl rfl [0, 1] [] rfl rfl rfl rfl (by decide) rfl rfl (Nat.le_of_ble_eq_true rfl) (Nat.le_of_ble_eq_true rfl) (Nat.le_of_ble_eq_true rfl) (Nat.zero_le _) (Nat.zero_le _) (fun w1 hw => ?_)
                obtain ⟨t_length_52, t_bytes_52, rfl, h⟩ := hw
                refine x_perm (ws2 := [(h_t, .inr (4, [.ref h_t_bytes, .int t_length_52])), (h_t_bytes, aI T 96 t_bytes_52)]) X [0, 1] rfl rfl ?_
                refine x_aload_n X dX5_writeEdges_55 0 rfl ?_
                refine x_iload X dX5_writeEdges_56 5 rfl ?_
                refine x_callVV (av := [.int x5]) (st := []) (wr := []) X (c_X5_putNumber l D T h_t h_t_bytes t_length_52 t_bytes_52 x5 _ h) yk_X5_putNumber tw_1373 dX5_writeEdges_58 0 rfl rfl [0, 1] [] rfl rfl rfl rfl (by decide) rfl rfl (Nat.le_of_ble_eq_true rfl) (Nat.le_of_ble_eq_true rfl) (Nat.le_of_ble_eq_true rfl) (Nat.zero_le _) (Nat.zero_le _) (fun w1 hw => ?_)
                obtain ⟨t_length_58, t_bytes_58, rfl, h⟩ := hw
                refine x_perm (ws2 := [(h_t, .inr (4, [.ref h_t_bytes, .int t_length_58])), (h_t_bytes, aI T 96 t_bytes_58)]) X [0, 1] rfl rfl ?_
                refine x_iinc (v := (x3 + (-1))) (lv' := [(3, .int (x3 + (-1))), (0, .ref h_t), (1, .int x1), (2, .int x2), (4, .int x4), (5, .int x5)]) X dX5_writeEdges_61 3 rfl rfl (by decide) rfl ?_
                refine x_iload_n X dX5_writeEdges_64 0 rfl ?_
                refine x_if_le (tgt := 74) X dX5_writeEdges_65 (by decide) (fun hc => ?_) (fun hc => ?_)
                · have h := h.1 hc
                  exact x_sub X [1, 2, 3, 0, 4, 5] rfl (k74 x1 x2 (x3 + (-1)) x4 x5 t_length_58 t_bytes_58 h)
                · have h := h.2 hc
                  refine x_aload_n X dX5_writeEdges_68 1 rfl ?_
                  refine x_bipush (v := 44) X dX5_writeEdges_69 (by decide) ?_
                  refine x_callVV (av := [.int (44 : Int32)]) (st := []) (wr := []) X (c_X5_put l D T h_t h_t_bytes t_length_58 t_bytes_58 (44 : Int32) _ h) yk_X5_put tw_1367 dX5_writeEdges_71 0 rfl rfl [0, 1] [] rfl rfl rfl rfl (by decide) rfl rfl (Nat.le_of_ble_eq_true rfl) (Nat.le_of_ble_eq_true rfl) (Nat.le_of_ble_eq_true rfl) (Nat.zero_le _) (Nat.zero_le _) (fun w1 hw => ?_)
                  obtain ⟨t_length_71, t_bytes_71, rfl, h⟩ := hw
                  refine x_perm (ws2 := [(h_t, .inr (4, [.ref h_t_bytes, .int t_length_71])), (h_t_bytes, aI T 96 t_bytes_71)]) X [0, 1] rfl rfl ?_
                  exact x_sub X [1, 2, 3, 0, 4, 5] rfl (k74 x1 x2 (x3 + (-1)) x4 x5 t_length_71 t_bytes_71 h)
        refine x_iload X dX5_writeEdges_19 4 rfl ?_
        refine x_iload_n X dX5_writeEdges_21 1 rfl ?_
        refine x_icmp_ge (tgt := 86) X dX5_writeEdges_22 (by decide) (fun hc => ?_) (fun hc => ?_)
        · have h := h.1 hc
          exact hret _ _ _ dX5_writeEdges_86 ⟨t_length, t_bytes, rfl, h⟩
        · have h := h.2 hc
          refine x_iload X dX5_writeEdges_25 4 rfl ?_
          refine x_iconst (v := 1) X dX5_writeEdges_27 (by decide) ?_
          refine x_iadd X dX5_writeEdges_28 ?_
          refine x_istore (lv' := [(5, .int (x4 + (1 : Int32))), (0, .ref h_t), (1, .int x1), (2, .int x2), (3, .int x3), (4, .int x4)]) X dX5_writeEdges_29 (by decide) rfl ?_
          obtain ⟨n31, h⟩ := h
          exact x_sub X [1, 2, 3, 4, 5, 0] rfl (k31 n31 x1 x2 x3 x4 (x4 + (1 : Int32)) t_length t_bytes h)
    refine x_iconst (v := 0) X dX5_writeEdges_16 (by decide) ?_
    refine x_istore (lv' := [(4, .int (0 : Int32)), (0, .ref h_t), (1, .int x1), (2, .int x2), (3, .int x3)]) X dX5_writeEdges_17 (by decide) rfl ?_
    obtain ⟨n19, h⟩ := h
    exact x_sub X [1, 2, 3, 4, 0] rfl (k19 n19 x1 x2 x3 (0 : Int32) t_length t_bytes h)
  refine x_iload_n X dX5_writeEdges_0 1 rfl ?_
  refine x_iload_n X dX5_writeEdges_1 2 rfl ?_
  refine x_callSI (av := [.int p1, .int p2]) (st := []) (wr := [(h_t, .inr (4, [.ref h_t_bytes, .int t_length])), (h_t_bytes, aI T 96 t_bytes)]) X (c_X0_edges l D T  p1 p2 _ h) yk_X0_edges tw_1384 dX5_writeEdges_2 [] [0, 1] rfl rfl rfl rfl (by decide) rfl rfl (Nat.le_of_ble_eq_true rfl) (Nat.le_of_ble_eq_true rfl) (Nat.le_of_ble_eq_true rfl) (Nat.zero_le _) (Nat.zero_le _) (fun r2 w1 hw => ?_)
  obtain ⟨rfl, h⟩ := hw
  refine x_perm (ws2 := [(h_t, .inr (4, [.ref h_t_bytes, .int t_length])), (h_t_bytes, aI T 96 t_bytes)]) X [0, 1] rfl rfl ?_
  refine x_istore_n (lv' := [(3, .int r2), (0, .ref h_t), (1, .int p1), (2, .int p2)]) X dX5_writeEdges_5 (by decide) rfl ?_
  refine x_iload_n X dX5_writeEdges_6 0 rfl ?_
  refine x_if_le (tgt := 16) X dX5_writeEdges_7 (by decide) (fun hc => ?_) (fun hc => ?_)
  · have h := h.1 hc
    exact x_sub X [1, 2, 3, 0] rfl (k16 p1 p2 r2 t_length t_bytes h)
  · have h := h.2 hc
    refine x_aload_n X dX5_writeEdges_10 1 rfl ?_
    refine x_ldcS X 38 (by decide) rfl rfl dX5_writeEdges_11 ?_
    refine x_callVV (av := [.ref (D.2.1 38)]) (st := []) (wr := []) X (c_X5_putWord l D T h_t h_t_bytes t_length t_bytes 38 _ h) yk_X5_putWord tw_1359 dX5_writeEdges_13 0 rfl rfl [0, 1] [] rfl rfl rfl rfl (by decide) rfl rfl (Nat.le_of_ble_eq_true rfl) (Nat.le_of_ble_eq_true rfl) (Nat.le_of_ble_eq_true rfl) (Nat.zero_le _) (Nat.zero_le _) (fun w1 hw => ?_)
    obtain ⟨t_length_13, t_bytes_13, rfl, h⟩ := hw
    refine x_perm (ws2 := [(h_t, .inr (4, [.ref h_t_bytes, .int t_length_13])), (h_t_bytes, aI T 96 t_bytes_13)]) X [0, 1] rfl rfl ?_
    exact x_sub X [1, 2, 3, 0] rfl (k16 p1 p2 r2 t_length_13 t_bytes_13 h)
theorem dX5_writeNet_0 : decode cX5_writeNet 0 = .ok (.aload_n 0, 1) := by decide +kernel
theorem dX5_writeNet_1 : decode cX5_writeNet 1 = .ok (.iconst 0, 1) := by decide +kernel
theorem dX5_writeNet_2 : decode cX5_writeNet 2 = .ok (.putfield 15, 3) := by decide +kernel
theorem dX5_writeNet_5 : decode cX5_writeNet 5 = .ok (.aload_n 0, 1) := by decide +kernel
theorem dX5_writeNet_6 : decode cX5_writeNet 6 = .ok (.ldc 19, 2) := by decide +kernel
theorem dX5_writeNet_8 : decode cX5_writeNet 8 = .ok (.invokevirtual 21, 3) := by decide +kernel
theorem dX5_writeNet_11 : decode cX5_writeNet 11 = .ok (.aload_n 0, 1) := by decide +kernel
theorem dX5_writeNet_12 : decode cX5_writeNet 12 = .ok (.iload_n 1, 1) := by decide +kernel
theorem dX5_writeNet_13 : decode cX5_writeNet 13 = .ok (.invokevirtual 25, 3) := by decide +kernel
theorem dX5_writeNet_16 : decode cX5_writeNet 16 = .ok (.iload_n 1, 1) := by decide +kernel
theorem dX5_writeNet_17 : decode cX5_writeNet 17 = .ok (.iload_n 2, 1) := by decide +kernel
theorem dX5_writeNet_18 : decode cX5_writeNet 18 = .ok (.invokestatic 29, 3) := by decide +kernel
theorem dX5_writeNet_21 : decode cX5_writeNet 21 = .ok (.ifCond .le 37, 3) := by decide +kernel
theorem dX5_writeNet_24 : decode cX5_writeNet 24 = .ok (.aload_n 0, 1) := by decide +kernel
theorem dX5_writeNet_25 : decode cX5_writeNet 25 = .ok (.ldc 35, 2) := by decide +kernel
theorem dX5_writeNet_27 : decode cX5_writeNet 27 = .ok (.invokevirtual 21, 3) := by decide +kernel
theorem dX5_writeNet_30 : decode cX5_writeNet 30 = .ok (.iconst 0, 1) := by decide +kernel
theorem dX5_writeNet_31 : decode cX5_writeNet 31 = .ok (.istore_n 3, 1) := by decide +kernel
theorem dX5_writeNet_32 : decode cX5_writeNet 32 = .ok (.iload_n 3, 1) := by decide +kernel
theorem dX5_writeNet_33 : decode cX5_writeNet 33 = .ok (.iload_n 1, 1) := by decide +kernel
theorem dX5_writeNet_34 : decode cX5_writeNet 34 = .ok (.if_icmp .ge 24, 3) := by decide +kernel
theorem dX5_writeNet_37 : decode cX5_writeNet 37 = .ok (.iload_n 2, 1) := by decide +kernel
theorem dX5_writeNet_38 : decode cX5_writeNet 38 = .ok (.iload_n 1, 1) := by decide +kernel
theorem dX5_writeNet_39 : decode cX5_writeNet 39 = .ok (.iload_n 3, 1) := by decide +kernel
theorem dX5_writeNet_40 : decode cX5_writeNet 40 = .ok (.invokestatic 37, 3) := by decide +kernel
theorem dX5_writeNet_43 : decode cX5_writeNet 43 = .ok (.iand, 1) := by decide +kernel
theorem dX5_writeNet_44 : decode cX5_writeNet 44 = .ok (.ifCond .eq 8, 3) := by decide +kernel
theorem dX5_writeNet_47 : decode cX5_writeNet 47 = .ok (.aload_n 0, 1) := by decide +kernel
theorem dX5_writeNet_48 : decode cX5_writeNet 48 = .ok (.iload_n 3, 1) := by decide +kernel
theorem dX5_writeNet_49 : decode cX5_writeNet 49 = .ok (.invokevirtual 25, 3) := by decide +kernel
theorem dX5_writeNet_52 : decode cX5_writeNet 52 = .ok (.iinc 3 1, 3) := by decide +kernel
theorem dX5_writeNet_55 : decode cX5_writeNet 55 = .ok (.goto (-23), 3) := by decide +kernel
theorem dX5_writeNet_58 : decode cX5_writeNet 58 = .ok (.aload_n 0, 1) := by decide +kernel
theorem dX5_writeNet_59 : decode cX5_writeNet 59 = .ok (.iload_n 1, 1) := by decide +kernel
theorem dX5_writeNet_60 : decode cX5_writeNet 60 = .ok (.iload_n 2, 1) := by decide +kernel
theorem dX5_writeNet_61 : decode cX5_writeNet 61 = .ok (.invokevirtual 39, 3) := by decide +kernel
theorem dX5_writeNet_64 : decode cX5_writeNet 64 = .ok (.return_, 1) := by decide +kernel
set_option maxHeartbeats 4000000 in
set_option maxRecDepth 100000 in
theorem c_X5_writeNet (l : Launch) (D : eD) (T : Nat → ClassId) (h_t h_t_bytes : Nat) (t_length : Int32) (t_bytes : Nat → Int32) (p1 : Int32) (p2 : Int32) (post : Int32 → (Nat → Int32) → Prop) (h : F_X5_writeNet t_length t_bytes p1 p2 post) : cV l D T yX5_writeNet cX5_writeNet 4 none 7 187 0 0 [.ref h_t, .int p1, .int p2] [(h_t, .inr (4, [.ref h_t_bytes, .int t_length])), (h_t_bytes, aI T 96 t_bytes)] (fun w1 => ∃ (t_length1 : Int32) (t_bytes1 : Nat → Int32), w1 = [(h_t, .inr (4, [.ref h_t_bytes, .int t_length1])), (h_t_bytes, aI T 96 t_bytes1)] ∧ post t_length1 t_bytes1) := by
  refine xV_of (by decide +kernel) (Nat.le_of_ble_eq_true rfl) rfl ?_
  intro G X hret
  change G 0 0 0 [(0, .ref h_t), (1, .int p1), (2, .int p2)] [] [(h_t, .inr (4, [.ref h_t_bytes, .int t_length])), (h_t_bytes, aI T 96 t_bytes)]
  unfold F_X5_writeNet at h
  have k58 : ∀ (x1 : Int32) (x2 : Int32) (t_length : Int32) (t_bytes : Nat → Int32), F_X5_writeNet_58 post x1 x2 t_length t_bytes → G 0 0 58 [(0, .ref h_t), (1, .int x1), (2, .int x2)] [] [(h_t, .inr (4, [.ref h_t_bytes, .int t_length])), (h_t_bytes, aI T 96 t_bytes)] := by
    intro x1 x2 t_length t_bytes h
    unfold F_X5_writeNet_58 at h
    refine x_aload_n X dX5_writeNet_58 0 rfl ?_
    refine x_iload_n X dX5_writeNet_59 1 rfl ?_
    refine x_iload_n X dX5_writeNet_60 2 rfl ?_
    refine x_callVV (av := [.int x1, .int x2]) (st := []) (wr := []) X (c_X5_writeEdges l D T h_t h_t_bytes t_length t_bytes x1 x2 _ h) yk_X5_writeEdges tw_1380 dX5_writeNet_61 0 rfl rfl [0, 1] [] rfl rfl rfl rfl (by decide) rfl rfl (Nat.le_of_ble_eq_true rfl) (Nat.le_of_ble_eq_true rfl) (Nat.le_of_ble_eq_true rfl) (Nat.zero_le _) (Nat.zero_le _) (fun w1 hw => ?_)
    obtain ⟨t_length_61, t_bytes_61, rfl, h⟩ := hw
    refine x_perm (ws2 := [(h_t, .inr (4, [.ref h_t_bytes, .int t_length_61])), (h_t_bytes, aI T 96 t_bytes_61)]) X [0, 1] rfl rfl ?_
    exact hret _ _ _ dX5_writeNet_64 ⟨t_length_61, t_bytes_61, rfl, h⟩
  have k32 : ∀ (n32 : Nat) (x1 : Int32) (x2 : Int32) (x3 : Int32) (t_length : Int32) (t_bytes : Nat → Int32), F_X5_writeNet_32 post (fun x1 x2 t_length t_bytes => F_X5_writeNet_58 post x1 x2 t_length t_bytes) n32 x1 x2 x3 t_length t_bytes → G 0 0 32 [(0, .ref h_t), (1, .int x1), (2, .int x2), (3, .int x3)] [] [(h_t, .inr (4, [.ref h_t_bytes, .int t_length])), (h_t_bytes, aI T 96 t_bytes)] := by
    intro n32
    induction n32 with
    | zero => intro x1 x2 x3 t_length t_bytes h; exact h.elim
    | succ n32 ih32 =>
      intro x1 x2 x3 t_length t_bytes h
      rw [F_X5_writeNet_32] at h
      have k52 : ∀ (x1 : Int32) (x2 : Int32) (x3 : Int32) (t_length : Int32) (t_bytes : Nat → Int32), F_X5_writeNet_52 post (F_X5_writeNet_32 post (fun x1 x2 t_length t_bytes => F_X5_writeNet_58 post x1 x2 t_length t_bytes) n32) x1 x2 x3 t_length t_bytes → G 0 0 52 [(0, .ref h_t), (1, .int x1), (2, .int x2), (3, .int x3)] [] [(h_t, .inr (4, [.ref h_t_bytes, .int t_length])), (h_t_bytes, aI T 96 t_bytes)] := by
        intro x1 x2 x3 t_length t_bytes h
        unfold F_X5_writeNet_52 at h
        refine x_iinc (v := (x3 + 1)) (lv' := [(3, .int (x3 + 1)), (0, .ref h_t), (1, .int x1), (2, .int x2)]) X dX5_writeNet_52 3 rfl rfl (by decide) rfl ?_
        refine x_goto (tgt := 32) X dX5_writeNet_55 (by decide) ?_
        exact x_sub X [1, 2, 3, 0] rfl (ih32 x1 x2 (x3 + 1) t_length t_bytes h)
      refine x_iload_n X dX5_writeNet_32 3 rfl ?_
      refine x_iload_n X dX5_writeNet_33 1 rfl ?_
      refine x_icmp_ge (tgt := 58) X dX5_writeNet_34 (by decide) (fun hc => ?_) (fun hc => ?_)
      · have h := h.1 hc
        exact x_sub X [0, 1, 2] rfl (k58 x1 x2 t_length t_bytes h)
      · have h := h.2 hc
        refine x_iload_n X dX5_writeNet_37 2 rfl ?_
        refine x_iload_n X dX5_writeNet_38 1 rfl ?_
        refine x_iload_n X dX5_writeNet_39 3 rfl ?_
        refine x_callSI (av := [.int x1, .int x3]) (st := [.int x2]) (wr := [(h_t, .inr (4, [.ref h_t_bytes, .int t_length])), (h_t_bytes, aI T 96 t_bytes)]) X (c_X0_dark l D T  x1 x3 _ h) yk_X0_dark tw_1379 dX5_writeNet_40 [] [0, 1] rfl rfl rfl rfl (by decide) rfl rfl (Nat.le_of_ble_eq_true rfl) (Nat.le_of_ble_eq_true rfl) (Nat.le_of_ble_eq_true rfl) (Nat.zero_le _) (Nat.zero_le _) (fun r40 w1 hw => ?_)
        obtain ⟨rfl, h⟩ := hw
        refine x_perm (ws2 := [(h_t, .inr (4, [.ref h_t_bytes, .int t_length])), (h_t_bytes, aI T 96 t_bytes)]) X [0, 1] rfl rfl ?_
        refine x_iand X dX5_writeNet_43 ?_
        refine x_if_eq (tgt := 52) X dX5_writeNet_44 (by decide) (fun hc => ?_) (fun hc => ?_)
        · have h := h.1 hc
          exact x_sub X [0, 1, 2, 3] rfl (k52 x1 x2 x3 t_length t_bytes h)
        · have h := h.2 hc
          refine x_aload_n X dX5_writeNet_47 0 rfl ?_
          refine x_iload_n X dX5_writeNet_48 3 rfl ?_
          refine x_callVV (av := [.int x3]) (st := []) (wr := []) X (c_X5_putNumber l D T h_t h_t_bytes t_length t_bytes x3 _ h) yk_X5_putNumber tw_1373 dX5_writeNet_49 0 rfl rfl [0, 1] [] rfl rfl rfl rfl (by decide) rfl rfl (Nat.le_of_ble_eq_true rfl) (Nat.le_of_ble_eq_true rfl) (Nat.le_of_ble_eq_true rfl) (Nat.zero_le _) (Nat.zero_le _) (fun w1 hw => ?_)
          obtain ⟨t_length_49, t_bytes_49, rfl, h⟩ := hw
          refine x_perm (ws2 := [(h_t, .inr (4, [.ref h_t_bytes, .int t_length_49])), (h_t_bytes, aI T 96 t_bytes_49)]) X [0, 1] rfl rfl ?_
          exact x_sub X [0, 1, 2, 3] rfl (k52 x1 x2 x3 t_length_49 t_bytes_49 h)
  refine x_aload_n X dX5_writeNet_0 0 rfl ?_
  refine x_iconst (v := 0) X dX5_writeNet_1 (by decide) ?_
  refine x_put (ws' := [(h_t, .inr (4, [.ref h_t_bytes, .int (0 : Int32)])), (h_t_bytes, aI T 96 t_bytes)]) X inGX5 tyX5_ok nmX5 1 (by decide) rfl tw_192 dX5_writeNet_2 rfl rfl 0 rfl rfl rfl (Nat.le_of_ble_eq_true rfl) rfl ?_
  refine x_aload_n X dX5_writeNet_5 0 rfl ?_
  refine x_ldcS X 36 (by decide) rfl rfl dX5_writeNet_6 ?_
  refine x_callVV (av := [.ref (D.2.1 36)]) (st := []) (wr := []) X (c_X5_putWord l D T h_t h_t_bytes (0 : Int32) t_bytes 36 _ h) yk_X5_putWord tw_1359 dX5_writeNet_8 0 rfl rfl [0, 1] [] rfl rfl rfl rfl (by decide) rfl rfl (Nat.le_of_ble_eq_true rfl) (Nat.le_of_ble_eq_true rfl) (Nat.le_of_ble_eq_true rfl) (Nat.zero_le _) (Nat.zero_le _) (fun w1 hw => ?_)
  obtain ⟨t_length_8, t_bytes_8, rfl, h⟩ := hw
  refine x_perm (ws2 := [(h_t, .inr (4, [.ref h_t_bytes, .int t_length_8])), (h_t_bytes, aI T 96 t_bytes_8)]) X [0, 1] rfl rfl ?_
  refine x_aload_n X dX5_writeNet_11 0 rfl ?_
  refine x_iload_n X dX5_writeNet_12 1 rfl ?_
  refine x_callVV (av := [.int p1]) (st := []) (wr := []) X (c_X5_putNumber l D T h_t h_t_bytes t_length_8 t_bytes_8 p1 _ h) yk_X5_putNumber tw_1373 dX5_writeNet_13 0 rfl rfl [0, 1] [] rfl rfl rfl rfl (by decide) rfl rfl (Nat.le_of_ble_eq_true rfl) (Nat.le_of_ble_eq_true rfl) (Nat.le_of_ble_eq_true rfl) (Nat.zero_le _) (Nat.zero_le _) (fun w1 hw => ?_)
  obtain ⟨t_length_13, t_bytes_13, rfl, h⟩ := hw
  refine x_perm (ws2 := [(h_t, .inr (4, [.ref h_t_bytes, .int t_length_13])), (h_t_bytes, aI T 96 t_bytes_13)]) X [0, 1] rfl rfl ?_
  refine x_iload_n X dX5_writeNet_16 1 rfl ?_
  refine x_iload_n X dX5_writeNet_17 2 rfl ?_
  refine x_callSI (av := [.int p1, .int p2]) (st := []) (wr := [(h_t, .inr (4, [.ref h_t_bytes, .int t_length_13])), (h_t_bytes, aI T 96 t_bytes_13)]) X (c_X0_darkNodes l D T  p1 p2 _ h) yk_X0_darkNodes tw_1377 dX5_writeNet_18 [] [0, 1] rfl rfl rfl rfl (by decide) rfl rfl (Nat.le_of_ble_eq_true rfl) (Nat.le_of_ble_eq_true rfl) (Nat.le_of_ble_eq_true rfl) (Nat.zero_le _) (Nat.zero_le _) (fun r18 w1 hw => ?_)
  obtain ⟨rfl, h⟩ := hw
  refine x_perm (ws2 := [(h_t, .inr (4, [.ref h_t_bytes, .int t_length_13])), (h_t_bytes, aI T 96 t_bytes_13)]) X [0, 1] rfl rfl ?_
  refine x_if_le (tgt := 58) X dX5_writeNet_21 (by decide) (fun hc => ?_) (fun hc => ?_)
  · have h := h.1 hc
    exact x_sub X [0, 1, 2] rfl (k58 p1 p2 t_length_13 t_bytes_13 h)
  · have h := h.2 hc
    refine x_aload_n X dX5_writeNet_24 0 rfl ?_
    refine x_ldcS X 37 (by decide) rfl rfl dX5_writeNet_25 ?_
    refine x_callVV (av := [.ref (D.2.1 37)]) (st := []) (wr := []) X (c_X5_putWord l D T h_t h_t_bytes t_length_13 t_bytes_13 37 _ h) yk_X5_putWord tw_1359 dX5_writeNet_27 0 rfl rfl [0, 1] [] rfl rfl rfl rfl (by decide) rfl rfl (Nat.le_of_ble_eq_true rfl) (Nat.le_of_ble_eq_true rfl) (Nat.le_of_ble_eq_true rfl) (Nat.zero_le _) (Nat.zero_le _) (fun w1 hw => ?_)
    obtain ⟨t_length_27, t_bytes_27, rfl, h⟩ := hw
    refine x_perm (ws2 := [(h_t, .inr (4, [.ref h_t_bytes, .int t_length_27])), (h_t_bytes, aI T 96 t_bytes_27)]) X [0, 1] rfl rfl ?_
    refine x_iconst (v := 0) X dX5_writeNet_30 (by decide) ?_
    refine x_istore_n (lv' := [(3, .int (0 : Int32)), (0, .ref h_t), (1, .int p1), (2, .int p2)]) X dX5_writeNet_31 (by decide) rfl ?_
    obtain ⟨n32, h⟩ := h
    exact x_sub X [1, 2, 3, 0] rfl (k32 n32 p1 p2 (0 : Int32) t_length_27 t_bytes_27 h)
