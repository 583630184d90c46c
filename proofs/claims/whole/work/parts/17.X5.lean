/-! OrderlyNets$Page: decode rows (printed), and each method kept by its F -/
theorem dX5_at_0 : decode cX5_at 0 = .ok (.iload_n 1, 1) := by decide +kernel
theorem dX5_at_1 : decode cX5_at 1 = .ok (.ifCond .lt 29, 3) := by decide +kernel
theorem dX5_at_4 : decode cX5_at 4 = .ok (.iload_n 1, 1) := by decide +kernel
theorem dX5_at_5 : decode cX5_at 5 = .ok (.aload_n 0, 1) := by decide +kernel
theorem dX5_at_6 : decode cX5_at 6 = .ok (.getfield 15, 3) := by decide +kernel
theorem dX5_at_9 : decode cX5_at 9 = .ok (.if_icmp .ge 21, 3) := by decide +kernel
theorem dX5_at_12 : decode cX5_at 12 = .ok (.iload_n 1, 1) := by decide +kernel
theorem dX5_at_13 : decode cX5_at 13 = .ok (.aload_n 0, 1) := by decide +kernel
theorem dX5_at_14 : decode cX5_at 14 = .ok (.getfield 11, 3) := by decide +kernel
theorem dX5_at_17 : decode cX5_at 17 = .ok (.arraylength, 1) := by decide +kernel
theorem dX5_at_18 : decode cX5_at 18 = .ok (.if_icmp .ge 12, 3) := by decide +kernel
theorem dX5_at_21 : decode cX5_at 21 = .ok (.aload_n 0, 1) := by decide +kernel
theorem dX5_at_22 : decode cX5_at 22 = .ok (.getfield 11, 3) := by decide +kernel
theorem dX5_at_25 : decode cX5_at 25 = .ok (.iload_n 1, 1) := by decide +kernel
theorem dX5_at_26 : decode cX5_at 26 = .ok (.iaload, 1) := by decide +kernel
theorem dX5_at_27 : decode cX5_at 27 = .ok (.goto 4, 3) := by decide +kernel
theorem dX5_at_30 : decode cX5_at 30 = .ok (.iconst (-1), 1) := by decide +kernel
theorem dX5_at_31 : decode cX5_at 31 = .ok (.ireturn, 1) := by decide +kernel
set_option maxHeartbeats 4000000 in
set_option maxRecDepth 100000 in
theorem c_X5_at (l : Launch) (D : va_G) (T : Nat → ClassId) (h_t h_t_bytes : Nat) (t_length : Int32) (t_bytes : Nat → Int32) (p1 : Int32) (post : Int32 → Prop) (h : F_X5_at t_length t_bytes p1 post) : cI l D T yX5_at cX5_at 2 (some .int) 0 0 0 0 [.ref h_t, .int p1] [(h_t, .inr (4, [.ref h_t_bytes, .int t_length])), (h_t_bytes, aI T 96 t_bytes)] (fun r w1 => w1 = [(h_t, .inr (4, [.ref h_t_bytes, .int t_length])), (h_t_bytes, aI T 96 t_bytes)] ∧ post r ) := by
  refine xI_of (ty := .int) (by decide +kernel) (Nat.le_of_ble_eq_true rfl) rfl ?_
  intro G X hret
  change G 0 0 0 [(0, .ref h_t), (1, .int p1)] [] [(h_t, .inr (4, [.ref h_t_bytes, .int t_length])), (h_t_bytes, aI T 96 t_bytes)]
  unfold F_X5_at at h
  have k31 : ∀ (s0 : Int32), F_X5_at_31 t_length t_bytes post s0 → G 0 0 31 [] [.int s0] [(h_t, .inr (4, [.ref h_t_bytes, .int t_length])), (h_t_bytes, aI T 96 t_bytes)] := by
    intro s0 h
    unfold F_X5_at_31 at h
    exact hret _ _ _ _ dX5_at_31 rfl ⟨rfl, h⟩
  have k30 : F_X5_at_30 t_length t_bytes post (fun s0 => F_X5_at_31 t_length t_bytes post s0) → G 0 0 30 [] [] [(h_t, .inr (4, [.ref h_t_bytes, .int t_length])), (h_t_bytes, aI T 96 t_bytes)] := by
    intro  h
    unfold F_X5_at_30 at h
    refine x_iconst (v := -1) X dX5_at_30 (by decide) ?_
    exact x_sub X [] rfl (k31 (-1 : Int32) h)
  refine x_iload_n X dX5_at_0 1 rfl ?_
  refine x_if_lt (tgt := 30) X dX5_at_1 (by decide) (fun hc => ?_) (fun hc => ?_)
  · have h := h.1 hc
    exact x_sub X [] rfl (k30 h)
  · have h := h.2 hc
    refine x_iload_n X dX5_at_4 1 rfl ?_
    refine x_aload_n X dX5_at_5 0 rfl ?_
    refine x_get X inGX5 1 (by decide) rfl tw_192 dX5_at_6 rfl 0 rfl rfl ?_
    refine x_icmp_ge (tgt := 30) X dX5_at_9 (by decide) (fun hc => ?_) (fun hc => ?_)
    · have h := h.1 hc
      exact x_sub X [] rfl (k30 h)
    · have h := h.2 hc
      refine x_iload_n X dX5_at_12 1 rfl ?_
      refine x_aload_n X dX5_at_13 0 rfl ?_
      refine x_get X inGX5 0 (by decide) rfl tw_191 dX5_at_14 rfl 0 rfl rfl ?_
      refine x_alen (v := (96 : Int32)) X dX5_at_17 1 1 rfl rfl rfl ?_
      refine x_icmp_ge (tgt := 30) X dX5_at_18 (by decide) (fun hc => ?_) (fun hc => ?_)
      · have h := h.1 hc
        exact x_sub X [] rfl (k30 h)
      · have h := h.2 hc
        refine x_aload_n X dX5_at_21 0 rfl ?_
        refine x_get X inGX5 0 (by decide) rfl tw_191 dX5_at_22 rfl 0 rfl rfl ?_
        refine x_iload_n X dX5_at_25 1 rfl ?_
        obtain ⟨hi, h⟩ := h
        refine x_iald X dX5_at_26 1 rfl hi ?_
        refine x_goto (tgt := 31) X dX5_at_27 (by decide) ?_
        exact x_sub X [] rfl (k31 (t_bytes p1.toNatClampNeg) h)
theorem dX5_put_0 : decode cX5_put 0 = .ok (.aload_n 0, 1) := by decide +kernel
theorem dX5_put_1 : decode cX5_put 1 = .ok (.getfield 15, 3) := by decide +kernel
theorem dX5_put_4 : decode cX5_put 4 = .ok (.ifCond .lt 35, 3) := by decide +kernel
theorem dX5_put_7 : decode cX5_put 7 = .ok (.aload_n 0, 1) := by decide +kernel
theorem dX5_put_8 : decode cX5_put 8 = .ok (.getfield 15, 3) := by decide +kernel
theorem dX5_put_11 : decode cX5_put 11 = .ok (.aload_n 0, 1) := by decide +kernel
theorem dX5_put_12 : decode cX5_put 12 = .ok (.getfield 11, 3) := by decide +kernel
theorem dX5_put_15 : decode cX5_put 15 = .ok (.arraylength, 1) := by decide +kernel
theorem dX5_put_16 : decode cX5_put 16 = .ok (.if_icmp .ge 23, 3) := by decide +kernel
theorem dX5_put_19 : decode cX5_put 19 = .ok (.aload_n 0, 1) := by decide +kernel
theorem dX5_put_20 : decode cX5_put 20 = .ok (.getfield 11, 3) := by decide +kernel
theorem dX5_put_23 : decode cX5_put 23 = .ok (.aload_n 0, 1) := by decide +kernel
theorem dX5_put_24 : decode cX5_put 24 = .ok (.getfield 15, 3) := by decide +kernel
theorem dX5_put_27 : decode cX5_put 27 = .ok (.iload_n 1, 1) := by decide +kernel
theorem dX5_put_28 : decode cX5_put 28 = .ok (.iastore, 1) := by decide +kernel
theorem dX5_put_29 : decode cX5_put 29 = .ok (.aload_n 0, 1) := by decide +kernel
theorem dX5_put_30 : decode cX5_put 30 = .ok (.dup, 1) := by decide +kernel
theorem dX5_put_31 : decode cX5_put 31 = .ok (.getfield 15, 3) := by decide +kernel
theorem dX5_put_34 : decode cX5_put 34 = .ok (.iconst 1, 1) := by decide +kernel
theorem dX5_put_35 : decode cX5_put 35 = .ok (.iadd, 1) := by decide +kernel
theorem dX5_put_36 : decode cX5_put 36 = .ok (.putfield 15, 3) := by decide +kernel
theorem dX5_put_39 : decode cX5_put 39 = .ok (.return_, 1) := by decide +kernel
set_option maxHeartbeats 4000000 in
set_option maxRecDepth 100000 in
theorem c_X5_put (l : Launch) (D : va_G) (T : Nat → ClassId) (h_t h_t_bytes : Nat) (t_length : Int32) (t_bytes : Nat → Int32) (p1 : Int32) (post : Int32 → (Nat → Int32) → Prop) (h : F_X5_put t_length t_bytes p1 post) : cV l D T yX5_put cX5_put 2 none 0 0 0 0 [.ref h_t, .int p1] [(h_t, .inr (4, [.ref h_t_bytes, .int t_length])), (h_t_bytes, aI T 96 t_bytes)] (fun w1 => ∃ (t_length1 : Int32) (t_bytes1 : Nat → Int32), w1 = [(h_t, .inr (4, [.ref h_t_bytes, .int t_length1])), (h_t_bytes, aI T 96 t_bytes1)] ∧ post t_length1 t_bytes1) := by
  refine xV_of (by decide +kernel) (Nat.le_of_ble_eq_true rfl) rfl ?_
  intro G X hret
  change G 0 0 0 [(0, .ref h_t), (1, .int p1)] [] [(h_t, .inr (4, [.ref h_t_bytes, .int t_length])), (h_t_bytes, aI T 96 t_bytes)]
  unfold F_X5_put at h
  have k39 : ∀ (t_length : Int32) (t_bytes : Nat → Int32), F_X5_put_39 post t_length t_bytes → G 0 0 39 [] [] [(h_t, .inr (4, [.ref h_t_bytes, .int t_length])), (h_t_bytes, aI T 96 t_bytes)] := by
    intro t_length t_bytes h
    unfold F_X5_put_39 at h
    exact hret _ _ _ dX5_put_39 ⟨t_length, t_bytes, rfl, h⟩
  refine x_aload_n X dX5_put_0 0 rfl ?_
  refine x_get X inGX5 1 (by decide) rfl tw_192 dX5_put_1 rfl 0 rfl rfl ?_
  refine x_if_lt (tgt := 39) X dX5_put_4 (by decide) (fun hc => ?_) (fun hc => ?_)
  · have h := h.1 hc
    exact x_sub X [] rfl (k39 t_length t_bytes h)
  · have h := h.2 hc
    refine x_aload_n X dX5_put_7 0 rfl ?_
    refine x_get X inGX5 1 (by decide) rfl tw_192 dX5_put_8 rfl 0 rfl rfl ?_
    refine x_aload_n X dX5_put_11 0 rfl ?_
    refine x_get X inGX5 0 (by decide) rfl tw_191 dX5_put_12 rfl 0 rfl rfl ?_
    refine x_alen (v := (96 : Int32)) X dX5_put_15 1 1 rfl rfl rfl ?_
    refine x_icmp_ge (tgt := 39) X dX5_put_16 (by decide) (fun hc => ?_) (fun hc => ?_)
    · have h := h.1 hc
      exact x_sub X [] rfl (k39 t_length t_bytes h)
    · have h := h.2 hc
      refine x_aload_n X dX5_put_19 0 rfl ?_
      refine x_get X inGX5 0 (by decide) rfl tw_191 dX5_put_20 rfl 0 rfl rfl ?_
      refine x_aload_n X dX5_put_23 0 rfl ?_
      refine x_get X inGX5 1 (by decide) rfl tw_192 dX5_put_24 rfl 0 rfl rfl ?_
      refine x_iload_n X dX5_put_27 1 rfl ?_
      obtain ⟨hi, h⟩ := h
      refine x_iast (ws' := [(h_t, .inr (4, [.ref h_t_bytes, .int t_length])), (h_t_bytes, aI T 96 (upd t_bytes t_length.toNatClampNeg p1))]) X dX5_put_28 1 rfl hi rfl ?_
      refine x_aload_n X dX5_put_29 0 rfl ?_
      refine x_dup X dX5_put_30 rfl ?_
      refine x_get X inGX5 1 (by decide) rfl tw_192 dX5_put_31 rfl 0 rfl rfl ?_
      refine x_iconst (v := 1) X dX5_put_34 (by decide) ?_
      refine x_iadd X dX5_put_35 ?_
      refine x_put (ws' := [(h_t, .inr (4, [.ref h_t_bytes, .int (t_length + (1 : Int32))])), (h_t_bytes, aI T 96 (upd t_bytes t_length.toNatClampNeg p1))]) X inGX5 tyX5_ok nmX5 1 (by decide) rfl tw_192 dX5_put_36 rfl rfl 0 rfl rfl rfl (Nat.le_of_ble_eq_true rfl) rfl ?_
      exact x_sub X [] rfl (k39 (t_length + (1 : Int32)) (upd t_bytes t_length.toNatClampNeg p1) h)
theorem dX5_putBlank_0 : decode cX5_putBlank 0 = .ok (.aload_n 0, 1) := by decide +kernel
theorem dX5_putBlank_1 : decode cX5_putBlank 1 = .ok (.getfield 15, 3) := by decide +kernel
theorem dX5_putBlank_4 : decode cX5_putBlank 4 = .ok (.ifCond .le 9, 3) := by decide +kernel
theorem dX5_putBlank_7 : decode cX5_putBlank 7 = .ok (.aload_n 0, 1) := by decide +kernel
theorem dX5_putBlank_8 : decode cX5_putBlank 8 = .ok (.bipush 32, 2) := by decide +kernel
theorem dX5_putBlank_10 : decode cX5_putBlank 10 = .ok (.invokevirtual 52, 3) := by decide +kernel
theorem dX5_putBlank_13 : decode cX5_putBlank 13 = .ok (.return_, 1) := by decide +kernel
set_option maxHeartbeats 4000000 in
set_option maxRecDepth 100000 in
theorem c_X5_putBlank (l : Launch) (D : va_G) (T : Nat → ClassId) (h_t h_t_bytes : Nat) (t_length : Int32) (t_bytes : Nat → Int32) (post : Int32 → (Nat → Int32) → Prop) (h : F_X5_putBlank t_length t_bytes post) : cV l D T yX5_putBlank cX5_putBlank 1 none 1 21 0 0 [.ref h_t] [(h_t, .inr (4, [.ref h_t_bytes, .int t_length])), (h_t_bytes, aI T 96 t_bytes)] (fun w1 => ∃ (t_length1 : Int32) (t_bytes1 : Nat → Int32), w1 = [(h_t, .inr (4, [.ref h_t_bytes, .int t_length1])), (h_t_bytes, aI T 96 t_bytes1)] ∧ post t_length1 t_bytes1) := by
  refine xV_of (by decide +kernel) (Nat.le_of_ble_eq_true rfl) rfl ?_
  intro G X hret
  change G 0 0 0 [(0, .ref h_t)] [] [(h_t, .inr (4, [.ref h_t_bytes, .int t_length])), (h_t_bytes, aI T 96 t_bytes)]
  unfold F_X5_putBlank at h
  have k13 : ∀ (t_length : Int32) (t_bytes : Nat → Int32), F_X5_putBlank_13 post t_length t_bytes → G 0 0 13 [] [] [(h_t, .inr (4, [.ref h_t_bytes, .int t_length])), (h_t_bytes, aI T 96 t_bytes)] := by
    intro t_length t_bytes h
    unfold F_X5_putBlank_13 at h
    exact hret _ _ _ dX5_putBlank_13 ⟨t_length, t_bytes, rfl, h⟩
  refine x_aload_n X dX5_putBlank_0 0 rfl ?_
  refine x_get X inGX5 1 (by decide) rfl tw_192 dX5_putBlank_1 rfl 0 rfl rfl ?_
  refine x_if_le (tgt := 13) X dX5_putBlank_4 (by decide) (fun hc => ?_) (fun hc => ?_)
  · have h := h.1 hc
    exact x_sub X [] rfl (k13 t_length t_bytes h)
  · have h := h.2 hc
    refine x_aload_n X dX5_putBlank_7 0 rfl ?_
    refine x_bipush (v := 32) X dX5_putBlank_8 (by decide) ?_
    refine x_callVV (av := [.int (32 : Int32)]) (st := []) (wr := []) X (c_X5_put l D T h_t h_t_bytes t_length t_bytes (32 : Int32) _ h) yk_X5_put tw_1363 dX5_putBlank_10 0 rfl rfl [0, 1] [] rfl rfl rfl rfl (by decide) rfl rfl (Nat.le_of_ble_eq_true rfl) (Nat.le_of_ble_eq_true rfl) (Nat.le_of_ble_eq_true rfl) (Nat.zero_le _) (Nat.zero_le _) (fun w1 hw => ?_)
    obtain ⟨t_length_10, t_bytes_10, rfl, h⟩ := hw
    refine x_perm (ws2 := [(h_t, .inr (4, [.ref h_t_bytes, .int t_length_10])), (h_t_bytes, aI T 96 t_bytes_10)]) X [0, 1] rfl rfl ?_
    exact x_sub X [] rfl (k13 t_length_10 t_bytes_10 h)
theorem dX5_putNumber_0 : decode cX5_putNumber 0 = .ok (.aload_n 0, 1) := by decide +kernel
theorem dX5_putNumber_1 : decode cX5_putNumber 1 = .ok (.invokevirtual 55, 3) := by decide +kernel
theorem dX5_putNumber_4 : decode cX5_putNumber 4 = .ok (.aload_n 0, 1) := by decide +kernel
theorem dX5_putNumber_5 : decode cX5_putNumber 5 = .ok (.bipush 48, 2) := by decide +kernel
theorem dX5_putNumber_7 : decode cX5_putNumber 7 = .ok (.iload_n 1, 1) := by decide +kernel
theorem dX5_putNumber_8 : decode cX5_putNumber 8 = .ok (.iadd, 1) := by decide +kernel
theorem dX5_putNumber_9 : decode cX5_putNumber 9 = .ok (.invokevirtual 52, 3) := by decide +kernel
theorem dX5_putNumber_12 : decode cX5_putNumber 12 = .ok (.return_, 1) := by decide +kernel
set_option maxHeartbeats 4000000 in
set_option maxRecDepth 100000 in
theorem c_X5_putNumber (l : Launch) (D : va_G) (T : Nat → ClassId) (h_t h_t_bytes : Nat) (t_length : Int32) (t_bytes : Nat → Int32) (p1 : Int32) (post : Int32 → (Nat → Int32) → Prop) (h : F_X5_putNumber t_length t_bytes p1 post) : cV l D T yX5_putNumber cX5_putNumber 2 none 2 41 0 0 [.ref h_t, .int p1] [(h_t, .inr (4, [.ref h_t_bytes, .int t_length])), (h_t_bytes, aI T 96 t_bytes)] (fun w1 => ∃ (t_length1 : Int32) (t_bytes1 : Nat → Int32), w1 = [(h_t, .inr (4, [.ref h_t_bytes, .int t_length1])), (h_t_bytes, aI T 96 t_bytes1)] ∧ post t_length1 t_bytes1) := by
  refine xV_of (by decide +kernel) (Nat.le_of_ble_eq_true rfl) rfl ?_
  intro G X hret
  change G 0 0 0 [(0, .ref h_t), (1, .int p1)] [] [(h_t, .inr (4, [.ref h_t_bytes, .int t_length])), (h_t_bytes, aI T 96 t_bytes)]
  unfold F_X5_putNumber at h
  refine x_aload_n X dX5_putNumber_0 0 rfl ?_
  refine x_callVV (av := []) (st := []) (wr := []) X (c_X5_putBlank l D T h_t h_t_bytes t_length t_bytes _ h) yk_X5_putBlank tw_1359 dX5_putNumber_1 0 rfl rfl [0, 1] [] rfl rfl rfl rfl (by decide) rfl rfl (Nat.le_of_ble_eq_true rfl) (Nat.le_of_ble_eq_true rfl) (Nat.le_of_ble_eq_true rfl) (Nat.zero_le _) (Nat.zero_le _) (fun w1 hw => ?_)
  obtain ⟨t_length_1, t_bytes_1, rfl, h⟩ := hw
  refine x_perm (ws2 := [(h_t, .inr (4, [.ref h_t_bytes, .int t_length_1])), (h_t_bytes, aI T 96 t_bytes_1)]) X [0, 1] rfl rfl ?_
  refine x_aload_n X dX5_putNumber_4 0 rfl ?_
  refine x_bipush (v := 48) X dX5_putNumber_5 (by decide) ?_
  refine x_iload_n X dX5_putNumber_7 1 rfl ?_
  refine x_iadd X dX5_putNumber_8 ?_
  refine x_callVV (av := [.int ((48 : Int32) + p1)]) (st := []) (wr := []) X (c_X5_put l D T h_t h_t_bytes t_length_1 t_bytes_1 ((48 : Int32) + p1) _ h) yk_X5_put tw_1363 dX5_putNumber_9 0 rfl rfl [0, 1] [] rfl rfl rfl rfl (by decide) rfl rfl (Nat.le_of_ble_eq_true rfl) (Nat.le_of_ble_eq_true rfl) (Nat.le_of_ble_eq_true rfl) (Nat.zero_le _) (Nat.zero_le _) (fun w1 hw => ?_)
  obtain ⟨t_length_9, t_bytes_9, rfl, h⟩ := hw
  refine x_perm (ws2 := [(h_t, .inr (4, [.ref h_t_bytes, .int t_length_9])), (h_t_bytes, aI T 96 t_bytes_9)]) X [0, 1] rfl rfl ?_
  exact hret _ _ _ dX5_putNumber_12 ⟨t_length_9, t_bytes_9, rfl, h⟩
