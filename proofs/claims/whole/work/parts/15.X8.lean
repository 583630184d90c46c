/-! OrderlyNets$Tape: decode rows (printed), and each method kept by its F -/
theorem dX8_hasRoom_0 : decode cX8_hasRoom 0 = .ok (.aload_n 0, 1) := by decide +kernel
theorem dX8_hasRoom_1 : decode cX8_hasRoom 1 = .ok (.getfield 19, 3) := by decide +kernel
theorem dX8_hasRoom_4 : decode cX8_hasRoom 4 = .ok (.bipush 20, 2) := by decide +kernel
theorem dX8_hasRoom_6 : decode cX8_hasRoom 6 = .ok (.iadd, 1) := by decide +kernel
theorem dX8_hasRoom_7 : decode cX8_hasRoom 7 = .ok (.sipush 400, 3) := by decide +kernel
theorem dX8_hasRoom_10 : decode cX8_hasRoom 10 = .ok (.if_icmp .gt 7, 3) := by decide +kernel
theorem dX8_hasRoom_13 : decode cX8_hasRoom 13 = .ok (.iconst 1, 1) := by decide +kernel
theorem dX8_hasRoom_14 : decode cX8_hasRoom 14 = .ok (.goto 4, 3) := by decide +kernel
theorem dX8_hasRoom_17 : decode cX8_hasRoom 17 = .ok (.iconst 0, 1) := by decide +kernel
theorem dX8_hasRoom_18 : decode cX8_hasRoom 18 = .ok (.ireturn, 1) := by decide +kernel
set_option maxHeartbeats 4000000 in
set_option maxRecDepth 100000 in
theorem c_X8_hasRoom (l : Launch) (D : eD) (T : Nat → ClassId) (h_t h_t_bytes : Nat) (t_begun : Int32) (t_length : Int32) (t_position : Int32) (t_wrong : Int32) (post : Int32 → Prop) (h : F_X8_hasRoom t_length post) : cI l D T yX8_hasRoom cX8_hasRoom 1 (some .boolean) 0 0 0 0 [.ref h_t] [(h_t, .inr (7, [.ref h_t_bytes, .int t_length, .int t_position, .int t_begun, .int t_wrong]))] (fun r w1 => w1 = [(h_t, .inr (7, [.ref h_t_bytes, .int t_length, .int t_position, .int t_begun, .int t_wrong]))] ∧ post r ) := by
  refine xI_of (ty := .boolean) (by decide +kernel) (Nat.le_of_ble_eq_true rfl) rfl ?_
  intro G X hret
  change G 0 0 0 [(0, .ref h_t)] [] [(h_t, .inr (7, [.ref h_t_bytes, .int t_length, .int t_position, .int t_begun, .int t_wrong]))]
  unfold F_X8_hasRoom at h
  have k18 : ∀ (s0 : Int32), F_X8_hasRoom_18 t_length post s0 → G 0 0 18 [] [.int s0] [(h_t, .inr (7, [.ref h_t_bytes, .int t_length, .int t_position, .int t_begun, .int t_wrong]))] := by
    intro s0 h
    unfold F_X8_hasRoom_18 at h
    obtain ⟨hz, h⟩ := h
    exact hret _ _ _ _ dX8_hasRoom_18 (e_nz hz) ⟨rfl, h⟩
  refine x_aload_n X dX8_hasRoom_0 0 rfl ?_
  refine x_get X inGX8 1 (by decide) rfl tw_44 dX8_hasRoom_1 rfl 0 rfl rfl ?_
  refine x_bipush (v := 20) X dX8_hasRoom_4 (by decide) ?_
  refine x_iadd X dX8_hasRoom_6 ?_
  refine x_sipush (v := 400) X dX8_hasRoom_7 (by decide) ?_
  refine x_icmp_gt (tgt := 17) X dX8_hasRoom_10 (by decide) (fun hc => ?_) (fun hc => ?_)
  · have h := h.1 hc
    refine x_iconst (v := 0) X dX8_hasRoom_17 (by decide) ?_
    exact x_sub X [] rfl (k18 (0 : Int32) h)
  · have h := h.2 hc
    refine x_iconst (v := 1) X dX8_hasRoom_13 (by decide) ?_
    refine x_goto (tgt := 18) X dX8_hasRoom_14 (by decide) ?_
    exact x_sub X [] rfl (k18 (1 : Int32) h)
theorem dX8_append_0 : decode cX8_append 0 = .ok (.bipush 24, 2) := by decide +kernel
theorem dX8_append_2 : decode cX8_append 2 = .ok (.istore_n 2, 1) := by decide +kernel
theorem dX8_append_3 : decode cX8_append 3 = .ok (.iload_n 2, 1) := by decide +kernel
theorem dX8_append_4 : decode cX8_append 4 = .ok (.ifCond .lt 54, 3) := by decide +kernel
theorem dX8_append_7 : decode cX8_append 7 = .ok (.aload_n 0, 1) := by decide +kernel
theorem dX8_append_8 : decode cX8_append 8 = .ok (.getfield 19, 3) := by decide +kernel
theorem dX8_append_11 : decode cX8_append 11 = .ok (.ifCond .lt 41, 3) := by decide +kernel
theorem dX8_append_14 : decode cX8_append 14 = .ok (.aload_n 0, 1) := by decide +kernel
theorem dX8_append_15 : decode cX8_append 15 = .ok (.getfield 19, 3) := by decide +kernel
theorem dX8_append_18 : decode cX8_append 18 = .ok (.aload_n 0, 1) := by decide +kernel
theorem dX8_append_19 : decode cX8_append 19 = .ok (.getfield 11, 3) := by decide +kernel
theorem dX8_append_22 : decode cX8_append 22 = .ok (.arraylength, 1) := by decide +kernel
theorem dX8_append_23 : decode cX8_append 23 = .ok (.if_icmp .ge 29, 3) := by decide +kernel
theorem dX8_append_26 : decode cX8_append 26 = .ok (.aload_n 0, 1) := by decide +kernel
theorem dX8_append_27 : decode cX8_append 27 = .ok (.getfield 11, 3) := by decide +kernel
theorem dX8_append_30 : decode cX8_append 30 = .ok (.aload_n 0, 1) := by decide +kernel
theorem dX8_append_31 : decode cX8_append 31 = .ok (.getfield 19, 3) := by decide +kernel
theorem dX8_append_34 : decode cX8_append 34 = .ok (.iload_n 1, 1) := by decide +kernel
theorem dX8_append_35 : decode cX8_append 35 = .ok (.iload_n 2, 1) := by decide +kernel
theorem dX8_append_36 : decode cX8_append 36 = .ok (.ishr, 1) := by decide +kernel
theorem dX8_append_37 : decode cX8_append 37 = .ok (.sipush 255, 3) := by decide +kernel
theorem dX8_append_40 : decode cX8_append 40 = .ok (.iand, 1) := by decide +kernel
theorem dX8_append_41 : decode cX8_append 41 = .ok (.iastore, 1) := by decide +kernel
theorem dX8_append_42 : decode cX8_append 42 = .ok (.aload_n 0, 1) := by decide +kernel
theorem dX8_append_43 : decode cX8_append 43 = .ok (.dup, 1) := by decide +kernel
theorem dX8_append_44 : decode cX8_append 44 = .ok (.getfield 19, 3) := by decide +kernel
theorem dX8_append_47 : decode cX8_append 47 = .ok (.iconst 1, 1) := by decide +kernel
theorem dX8_append_48 : decode cX8_append 48 = .ok (.iadd, 1) := by decide +kernel
theorem dX8_append_49 : decode cX8_append 49 = .ok (.putfield 19, 3) := by decide +kernel
theorem dX8_append_52 : decode cX8_append 52 = .ok (.iinc 2 (-8), 3) := by decide +kernel
theorem dX8_append_55 : decode cX8_append 55 = .ok (.goto (-52), 3) := by decide +kernel
theorem dX8_append_58 : decode cX8_append 58 = .ok (.return_, 1) := by decide +kernel
set_option maxHeartbeats 4000000 in
set_option maxRecDepth 100000 in
theorem c_X8_append (l : Launch) (D : eD) (T : Nat → ClassId) (h_t h_t_bytes : Nat) (t_begun : Int32) (t_length : Int32) (t_position : Int32) (t_wrong : Int32) (t_bytes : Nat → Int32) (p1 : Int32) (post : Int32 → (Nat → Int32) → Prop) (h : F_X8_append t_length t_bytes p1 post) : cV l D T yX8_append cX8_append 3 none 0 0 0 0 [.ref h_t, .int p1] [(h_t, .inr (7, [.ref h_t_bytes, .int t_length, .int t_position, .int t_begun, .int t_wrong])), (h_t_bytes, aI T 400 t_bytes)] (fun w1 => ∃ (t_length1 : Int32) (t_bytes1 : Nat → Int32), w1 = [(h_t, .inr (7, [.ref h_t_bytes, .int t_length1, .int t_position, .int t_begun, .int t_wrong])), (h_t_bytes, aI T 400 t_bytes1)] ∧ post t_length1 t_bytes1) := by
  refine xV_of (by decide +kernel) (Nat.le_of_ble_eq_true rfl) rfl ?_
  intro G X hret
  change G 0 0 0 [(0, .ref h_t), (1, .int p1)] [] [(h_t, .inr (7, [.ref h_t_bytes, .int t_length, .int t_position, .int t_begun, .int t_wrong])), (h_t_bytes, aI T 400 t_bytes)]
  unfold F_X8_append at h
  have k3 : ∀ (n3 : Nat) (x1 : Int32) (x2 : Int32) (t_length : Int32) (t_bytes : Nat → Int32), F_X8_append_3 post n3 x1 x2 t_length t_bytes → G 0 0 3 [(0, .ref h_t), (1, .int x1), (2, .int x2)] [] [(h_t, .inr (7, [.ref h_t_bytes, .int t_length, .int t_position, .int t_begun, .int t_wrong])), (h_t_bytes, aI T 400 t_bytes)] := by
    intro n3
    induction n3 with
    | zero => intro x1 x2 t_length t_bytes h; exact h.elim
    | succ n3 ih3 =>
      intro x1 x2 t_length t_bytes h
      rw [F_X8_append_3] at h
      have k52 : ∀ (x1 : Int32) (x2 : Int32) (t_length : Int32) (t_bytes : Nat → Int32), F_X8_append_52 post (F_X8_append_3 post n3) x1 x2 t_length t_bytes → G 0 0 52 [(0, .ref h_t), (1, .int x1), (2, .int x2)] [] [(h_t, .inr (7, [.ref h_t_bytes, .int t_length, .int t_position, .int t_begun, .int t_wrong])), (h_t_bytes, aI T 400 t_bytes)] := by
        intro x1 x2 t_length t_bytes h
        unfold F_X8_append_52 at h
        refine x_iinc (v := (x2 + (-8))) (lv' := [(2, .int (x2 + (-8))), (0, .ref h_t), (1, .int x1)]) X dX8_append_52 2 rfl rfl (by decide) rfl ?_
        refine x_goto (tgt := 3) X dX8_append_55 (by decide) ?_
        exact x_sub X [1, 2, 0] rfl (ih3 x1 (x2 + (-8)) t_length t_bytes h)
      refine x_iload_n X dX8_append_3 2 rfl ?_
      refine x_if_lt (tgt := 58) X dX8_append_4 (by decide) (fun hc => ?_) (fun hc => ?_)
      · have h := h.1 hc
        exact hret _ _ _ dX8_append_58 ⟨t_length, t_bytes, rfl, h⟩
      · have h := h.2 hc
        refine x_aload_n X dX8_append_7 0 rfl ?_
        refine x_get X inGX8 1 (by decide) rfl tw_44 dX8_append_8 rfl 0 rfl rfl ?_
        refine x_if_lt (tgt := 52) X dX8_append_11 (by decide) (fun hc => ?_) (fun hc => ?_)
        · have h := h.1 hc
          exact x_sub X [0, 1, 2] rfl (k52 x1 x2 t_length t_bytes h)
        · have h := h.2 hc
          refine x_aload_n X dX8_append_14 0 rfl ?_
          refine x_get X inGX8 1 (by decide) rfl tw_44 dX8_append_15 rfl 0 rfl rfl ?_
          refine x_aload_n X dX8_append_18 0 rfl ?_
          refine x_get X inGX8 0 (by decide) rfl tw_43 dX8_append_19 rfl 0 rfl rfl ?_
          refine x_alen (v := (400 : Int32)) X dX8_append_22 1 1 rfl rfl rfl ?_
          refine x_icmp_ge (tgt := 52) X dX8_append_23 (by decide) (fun hc => ?_) (fun hc => ?_)
          · have h := h.1 hc
            exact x_sub X [0, 1, 2] rfl (k52 x1 x2 t_length t_bytes h)
          · have h := h.2 hc
            refine x_aload_n X dX8_append_26 0 rfl ?_
            refine x_get X inGX8 0 (by decide) rfl tw_43 dX8_append_27 rfl 0 rfl rfl ?_
            refine x_aload_n X dX8_append_30 0 rfl ?_
            refine x_get X inGX8 1 (by decide) rfl tw_44 dX8_append_31 rfl 0 rfl rfl ?_
            refine x_iload_n X dX8_append_34 1 rfl ?_
            refine x_iload_n X dX8_append_35 2 rfl ?_
            refine x_ishr X dX8_append_36 ?_
            refine x_sipush (v := 255) X dX8_append_37 (by decide) ?_
            refine x_iand X dX8_append_40 ?_
            obtain ⟨hi, h⟩ := h
            refine x_iast (ws' := [(h_t, .inr (7, [.ref h_t_bytes, .int t_length, .int t_position, .int t_begun, .int t_wrong])), (h_t_bytes, aI T 400 (upd t_bytes t_length.toNatClampNeg ((x1 >>> (x2 &&& 31)) &&& (255 : Int32))))]) X dX8_append_41 1 rfl hi rfl ?_
            refine x_aload_n X dX8_append_42 0 rfl ?_
            refine x_dup X dX8_append_43 rfl ?_
            refine x_get X inGX8 1 (by decide) rfl tw_44 dX8_append_44 rfl 0 rfl rfl ?_
            refine x_iconst (v := 1) X dX8_append_47 (by decide) ?_
            refine x_iadd X dX8_append_48 ?_
            refine x_put (ws' := [(h_t, .inr (7, [.ref h_t_bytes, .int (t_length + (1 : Int32)), .int t_position, .int t_begun, .int t_wrong])), (h_t_bytes, aI T 400 (upd t_bytes t_length.toNatClampNeg ((x1 >>> (x2 &&& 31)) &&& (255 : Int32))))]) X inGX8 tyX8_ok nmX8 1 (by decide) rfl tw_44 dX8_append_49 rfl rfl 0 rfl rfl rfl (Nat.le_of_ble_eq_true rfl) rfl ?_
            exact x_sub X [0, 1, 2] rfl (k52 x1 x2 (t_length + (1 : Int32)) (upd t_bytes t_length.toNatClampNeg ((x1 >>> (x2 &&& 31)) &&& (255 : Int32))) h)
  refine x_bipush (v := 24) X dX8_append_0 (by decide) ?_
  refine x_istore_n (lv' := [(2, .int (24 : Int32)), (0, .ref h_t), (1, .int p1)]) X dX8_append_2 (by decide) rfl ?_
  obtain ⟨n3, h⟩ := h
  exact x_sub X [1, 2, 0] rfl (k3 n3 p1 (24 : Int32) t_length t_bytes h)
theorem dX8_begin_0 : decode cX8_begin 0 = .ok (.aload_n 0, 1) := by decide +kernel
theorem dX8_begin_1 : decode cX8_begin 1 = .ok (.iconst 0, 1) := by decide +kernel
theorem dX8_begin_2 : decode cX8_begin 2 = .ok (.putfield 22, 3) := by decide +kernel
theorem dX8_begin_5 : decode cX8_begin 5 = .ok (.aload_n 0, 1) := by decide +kernel
theorem dX8_begin_6 : decode cX8_begin 6 = .ok (.iconst 0, 1) := by decide +kernel
theorem dX8_begin_7 : decode cX8_begin 7 = .ok (.putfield 25, 3) := by decide +kernel
theorem dX8_begin_10 : decode cX8_begin 10 = .ok (.return_, 1) := by decide +kernel
set_option maxHeartbeats 4000000 in
set_option maxRecDepth 100000 in
theorem c_X8_begin (l : Launch) (D : eD) (T : Nat → ClassId) (h_t h_t_bytes : Nat) (t_begun : Int32) (t_length : Int32) (t_position : Int32) (t_wrong : Int32) (post : Int32 → Int32 → Prop) (h : F_X8_begin t_begun t_position post) : cV l D T yX8_begin cX8_begin 1 none 0 0 0 0 [.ref h_t] [(h_t, .inr (7, [.ref h_t_bytes, .int t_length, .int t_position, .int t_begun, .int t_wrong]))] (fun w1 => ∃ (t_begun1 : Int32) (t_position1 : Int32), w1 = [(h_t, .inr (7, [.ref h_t_bytes, .int t_length, .int t_position1, .int t_begun1, .int t_wrong]))] ∧ post t_begun1 t_position1) := by
  refine xV_of (by decide +kernel) (Nat.le_of_ble_eq_true rfl) rfl ?_
  intro G X hret
  change G 0 0 0 [(0, .ref h_t)] [] [(h_t, .inr (7, [.ref h_t_bytes, .int t_length, .int t_position, .int t_begun, .int t_wrong]))]
  unfold F_X8_begin at h
  refine x_aload_n X dX8_begin_0 0 rfl ?_
  refine x_iconst (v := 0) X dX8_begin_1 (by decide) ?_
  refine x_put (ws' := [(h_t, .inr (7, [.ref h_t_bytes, .int t_length, .int (0 : Int32), .int t_begun, .int t_wrong]))]) X inGX8 tyX8_ok nmX8 2 (by decide) rfl tw_46 dX8_begin_2 rfl rfl 0 rfl rfl rfl (Nat.le_of_ble_eq_true rfl) rfl ?_
  refine x_aload_n X dX8_begin_5 0 rfl ?_
  refine x_iconst (v := 0) X dX8_begin_6 (by decide) ?_
  refine x_put (ws' := [(h_t, .inr (7, [.ref h_t_bytes, .int t_length, .int (0 : Int32), .int (0 : Int32), .int t_wrong]))]) X inGX8 tyX8_ok nmX8 3 (by decide) rfl tw_47 dX8_begin_7 rfl rfl 0 rfl rfl rfl (Nat.le_of_ble_eq_true rfl) rfl ?_
  exact hret _ _ _ dX8_begin_10 ⟨(0 : Int32), (0 : Int32), rfl, h⟩
theorem dX8_finish_0 : decode cX8_finish 0 = .ok (.aload_n 0, 1) := by decide +kernel
theorem dX8_finish_1 : decode cX8_finish 1 = .ok (.iload_n 1, 1) := by decide +kernel
theorem dX8_finish_2 : decode cX8_finish 2 = .ok (.ifCond .eq 7, 3) := by decide +kernel
theorem dX8_finish_5 : decode cX8_finish 5 = .ok (.iconst (-1), 1) := by decide +kernel
theorem dX8_finish_6 : decode cX8_finish 6 = .ok (.goto 7, 3) := by decide +kernel
theorem dX8_finish_9 : decode cX8_finish 9 = .ok (.aload_n 0, 1) := by decide +kernel
theorem dX8_finish_10 : decode cX8_finish 10 = .ok (.getfield 25, 3) := by decide +kernel
theorem dX8_finish_13 : decode cX8_finish 13 = .ok (.putfield 15, 3) := by decide +kernel
theorem dX8_finish_16 : decode cX8_finish 16 = .ok (.aload_n 0, 1) := by decide +kernel
theorem dX8_finish_17 : decode cX8_finish 17 = .ok (.iconst 0, 1) := by decide +kernel
theorem dX8_finish_18 : decode cX8_finish 18 = .ok (.putfield 19, 3) := by decide +kernel
theorem dX8_finish_21 : decode cX8_finish 21 = .ok (.return_, 1) := by decide +kernel
set_option maxHeartbeats 4000000 in
set_option maxRecDepth 100000 in
theorem c_X8_finish (l : Launch) (D : eD) (T : Nat → ClassId) (h_t h_t_bytes : Nat) (t_begun : Int32) (t_length : Int32) (t_position : Int32) (t_wrong : Int32) (p1 : Int32) (post : Int32 → Int32 → Prop) (h : F_X8_finish t_begun t_length t_wrong p1 post) : cV l D T yX8_finish cX8_finish 2 none 0 0 0 0 [.ref h_t, .int p1] [(h_t, .inr (7, [.ref h_t_bytes, .int t_length, .int t_position, .int t_begun, .int t_wrong]))] (fun w1 => ∃ (t_length1 : Int32) (t_wrong1 : Int32), w1 = [(h_t, .inr (7, [.ref h_t_bytes, .int t_length1, .int t_position, .int t_begun, .int t_wrong1]))] ∧ post t_length1 t_wrong1) := by
  refine xV_of (by decide +kernel) (Nat.le_of_ble_eq_true rfl) rfl ?_
  intro G X hret
  change G 0 0 0 [(0, .ref h_t), (1, .int p1)] [] [(h_t, .inr (7, [.ref h_t_bytes, .int t_length, .int t_position, .int t_begun, .int t_wrong]))]
  unfold F_X8_finish at h
  have k13 : ∀ (s1 : Int32) (t_length : Int32) (t_wrong : Int32), F_X8_finish_13 t_begun post s1 t_length t_wrong → G 0 0 13 [(0, .ref h_t)] [.int s1, .ref h_t] [(h_t, .inr (7, [.ref h_t_bytes, .int t_length, .int t_position, .int t_begun, .int t_wrong]))] := by
    intro s1 t_length t_wrong h
    unfold F_X8_finish_13 at h
    refine x_put (ws' := [(h_t, .inr (7, [.ref h_t_bytes, .int t_length, .int t_position, .int t_begun, .int s1]))]) X inGX8 tyX8_ok nmX8 4 (by decide) rfl tw_48 dX8_finish_13 rfl rfl 0 rfl rfl rfl (Nat.le_of_ble_eq_true rfl) rfl ?_
    refine x_aload_n X dX8_finish_16 0 rfl ?_
    refine x_iconst (v := 0) X dX8_finish_17 (by decide) ?_
    refine x_put (ws' := [(h_t, .inr (7, [.ref h_t_bytes, .int (0 : Int32), .int t_position, .int t_begun, .int s1]))]) X inGX8 tyX8_ok nmX8 1 (by decide) rfl tw_44 dX8_finish_18 rfl rfl 0 rfl rfl rfl (Nat.le_of_ble_eq_true rfl) rfl ?_
    exact hret _ _ _ dX8_finish_21 ⟨(0 : Int32), s1, rfl, h⟩
  refine x_aload_n X dX8_finish_0 0 rfl ?_
  refine x_iload_n X dX8_finish_1 1 rfl ?_
  refine x_if_eq (tgt := 9) X dX8_finish_2 (by decide) (fun hc => ?_) (fun hc => ?_)
  · have h := h.1 hc
    refine x_aload_n X dX8_finish_9 0 rfl ?_
    refine x_get X inGX8 3 (by decide) rfl tw_47 dX8_finish_10 rfl 0 rfl rfl ?_
    exact x_sub X [0] rfl (k13 t_begun t_length t_wrong h)
  · have h := h.2 hc
    refine x_iconst (v := -1) X dX8_finish_5 (by decide) ?_
    refine x_goto (tgt := 13) X dX8_finish_6 (by decide) ?_
    exact x_sub X [0] rfl (k13 (-1 : Int32) t_length t_wrong h)
theorem dX8_at_0 : decode cX8_at 0 = .ok (.iload_n 1, 1) := by decide +kernel
theorem dX8_at_1 : decode cX8_at 1 = .ok (.ifCond .lt 29, 3) := by decide +kernel
theorem dX8_at_4 : decode cX8_at 4 = .ok (.iload_n 1, 1) := by decide +kernel
theorem dX8_at_5 : decode cX8_at 5 = .ok (.aload_n 0, 1) := by decide +kernel
theorem dX8_at_6 : decode cX8_at 6 = .ok (.getfield 19, 3) := by decide +kernel
theorem dX8_at_9 : decode cX8_at 9 = .ok (.if_icmp .ge 21, 3) := by decide +kernel
theorem dX8_at_12 : decode cX8_at 12 = .ok (.iload_n 1, 1) := by decide +kernel
theorem dX8_at_13 : decode cX8_at 13 = .ok (.aload_n 0, 1) := by decide +kernel
theorem dX8_at_14 : decode cX8_at 14 = .ok (.getfield 11, 3) := by decide +kernel
theorem dX8_at_17 : decode cX8_at 17 = .ok (.arraylength, 1) := by decide +kernel
theorem dX8_at_18 : decode cX8_at 18 = .ok (.if_icmp .ge 12, 3) := by decide +kernel
theorem dX8_at_21 : decode cX8_at 21 = .ok (.aload_n 0, 1) := by decide +kernel
theorem dX8_at_22 : decode cX8_at 22 = .ok (.getfield 11, 3) := by decide +kernel
theorem dX8_at_25 : decode cX8_at 25 = .ok (.iload_n 1, 1) := by decide +kernel
theorem dX8_at_26 : decode cX8_at 26 = .ok (.iaload, 1) := by decide +kernel
theorem dX8_at_27 : decode cX8_at 27 = .ok (.goto 4, 3) := by decide +kernel
theorem dX8_at_30 : decode cX8_at 30 = .ok (.iconst (-1), 1) := by decide +kernel
theorem dX8_at_31 : decode cX8_at 31 = .ok (.ireturn, 1) := by decide +kernel
set_option maxHeartbeats 4000000 in
set_option maxRecDepth 100000 in
theorem c_X8_at (l : Launch) (D : eD) (T : Nat → ClassId) (h_t h_t_bytes : Nat) (t_begun : Int32) (t_length : Int32) (t_position : Int32) (t_wrong : Int32) (t_bytes : Nat → Int32) (p1 : Int32) (post : Int32 → Prop) (h : F_X8_at t_length t_bytes p1 post) : cI l D T yX8_at cX8_at 2 (some .int) 0 0 0 0 [.ref h_t, .int p1] [(h_t, .inr (7, [.ref h_t_bytes, .int t_length, .int t_position, .int t_begun, .int t_wrong])), (h_t_bytes, aI T 400 t_bytes)] (fun r w1 => w1 = [(h_t, .inr (7, [.ref h_t_bytes, .int t_length, .int t_position, .int t_begun, .int t_wrong])), (h_t_bytes, aI T 400 t_bytes)] ∧ post r ) := by
  refine xI_of (ty := .int) (by decide +kernel) (Nat.le_of_ble_eq_true rfl) rfl ?_
  intro G X hret
  change G 0 0 0 [(0, .ref h_t), (1, .int p1)] [] [(h_t, .inr (7, [.ref h_t_bytes, .int t_length, .int t_position, .int t_begun, .int t_wrong])), (h_t_bytes, aI T 400 t_bytes)]
  unfold F_X8_at at h
  have k31 : ∀ (s0 : Int32), F_X8_at_31 t_length t_bytes post s0 → G 0 0 31 [] [.int s0] [(h_t, .inr (7, [.ref h_t_bytes, .int t_length, .int t_position, .int t_begun, .int t_wrong])), (h_t_bytes, aI T 400 t_bytes)] := by
    intro s0 h
    unfold F_X8_at_31 at h
    exact hret _ _ _ _ dX8_at_31 rfl ⟨rfl, h⟩
  have k30 : F_X8_at_30 t_length t_bytes post (fun s0 => F_X8_at_31 t_length t_bytes post s0) → G 0 0 30 [] [] [(h_t, .inr (7, [.ref h_t_bytes, .int t_length, .int t_position, .int t_begun, .int t_wrong])), (h_t_bytes, aI T 400 t_bytes)] := by
    intro  h
    unfold F_X8_at_30 at h
    refine x_iconst (v := -1) X dX8_at_30 (by decide) ?_
    exact x_sub X [] rfl (k31 (-1 : Int32) h)
  refine x_iload_n X dX8_at_0 1 rfl ?_
  refine x_if_lt (tgt := 30) X dX8_at_1 (by decide) (fun hc => ?_) (fun hc => ?_)
  · have h := h.1 hc
    exact x_sub X [] rfl (k30 h)
  · have h := h.2 hc
    refine x_iload_n X dX8_at_4 1 rfl ?_
    refine x_aload_n X dX8_at_5 0 rfl ?_
    refine x_get X inGX8 1 (by decide) rfl tw_44 dX8_at_6 rfl 0 rfl rfl ?_
    refine x_icmp_ge (tgt := 30) X dX8_at_9 (by decide) (fun hc => ?_) (fun hc => ?_)
    · have h := h.1 hc
      exact x_sub X [] rfl (k30 h)
    · have h := h.2 hc
      refine x_iload_n X dX8_at_12 1 rfl ?_
      refine x_aload_n X dX8_at_13 0 rfl ?_
      refine x_get X inGX8 0 (by decide) rfl tw_43 dX8_at_14 rfl 0 rfl rfl ?_
      refine x_alen (v := (400 : Int32)) X dX8_at_17 1 1 rfl rfl rfl ?_
      refine x_icmp_ge (tgt := 30) X dX8_at_18 (by decide) (fun hc => ?_) (fun hc => ?_)
      · have h := h.1 hc
        exact x_sub X [] rfl (k30 h)
      · have h := h.2 hc
        refine x_aload_n X dX8_at_21 0 rfl ?_
        refine x_get X inGX8 0 (by decide) rfl tw_43 dX8_at_22 rfl 0 rfl rfl ?_
        refine x_iload_n X dX8_at_25 1 rfl ?_
        obtain ⟨hi, h⟩ := h
        refine x_iald X dX8_at_26 1 rfl hi ?_
        refine x_goto (tgt := 31) X dX8_at_27 (by decide) ?_
        exact x_sub X [] rfl (k31 (t_bytes p1.toNatClampNeg) h)
theorem dX8_skipBlanks_0 : decode cX8_skipBlanks 0 = .ok (.aload_n 0, 1) := by decide +kernel
theorem dX8_skipBlanks_1 : decode cX8_skipBlanks 1 = .ok (.getfield 22, 3) := by decide +kernel
theorem dX8_skipBlanks_4 : decode cX8_skipBlanks 4 = .ok (.aload_n 0, 1) := by decide +kernel
theorem dX8_skipBlanks_5 : decode cX8_skipBlanks 5 = .ok (.getfield 19, 3) := by decide +kernel
theorem dX8_skipBlanks_8 : decode cX8_skipBlanks 8 = .ok (.if_icmp .ge 29, 3) := by decide +kernel
theorem dX8_skipBlanks_11 : decode cX8_skipBlanks 11 = .ok (.aload_n 0, 1) := by decide +kernel
theorem dX8_skipBlanks_12 : decode cX8_skipBlanks 12 = .ok (.aload_n 0, 1) := by decide +kernel
theorem dX8_skipBlanks_13 : decode cX8_skipBlanks 13 = .ok (.getfield 22, 3) := by decide +kernel
theorem dX8_skipBlanks_16 : decode cX8_skipBlanks 16 = .ok (.invokevirtual 35, 3) := by decide +kernel
theorem dX8_skipBlanks_19 : decode cX8_skipBlanks 19 = .ok (.bipush 32, 2) := by decide +kernel
theorem dX8_skipBlanks_21 : decode cX8_skipBlanks 21 = .ok (.if_icmp .ne 16, 3) := by decide +kernel
theorem dX8_skipBlanks_24 : decode cX8_skipBlanks 24 = .ok (.aload_n 0, 1) := by decide +kernel
theorem dX8_skipBlanks_25 : decode cX8_skipBlanks 25 = .ok (.dup, 1) := by decide +kernel
theorem dX8_skipBlanks_26 : decode cX8_skipBlanks 26 = .ok (.getfield 22, 3) := by decide +kernel
theorem dX8_skipBlanks_29 : decode cX8_skipBlanks 29 = .ok (.iconst 1, 1) := by decide +kernel
theorem dX8_skipBlanks_30 : decode cX8_skipBlanks 30 = .ok (.iadd, 1) := by decide +kernel
theorem dX8_skipBlanks_31 : decode cX8_skipBlanks 31 = .ok (.putfield 22, 3) := by decide +kernel
theorem dX8_skipBlanks_34 : decode cX8_skipBlanks 34 = .ok (.goto (-34), 3) := by decide +kernel
theorem dX8_skipBlanks_37 : decode cX8_skipBlanks 37 = .ok (.aload_n 0, 1) := by decide +kernel
theorem dX8_skipBlanks_38 : decode cX8_skipBlanks 38 = .ok (.aload_n 0, 1) := by decide +kernel
theorem dX8_skipBlanks_39 : decode cX8_skipBlanks 39 = .ok (.getfield 22, 3) := by decide +kernel
theorem dX8_skipBlanks_42 : decode cX8_skipBlanks 42 = .ok (.putfield 25, 3) := by decide +kernel
theorem dX8_skipBlanks_45 : decode cX8_skipBlanks 45 = .ok (.return_, 1) := by decide +kernel
set_option maxHeartbeats 4000000 in
set_option maxRecDepth 100000 in
theorem c_X8_skipBlanks (l : Launch) (D : eD) (T : Nat → ClassId) (h_t h_t_bytes : Nat) (t_begun : Int32) (t_length : Int32) (t_position : Int32) (t_wrong : Int32) (t_bytes : Nat → Int32) (post : Int32 → Int32 → Prop) (h : F_X8_skipBlanks t_length t_bytes t_begun t_position post) : cV l D T yX8_skipBlanks cX8_skipBlanks 1 none 1 21 0 0 [.ref h_t] [(h_t, .inr (7, [.ref h_t_bytes, .int t_length, .int t_position, .int t_begun, .int t_wrong])), (h_t_bytes, aI T 400 t_bytes)] (fun w1 => ∃ (t_begun1 : Int32) (t_position1 : Int32), w1 = [(h_t, .inr (7, [.ref h_t_bytes, .int t_length, .int t_position1, .int t_begun1, .int t_wrong])), (h_t_bytes, aI T 400 t_bytes)] ∧ post t_begun1 t_position1) := by
  refine xV_of (by decide +kernel) (Nat.le_of_ble_eq_true rfl) rfl ?_
  intro G X hret
  change G 0 0 0 [(0, .ref h_t)] [] [(h_t, .inr (7, [.ref h_t_bytes, .int t_length, .int t_position, .int t_begun, .int t_wrong])), (h_t_bytes, aI T 400 t_bytes)]
  unfold F_X8_skipBlanks at h
  have k0 : ∀ (n0 : Nat) (t_begun : Int32) (t_position : Int32), F_X8_skipBlanks_0 t_length t_bytes post n0 t_begun t_position → G 0 0 0 [(0, .ref h_t)] [] [(h_t, .inr (7, [.ref h_t_bytes, .int t_length, .int t_position, .int t_begun, .int t_wrong])), (h_t_bytes, aI T 400 t_bytes)] := by
    intro n0
    induction n0 with
    | zero => intro t_begun t_position h; exact h.elim
    | succ n0 ih0 =>
      intro t_begun t_position h
      rw [F_X8_skipBlanks_0] at h
      have k37 : ∀ (t_begun : Int32) (t_position : Int32), F_X8_skipBlanks_37 t_length t_bytes post t_begun t_position → G 0 0 37 [(0, .ref h_t)] [] [(h_t, .inr (7, [.ref h_t_bytes, .int t_length, .int t_position, .int t_begun, .int t_wrong])), (h_t_bytes, aI T 400 t_bytes)] := by
        intro t_begun t_position h
        unfold F_X8_skipBlanks_37 at h
        refine x_aload_n X dX8_skipBlanks_37 0 rfl ?_
        refine x_aload_n X dX8_skipBlanks_38 0 rfl ?_
        refine x_get X inGX8 2 (by decide) rfl tw_46 dX8_skipBlanks_39 rfl 0 rfl rfl ?_
        refine x_put (ws' := [(h_t, .inr (7, [.ref h_t_bytes, .int t_length, .int t_position, .int t_position, .int t_wrong])), (h_t_bytes, aI T 400 t_bytes)]) X inGX8 tyX8_ok nmX8 3 (by decide) rfl tw_47 dX8_skipBlanks_42 rfl rfl 0 rfl rfl rfl (Nat.le_of_ble_eq_true rfl) rfl ?_
        exact hret _ _ _ dX8_skipBlanks_45 ⟨t_position, t_position, rfl, h⟩
      refine x_aload_n X dX8_skipBlanks_0 0 rfl ?_
      refine x_get X inGX8 2 (by decide) rfl tw_46 dX8_skipBlanks_1 rfl 0 rfl rfl ?_
      refine x_aload_n X dX8_skipBlanks_4 0 rfl ?_
      refine x_get X inGX8 1 (by decide) rfl tw_44 dX8_skipBlanks_5 rfl 0 rfl rfl ?_
      refine x_icmp_ge (tgt := 37) X dX8_skipBlanks_8 (by decide) (fun hc => ?_) (fun hc => ?_)
      · have h := h.1 hc
        exact x_sub X [0] rfl (k37 t_begun t_position h)
      · have h := h.2 hc
        refine x_aload_n X dX8_skipBlanks_11 0 rfl ?_
        refine x_aload_n X dX8_skipBlanks_12 0 rfl ?_
        refine x_get X inGX8 2 (by decide) rfl tw_46 dX8_skipBlanks_13 rfl 0 rfl rfl ?_
        refine x_callVI (av := [.int t_position]) (st := []) (wr := []) X (c_X8_at l D T h_t h_t_bytes t_begun t_length t_position t_wrong t_bytes t_position _ h) yk_X8_at tw_631 dX8_skipBlanks_16 0 rfl rfl [0, 1] [] rfl rfl rfl rfl (by decide) rfl rfl (Nat.le_of_ble_eq_true rfl) (Nat.le_of_ble_eq_true rfl) (Nat.le_of_ble_eq_true rfl) (Nat.zero_le _) (Nat.zero_le _) (fun r16 w1 hw => ?_)
        obtain ⟨rfl, h⟩ := hw
        refine x_perm (ws2 := [(h_t, .inr (7, [.ref h_t_bytes, .int t_length, .int t_position, .int t_begun, .int t_wrong])), (h_t_bytes, aI T 400 t_bytes)]) X [0, 1] rfl rfl ?_
        refine x_bipush (v := 32) X dX8_skipBlanks_19 (by decide) ?_
        refine x_icmp_ne (tgt := 37) X dX8_skipBlanks_21 (by decide) (fun hc => ?_) (fun hc => ?_)
        · have h := h.1 hc
          exact x_sub X [0] rfl (k37 t_begun t_position h)
        · have h := h.2 hc
          refine x_aload_n X dX8_skipBlanks_24 0 rfl ?_
          refine x_dup X dX8_skipBlanks_25 rfl ?_
          refine x_get X inGX8 2 (by decide) rfl tw_46 dX8_skipBlanks_26 rfl 0 rfl rfl ?_
          refine x_iconst (v := 1) X dX8_skipBlanks_29 (by decide) ?_
          refine x_iadd X dX8_skipBlanks_30 ?_
          refine x_put (ws' := [(h_t, .inr (7, [.ref h_t_bytes, .int t_length, .int (t_position + (1 : Int32)), .int t_begun, .int t_wrong])), (h_t_bytes, aI T 400 t_bytes)]) X inGX8 tyX8_ok nmX8 2 (by decide) rfl tw_46 dX8_skipBlanks_31 rfl rfl 0 rfl rfl rfl (Nat.le_of_ble_eq_true rfl) rfl ?_
          refine x_goto (tgt := 0) X dX8_skipBlanks_34 (by decide) ?_
          exact x_sub X [0] rfl (ih0 t_begun (t_position + (1 : Int32)) h)
  obtain ⟨n0, h⟩ := h
  exact x_sub X [0] rfl (k0 n0 t_begun t_position h)
theorem dX8_goesOn_0 : decode cX8_goesOn 0 = .ok (.aload_n 0, 1) := by decide +kernel
theorem dX8_goesOn_1 : decode cX8_goesOn 1 = .ok (.invokevirtual 28, 3) := by decide +kernel
theorem dX8_goesOn_4 : decode cX8_goesOn 4 = .ok (.aload_n 0, 1) := by decide +kernel
theorem dX8_goesOn_5 : decode cX8_goesOn 5 = .ok (.getfield 22, 3) := by decide +kernel
theorem dX8_goesOn_8 : decode cX8_goesOn 8 = .ok (.aload_n 0, 1) := by decide +kernel
theorem dX8_goesOn_9 : decode cX8_goesOn 9 = .ok (.getfield 19, 3) := by decide +kernel
theorem dX8_goesOn_12 : decode cX8_goesOn 12 = .ok (.if_icmp .ge 7, 3) := by decide +kernel
theorem dX8_goesOn_15 : decode cX8_goesOn 15 = .ok (.iconst 1, 1) := by decide +kernel
theorem dX8_goesOn_16 : decode cX8_goesOn 16 = .ok (.goto 4, 3) := by decide +kernel
theorem dX8_goesOn_19 : decode cX8_goesOn 19 = .ok (.iconst 0, 1) := by decide +kernel
theorem dX8_goesOn_20 : decode cX8_goesOn 20 = .ok (.ireturn, 1) := by decide +kernel
set_option maxHeartbeats 4000000 in
set_option maxRecDepth 100000 in
theorem c_X8_goesOn (l : Launch) (D : eD) (T : Nat → ClassId) (h_t h_t_bytes : Nat) (t_begun : Int32) (t_length : Int32) (t_position : Int32) (t_wrong : Int32) (t_bytes : Nat → Int32) (post : Int32 → Int32 → Int32 → Prop) (h : F_X8_goesOn t_length t_bytes t_begun t_position post) : cI l D T yX8_goesOn cX8_goesOn 1 (some .boolean) 2 41 0 0 [.ref h_t] [(h_t, .inr (7, [.ref h_t_bytes, .int t_length, .int t_position, .int t_begun, .int t_wrong])), (h_t_bytes, aI T 400 t_bytes)] (fun r w1 => ∃ (t_begun1 : Int32) (t_position1 : Int32), w1 = [(h_t, .inr (7, [.ref h_t_bytes, .int t_length, .int t_position1, .int t_begun1, .int t_wrong])), (h_t_bytes, aI T 400 t_bytes)] ∧ post r t_begun1 t_position1) := by
  refine xI_of (ty := .boolean) (by decide +kernel) (Nat.le_of_ble_eq_true rfl) rfl ?_
  intro G X hret
  change G 0 0 0 [(0, .ref h_t)] [] [(h_t, .inr (7, [.ref h_t_bytes, .int t_length, .int t_position, .int t_begun, .int t_wrong])), (h_t_bytes, aI T 400 t_bytes)]
  unfold F_X8_goesOn at h
  have k20 : ∀ (s0 : Int32) (t_begun : Int32) (t_position : Int32), F_X8_goesOn_20 t_length t_bytes post s0 t_begun t_position → G 0 0 20 [] [.int s0] [(h_t, .inr (7, [.ref h_t_bytes, .int t_length, .int t_position, .int t_begun, .int t_wrong])), (h_t_bytes, aI T 400 t_bytes)] := by
    intro s0 t_begun t_position h
    unfold F_X8_goesOn_20 at h
    obtain ⟨hz, h⟩ := h
    exact hret _ _ _ _ dX8_goesOn_20 (e_nz hz) ⟨t_begun, t_position, rfl, h⟩
  refine x_aload_n X dX8_goesOn_0 0 rfl ?_
  refine x_callVV (av := []) (st := []) (wr := []) X (c_X8_skipBlanks l D T h_t h_t_bytes t_begun t_length t_position t_wrong t_bytes _ h) yk_X8_skipBlanks tw_627 dX8_goesOn_1 0 rfl rfl [0, 1] [] rfl rfl rfl rfl (by decide) rfl rfl (Nat.le_of_ble_eq_true rfl) (Nat.le_of_ble_eq_true rfl) (Nat.le_of_ble_eq_true rfl) (Nat.zero_le _) (Nat.zero_le _) (fun w1 hw => ?_)
  obtain ⟨t_begun_1, t_position_1, rfl, h⟩ := hw
  refine x_perm (ws2 := [(h_t, .inr (7, [.ref h_t_bytes, .int t_length, .int t_position_1, .int t_begun_1, .int t_wrong])), (h_t_bytes, aI T 400 t_bytes)]) X [0, 1] rfl rfl ?_
  refine x_aload_n X dX8_goesOn_4 0 rfl ?_
  refine x_get X inGX8 2 (by decide) rfl tw_46 dX8_goesOn_5 rfl 0 rfl rfl ?_
  refine x_aload_n X dX8_goesOn_8 0 rfl ?_
  refine x_get X inGX8 1 (by decide) rfl tw_44 dX8_goesOn_9 rfl 0 rfl rfl ?_
  refine x_icmp_ge (tgt := 19) X dX8_goesOn_12 (by decide) (fun hc => ?_) (fun hc => ?_)
  · have h := h.1 hc
    refine x_iconst (v := 0) X dX8_goesOn_19 (by decide) ?_
    exact x_sub X [] rfl (k20 (0 : Int32) t_begun_1 t_position_1 h)
  · have h := h.2 hc
    refine x_iconst (v := 1) X dX8_goesOn_15 (by decide) ?_
    refine x_goto (tgt := 20) X dX8_goesOn_16 (by decide) ?_
    exact x_sub X [] rfl (k20 (1 : Int32) t_begun_1 t_position_1 h)
theorem dX8_isDigit_0 : decode cX8_isDigit 0 = .ok (.aload_n 0, 1) := by decide +kernel
theorem dX8_isDigit_1 : decode cX8_isDigit 1 = .ok (.iload_n 1, 1) := by decide +kernel
theorem dX8_isDigit_2 : decode cX8_isDigit 2 = .ok (.invokevirtual 35, 3) := by decide +kernel
theorem dX8_isDigit_5 : decode cX8_isDigit 5 = .ok (.bipush 48, 2) := by decide +kernel
theorem dX8_isDigit_7 : decode cX8_isDigit 7 = .ok (.if_icmp .lt 17, 3) := by decide +kernel
theorem dX8_isDigit_10 : decode cX8_isDigit 10 = .ok (.aload_n 0, 1) := by decide +kernel
theorem dX8_isDigit_11 : decode cX8_isDigit 11 = .ok (.iload_n 1, 1) := by decide +kernel
theorem dX8_isDigit_12 : decode cX8_isDigit 12 = .ok (.invokevirtual 35, 3) := by decide +kernel
theorem dX8_isDigit_15 : decode cX8_isDigit 15 = .ok (.bipush 57, 2) := by decide +kernel
theorem dX8_isDigit_17 : decode cX8_isDigit 17 = .ok (.if_icmp .gt 7, 3) := by decide +kernel
theorem dX8_isDigit_20 : decode cX8_isDigit 20 = .ok (.iconst 1, 1) := by decide +kernel
theorem dX8_isDigit_21 : decode cX8_isDigit 21 = .ok (.goto 4, 3) := by decide +kernel
theorem dX8_isDigit_24 : decode cX8_isDigit 24 = .ok (.iconst 0, 1) := by decide +kernel
theorem dX8_isDigit_25 : decode cX8_isDigit 25 = .ok (.ireturn, 1) := by decide +kernel
set_option maxHeartbeats 4000000 in
set_option maxRecDepth 100000 in
theorem c_X8_isDigit (l : Launch) (D : eD) (T : Nat → ClassId) (h_t h_t_bytes : Nat) (t_begun : Int32) (t_length : Int32) (t_position : Int32) (t_wrong : Int32) (t_bytes : Nat → Int32) (p1 : Int32) (post : Int32 → Prop) (h : F_X8_isDigit t_length t_bytes p1 post) : cI l D T yX8_isDigit cX8_isDigit 2 (some .boolean) 1 21 0 0 [.ref h_t, .int p1] [(h_t, .inr (7, [.ref h_t_bytes, .int t_length, .int t_position, .int t_begun, .int t_wrong])), (h_t_bytes, aI T 400 t_bytes)] (fun r w1 => w1 = [(h_t, .inr (7, [.ref h_t_bytes, .int t_length, .int t_position, .int t_begun, .int t_wrong])), (h_t_bytes, aI T 400 t_bytes)] ∧ post r ) := by
  refine xI_of (ty := .boolean) (by decide +kernel) (Nat.le_of_ble_eq_true rfl) rfl ?_
  intro G X hret
  change G 0 0 0 [(0, .ref h_t), (1, .int p1)] [] [(h_t, .inr (7, [.ref h_t_bytes, .int t_length, .int t_position, .int t_begun, .int t_wrong])), (h_t_bytes, aI T 400 t_bytes)]
  unfold F_X8_isDigit at h
  have k25 : ∀ (s0 : Int32), F_X8_isDigit_25 t_length t_bytes post s0 → G 0 0 25 [] [.int s0] [(h_t, .inr (7, [.ref h_t_bytes, .int t_length, .int t_position, .int t_begun, .int t_wrong])), (h_t_bytes, aI T 400 t_bytes)] := by
    intro s0 h
    unfold F_X8_isDigit_25 at h
    obtain ⟨hz, h⟩ := h
    exact hret _ _ _ _ dX8_isDigit_25 (e_nz hz) ⟨rfl, h⟩
  have k24 : F_X8_isDigit_24 t_length t_bytes post (fun s0 => F_X8_isDigit_25 t_length t_bytes post s0) → G 0 0 24 [] [] [(h_t, .inr (7, [.ref h_t_bytes, .int t_length, .int t_position, .int t_begun, .int t_wrong])), (h_t_bytes, aI T 400 t_bytes)] := by
    intro  h
    unfold F_X8_isDigit_24 at h
    refine x_iconst (v := 0) X dX8_isDigit_24 (by decide) ?_
    exact x_sub X [] rfl (k25 (0 : Int32) h)
  refine x_aload_n X dX8_isDigit_0 0 rfl ?_
  refine x_iload_n X dX8_isDigit_1 1 rfl ?_
  refine x_callVI (av := [.int p1]) (st := []) (wr := []) X (c_X8_at l D T h_t h_t_bytes t_begun t_length t_position t_wrong t_bytes p1 _ h) yk_X8_at tw_631 dX8_isDigit_2 0 rfl rfl [0, 1] [] rfl rfl rfl rfl (by decide) rfl rfl (Nat.le_of_ble_eq_true rfl) (Nat.le_of_ble_eq_true rfl) (Nat.le_of_ble_eq_true rfl) (Nat.zero_le _) (Nat.zero_le _) (fun r2 w1 hw => ?_)
  obtain ⟨rfl, h⟩ := hw
  refine x_perm (ws2 := [(h_t, .inr (7, [.ref h_t_bytes, .int t_length, .int t_position, .int t_begun, .int t_wrong])), (h_t_bytes, aI T 400 t_bytes)]) X [0, 1] rfl rfl ?_
  refine x_bipush (v := 48) X dX8_isDigit_5 (by decide) ?_
  refine x_icmp_lt (tgt := 24) X dX8_isDigit_7 (by decide) (fun hc => ?_) (fun hc => ?_)
  · have h := h.1 hc
    exact x_sub X [] rfl (k24 h)
  · have h := h.2 hc
    refine x_aload_n X dX8_isDigit_10 0 rfl ?_
    refine x_iload_n X dX8_isDigit_11 1 rfl ?_
    refine x_callVI (av := [.int p1]) (st := []) (wr := []) X (c_X8_at l D T h_t h_t_bytes t_begun t_length t_position t_wrong t_bytes p1 _ h) yk_X8_at tw_631 dX8_isDigit_12 0 rfl rfl [0, 1] [] rfl rfl rfl rfl (by decide) rfl rfl (Nat.le_of_ble_eq_true rfl) (Nat.le_of_ble_eq_true rfl) (Nat.le_of_ble_eq_true rfl) (Nat.zero_le _) (Nat.zero_le _) (fun r12 w1 hw => ?_)
    obtain ⟨rfl, h⟩ := hw
    refine x_perm (ws2 := [(h_t, .inr (7, [.ref h_t_bytes, .int t_length, .int t_position, .int t_begun, .int t_wrong])), (h_t_bytes, aI T 400 t_bytes)]) X [0, 1] rfl rfl ?_
    refine x_bipush (v := 57) X dX8_isDigit_15 (by decide) ?_
    refine x_icmp_gt (tgt := 24) X dX8_isDigit_17 (by decide) (fun hc => ?_) (fun hc => ?_)
    · have h := h.1 hc
      exact x_sub X [] rfl (k24 h)
    · have h := h.2 hc
      refine x_iconst (v := 1) X dX8_isDigit_20 (by decide) ?_
      refine x_goto (tgt := 25) X dX8_isDigit_21 (by decide) ?_
      exact x_sub X [] rfl (k25 (1 : Int32) h)
theorem dX8_digitComes_0 : decode cX8_digitComes 0 = .ok (.aload_n 0, 1) := by decide +kernel
theorem dX8_digitComes_1 : decode cX8_digitComes 1 = .ok (.invokevirtual 28, 3) := by decide +kernel
theorem dX8_digitComes_4 : decode cX8_digitComes 4 = .ok (.aload_n 0, 1) := by decide +kernel
theorem dX8_digitComes_5 : decode cX8_digitComes 5 = .ok (.aload_n 0, 1) := by decide +kernel
theorem dX8_digitComes_6 : decode cX8_digitComes 6 = .ok (.getfield 22, 3) := by decide +kernel
theorem dX8_digitComes_9 : decode cX8_digitComes 9 = .ok (.invokevirtual 31, 3) := by decide +kernel
theorem dX8_digitComes_12 : decode cX8_digitComes 12 = .ok (.ireturn, 1) := by decide +kernel
set_option maxHeartbeats 4000000 in
set_option maxRecDepth 100000 in
theorem c_X8_digitComes (l : Launch) (D : eD) (T : Nat → ClassId) (h_t h_t_bytes : Nat) (t_begun : Int32) (t_length : Int32) (t_position : Int32) (t_wrong : Int32) (t_bytes : Nat → Int32) (post : Int32 → Int32 → Int32 → Prop) (h : F_X8_digitComes t_length t_bytes t_begun t_position post) : cI l D T yX8_digitComes cX8_digitComes 1 (some .boolean) 2 42 0 0 [.ref h_t] [(h_t, .inr (7, [.ref h_t_bytes, .int t_length, .int t_position, .int t_begun, .int t_wrong])), (h_t_bytes, aI T 400 t_bytes)] (fun r w1 => ∃ (t_begun1 : Int32) (t_position1 : Int32), w1 = [(h_t, .inr (7, [.ref h_t_bytes, .int t_length, .int t_position1, .int t_begun1, .int t_wrong])), (h_t_bytes, aI T 400 t_bytes)] ∧ post r t_begun1 t_position1) := by
  refine xI_of (ty := .boolean) (by decide +kernel) (Nat.le_of_ble_eq_true rfl) rfl ?_
  intro G X hret
  change G 0 0 0 [(0, .ref h_t)] [] [(h_t, .inr (7, [.ref h_t_bytes, .int t_length, .int t_position, .int t_begun, .int t_wrong])), (h_t_bytes, aI T 400 t_bytes)]
  unfold F_X8_digitComes at h
  refine x_aload_n X dX8_digitComes_0 0 rfl ?_
  refine x_callVV (av := []) (st := []) (wr := []) X (c_X8_skipBlanks l D T h_t h_t_bytes t_begun t_length t_position t_wrong t_bytes _ h) yk_X8_skipBlanks tw_627 dX8_digitComes_1 0 rfl rfl [0, 1] [] rfl rfl rfl rfl (by decide) rfl rfl (Nat.le_of_ble_eq_true rfl) (Nat.le_of_ble_eq_true rfl) (Nat.le_of_ble_eq_true rfl) (Nat.zero_le _) (Nat.zero_le _) (fun w1 hw => ?_)
  obtain ⟨t_begun_1, t_position_1, rfl, h⟩ := hw
  refine x_perm (ws2 := [(h_t, .inr (7, [.ref h_t_bytes, .int t_length, .int t_position_1, .int t_begun_1, .int t_wrong])), (h_t_bytes, aI T 400 t_bytes)]) X [0, 1] rfl rfl ?_
  refine x_aload_n X dX8_digitComes_4 0 rfl ?_
  refine x_aload_n X dX8_digitComes_5 0 rfl ?_
  refine x_get X inGX8 2 (by decide) rfl tw_46 dX8_digitComes_6 rfl 0 rfl rfl ?_
  refine x_callVI (av := [.int t_position_1]) (st := []) (wr := []) X (c_X8_isDigit l D T h_t h_t_bytes t_begun_1 t_length t_position_1 t_wrong t_bytes t_position_1 _ h) yk_X8_isDigit tw_691 dX8_digitComes_9 0 rfl rfl [0, 1] [] rfl rfl rfl rfl (by decide) rfl rfl (Nat.le_of_ble_eq_true rfl) (Nat.le_of_ble_eq_true rfl) (Nat.le_of_ble_eq_true rfl) (Nat.zero_le _) (Nat.zero_le _) (fun r9 w1 hw => ?_)
  obtain ⟨rfl, h⟩ := hw
  refine x_perm (ws2 := [(h_t, .inr (7, [.ref h_t_bytes, .int t_length, .int t_position_1, .int t_begun_1, .int t_wrong])), (h_t_bytes, aI T 400 t_bytes)]) X [0, 1] rfl rfl ?_
  obtain ⟨hz, h⟩ := h
  exact hret _ _ _ _ dX8_digitComes_12 (e_nz hz) ⟨t_begun_1, t_position_1, rfl, h⟩
theorem dX8_takesSign_0 : decode cX8_takesSign 0 = .ok (.aload_n 0, 1) := by decide +kernel
theorem dX8_takesSign_1 : decode cX8_takesSign 1 = .ok (.invokevirtual 28, 3) := by decide +kernel
theorem dX8_takesSign_4 : decode cX8_takesSign 4 = .ok (.aload_n 0, 1) := by decide +kernel
theorem dX8_takesSign_5 : decode cX8_takesSign 5 = .ok (.aload_n 0, 1) := by decide +kernel
theorem dX8_takesSign_6 : decode cX8_takesSign 6 = .ok (.getfield 22, 3) := by decide +kernel
theorem dX8_takesSign_9 : decode cX8_takesSign 9 = .ok (.invokevirtual 35, 3) := by decide +kernel
theorem dX8_takesSign_12 : decode cX8_takesSign 12 = .ok (.iload_n 1, 1) := by decide +kernel
theorem dX8_takesSign_13 : decode cX8_takesSign 13 = .ok (.if_icmp .eq 5, 3) := by decide +kernel
theorem dX8_takesSign_16 : decode cX8_takesSign 16 = .ok (.iconst 0, 1) := by decide +kernel
theorem dX8_takesSign_17 : decode cX8_takesSign 17 = .ok (.ireturn, 1) := by decide +kernel
theorem dX8_takesSign_18 : decode cX8_takesSign 18 = .ok (.aload_n 0, 1) := by decide +kernel
theorem dX8_takesSign_19 : decode cX8_takesSign 19 = .ok (.dup, 1) := by decide +kernel
theorem dX8_takesSign_20 : decode cX8_takesSign 20 = .ok (.getfield 22, 3) := by decide +kernel
theorem dX8_takesSign_23 : decode cX8_takesSign 23 = .ok (.iconst 1, 1) := by decide +kernel
theorem dX8_takesSign_24 : decode cX8_takesSign 24 = .ok (.iadd, 1) := by decide +kernel
theorem dX8_takesSign_25 : decode cX8_takesSign 25 = .ok (.putfield 22, 3) := by decide +kernel
theorem dX8_takesSign_28 : decode cX8_takesSign 28 = .ok (.iconst 1, 1) := by decide +kernel
theorem dX8_takesSign_29 : decode cX8_takesSign 29 = .ok (.ireturn, 1) := by decide +kernel
set_option maxHeartbeats 4000000 in
set_option maxRecDepth 100000 in
theorem c_X8_takesSign (l : Launch) (D : eD) (T : Nat → ClassId) (h_t h_t_bytes : Nat) (t_begun : Int32) (t_length : Int32) (t_position : Int32) (t_wrong : Int32) (t_bytes : Nat → Int32) (p1 : Int32) (post : Int32 → Int32 → Int32 → Prop) (h : F_X8_takesSign t_length t_bytes t_begun t_position p1 post) : cI l D T yX8_takesSign cX8_takesSign 2 (some .boolean) 2 41 0 0 [.ref h_t, .int p1] [(h_t, .inr (7, [.ref h_t_bytes, .int t_length, .int t_position, .int t_begun, .int t_wrong])), (h_t_bytes, aI T 400 t_bytes)] (fun r w1 => ∃ (t_begun1 : Int32) (t_position1 : Int32), w1 = [(h_t, .inr (7, [.ref h_t_bytes, .int t_length, .int t_position1, .int t_begun1, .int t_wrong])), (h_t_bytes, aI T 400 t_bytes)] ∧ post r t_begun1 t_position1) := by
  refine xI_of (ty := .boolean) (by decide +kernel) (Nat.le_of_ble_eq_true rfl) rfl ?_
  intro G X hret
  change G 0 0 0 [(0, .ref h_t), (1, .int p1)] [] [(h_t, .inr (7, [.ref h_t_bytes, .int t_length, .int t_position, .int t_begun, .int t_wrong])), (h_t_bytes, aI T 400 t_bytes)]
  unfold F_X8_takesSign at h
  refine x_aload_n X dX8_takesSign_0 0 rfl ?_
  refine x_callVV (av := []) (st := []) (wr := []) X (c_X8_skipBlanks l D T h_t h_t_bytes t_begun t_length t_position t_wrong t_bytes _ h) yk_X8_skipBlanks tw_627 dX8_takesSign_1 0 rfl rfl [0, 1] [] rfl rfl rfl rfl (by decide) rfl rfl (Nat.le_of_ble_eq_true rfl) (Nat.le_of_ble_eq_true rfl) (Nat.le_of_ble_eq_true rfl) (Nat.zero_le _) (Nat.zero_le _) (fun w1 hw => ?_)
  obtain ⟨t_begun_1, t_position_1, rfl, h⟩ := hw
  refine x_perm (ws2 := [(h_t, .inr (7, [.ref h_t_bytes, .int t_length, .int t_position_1, .int t_begun_1, .int t_wrong])), (h_t_bytes, aI T 400 t_bytes)]) X [0, 1] rfl rfl ?_
  refine x_aload_n X dX8_takesSign_4 0 rfl ?_
  refine x_aload_n X dX8_takesSign_5 0 rfl ?_
  refine x_get X inGX8 2 (by decide) rfl tw_46 dX8_takesSign_6 rfl 0 rfl rfl ?_
  refine x_callVI (av := [.int t_position_1]) (st := []) (wr := []) X (c_X8_at l D T h_t h_t_bytes t_begun_1 t_length t_position_1 t_wrong t_bytes t_position_1 _ h) yk_X8_at tw_631 dX8_takesSign_9 0 rfl rfl [0, 1] [] rfl rfl rfl rfl (by decide) rfl rfl (Nat.le_of_ble_eq_true rfl) (Nat.le_of_ble_eq_true rfl) (Nat.le_of_ble_eq_true rfl) (Nat.zero_le _) (Nat.zero_le _) (fun r9 w1 hw => ?_)
  obtain ⟨rfl, h⟩ := hw
  refine x_perm (ws2 := [(h_t, .inr (7, [.ref h_t_bytes, .int t_length, .int t_position_1, .int t_begun_1, .int t_wrong])), (h_t_bytes, aI T 400 t_bytes)]) X [0, 1] rfl rfl ?_
  refine x_iload_n X dX8_takesSign_12 1 rfl ?_
  refine x_icmp_eq (tgt := 18) X dX8_takesSign_13 (by decide) (fun hc => ?_) (fun hc => ?_)
  · have h := h.1 hc
    refine x_aload_n X dX8_takesSign_18 0 rfl ?_
    refine x_dup X dX8_takesSign_19 rfl ?_
    refine x_get X inGX8 2 (by decide) rfl tw_46 dX8_takesSign_20 rfl 0 rfl rfl ?_
    refine x_iconst (v := 1) X dX8_takesSign_23 (by decide) ?_
    refine x_iadd X dX8_takesSign_24 ?_
    refine x_put (ws' := [(h_t, .inr (7, [.ref h_t_bytes, .int t_length, .int (t_position_1 + (1 : Int32)), .int t_begun_1, .int t_wrong])), (h_t_bytes, aI T 400 t_bytes)]) X inGX8 tyX8_ok nmX8 2 (by decide) rfl tw_46 dX8_takesSign_25 rfl rfl 0 rfl rfl rfl (Nat.le_of_ble_eq_true rfl) rfl ?_
    refine x_iconst (v := 1) X dX8_takesSign_28 (by decide) ?_
    exact hret _ _ _ _ dX8_takesSign_29 rfl ⟨t_begun_1, (t_position_1 + (1 : Int32)), rfl, h⟩
  · have h := h.2 hc
    refine x_iconst (v := 0) X dX8_takesSign_16 (by decide) ?_
    obtain ⟨hz, h⟩ := h
    exact hret _ _ _ _ dX8_takesSign_17 (e_nz hz) ⟨t_begun_1, t_position_1, rfl, h⟩
theorem dX8_isLetter_0 : decode cX8_isLetter 0 = .ok (.aload_n 0, 1) := by decide +kernel
theorem dX8_isLetter_1 : decode cX8_isLetter 1 = .ok (.iload_n 1, 1) := by decide +kernel
theorem dX8_isLetter_2 : decode cX8_isLetter 2 = .ok (.invokevirtual 35, 3) := by decide +kernel
theorem dX8_isLetter_5 : decode cX8_isLetter 5 = .ok (.bipush 97, 2) := by decide +kernel
theorem dX8_isLetter_7 : decode cX8_isLetter 7 = .ok (.if_icmp .lt 17, 3) := by decide +kernel
theorem dX8_isLetter_10 : decode cX8_isLetter 10 = .ok (.aload_n 0, 1) := by decide +kernel
theorem dX8_isLetter_11 : decode cX8_isLetter 11 = .ok (.iload_n 1, 1) := by decide +kernel
theorem dX8_isLetter_12 : decode cX8_isLetter 12 = .ok (.invokevirtual 35, 3) := by decide +kernel
theorem dX8_isLetter_15 : decode cX8_isLetter 15 = .ok (.bipush 122, 2) := by decide +kernel
theorem dX8_isLetter_17 : decode cX8_isLetter 17 = .ok (.if_icmp .gt 7, 3) := by decide +kernel
theorem dX8_isLetter_20 : decode cX8_isLetter 20 = .ok (.iconst 1, 1) := by decide +kernel
theorem dX8_isLetter_21 : decode cX8_isLetter 21 = .ok (.goto 4, 3) := by decide +kernel
theorem dX8_isLetter_24 : decode cX8_isLetter 24 = .ok (.iconst 0, 1) := by decide +kernel
theorem dX8_isLetter_25 : decode cX8_isLetter 25 = .ok (.ireturn, 1) := by decide +kernel
set_option maxHeartbeats 4000000 in
set_option maxRecDepth 100000 in
theorem c_X8_isLetter (l : Launch) (D : eD) (T : Nat → ClassId) (h_t h_t_bytes : Nat) (t_begun : Int32) (t_length : Int32) (t_position : Int32) (t_wrong : Int32) (t_bytes : Nat → Int32) (p1 : Int32) (post : Int32 → Prop) (h : F_X8_isLetter t_length t_bytes p1 post) : cI l D T yX8_isLetter cX8_isLetter 2 (some .boolean) 1 21 0 0 [.ref h_t, .int p1] [(h_t, .inr (7, [.ref h_t_bytes, .int t_length, .int t_position, .int t_begun, .int t_wrong])), (h_t_bytes, aI T 400 t_bytes)] (fun r w1 => w1 = [(h_t, .inr (7, [.ref h_t_bytes, .int t_length, .int t_position, .int t_begun, .int t_wrong])), (h_t_bytes, aI T 400 t_bytes)] ∧ post r ) := by
  refine xI_of (ty := .boolean) (by decide +kernel) (Nat.le_of_ble_eq_true rfl) rfl ?_
  intro G X hret
  change G 0 0 0 [(0, .ref h_t), (1, .int p1)] [] [(h_t, .inr (7, [.ref h_t_bytes, .int t_length, .int t_position, .int t_begun, .int t_wrong])), (h_t_bytes, aI T 400 t_bytes)]
  unfold F_X8_isLetter at h
  have k25 : ∀ (s0 : Int32), F_X8_isLetter_25 t_length t_bytes post s0 → G 0 0 25 [] [.int s0] [(h_t, .inr (7, [.ref h_t_bytes, .int t_length, .int t_position, .int t_begun, .int t_wrong])), (h_t_bytes, aI T 400 t_bytes)] := by
    intro s0 h
    unfold F_X8_isLetter_25 at h
    obtain ⟨hz, h⟩ := h
    exact hret _ _ _ _ dX8_isLetter_25 (e_nz hz) ⟨rfl, h⟩
  have k24 : F_X8_isLetter_24 t_length t_bytes post (fun s0 => F_X8_isLetter_25 t_length t_bytes post s0) → G 0 0 24 [] [] [(h_t, .inr (7, [.ref h_t_bytes, .int t_length, .int t_position, .int t_begun, .int t_wrong])), (h_t_bytes, aI T 400 t_bytes)] := by
    intro  h
    unfold F_X8_isLetter_24 at h
    refine x_iconst (v := 0) X dX8_isLetter_24 (by decide) ?_
    exact x_sub X [] rfl (k25 (0 : Int32) h)
  refine x_aload_n X dX8_isLetter_0 0 rfl ?_
  refine x_iload_n X dX8_isLetter_1 1 rfl ?_
  refine x_callVI (av := [.int p1]) (st := []) (wr := []) X (c_X8_at l D T h_t h_t_bytes t_begun t_length t_position t_wrong t_bytes p1 _ h) yk_X8_at tw_631 dX8_isLetter_2 0 rfl rfl [0, 1] [] rfl rfl rfl rfl (by decide) rfl rfl (Nat.le_of_ble_eq_true rfl) (Nat.le_of_ble_eq_true rfl) (Nat.le_of_ble_eq_true rfl) (Nat.zero_le _) (Nat.zero_le _) (fun r2 w1 hw => ?_)
  obtain ⟨rfl, h⟩ := hw
  refine x_perm (ws2 := [(h_t, .inr (7, [.ref h_t_bytes, .int t_length, .int t_position, .int t_begun, .int t_wrong])), (h_t_bytes, aI T 400 t_bytes)]) X [0, 1] rfl rfl ?_
  refine x_bipush (v := 97) X dX8_isLetter_5 (by decide) ?_
  refine x_icmp_lt (tgt := 24) X dX8_isLetter_7 (by decide) (fun hc => ?_) (fun hc => ?_)
  · have h := h.1 hc
    exact x_sub X [] rfl (k24 h)
  · have h := h.2 hc
    refine x_aload_n X dX8_isLetter_10 0 rfl ?_
    refine x_iload_n X dX8_isLetter_11 1 rfl ?_
    refine x_callVI (av := [.int p1]) (st := []) (wr := []) X (c_X8_at l D T h_t h_t_bytes t_begun t_length t_position t_wrong t_bytes p1 _ h) yk_X8_at tw_631 dX8_isLetter_12 0 rfl rfl [0, 1] [] rfl rfl rfl rfl (by decide) rfl rfl (Nat.le_of_ble_eq_true rfl) (Nat.le_of_ble_eq_true rfl) (Nat.le_of_ble_eq_true rfl) (Nat.zero_le _) (Nat.zero_le _) (fun r12 w1 hw => ?_)
    obtain ⟨rfl, h⟩ := hw
    refine x_perm (ws2 := [(h_t, .inr (7, [.ref h_t_bytes, .int t_length, .int t_position, .int t_begun, .int t_wrong])), (h_t_bytes, aI T 400 t_bytes)]) X [0, 1] rfl rfl ?_
    refine x_bipush (v := 122) X dX8_isLetter_15 (by decide) ?_
    refine x_icmp_gt (tgt := 24) X dX8_isLetter_17 (by decide) (fun hc => ?_) (fun hc => ?_)
    · have h := h.1 hc
      exact x_sub X [] rfl (k24 h)
    · have h := h.2 hc
      refine x_iconst (v := 1) X dX8_isLetter_20 (by decide) ?_
      refine x_goto (tgt := 25) X dX8_isLetter_21 (by decide) ?_
      exact x_sub X [] rfl (k25 (1 : Int32) h)
theorem dX8_takesWord_0 : decode cX8_takesWord 0 = .ok (.aload_n 0, 1) := by decide +kernel
theorem dX8_takesWord_1 : decode cX8_takesWord 1 = .ok (.invokevirtual 28, 3) := by decide +kernel
theorem dX8_takesWord_4 : decode cX8_takesWord 4 = .ok (.aload_n 0, 1) := by decide +kernel
theorem dX8_takesWord_5 : decode cX8_takesWord 5 = .ok (.getfield 22, 3) := by decide +kernel
theorem dX8_takesWord_8 : decode cX8_takesWord 8 = .ok (.istore_n 2, 1) := by decide +kernel
theorem dX8_takesWord_9 : decode cX8_takesWord 9 = .ok (.iload_n 2, 1) := by decide +kernel
theorem dX8_takesWord_10 : decode cX8_takesWord 10 = .ok (.aload_n 0, 1) := by decide +kernel
theorem dX8_takesWord_11 : decode cX8_takesWord 11 = .ok (.getfield 19, 3) := by decide +kernel
theorem dX8_takesWord_14 : decode cX8_takesWord 14 = .ok (.if_icmp .ge 17, 3) := by decide +kernel
theorem dX8_takesWord_17 : decode cX8_takesWord 17 = .ok (.aload_n 0, 1) := by decide +kernel
theorem dX8_takesWord_18 : decode cX8_takesWord 18 = .ok (.iload_n 2, 1) := by decide +kernel
theorem dX8_takesWord_19 : decode cX8_takesWord 19 = .ok (.invokevirtual 39, 3) := by decide +kernel
theorem dX8_takesWord_22 : decode cX8_takesWord 22 = .ok (.ifCond .eq 9, 3) := by decide +kernel
theorem dX8_takesWord_25 : decode cX8_takesWord 25 = .ok (.iinc 2 1, 3) := by decide +kernel
theorem dX8_takesWord_28 : decode cX8_takesWord 28 = .ok (.goto (-19), 3) := by decide +kernel
theorem dX8_takesWord_31 : decode cX8_takesWord 31 = .ok (.iload_n 2, 1) := by decide +kernel
theorem dX8_takesWord_32 : decode cX8_takesWord 32 = .ok (.aload_n 0, 1) := by decide +kernel
theorem dX8_takesWord_33 : decode cX8_takesWord 33 = .ok (.getfield 22, 3) := by decide +kernel
theorem dX8_takesWord_36 : decode cX8_takesWord 36 = .ok (.isub, 1) := by decide +kernel
theorem dX8_takesWord_37 : decode cX8_takesWord 37 = .ok (.aload_n 1, 1) := by decide +kernel
theorem dX8_takesWord_38 : decode cX8_takesWord 38 = .ok (.invokevirtual 42, 3) := by decide +kernel
theorem dX8_takesWord_41 : decode cX8_takesWord 41 = .ok (.if_icmp .eq 5, 3) := by decide +kernel
theorem dX8_takesWord_44 : decode cX8_takesWord 44 = .ok (.iconst 0, 1) := by decide +kernel
theorem dX8_takesWord_45 : decode cX8_takesWord 45 = .ok (.ireturn, 1) := by decide +kernel
theorem dX8_takesWord_46 : decode cX8_takesWord 46 = .ok (.iconst 0, 1) := by decide +kernel
theorem dX8_takesWord_47 : decode cX8_takesWord 47 = .ok (.istore_n 3, 1) := by decide +kernel
theorem dX8_takesWord_48 : decode cX8_takesWord 48 = .ok (.iload_n 3, 1) := by decide +kernel
theorem dX8_takesWord_49 : decode cX8_takesWord 49 = .ok (.aload_n 1, 1) := by decide +kernel
theorem dX8_takesWord_50 : decode cX8_takesWord 50 = .ok (.invokevirtual 42, 3) := by decide +kernel
theorem dX8_takesWord_53 : decode cX8_takesWord 53 = .ok (.if_icmp .ge 29, 3) := by decide +kernel
theorem dX8_takesWord_56 : decode cX8_takesWord 56 = .ok (.aload_n 0, 1) := by decide +kernel
theorem dX8_takesWord_57 : decode cX8_takesWord 57 = .ok (.aload_n 0, 1) := by decide +kernel
theorem dX8_takesWord_58 : decode cX8_takesWord 58 = .ok (.getfield 22, 3) := by decide +kernel
theorem dX8_takesWord_61 : decode cX8_takesWord 61 = .ok (.iload_n 3, 1) := by decide +kernel
theorem dX8_takesWord_62 : decode cX8_takesWord 62 = .ok (.iadd, 1) := by decide +kernel
theorem dX8_takesWord_63 : decode cX8_takesWord 63 = .ok (.invokevirtual 35, 3) := by decide +kernel
theorem dX8_takesWord_66 : decode cX8_takesWord 66 = .ok (.aload_n 1, 1) := by decide +kernel
theorem dX8_takesWord_67 : decode cX8_takesWord 67 = .ok (.iload_n 3, 1) := by decide +kernel
theorem dX8_takesWord_68 : decode cX8_takesWord 68 = .ok (.invokevirtual 47, 3) := by decide +kernel
theorem dX8_takesWord_71 : decode cX8_takesWord 71 = .ok (.if_icmp .eq 5, 3) := by decide +kernel
theorem dX8_takesWord_74 : decode cX8_takesWord 74 = .ok (.iconst 0, 1) := by decide +kernel
theorem dX8_takesWord_75 : decode cX8_takesWord 75 = .ok (.ireturn, 1) := by decide +kernel
theorem dX8_takesWord_76 : decode cX8_takesWord 76 = .ok (.iinc 3 1, 3) := by decide +kernel
theorem dX8_takesWord_79 : decode cX8_takesWord 79 = .ok (.goto (-31), 3) := by decide +kernel
theorem dX8_takesWord_82 : decode cX8_takesWord 82 = .ok (.aload_n 0, 1) := by decide +kernel
theorem dX8_takesWord_83 : decode cX8_takesWord 83 = .ok (.iload_n 2, 1) := by decide +kernel
theorem dX8_takesWord_84 : decode cX8_takesWord 84 = .ok (.putfield 22, 3) := by decide +kernel
theorem dX8_takesWord_87 : decode cX8_takesWord 87 = .ok (.iconst 1, 1) := by decide +kernel
theorem dX8_takesWord_88 : decode cX8_takesWord 88 = .ok (.ireturn, 1) := by decide +kernel
set_option maxHeartbeats 4000000 in
set_option maxRecDepth 100000 in
theorem c_X8_takesWord (l : Launch) (D : eD) (T : Nat → ClassId) (h_t h_t_bytes : Nat) (t_begun : Int32) (t_length : Int32) (t_position : Int32) (t_wrong : Int32) (t_bytes : Nat → Int32) (p1 : Nat) (post : Int32 → Int32 → Int32 → Prop) (h : F_X8_takesWord t_length t_bytes t_begun t_position p1 post) : cI l D T yX8_takesWord cX8_takesWord 4 (some .boolean) 5 140 0 0 [.ref h_t, .ref (D.2.1 p1)] [(h_t, .inr (7, [.ref h_t_bytes, .int t_length, .int t_position, .int t_begun, .int t_wrong])), (h_t_bytes, aI T 400 t_bytes)] (fun r w1 => ∃ (t_begun1 : Int32) (t_position1 : Int32), w1 = [(h_t, .inr (7, [.ref h_t_bytes, .int t_length, .int t_position1, .int t_begun1, .int t_wrong])), (h_t_bytes, aI T 400 t_bytes)] ∧ post r t_begun1 t_position1) := by
  refine xI_of (ty := .boolean) (by decide +kernel) (Nat.le_of_ble_eq_true rfl) rfl ?_
  intro G X hret
  change G 0 0 0 [(0, .ref h_t), (1, .ref (D.2.1 p1))] [] [(h_t, .inr (7, [.ref h_t_bytes, .int t_length, .int t_position, .int t_begun, .int t_wrong])), (h_t_bytes, aI T 400 t_bytes)]
  unfold F_X8_takesWord at h
  have k9 : ∀ (n9 : Nat) (x1 : Nat) (x2 : Int32) (t_begun : Int32) (t_position : Int32), F_X8_takesWord_9 t_length t_bytes post n9 x1 x2 t_begun t_position → G 0 0 9 [(0, .ref h_t), (1, .ref (D.2.1 x1)), (2, .int x2)] [] [(h_t, .inr (7, [.ref h_t_bytes, .int t_length, .int t_position, .int t_begun, .int t_wrong])), (h_t_bytes, aI T 400 t_bytes)] := by
    intro n9
    induction n9 with
    | zero => intro x1 x2 t_begun t_position h; exact h.elim
    | succ n9 ih9 =>
      intro x1 x2 t_begun t_position h
      rw [F_X8_takesWord_9] at h
      have k31 : ∀ (x1 : Nat) (x2 : Int32) (t_begun : Int32) (t_position : Int32), F_X8_takesWord_31 t_length t_bytes post x1 x2 t_begun t_position → G 0 0 31 [(0, .ref h_t), (1, .ref (D.2.1 x1)), (2, .int x2)] [] [(h_t, .inr (7, [.ref h_t_bytes, .int t_length, .int t_position, .int t_begun, .int t_wrong])), (h_t_bytes, aI T 400 t_bytes)] := by
        intro x1 x2 t_begun t_position h
        unfold F_X8_takesWord_31 at h
        have k48 : ∀ (n48 : Nat) (x1 : Nat) (x2 : Int32) (x3 : Int32) (t_begun : Int32) (t_position : Int32), F_X8_takesWord_48 t_length t_bytes post n48 x1 x2 x3 t_begun t_position → G 0 0 48 [(0, .ref h_t), (1, .ref (D.2.1 x1)), (2, .int x2), (3, .int x3)] [] [(h_t, .inr (7, [.ref h_t_bytes, .int t_length, .int t_position, .int t_begun, .int t_wrong])), (h_t_bytes, aI T 400 t_bytes)] := by
          intro n48
          induction n48 with
          | zero => intro x1 x2 x3 t_begun t_position h; exact h.elim
          | succ n48 ih48 =>
            intro x1 x2 x3 t_begun t_position h
            rw [F_X8_takesWord_48] at h
            refine x_iload_n X dX8_takesWord_48 3 rfl ?_
            refine x_aload_n X dX8_takesWord_49 1 rfl ?_
            obtain ⟨hsi, h⟩ := h
            refine x_callVS (av := []) (st := [.int x3]) X x1 hsi (c_J0_length l D T x1 hsi) rfl yk_J0_length tw_639 dX8_takesWord_50 rfl rfl (Nat.le_of_ble_eq_true rfl) (Nat.le_of_ble_eq_true rfl) (Nat.le_of_ble_eq_true rfl) (Nat.zero_le _) (Nat.zero_le _) (fun _ _ hw => hw.1) (fun v hw => ?_)
            obtain ⟨-, rfl⟩ := hw
            refine x_icmp_ge (tgt := 82) X dX8_takesWord_53 (by decide) (fun hc => ?_) (fun hc => ?_)
            · have h := h.1 hc
              refine x_aload_n X dX8_takesWord_82 0 rfl ?_
              refine x_iload_n X dX8_takesWord_83 2 rfl ?_
              refine x_put (ws' := [(h_t, .inr (7, [.ref h_t_bytes, .int t_length, .int x2, .int t_begun, .int t_wrong])), (h_t_bytes, aI T 400 t_bytes)]) X inGX8 tyX8_ok nmX8 2 (by decide) rfl tw_46 dX8_takesWord_84 rfl rfl 0 rfl rfl rfl (Nat.le_of_ble_eq_true rfl) rfl ?_
              refine x_iconst (v := 1) X dX8_takesWord_87 (by decide) ?_
              exact hret _ _ _ _ dX8_takesWord_88 rfl ⟨t_begun, x2, rfl, h⟩
            · have h := h.2 hc
              refine x_aload_n X dX8_takesWord_56 0 rfl ?_
              refine x_aload_n X dX8_takesWord_57 0 rfl ?_
              refine x_get X inGX8 2 (by decide) rfl tw_46 dX8_takesWord_58 rfl 0 rfl rfl ?_
              refine x_iload_n X dX8_takesWord_61 3 rfl ?_
              refine x_iadd X dX8_takesWord_62 ?_
              refine x_callVI (av := [.int (t_position + x3)]) (st := []) (wr := []) X (c_X8_at l D T h_t h_t_bytes t_begun t_length t_position t_wrong t_bytes (t_position + x3) _ h) yk_X8_at tw_631 dX8_takesWord_63 0 rfl rfl [0, 1] [] rfl rfl rfl rfl (by decide) rfl rfl (Nat.le_of_ble_eq_true rfl) (Nat.le_of_ble_eq_true rfl) (Nat.le_of_ble_eq_true rfl) (Nat.zero_le _) (Nat.zero_le _) (fun r63 w1 hw => ?_)
              obtain ⟨rfl, h⟩ := hw
              refine x_perm (ws2 := [(h_t, .inr (7, [.ref h_t_bytes, .int t_length, .int t_position, .int t_begun, .int t_wrong])), (h_t_bytes, aI T 400 t_bytes)]) X [0, 1] rfl rfl ?_
              refine x_aload_n X dX8_takesWord_66 1 rfl ?_
              refine x_iload_n X dX8_takesWord_67 3 rfl ?_
              obtain ⟨hsi, h⟩ := h
              obtain ⟨hki, h⟩ := h
              refine x_callVS (av := [.int x3]) (st := [.int r63]) X x1 hsi (c_J0_charAt l D T x1 hsi x3 hki) rfl yk_J0_charAt tw_649 dX8_takesWord_68 rfl rfl (Nat.le_of_ble_eq_true rfl) (Nat.le_of_ble_eq_true rfl) (Nat.le_of_ble_eq_true rfl) (Nat.zero_le _) (Nat.zero_le _) (fun _ _ hw => hw.1) (fun v hw => ?_)
              obtain ⟨-, rfl⟩ := hw
              refine x_icmp_eq (tgt := 76) X dX8_takesWord_71 (by decide) (fun hc => ?_) (fun hc => ?_)
              · have h := h.1 hc
                refine x_iinc (v := (x3 + 1)) (lv' := [(3, .int (x3 + 1)), (0, .ref h_t), (1, .ref (D.2.1 x1)), (2, .int x2)]) X dX8_takesWord_76 3 rfl rfl (by decide) rfl ?_
                refine x_goto (tgt := 48) X dX8_takesWord_79 (by decide) ?_
                exact x_sub X [1, 2, 3, 0] rfl (ih48 x1 x2 (x3 + 1) t_begun t_position h)
              · have h := h.2 hc
                refine x_iconst (v := 0) X dX8_takesWord_74 (by decide) ?_
                obtain ⟨hz, h⟩ := h
                exact hret _ _ _ _ dX8_takesWord_75 (e_nz hz) ⟨t_begun, t_position, rfl, h⟩
        refine x_iload_n X dX8_takesWord_31 2 rfl ?_
        refine x_aload_n X dX8_takesWord_32 0 rfl ?_
        refine x_get X inGX8 2 (by decide) rfl tw_46 dX8_takesWord_33 rfl 0 rfl rfl ?_
        refine x_isub X dX8_takesWord_36 ?_
        refine x_aload_n X dX8_takesWord_37 1 rfl ?_
        obtain ⟨hsi, h⟩ := h
        refine x_callVS (av := []) (st := [.int (x2 - t_position)]) X x1 hsi (c_J0_length l D T x1 hsi) rfl yk_J0_length tw_639 dX8_takesWord_38 rfl rfl (Nat.le_of_ble_eq_true rfl) (Nat.le_of_ble_eq_true rfl) (Nat.le_of_ble_eq_true rfl) (Nat.zero_le _) (Nat.zero_le _) (fun _ _ hw => hw.1) (fun v hw => ?_)
        obtain ⟨-, rfl⟩ := hw
        refine x_icmp_eq (tgt := 46) X dX8_takesWord_41 (by decide) (fun hc => ?_) (fun hc => ?_)
        · have h := h.1 hc
          refine x_iconst (v := 0) X dX8_takesWord_46 (by decide) ?_
          refine x_istore_n (lv' := [(3, .int (0 : Int32)), (0, .ref h_t), (1, .ref (D.2.1 x1)), (2, .int x2)]) X dX8_takesWord_47 (by decide) rfl ?_
          obtain ⟨n48, h⟩ := h
          exact x_sub X [1, 2, 3, 0] rfl (k48 n48 x1 x2 (0 : Int32) t_begun t_position h)
        · have h := h.2 hc
          refine x_iconst (v := 0) X dX8_takesWord_44 (by decide) ?_
          obtain ⟨hz, h⟩ := h
          exact hret _ _ _ _ dX8_takesWord_45 (e_nz hz) ⟨t_begun, t_position, rfl, h⟩
      refine x_iload_n X dX8_takesWord_9 2 rfl ?_
      refine x_aload_n X dX8_takesWord_10 0 rfl ?_
      refine x_get X inGX8 1 (by decide) rfl tw_44 dX8_takesWord_11 rfl 0 rfl rfl ?_
      refine x_icmp_ge (tgt := 31) X dX8_takesWord_14 (by decide) (fun hc => ?_) (fun hc => ?_)
      · have h := h.1 hc
        exact x_sub X [0, 1, 2] rfl (k31 x1 x2 t_begun t_position h)
      · have h := h.2 hc
        refine x_aload_n X dX8_takesWord_17 0 rfl ?_
        refine x_iload_n X dX8_takesWord_18 2 rfl ?_
        refine x_callVI (av := [.int x2]) (st := []) (wr := []) X (c_X8_isLetter l D T h_t h_t_bytes t_begun t_length t_position t_wrong t_bytes x2 _ h) yk_X8_isLetter tw_635 dX8_takesWord_19 0 rfl rfl [0, 1] [] rfl rfl rfl rfl (by decide) rfl rfl (Nat.le_of_ble_eq_true rfl) (Nat.le_of_ble_eq_true rfl) (Nat.le_of_ble_eq_true rfl) (Nat.zero_le _) (Nat.zero_le _) (fun r19 w1 hw => ?_)
        obtain ⟨rfl, h⟩ := hw
        refine x_perm (ws2 := [(h_t, .inr (7, [.ref h_t_bytes, .int t_length, .int t_position, .int t_begun, .int t_wrong])), (h_t_bytes, aI T 400 t_bytes)]) X [0, 1] rfl rfl ?_
        refine x_if_eq (tgt := 31) X dX8_takesWord_22 (by decide) (fun hc => ?_) (fun hc => ?_)
        · have h := h.1 hc
          exact x_sub X [0, 1, 2] rfl (k31 x1 x2 t_begun t_position h)
        · have h := h.2 hc
          refine x_iinc (v := (x2 + 1)) (lv' := [(2, .int (x2 + 1)), (0, .ref h_t), (1, .ref (D.2.1 x1))]) X dX8_takesWord_25 2 rfl rfl (by decide) rfl ?_
          refine x_goto (tgt := 9) X dX8_takesWord_28 (by decide) ?_
          exact x_sub X [1, 2, 0] rfl (ih9 x1 (x2 + 1) t_begun t_position h)
  refine x_aload_n X dX8_takesWord_0 0 rfl ?_
  refine x_callVV (av := []) (st := []) (wr := []) X (c_X8_skipBlanks l D T h_t h_t_bytes t_begun t_length t_position t_wrong t_bytes _ h) yk_X8_skipBlanks tw_627 dX8_takesWord_1 0 rfl rfl [0, 1] [] rfl rfl rfl rfl (by decide) rfl rfl (Nat.le_of_ble_eq_true rfl) (Nat.le_of_ble_eq_true rfl) (Nat.le_of_ble_eq_true rfl) (Nat.zero_le _) (Nat.zero_le _) (fun w1 hw => ?_)
  obtain ⟨t_begun_1, t_position_1, rfl, h⟩ := hw
  refine x_perm (ws2 := [(h_t, .inr (7, [.ref h_t_bytes, .int t_length, .int t_position_1, .int t_begun_1, .int t_wrong])), (h_t_bytes, aI T 400 t_bytes)]) X [0, 1] rfl rfl ?_
  refine x_aload_n X dX8_takesWord_4 0 rfl ?_
  refine x_get X inGX8 2 (by decide) rfl tw_46 dX8_takesWord_5 rfl 0 rfl rfl ?_
  refine x_istore_n (lv' := [(2, .int t_position_1), (0, .ref h_t), (1, .ref (D.2.1 p1))]) X dX8_takesWord_8 (by decide) rfl ?_
  obtain ⟨n9, h⟩ := h
  exact x_sub X [1, 2, 0] rfl (k9 n9 p1 t_position_1 t_begun_1 t_position_1 h)
theorem dX8_takeNumber_0 : decode cX8_takeNumber 0 = .ok (.aload_n 0, 1) := by decide +kernel
theorem dX8_takeNumber_1 : decode cX8_takeNumber 1 = .ok (.invokevirtual 28, 3) := by decide +kernel
theorem dX8_takeNumber_4 : decode cX8_takeNumber 4 = .ok (.aload_n 0, 1) := by decide +kernel
theorem dX8_takeNumber_5 : decode cX8_takeNumber 5 = .ok (.getfield 22, 3) := by decide +kernel
theorem dX8_takeNumber_8 : decode cX8_takeNumber 8 = .ok (.istore_n 3, 1) := by decide +kernel
theorem dX8_takeNumber_9 : decode cX8_takeNumber 9 = .ok (.iconst 0, 1) := by decide +kernel
theorem dX8_takeNumber_10 : decode cX8_takeNumber 10 = .ok (.istore 4, 2) := by decide +kernel
theorem dX8_takeNumber_12 : decode cX8_takeNumber 12 = .ok (.iload_n 3, 1) := by decide +kernel
theorem dX8_takeNumber_13 : decode cX8_takeNumber 13 = .ok (.aload_n 0, 1) := by decide +kernel
theorem dX8_takeNumber_14 : decode cX8_takeNumber 14 = .ok (.getfield 19, 3) := by decide +kernel
theorem dX8_takeNumber_17 : decode cX8_takeNumber 17 = .ok (.if_icmp .ge 43, 3) := by decide +kernel
theorem dX8_takeNumber_20 : decode cX8_takeNumber 20 = .ok (.iload_n 3, 1) := by decide +kernel
theorem dX8_takeNumber_21 : decode cX8_takeNumber 21 = .ok (.aload_n 0, 1) := by decide +kernel
theorem dX8_takeNumber_22 : decode cX8_takeNumber 22 = .ok (.getfield 22, 3) := by decide +kernel
theorem dX8_takeNumber_25 : decode cX8_takeNumber 25 = .ok (.iconst 3, 1) := by decide +kernel
theorem dX8_takeNumber_26 : decode cX8_takeNumber 26 = .ok (.iadd, 1) := by decide +kernel
theorem dX8_takeNumber_27 : decode cX8_takeNumber 27 = .ok (.if_icmp .ge 33, 3) := by decide +kernel
theorem dX8_takeNumber_30 : decode cX8_takeNumber 30 = .ok (.aload_n 0, 1) := by decide +kernel
theorem dX8_takeNumber_31 : decode cX8_takeNumber 31 = .ok (.iload_n 3, 1) := by decide +kernel
theorem dX8_takeNumber_32 : decode cX8_takeNumber 32 = .ok (.invokevirtual 31, 3) := by decide +kernel
theorem dX8_takeNumber_35 : decode cX8_takeNumber 35 = .ok (.ifCond .eq 25, 3) := by decide +kernel
theorem dX8_takeNumber_38 : decode cX8_takeNumber 38 = .ok (.iload 4, 2) := by decide +kernel
theorem dX8_takeNumber_40 : decode cX8_takeNumber 40 = .ok (.bipush 10, 2) := by decide +kernel
theorem dX8_takeNumber_42 : decode cX8_takeNumber 42 = .ok (.imul, 1) := by decide +kernel
theorem dX8_takeNumber_43 : decode cX8_takeNumber 43 = .ok (.aload_n 0, 1) := by decide +kernel
theorem dX8_takeNumber_44 : decode cX8_takeNumber 44 = .ok (.iload_n 3, 1) := by decide +kernel
theorem dX8_takeNumber_45 : decode cX8_takeNumber 45 = .ok (.invokevirtual 35, 3) := by decide +kernel
theorem dX8_takeNumber_48 : decode cX8_takeNumber 48 = .ok (.iadd, 1) := by decide +kernel
theorem dX8_takeNumber_49 : decode cX8_takeNumber 49 = .ok (.bipush 48, 2) := by decide +kernel
theorem dX8_takeNumber_51 : decode cX8_takeNumber 51 = .ok (.isub, 1) := by decide +kernel
theorem dX8_takeNumber_52 : decode cX8_takeNumber 52 = .ok (.istore 4, 2) := by decide +kernel
theorem dX8_takeNumber_54 : decode cX8_takeNumber 54 = .ok (.iinc 3 1, 3) := by decide +kernel
theorem dX8_takeNumber_57 : decode cX8_takeNumber 57 = .ok (.goto (-45), 3) := by decide +kernel
theorem dX8_takeNumber_60 : decode cX8_takeNumber 60 = .ok (.iload_n 3, 1) := by decide +kernel
theorem dX8_takeNumber_61 : decode cX8_takeNumber 61 = .ok (.aload_n 0, 1) := by decide +kernel
theorem dX8_takeNumber_62 : decode cX8_takeNumber 62 = .ok (.getfield 22, 3) := by decide +kernel
theorem dX8_takeNumber_65 : decode cX8_takeNumber 65 = .ok (.isub, 1) := by decide +kernel
theorem dX8_takeNumber_66 : decode cX8_takeNumber 66 = .ok (.istore 5, 2) := by decide +kernel
theorem dX8_takeNumber_68 : decode cX8_takeNumber 68 = .ok (.iload 5, 2) := by decide +kernel
theorem dX8_takeNumber_70 : decode cX8_takeNumber 70 = .ok (.iconst 1, 1) := by decide +kernel
theorem dX8_takeNumber_71 : decode cX8_takeNumber 71 = .ok (.if_icmp .lt 21, 3) := by decide +kernel
theorem dX8_takeNumber_74 : decode cX8_takeNumber 74 = .ok (.iload 5, 2) := by decide +kernel
theorem dX8_takeNumber_76 : decode cX8_takeNumber 76 = .ok (.iconst 2, 1) := by decide +kernel
theorem dX8_takeNumber_77 : decode cX8_takeNumber 77 = .ok (.if_icmp .gt 15, 3) := by decide +kernel
theorem dX8_takeNumber_80 : decode cX8_takeNumber 80 = .ok (.iload 4, 2) := by decide +kernel
theorem dX8_takeNumber_82 : decode cX8_takeNumber 82 = .ok (.iload_n 1, 1) := by decide +kernel
theorem dX8_takeNumber_83 : decode cX8_takeNumber 83 = .ok (.if_icmp .lt 9, 3) := by decide +kernel
theorem dX8_takeNumber_86 : decode cX8_takeNumber 86 = .ok (.iload 4, 2) := by decide +kernel
theorem dX8_takeNumber_88 : decode cX8_takeNumber 88 = .ok (.iload_n 2, 1) := by decide +kernel
theorem dX8_takeNumber_89 : decode cX8_takeNumber 89 = .ok (.if_icmp .le 5, 3) := by decide +kernel
theorem dX8_takeNumber_92 : decode cX8_takeNumber 92 = .ok (.iconst (-1), 1) := by decide +kernel
theorem dX8_takeNumber_93 : decode cX8_takeNumber 93 = .ok (.ireturn, 1) := by decide +kernel
theorem dX8_takeNumber_94 : decode cX8_takeNumber 94 = .ok (.aload_n 0, 1) := by decide +kernel
theorem dX8_takeNumber_95 : decode cX8_takeNumber 95 = .ok (.iload_n 3, 1) := by decide +kernel
theorem dX8_takeNumber_96 : decode cX8_takeNumber 96 = .ok (.putfield 22, 3) := by decide +kernel
theorem dX8_takeNumber_99 : decode cX8_takeNumber 99 = .ok (.iload 4, 2) := by decide +kernel
theorem dX8_takeNumber_101 : decode cX8_takeNumber 101 = .ok (.ireturn, 1) := by decide +kernel
set_option maxHeartbeats 4000000 in
set_option maxRecDepth 100000 in
theorem c_X8_takeNumber (l : Launch) (D : eD) (T : Nat → ClassId) (h_t h_t_bytes : Nat) (t_begun : Int32) (t_length : Int32) (t_position : Int32) (t_wrong : Int32) (t_bytes : Nat → Int32) (p1 : Int32) (p2 : Int32) (post : Int32 → Int32 → Int32 → Prop) (h : F_X8_takeNumber t_length t_bytes t_begun t_position p1 p2 post) : cI l D T yX8_takeNumber cX8_takeNumber 6 (some .int) 2 42 0 0 [.ref h_t, .int p1, .int p2] [(h_t, .inr (7, [.ref h_t_bytes, .int t_length, .int t_position, .int t_begun, .int t_wrong])), (h_t_bytes, aI T 400 t_bytes)] (fun r w1 => ∃ (t_begun1 : Int32) (t_position1 : Int32), w1 = [(h_t, .inr (7, [.ref h_t_bytes, .int t_length, .int t_position1, .int t_begun1, .int t_wrong])), (h_t_bytes, aI T 400 t_bytes)] ∧ post r t_begun1 t_position1) := by
  refine xI_of (ty := .int) (by decide +kernel) (Nat.le_of_ble_eq_true rfl) rfl ?_
  intro G X hret
  change G 0 0 0 [(0, .ref h_t), (1, .int p1), (2, .int p2)] [] [(h_t, .inr (7, [.ref h_t_bytes, .int t_length, .int t_position, .int t_begun, .int t_wrong])), (h_t_bytes, aI T 400 t_bytes)]
  unfold F_X8_takeNumber at h
  have k12 : ∀ (n12 : Nat) (x1 : Int32) (x2 : Int32) (x3 : Int32) (x4 : Int32) (t_begun : Int32) (t_position : Int32), F_X8_takeNumber_12 t_length t_bytes post n12 x1 x2 x3 x4 t_begun t_position → G 0 0 12 [(0, .ref h_t), (1, .int x1), (2, .int x2), (3, .int x3), (4, .int x4)] [] [(h_t, .inr (7, [.ref h_t_bytes, .int t_length, .int t_position, .int t_begun, .int t_wrong])), (h_t_bytes, aI T 400 t_bytes)] := by
    intro n12
    induction n12 with
    | zero => intro x1 x2 x3 x4 t_begun t_position h; exact h.elim
    | succ n12 ih12 =>
      intro x1 x2 x3 x4 t_begun t_position h
      rw [F_X8_takeNumber_12] at h
      have k60 : ∀ (x1 : Int32) (x2 : Int32) (x3 : Int32) (x4 : Int32) (t_begun : Int32) (t_position : Int32), F_X8_takeNumber_60 t_length t_bytes post x1 x2 x3 x4 t_begun t_position → G 0 0 60 [(0, .ref h_t), (1, .int x1), (2, .int x2), (3, .int x3), (4, .int x4)] [] [(h_t, .inr (7, [.ref h_t_bytes, .int t_length, .int t_position, .int t_begun, .int t_wrong])), (h_t_bytes, aI T 400 t_bytes)] := by
        intro x1 x2 x3 x4 t_begun t_position h
        unfold F_X8_takeNumber_60 at h
        have k92 : ∀ (t_begun : Int32) (t_position : Int32), F_X8_takeNumber_92 t_length t_bytes post t_begun t_position → G 0 0 92 [] [] [(h_t, .inr (7, [.ref h_t_bytes, .int t_length, .int t_position, .int t_begun, .int t_wrong])), (h_t_bytes, aI T 400 t_bytes)] := by
          intro t_begun t_position h
          unfold F_X8_takeNumber_92 at h
          refine x_iconst (v := -1) X dX8_takeNumber_92 (by decide) ?_
          exact hret _ _ _ _ dX8_takeNumber_93 rfl ⟨t_begun, t_position, rfl, h⟩
        refine x_iload_n X dX8_takeNumber_60 3 rfl ?_
        refine x_aload_n X dX8_takeNumber_61 0 rfl ?_
        refine x_get X inGX8 2 (by decide) rfl tw_46 dX8_takeNumber_62 rfl 0 rfl rfl ?_
        refine x_isub X dX8_takeNumber_65 ?_
        refine x_istore (lv' := [(5, .int (x3 - t_position)), (0, .ref h_t), (1, .int x1), (2, .int x2), (3, .int x3), (4, .int x4)]) X dX8_takeNumber_66 (by decide) rfl ?_
        refine x_iload X dX8_takeNumber_68 0 rfl ?_
        refine x_iconst (v := 1) X dX8_takeNumber_70 (by decide) ?_
        refine x_icmp_lt (tgt := 92) X dX8_takeNumber_71 (by decide) (fun hc => ?_) (fun hc => ?_)
        · have h := h.1 hc
          exact x_sub X [] rfl (k92 t_begun t_position h)
        · have h := h.2 hc
          refine x_iload X dX8_takeNumber_74 0 rfl ?_
          refine x_iconst (v := 2) X dX8_takeNumber_76 (by decide) ?_
          refine x_icmp_gt (tgt := 92) X dX8_takeNumber_77 (by decide) (fun hc => ?_) (fun hc => ?_)
          · have h := h.1 hc
            exact x_sub X [] rfl (k92 t_begun t_position h)
          · have h := h.2 hc
            refine x_iload X dX8_takeNumber_80 5 rfl ?_
            refine x_iload_n X dX8_takeNumber_82 2 rfl ?_
            refine x_icmp_lt (tgt := 92) X dX8_takeNumber_83 (by decide) (fun hc => ?_) (fun hc => ?_)
            · have h := h.1 hc
              exact x_sub X [] rfl (k92 t_begun t_position h)
            · have h := h.2 hc
              refine x_iload X dX8_takeNumber_86 5 rfl ?_
              refine x_iload_n X dX8_takeNumber_88 3 rfl ?_
              refine x_icmp_le (tgt := 94) X dX8_takeNumber_89 (by decide) (fun hc => ?_) (fun hc => ?_)
              · have h := h.1 hc
                refine x_aload_n X dX8_takeNumber_94 1 rfl ?_
                refine x_iload_n X dX8_takeNumber_95 4 rfl ?_
                refine x_put (ws' := [(h_t, .inr (7, [.ref h_t_bytes, .int t_length, .int x3, .int t_begun, .int t_wrong])), (h_t_bytes, aI T 400 t_bytes)]) X inGX8 tyX8_ok nmX8 2 (by decide) rfl tw_46 dX8_takeNumber_96 rfl rfl 0 rfl rfl rfl (Nat.le_of_ble_eq_true rfl) rfl ?_
                refine x_iload X dX8_takeNumber_99 5 rfl ?_
                exact hret _ _ _ _ dX8_takeNumber_101 rfl ⟨t_begun, x3, rfl, h⟩
              · have h := h.2 hc
                exact x_sub X [] rfl (k92 t_begun t_position h)
      refine x_iload_n X dX8_takeNumber_12 3 rfl ?_
      refine x_aload_n X dX8_takeNumber_13 0 rfl ?_
      refine x_get X inGX8 1 (by decide) rfl tw_44 dX8_takeNumber_14 rfl 0 rfl rfl ?_
      refine x_icmp_ge (tgt := 60) X dX8_takeNumber_17 (by decide) (fun hc => ?_) (fun hc => ?_)
      · have h := h.1 hc
        exact x_sub X [0, 1, 2, 3, 4] rfl (k60 x1 x2 x3 x4 t_begun t_position h)
      · have h := h.2 hc
        refine x_iload_n X dX8_takeNumber_20 3 rfl ?_
        refine x_aload_n X dX8_takeNumber_21 0 rfl ?_
        refine x_get X inGX8 2 (by decide) rfl tw_46 dX8_takeNumber_22 rfl 0 rfl rfl ?_
        refine x_iconst (v := 3) X dX8_takeNumber_25 (by decide) ?_
        refine x_iadd X dX8_takeNumber_26 ?_
        refine x_icmp_ge (tgt := 60) X dX8_takeNumber_27 (by decide) (fun hc => ?_) (fun hc => ?_)
        · have h := h.1 hc
          exact x_sub X [0, 1, 2, 3, 4] rfl (k60 x1 x2 x3 x4 t_begun t_position h)
        · have h := h.2 hc
          refine x_aload_n X dX8_takeNumber_30 0 rfl ?_
          refine x_iload_n X dX8_takeNumber_31 3 rfl ?_
          refine x_callVI (av := [.int x3]) (st := []) (wr := []) X (c_X8_isDigit l D T h_t h_t_bytes t_begun t_length t_position t_wrong t_bytes x3 _ h) yk_X8_isDigit tw_691 dX8_takeNumber_32 0 rfl rfl [0, 1] [] rfl rfl rfl rfl (by decide) rfl rfl (Nat.le_of_ble_eq_true rfl) (Nat.le_of_ble_eq_true rfl) (Nat.le_of_ble_eq_true rfl) (Nat.zero_le _) (Nat.zero_le _) (fun r32 w1 hw => ?_)
          obtain ⟨rfl, h⟩ := hw
          refine x_perm (ws2 := [(h_t, .inr (7, [.ref h_t_bytes, .int t_length, .int t_position, .int t_begun, .int t_wrong])), (h_t_bytes, aI T 400 t_bytes)]) X [0, 1] rfl rfl ?_
          refine x_if_eq (tgt := 60) X dX8_takeNumber_35 (by decide) (fun hc => ?_) (fun hc => ?_)
          · have h := h.1 hc
            exact x_sub X [0, 1, 2, 3, 4] rfl (k60 x1 x2 x3 x4 t_begun t_position h)
          · have h := h.2 hc
            refine x_iload X dX8_takeNumber_38 4 rfl ?_
            refine x_bipush (v := 10) X dX8_takeNumber_40 (by decide) ?_
            refine x_imul X dX8_takeNumber_42 ?_
            refine x_aload_n X dX8_takeNumber_43 0 rfl ?_
            refine x_iload_n X dX8_takeNumber_44 3 rfl ?_
            refine x_callVI (av := [.int x3]) (st := [.int (x4 * (10 : Int32))]) (wr := []) X (c_X8_at l D T h_t h_t_bytes t_begun t_length t_position t_wrong t_bytes x3 _ h) yk_X8_at tw_631 dX8_takeNumber_45 0 rfl rfl [0, 1] [] rfl rfl rfl rfl (by decide) rfl rfl (Nat.le_of_ble_eq_true rfl) (Nat.le_of_ble_eq_true rfl) (Nat.le_of_ble_eq_true rfl) (Nat.zero_le _) (Nat.zero_le _) (fun r45 w1 hw => ?_)
            obtain ⟨rfl, h⟩ := hw
            refine x_perm (ws2 := [(h_t, .inr (7, [.ref h_t_bytes, .int t_length, .int t_position, .int t_begun, .int t_wrong])), (h_t_bytes, aI T 400 t_bytes)]) X [0, 1] rfl rfl ?_
            refine x_iadd X dX8_takeNumber_48 ?_
            refine x_bipush (v := 48) X dX8_takeNumber_49 (by decide) ?_
            refine x_isub X dX8_takeNumber_51 ?_
            refine x_istore (lv' := [(4, .int (((x4 * (10 : Int32)) + r45) - (48 : Int32))), (0, .ref h_t), (1, .int x1), (2, .int x2), (3, .int x3)]) X dX8_takeNumber_52 (by decide) rfl ?_
            refine x_iinc (v := (x3 + 1)) (lv' := [(3, .int (x3 + 1)), (4, .int (((x4 * (10 : Int32)) + r45) - (48 : Int32))), (0, .ref h_t), (1, .int x1), (2, .int x2)]) X dX8_takeNumber_54 4 rfl rfl (by decide) rfl ?_
            refine x_goto (tgt := 12) X dX8_takeNumber_57 (by decide) ?_
            exact x_sub X [2, 3, 4, 0, 1] rfl (ih12 x1 x2 (x3 + 1) (((x4 * (10 : Int32)) + r45) - (48 : Int32)) t_begun t_position h)
  refine x_aload_n X dX8_takeNumber_0 0 rfl ?_
  refine x_callVV (av := []) (st := []) (wr := []) X (c_X8_skipBlanks l D T h_t h_t_bytes t_begun t_length t_position t_wrong t_bytes _ h) yk_X8_skipBlanks tw_627 dX8_takeNumber_1 0 rfl rfl [0, 1] [] rfl rfl rfl rfl (by decide) rfl rfl (Nat.le_of_ble_eq_true rfl) (Nat.le_of_ble_eq_true rfl) (Nat.le_of_ble_eq_true rfl) (Nat.zero_le _) (Nat.zero_le _) (fun w1 hw => ?_)
  obtain ⟨t_begun_1, t_position_1, rfl, h⟩ := hw
  refine x_perm (ws2 := [(h_t, .inr (7, [.ref h_t_bytes, .int t_length, .int t_position_1, .int t_begun_1, .int t_wrong])), (h_t_bytes, aI T 400 t_bytes)]) X [0, 1] rfl rfl ?_
  refine x_aload_n X dX8_takeNumber_4 0 rfl ?_
  refine x_get X inGX8 2 (by decide) rfl tw_46 dX8_takeNumber_5 rfl 0 rfl rfl ?_
  refine x_istore_n (lv' := [(3, .int t_position_1), (0, .ref h_t), (1, .int p1), (2, .int p2)]) X dX8_takeNumber_8 (by decide) rfl ?_
  refine x_iconst (v := 0) X dX8_takeNumber_9 (by decide) ?_
  refine x_istore (lv' := [(4, .int (0 : Int32)), (3, .int t_position_1), (0, .ref h_t), (1, .int p1), (2, .int p2)]) X dX8_takeNumber_10 (by decide) rfl ?_
  obtain ⟨n12, h⟩ := h
  exact x_sub X [2, 3, 4, 1, 0] rfl (k12 n12 p1 p2 t_position_1 (0 : Int32) t_begun_1 t_position_1 h)
