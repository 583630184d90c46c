/-! OrderlyNets$Levels: decode rows (printed), and each method kept by its F -/
theorem dX3_copyFrom_0 : decode cX3_copyFrom 0 = .ok (.aload_n 1, 1) := by decide +kernel
theorem dX3_copyFrom_1 : decode cX3_copyFrom 1 = .ok (.getfield 11, 3) := by decide +kernel
theorem dX3_copyFrom_4 : decode cX3_copyFrom 4 = .ok (.iconst 0, 1) := by decide +kernel
theorem dX3_copyFrom_5 : decode cX3_copyFrom 5 = .ok (.aload_n 0, 1) := by decide +kernel
theorem dX3_copyFrom_6 : decode cX3_copyFrom 6 = .ok (.getfield 11, 3) := by decide +kernel
theorem dX3_copyFrom_9 : decode cX3_copyFrom 9 = .ok (.iconst 0, 1) := by decide +kernel
theorem dX3_copyFrom_10 : decode cX3_copyFrom 10 = .ok (.sipush 662, 3) := by decide +kernel
theorem dX3_copyFrom_13 : decode cX3_copyFrom 13 = .ok (.invokestatic 18, 3) := by decide +kernel
theorem dX3_copyFrom_16 : decode cX3_copyFrom 16 = .ok (.aload_n 1, 1) := by decide +kernel
theorem dX3_copyFrom_17 : decode cX3_copyFrom 17 = .ok (.getfield 15, 3) := by decide +kernel
theorem dX3_copyFrom_20 : decode cX3_copyFrom 20 = .ok (.iconst 0, 1) := by decide +kernel
theorem dX3_copyFrom_21 : decode cX3_copyFrom 21 = .ok (.aload_n 0, 1) := by decide +kernel
theorem dX3_copyFrom_22 : decode cX3_copyFrom 22 = .ok (.getfield 15, 3) := by decide +kernel
theorem dX3_copyFrom_25 : decode cX3_copyFrom 25 = .ok (.iconst 0, 1) := by decide +kernel
theorem dX3_copyFrom_26 : decode cX3_copyFrom 26 = .ok (.bipush 8, 2) := by decide +kernel
theorem dX3_copyFrom_28 : decode cX3_copyFrom 28 = .ok (.invokestatic 18, 3) := by decide +kernel
theorem dX3_copyFrom_31 : decode cX3_copyFrom 31 = .ok (.aload_n 0, 1) := by decide +kernel
theorem dX3_copyFrom_32 : decode cX3_copyFrom 32 = .ok (.aload_n 1, 1) := by decide +kernel
theorem dX3_copyFrom_33 : decode cX3_copyFrom 33 = .ok (.getfield 24, 3) := by decide +kernel
theorem dX3_copyFrom_36 : decode cX3_copyFrom 36 = .ok (.putfield 24, 3) := by decide +kernel
theorem dX3_copyFrom_39 : decode cX3_copyFrom 39 = .ok (.return_, 1) := by decide +kernel
set_option maxHeartbeats 4000000 in
set_option maxRecDepth 100000 in
theorem c_X3_copyFrom (l : Launch) (D : eD) (T : Nat → ClassId) (h_p1 h_p1_codes h_p1_firsts h_t h_t_codes h_t_firsts : Nat) (p1_total : Int32) (p1_codes : Nat → Int32) (p1_firsts : Nat → Int32) (t_total : Int32) (t_codes : Nat → Int32) (t_firsts : Nat → Int32) (post : Int32 → (Nat → Int32) → (Nat → Int32) → Prop) (h : F_X3_copyFrom p1_total p1_codes p1_firsts t_total t_codes t_firsts post) : cV l D T yX3_copyFrom cX3_copyFrom 2 none 1 50 0 0 [.ref h_t, .ref h_p1] [(h_p1, .inr (2, [.ref h_p1_codes, .ref h_p1_firsts, .int p1_total])), (h_p1_codes, aI T 662 p1_codes), (h_p1_firsts, aI T 8 p1_firsts), (h_t, .inr (2, [.ref h_t_codes, .ref h_t_firsts, .int t_total])), (h_t_codes, aI T 662 t_codes), (h_t_firsts, aI T 8 t_firsts)] (fun w1 => ∃ (t_total1 : Int32) (t_codes1 : Nat → Int32) (t_firsts1 : Nat → Int32), w1 = [(h_p1, .inr (2, [.ref h_p1_codes, .ref h_p1_firsts, .int p1_total])), (h_p1_codes, aI T 662 p1_codes), (h_p1_firsts, aI T 8 p1_firsts), (h_t, .inr (2, [.ref h_t_codes, .ref h_t_firsts, .int t_total1])), (h_t_codes, aI T 662 t_codes1), (h_t_firsts, aI T 8 t_firsts1)] ∧ post t_total1 t_codes1 t_firsts1) := by
  refine xV_of (by decide +kernel) (Nat.le_of_ble_eq_true rfl) rfl ?_
  intro G X hret
  change G 0 0 0 [(0, .ref h_t), (1, .ref h_p1)] [] [(h_p1, .inr (2, [.ref h_p1_codes, .ref h_p1_firsts, .int p1_total])), (h_p1_codes, aI T 662 p1_codes), (h_p1_firsts, aI T 8 p1_firsts), (h_t, .inr (2, [.ref h_t_codes, .ref h_t_firsts, .int t_total])), (h_t_codes, aI T 662 t_codes), (h_t_firsts, aI T 8 t_firsts)]
  unfold F_X3_copyFrom at h
  refine x_aload_n X dX3_copyFrom_0 1 rfl ?_
  refine x_get X inGX3 0 (by decide) rfl tw_141 dX3_copyFrom_1 rfl 0 rfl rfl ?_
  refine x_iconst (v := 0) X dX3_copyFrom_4 (by decide) ?_
  refine x_aload_n X dX3_copyFrom_5 0 rfl ?_
  refine x_get X inGX3 0 (by decide) rfl tw_141 dX3_copyFrom_6 rfl 3 rfl rfl ?_
  refine x_iconst (v := 0) X dX3_copyFrom_9 (by decide) ?_
  refine x_sipush (v := 662) X dX3_copyFrom_10 (by decide) ?_
  obtain ⟨⟨g1, g2, g3, g4, g5⟩, h⟩ := h
  refine x_acopy (ws' := [(h_p1, .inr (2, [.ref h_p1_codes, .ref h_p1_firsts, .int p1_total])), (h_p1_codes, aI T 662 p1_codes), (h_p1_firsts, aI T 8 p1_firsts), (h_t, .inr (2, [.ref h_t_codes, .ref h_t_firsts, .int t_total])), (h_t_codes, aI T 662 (va_cpy p1_codes t_codes (0 : Int32).toNatClampNeg (0 : Int32).toNatClampNeg (662 : Int32).toNatClampNeg)), (h_t_firsts, aI T 8 t_firsts)]) X tw_576 tw_571 tw_570 tw_24 1 4 rfl rfl g1 g2 g3 g4 g5 (Nat.le_of_ble_eq_true rfl) (Nat.le_of_ble_eq_true rfl) (Nat.le_of_ble_eq_true rfl) dX3_copyFrom_13 rfl ?_
  refine x_aload_n X dX3_copyFrom_16 1 rfl ?_
  refine x_get X inGX3 1 (by decide) rfl tw_142 dX3_copyFrom_17 rfl 0 rfl rfl ?_
  refine x_iconst (v := 0) X dX3_copyFrom_20 (by decide) ?_
  refine x_aload_n X dX3_copyFrom_21 0 rfl ?_
  refine x_get X inGX3 1 (by decide) rfl tw_142 dX3_copyFrom_22 rfl 3 rfl rfl ?_
  refine x_iconst (v := 0) X dX3_copyFrom_25 (by decide) ?_
  refine x_bipush (v := 8) X dX3_copyFrom_26 (by decide) ?_
  obtain ⟨⟨g1, g2, g3, g4, g5⟩, h⟩ := h
  refine x_acopy (ws' := [(h_p1, .inr (2, [.ref h_p1_codes, .ref h_p1_firsts, .int p1_total])), (h_p1_codes, aI T 662 p1_codes), (h_p1_firsts, aI T 8 p1_firsts), (h_t, .inr (2, [.ref h_t_codes, .ref h_t_firsts, .int t_total])), (h_t_codes, aI T 662 (va_cpy p1_codes t_codes (0 : Int32).toNatClampNeg (0 : Int32).toNatClampNeg (662 : Int32).toNatClampNeg)), (h_t_firsts, aI T 8 (va_cpy p1_firsts t_firsts (0 : Int32).toNatClampNeg (0 : Int32).toNatClampNeg (8 : Int32).toNatClampNeg))]) X tw_576 tw_571 tw_570 tw_24 2 5 rfl rfl g1 g2 g3 g4 g5 (Nat.le_of_ble_eq_true rfl) (Nat.le_of_ble_eq_true rfl) (Nat.le_of_ble_eq_true rfl) dX3_copyFrom_28 rfl ?_
  refine x_aload_n X dX3_copyFrom_31 0 rfl ?_
  refine x_aload_n X dX3_copyFrom_32 1 rfl ?_
  refine x_get X inGX3 2 (by decide) rfl tw_143 dX3_copyFrom_33 rfl 0 rfl rfl ?_
  refine x_put (ws' := [(h_p1, .inr (2, [.ref h_p1_codes, .ref h_p1_firsts, .int p1_total])), (h_p1_codes, aI T 662 p1_codes), (h_p1_firsts, aI T 8 p1_firsts), (h_t, .inr (2, [.ref h_t_codes, .ref h_t_firsts, .int p1_total])), (h_t_codes, aI T 662 (va_cpy p1_codes t_codes (0 : Int32).toNatClampNeg (0 : Int32).toNatClampNeg (662 : Int32).toNatClampNeg)), (h_t_firsts, aI T 8 (va_cpy p1_firsts t_firsts (0 : Int32).toNatClampNeg (0 : Int32).toNatClampNeg (8 : Int32).toNatClampNeg))]) X inGX3 tyX3_ok nmX3 2 (by decide) rfl tw_143 dX3_copyFrom_36 rfl rfl 3 rfl rfl rfl (Nat.le_of_ble_eq_true rfl) rfl ?_
  exact hret _ _ _ dX3_copyFrom_39 ⟨p1_total, (va_cpy p1_codes t_codes (0 : Int32).toNatClampNeg (0 : Int32).toNatClampNeg (662 : Int32).toNatClampNeg), (va_cpy p1_firsts t_firsts (0 : Int32).toNatClampNeg (0 : Int32).toNatClampNeg (8 : Int32).toNatClampNeg), rfl, h⟩
theorem dX3_add_0 : decode cX3_add 0 = .ok (.aload_n 0, 1) := by decide +kernel
theorem dX3_add_1 : decode cX3_add 1 = .ok (.getfield 24, 3) := by decide +kernel
theorem dX3_add_4 : decode cX3_add 4 = .ok (.ifCond .lt 35, 3) := by decide +kernel
theorem dX3_add_7 : decode cX3_add 7 = .ok (.aload_n 0, 1) := by decide +kernel
theorem dX3_add_8 : decode cX3_add 8 = .ok (.getfield 24, 3) := by decide +kernel
theorem dX3_add_11 : decode cX3_add 11 = .ok (.aload_n 0, 1) := by decide +kernel
theorem dX3_add_12 : decode cX3_add 12 = .ok (.getfield 11, 3) := by decide +kernel
theorem dX3_add_15 : decode cX3_add 15 = .ok (.arraylength, 1) := by decide +kernel
theorem dX3_add_16 : decode cX3_add 16 = .ok (.if_icmp .ge 23, 3) := by decide +kernel
theorem dX3_add_19 : decode cX3_add 19 = .ok (.aload_n 0, 1) := by decide +kernel
theorem dX3_add_20 : decode cX3_add 20 = .ok (.getfield 11, 3) := by decide +kernel
theorem dX3_add_23 : decode cX3_add 23 = .ok (.aload_n 0, 1) := by decide +kernel
theorem dX3_add_24 : decode cX3_add 24 = .ok (.getfield 24, 3) := by decide +kernel
theorem dX3_add_27 : decode cX3_add 27 = .ok (.iload_n 1, 1) := by decide +kernel
theorem dX3_add_28 : decode cX3_add 28 = .ok (.iastore, 1) := by decide +kernel
theorem dX3_add_29 : decode cX3_add 29 = .ok (.aload_n 0, 1) := by decide +kernel
theorem dX3_add_30 : decode cX3_add 30 = .ok (.dup, 1) := by decide +kernel
theorem dX3_add_31 : decode cX3_add 31 = .ok (.getfield 24, 3) := by decide +kernel
theorem dX3_add_34 : decode cX3_add 34 = .ok (.iconst 1, 1) := by decide +kernel
theorem dX3_add_35 : decode cX3_add 35 = .ok (.iadd, 1) := by decide +kernel
theorem dX3_add_36 : decode cX3_add 36 = .ok (.putfield 24, 3) := by decide +kernel
theorem dX3_add_39 : decode cX3_add 39 = .ok (.return_, 1) := by decide +kernel
set_option maxHeartbeats 4000000 in
set_option maxRecDepth 100000 in
theorem c_X3_add (l : Launch) (D : eD) (T : Nat → ClassId) (h_t h_t_codes h_t_firsts : Nat) (t_total : Int32) (t_codes : Nat → Int32) (p1 : Int32) (post : Int32 → (Nat → Int32) → Prop) (h : F_X3_add t_total t_codes p1 post) : cV l D T yX3_add cX3_add 2 none 0 0 0 0 [.ref h_t, .int p1] [(h_t, .inr (2, [.ref h_t_codes, .ref h_t_firsts, .int t_total])), (h_t_codes, aI T 662 t_codes)] (fun w1 => ∃ (t_total1 : Int32) (t_codes1 : Nat → Int32), w1 = [(h_t, .inr (2, [.ref h_t_codes, .ref h_t_firsts, .int t_total1])), (h_t_codes, aI T 662 t_codes1)] ∧ post t_total1 t_codes1) := by
  refine xV_of (by decide +kernel) (Nat.le_of_ble_eq_true rfl) rfl ?_
  intro G X hret
  change G 0 0 0 [(0, .ref h_t), (1, .int p1)] [] [(h_t, .inr (2, [.ref h_t_codes, .ref h_t_firsts, .int t_total])), (h_t_codes, aI T 662 t_codes)]
  unfold F_X3_add at h
  have k39 : ∀ (t_total : Int32) (t_codes : Nat → Int32), F_X3_add_39 post t_total t_codes → G 0 0 39 [] [] [(h_t, .inr (2, [.ref h_t_codes, .ref h_t_firsts, .int t_total])), (h_t_codes, aI T 662 t_codes)] := by
    intro t_total t_codes h
    unfold F_X3_add_39 at h
    exact hret _ _ _ dX3_add_39 ⟨t_total, t_codes, rfl, h⟩
  refine x_aload_n X dX3_add_0 0 rfl ?_
  refine x_get X inGX3 2 (by decide) rfl tw_143 dX3_add_1 rfl 0 rfl rfl ?_
  refine x_if_lt (tgt := 39) X dX3_add_4 (by decide) (fun hc => ?_) (fun hc => ?_)
  · have h := h.1 hc
    exact x_sub X [] rfl (k39 t_total t_codes h)
  · have h := h.2 hc
    refine x_aload_n X dX3_add_7 0 rfl ?_
    refine x_get X inGX3 2 (by decide) rfl tw_143 dX3_add_8 rfl 0 rfl rfl ?_
    refine x_aload_n X dX3_add_11 0 rfl ?_
    refine x_get X inGX3 0 (by decide) rfl tw_141 dX3_add_12 rfl 0 rfl rfl ?_
    refine x_alen (v := (662 : Int32)) X dX3_add_15 1 1 rfl rfl rfl ?_
    refine x_icmp_ge (tgt := 39) X dX3_add_16 (by decide) (fun hc => ?_) (fun hc => ?_)
    · have h := h.1 hc
      exact x_sub X [] rfl (k39 t_total t_codes h)
    · have h := h.2 hc
      refine x_aload_n X dX3_add_19 0 rfl ?_
      refine x_get X inGX3 0 (by decide) rfl tw_141 dX3_add_20 rfl 0 rfl rfl ?_
      refine x_aload_n X dX3_add_23 0 rfl ?_
      refine x_get X inGX3 2 (by decide) rfl tw_143 dX3_add_24 rfl 0 rfl rfl ?_
      refine x_iload_n X dX3_add_27 1 rfl ?_
      obtain ⟨hi, h⟩ := h
      refine x_iast (ws' := [(h_t, .inr (2, [.ref h_t_codes, .ref h_t_firsts, .int t_total])), (h_t_codes, aI T 662 (upd t_codes t_total.toNatClampNeg p1))]) X dX3_add_28 1 rfl hi rfl ?_
      refine x_aload_n X dX3_add_29 0 rfl ?_
      refine x_dup X dX3_add_30 rfl ?_
      refine x_get X inGX3 2 (by decide) rfl tw_143 dX3_add_31 rfl 0 rfl rfl ?_
      refine x_iconst (v := 1) X dX3_add_34 (by decide) ?_
      refine x_iadd X dX3_add_35 ?_
      refine x_put (ws' := [(h_t, .inr (2, [.ref h_t_codes, .ref h_t_firsts, .int (t_total + (1 : Int32))])), (h_t_codes, aI T 662 (upd t_codes t_total.toNatClampNeg p1))]) X inGX3 tyX3_ok nmX3 2 (by decide) rfl tw_143 dX3_add_36 rfl rfl 0 rfl rfl rfl (Nat.le_of_ble_eq_true rfl) rfl ?_
      exact x_sub X [] rfl (k39 (t_total + (1 : Int32)) (upd t_codes t_total.toNatClampNeg p1) h)
theorem dX3_firstOf_0 : decode cX3_firstOf 0 = .ok (.iload_n 1, 1) := by decide +kernel
theorem dX3_firstOf_1 : decode cX3_firstOf 1 = .ok (.ifCond .lt 21, 3) := by decide +kernel
theorem dX3_firstOf_4 : decode cX3_firstOf 4 = .ok (.iload_n 1, 1) := by decide +kernel
theorem dX3_firstOf_5 : decode cX3_firstOf 5 = .ok (.aload_n 0, 1) := by decide +kernel
theorem dX3_firstOf_6 : decode cX3_firstOf 6 = .ok (.getfield 15, 3) := by decide +kernel
theorem dX3_firstOf_9 : decode cX3_firstOf 9 = .ok (.arraylength, 1) := by decide +kernel
theorem dX3_firstOf_10 : decode cX3_firstOf 10 = .ok (.if_icmp .ge 12, 3) := by decide +kernel
theorem dX3_firstOf_13 : decode cX3_firstOf 13 = .ok (.aload_n 0, 1) := by decide +kernel
theorem dX3_firstOf_14 : decode cX3_firstOf 14 = .ok (.getfield 15, 3) := by decide +kernel
theorem dX3_firstOf_17 : decode cX3_firstOf 17 = .ok (.iload_n 1, 1) := by decide +kernel
theorem dX3_firstOf_18 : decode cX3_firstOf 18 = .ok (.iaload, 1) := by decide +kernel
theorem dX3_firstOf_19 : decode cX3_firstOf 19 = .ok (.goto 7, 3) := by decide +kernel
theorem dX3_firstOf_22 : decode cX3_firstOf 22 = .ok (.aload_n 0, 1) := by decide +kernel
theorem dX3_firstOf_23 : decode cX3_firstOf 23 = .ok (.getfield 24, 3) := by decide +kernel
theorem dX3_firstOf_26 : decode cX3_firstOf 26 = .ok (.ireturn, 1) := by decide +kernel
set_option maxHeartbeats 4000000 in
set_option maxRecDepth 100000 in
theorem c_X3_firstOf (l : Launch) (D : eD) (T : Nat → ClassId) (h_t h_t_codes h_t_firsts : Nat) (t_total : Int32) (t_firsts : Nat → Int32) (p1 : Int32) (post : Int32 → Prop) (h : F_X3_firstOf t_total t_firsts p1 post) : cI l D T yX3_firstOf cX3_firstOf 2 (some .int) 0 0 0 0 [.ref h_t, .int p1] [(h_t, .inr (2, [.ref h_t_codes, .ref h_t_firsts, .int t_total])), (h_t_firsts, aI T 8 t_firsts)] (fun r w1 => w1 = [(h_t, .inr (2, [.ref h_t_codes, .ref h_t_firsts, .int t_total])), (h_t_firsts, aI T 8 t_firsts)] ∧ post r ) := by
  refine xI_of (ty := .int) (by decide +kernel) (Nat.le_of_ble_eq_true rfl) rfl ?_
  intro G X hret
  change G 0 0 0 [(0, .ref h_t), (1, .int p1)] [] [(h_t, .inr (2, [.ref h_t_codes, .ref h_t_firsts, .int t_total])), (h_t_firsts, aI T 8 t_firsts)]
  unfold F_X3_firstOf at h
  have k26 : ∀ (s0 : Int32), F_X3_firstOf_26 t_total t_firsts post s0 → G 0 0 26 [] [.int s0] [(h_t, .inr (2, [.ref h_t_codes, .ref h_t_firsts, .int t_total])), (h_t_firsts, aI T 8 t_firsts)] := by
    intro s0 h
    unfold F_X3_firstOf_26 at h
    exact hret _ _ _ _ dX3_firstOf_26 rfl ⟨rfl, h⟩
  have k22 : F_X3_firstOf_22 t_total t_firsts post (fun s0 => F_X3_firstOf_26 t_total t_firsts post s0) → G 0 0 22 [(0, .ref h_t)] [] [(h_t, .inr (2, [.ref h_t_codes, .ref h_t_firsts, .int t_total])), (h_t_firsts, aI T 8 t_firsts)] := by
    intro  h
    unfold F_X3_firstOf_22 at h
    refine x_aload_n X dX3_firstOf_22 0 rfl ?_
    refine x_get X inGX3 2 (by decide) rfl tw_143 dX3_firstOf_23 rfl 0 rfl rfl ?_
    exact x_sub X [] rfl (k26 t_total h)
  refine x_iload_n X dX3_firstOf_0 1 rfl ?_
  refine x_if_lt (tgt := 22) X dX3_firstOf_1 (by decide) (fun hc => ?_) (fun hc => ?_)
  · have h := h.1 hc
    exact x_sub X [0] rfl (k22 h)
  · have h := h.2 hc
    refine x_iload_n X dX3_firstOf_4 1 rfl ?_
    refine x_aload_n X dX3_firstOf_5 0 rfl ?_
    refine x_get X inGX3 1 (by decide) rfl tw_142 dX3_firstOf_6 rfl 0 rfl rfl ?_
    refine x_alen (v := (8 : Int32)) X dX3_firstOf_9 1 1 rfl rfl rfl ?_
    refine x_icmp_ge (tgt := 22) X dX3_firstOf_10 (by decide) (fun hc => ?_) (fun hc => ?_)
    · have h := h.1 hc
      exact x_sub X [0] rfl (k22 h)
    · have h := h.2 hc
      refine x_aload_n X dX3_firstOf_13 0 rfl ?_
      refine x_get X inGX3 1 (by decide) rfl tw_142 dX3_firstOf_14 rfl 0 rfl rfl ?_
      refine x_iload_n X dX3_firstOf_17 1 rfl ?_
      obtain ⟨hi, h⟩ := h
      refine x_iald X dX3_firstOf_18 1 rfl hi ?_
      refine x_goto (tgt := 26) X dX3_firstOf_19 (by decide) ?_
      exact x_sub X [] rfl (k26 (t_firsts p1.toNatClampNeg) h)
theorem dX3_amount_0 : decode cX3_amount 0 = .ok (.aload_n 0, 1) := by decide +kernel
theorem dX3_amount_1 : decode cX3_amount 1 = .ok (.iload_n 1, 1) := by decide +kernel
theorem dX3_amount_2 : decode cX3_amount 2 = .ok (.iconst 1, 1) := by decide +kernel
theorem dX3_amount_3 : decode cX3_amount 3 = .ok (.iadd, 1) := by decide +kernel
theorem dX3_amount_4 : decode cX3_amount 4 = .ok (.invokevirtual 66, 3) := by decide +kernel
theorem dX3_amount_7 : decode cX3_amount 7 = .ok (.aload_n 0, 1) := by decide +kernel
theorem dX3_amount_8 : decode cX3_amount 8 = .ok (.iload_n 1, 1) := by decide +kernel
theorem dX3_amount_9 : decode cX3_amount 9 = .ok (.invokevirtual 66, 3) := by decide +kernel
theorem dX3_amount_12 : decode cX3_amount 12 = .ok (.isub, 1) := by decide +kernel
theorem dX3_amount_13 : decode cX3_amount 13 = .ok (.ireturn, 1) := by decide +kernel
set_option maxHeartbeats 4000000 in
set_option maxRecDepth 100000 in
theorem c_X3_amount (l : Launch) (D : eD) (T : Nat → ClassId) (h_t h_t_codes h_t_firsts : Nat) (t_total : Int32) (t_firsts : Nat → Int32) (p1 : Int32) (post : Int32 → Prop) (h : F_X3_amount t_total t_firsts p1 post) : cI l D T yX3_amount cX3_amount 2 (some .int) 1 21 0 0 [.ref h_t, .int p1] [(h_t, .inr (2, [.ref h_t_codes, .ref h_t_firsts, .int t_total])), (h_t_firsts, aI T 8 t_firsts)] (fun r w1 => w1 = [(h_t, .inr (2, [.ref h_t_codes, .ref h_t_firsts, .int t_total])), (h_t_firsts, aI T 8 t_firsts)] ∧ post r ) := by
  refine xI_of (ty := .int) (by decide +kernel) (Nat.le_of_ble_eq_true rfl) rfl ?_
  intro G X hret
  change G 0 0 0 [(0, .ref h_t), (1, .int p1)] [] [(h_t, .inr (2, [.ref h_t_codes, .ref h_t_firsts, .int t_total])), (h_t_firsts, aI T 8 t_firsts)]
  unfold F_X3_amount at h
  refine x_aload_n X dX3_amount_0 0 rfl ?_
  refine x_iload_n X dX3_amount_1 1 rfl ?_
  refine x_iconst (v := 1) X dX3_amount_2 (by decide) ?_
  refine x_iadd X dX3_amount_3 ?_
  refine x_callVI (av := [.int (p1 + (1 : Int32))]) (st := []) (wr := []) X (c_X3_firstOf l D T h_t h_t_codes h_t_firsts t_total t_firsts (p1 + (1 : Int32)) _ h) yk_X3_firstOf tw_332 dX3_amount_4 0 rfl rfl [0, 1] [] rfl rfl rfl rfl (by decide) rfl rfl (Nat.le_of_ble_eq_true rfl) (Nat.le_of_ble_eq_true rfl) (Nat.le_of_ble_eq_true rfl) (Nat.zero_le _) (Nat.zero_le _) (fun r4 w1 hw => ?_)
  obtain ⟨rfl, h⟩ := hw
  refine x_perm (ws2 := [(h_t, .inr (2, [.ref h_t_codes, .ref h_t_firsts, .int t_total])), (h_t_firsts, aI T 8 t_firsts)]) X [0, 1] rfl rfl ?_
  refine x_aload_n X dX3_amount_7 0 rfl ?_
  refine x_iload_n X dX3_amount_8 1 rfl ?_
  refine x_callVI (av := [.int p1]) (st := [.int r4]) (wr := []) X (c_X3_firstOf l D T h_t h_t_codes h_t_firsts t_total t_firsts p1 _ h) yk_X3_firstOf tw_332 dX3_amount_9 0 rfl rfl [0, 1] [] rfl rfl rfl rfl (by decide) rfl rfl (Nat.le_of_ble_eq_true rfl) (Nat.le_of_ble_eq_true rfl) (Nat.le_of_ble_eq_true rfl) (Nat.zero_le _) (Nat.zero_le _) (fun r9 w1 hw => ?_)
  obtain ⟨rfl, h⟩ := hw
  refine x_perm (ws2 := [(h_t, .inr (2, [.ref h_t_codes, .ref h_t_firsts, .int t_total])), (h_t_firsts, aI T 8 t_firsts)]) X [0, 1] rfl rfl ?_
  refine x_isub X dX3_amount_12 ?_
  exact hret _ _ _ _ dX3_amount_13 rfl ⟨rfl, h⟩
theorem dX3_codeOf_0 : decode cX3_codeOf 0 = .ok (.aload_n 0, 1) := by decide +kernel
theorem dX3_codeOf_1 : decode cX3_codeOf 1 = .ok (.iload_n 1, 1) := by decide +kernel
theorem dX3_codeOf_2 : decode cX3_codeOf 2 = .ok (.invokevirtual 66, 3) := by decide +kernel
theorem dX3_codeOf_5 : decode cX3_codeOf 5 = .ok (.iload_n 2, 1) := by decide +kernel
theorem dX3_codeOf_6 : decode cX3_codeOf 6 = .ok (.iadd, 1) := by decide +kernel
theorem dX3_codeOf_7 : decode cX3_codeOf 7 = .ok (.istore_n 3, 1) := by decide +kernel
theorem dX3_codeOf_8 : decode cX3_codeOf 8 = .ok (.iload_n 3, 1) := by decide +kernel
theorem dX3_codeOf_9 : decode cX3_codeOf 9 = .ok (.ifCond .lt 21, 3) := by decide +kernel
theorem dX3_codeOf_12 : decode cX3_codeOf 12 = .ok (.iload_n 3, 1) := by decide +kernel
theorem dX3_codeOf_13 : decode cX3_codeOf 13 = .ok (.aload_n 0, 1) := by decide +kernel
theorem dX3_codeOf_14 : decode cX3_codeOf 14 = .ok (.getfield 11, 3) := by decide +kernel
theorem dX3_codeOf_17 : decode cX3_codeOf 17 = .ok (.arraylength, 1) := by decide +kernel
theorem dX3_codeOf_18 : decode cX3_codeOf 18 = .ok (.if_icmp .ge 12, 3) := by decide +kernel
theorem dX3_codeOf_21 : decode cX3_codeOf 21 = .ok (.aload_n 0, 1) := by decide +kernel
theorem dX3_codeOf_22 : decode cX3_codeOf 22 = .ok (.getfield 11, 3) := by decide +kernel
theorem dX3_codeOf_25 : decode cX3_codeOf 25 = .ok (.iload_n 3, 1) := by decide +kernel
theorem dX3_codeOf_26 : decode cX3_codeOf 26 = .ok (.iaload, 1) := by decide +kernel
theorem dX3_codeOf_27 : decode cX3_codeOf 27 = .ok (.goto 4, 3) := by decide +kernel
theorem dX3_codeOf_30 : decode cX3_codeOf 30 = .ok (.iconst (-1), 1) := by decide +kernel
theorem dX3_codeOf_31 : decode cX3_codeOf 31 = .ok (.ireturn, 1) := by decide +kernel
set_option maxHeartbeats 4000000 in
set_option maxRecDepth 100000 in
theorem c_X3_codeOf (l : Launch) (D : eD) (T : Nat → ClassId) (h_t h_t_codes h_t_firsts : Nat) (t_total : Int32) (t_codes : Nat → Int32) (t_firsts : Nat → Int32) (p1 : Int32) (p2 : Int32) (post : Int32 → Prop) (h : F_X3_codeOf t_total t_codes t_firsts p1 p2 post) : cI l D T yX3_codeOf cX3_codeOf 4 (some .int) 1 21 0 0 [.ref h_t, .int p1, .int p2] [(h_t, .inr (2, [.ref h_t_codes, .ref h_t_firsts, .int t_total])), (h_t_codes, aI T 662 t_codes), (h_t_firsts, aI T 8 t_firsts)] (fun r w1 => w1 = [(h_t, .inr (2, [.ref h_t_codes, .ref h_t_firsts, .int t_total])), (h_t_codes, aI T 662 t_codes), (h_t_firsts, aI T 8 t_firsts)] ∧ post r ) := by
  refine xI_of (ty := .int) (by decide +kernel) (Nat.le_of_ble_eq_true rfl) rfl ?_
  intro G X hret
  change G 0 0 0 [(0, .ref h_t), (1, .int p1), (2, .int p2)] [] [(h_t, .inr (2, [.ref h_t_codes, .ref h_t_firsts, .int t_total])), (h_t_codes, aI T 662 t_codes), (h_t_firsts, aI T 8 t_firsts)]
  unfold F_X3_codeOf at h
  have k31 : ∀ (s0 : Int32), F_X3_codeOf_31 t_total t_codes t_firsts post s0 → G 0 0 31 [] [.int s0] [(h_t, .inr (2, [.ref h_t_codes, .ref h_t_firsts, .int t_total])), (h_t_codes, aI T 662 t_codes), (h_t_firsts, aI T 8 t_firsts)] := by
    intro s0 h
    unfold F_X3_codeOf_31 at h
    exact hret _ _ _ _ dX3_codeOf_31 rfl ⟨rfl, h⟩
  have k30 : F_X3_codeOf_30 t_total t_codes t_firsts post (fun s0 => F_X3_codeOf_31 t_total t_codes t_firsts post s0) → G 0 0 30 [] [] [(h_t, .inr (2, [.ref h_t_codes, .ref h_t_firsts, .int t_total])), (h_t_codes, aI T 662 t_codes), (h_t_firsts, aI T 8 t_firsts)] := by
    intro  h
    unfold F_X3_codeOf_30 at h
    refine x_iconst (v := -1) X dX3_codeOf_30 (by decide) ?_
    exact x_sub X [] rfl (k31 (-1 : Int32) h)
  refine x_aload_n X dX3_codeOf_0 0 rfl ?_
  refine x_iload_n X dX3_codeOf_1 1 rfl ?_
  refine x_callVI (av := [.int p1]) (st := []) (wr := [(h_t_codes, aI T 662 t_codes)]) X (c_X3_firstOf l D T h_t h_t_codes h_t_firsts t_total t_firsts p1 _ h) yk_X3_firstOf tw_332 dX3_codeOf_2 0 rfl rfl [0, 2] [1] rfl rfl rfl rfl (by decide) rfl rfl (Nat.le_of_ble_eq_true rfl) (Nat.le_of_ble_eq_true rfl) (Nat.le_of_ble_eq_true rfl) (Nat.zero_le _) (Nat.zero_le _) (fun r2 w1 hw => ?_)
  obtain ⟨rfl, h⟩ := hw
  refine x_perm (ws2 := [(h_t, .inr (2, [.ref h_t_codes, .ref h_t_firsts, .int t_total])), (h_t_codes, aI T 662 t_codes), (h_t_firsts, aI T 8 t_firsts)]) X [1, 0, 2] rfl rfl ?_
  refine x_iload_n X dX3_codeOf_5 2 rfl ?_
  refine x_iadd X dX3_codeOf_6 ?_
  refine x_istore_n (lv' := [(3, .int (r2 + p2)), (0, .ref h_t), (1, .int p1), (2, .int p2)]) X dX3_codeOf_7 (by decide) rfl ?_
  refine x_iload_n X dX3_codeOf_8 0 rfl ?_
  refine x_if_lt (tgt := 30) X dX3_codeOf_9 (by decide) (fun hc => ?_) (fun hc => ?_)
  · have h := h.1 hc
    exact x_sub X [] rfl (k30 h)
  · have h := h.2 hc
    refine x_iload_n X dX3_codeOf_12 0 rfl ?_
    refine x_aload_n X dX3_codeOf_13 1 rfl ?_
    refine x_get X inGX3 0 (by decide) rfl tw_141 dX3_codeOf_14 rfl 0 rfl rfl ?_
    refine x_alen (v := (662 : Int32)) X dX3_codeOf_17 1 1 rfl rfl rfl ?_
    refine x_icmp_ge (tgt := 30) X dX3_codeOf_18 (by decide) (fun hc => ?_) (fun hc => ?_)
    · have h := h.1 hc
      exact x_sub X [] rfl (k30 h)
    · have h := h.2 hc
      refine x_aload_n X dX3_codeOf_21 1 rfl ?_
      refine x_get X inGX3 0 (by decide) rfl tw_141 dX3_codeOf_22 rfl 0 rfl rfl ?_
      refine x_iload_n X dX3_codeOf_25 0 rfl ?_
      obtain ⟨hi, h⟩ := h
      refine x_iald X dX3_codeOf_26 1 rfl hi ?_
      refine x_goto (tgt := 31) X dX3_codeOf_27 (by decide) ?_
      exact x_sub X [] rfl (k31 (t_codes (r2 + p2).toNatClampNeg) h)
theorem dX3_setFirst_0 : decode cX3_setFirst 0 = .ok (.iload_n 1, 1) := by decide +kernel
theorem dX3_setFirst_1 : decode cX3_setFirst 1 = .ok (.ifCond .lt 22, 3) := by decide +kernel
theorem dX3_setFirst_4 : decode cX3_setFirst 4 = .ok (.iload_n 1, 1) := by decide +kernel
theorem dX3_setFirst_5 : decode cX3_setFirst 5 = .ok (.aload_n 0, 1) := by decide +kernel
theorem dX3_setFirst_6 : decode cX3_setFirst 6 = .ok (.getfield 15, 3) := by decide +kernel
theorem dX3_setFirst_9 : decode cX3_setFirst 9 = .ok (.arraylength, 1) := by decide +kernel
theorem dX3_setFirst_10 : decode cX3_setFirst 10 = .ok (.if_icmp .ge 13, 3) := by decide +kernel
theorem dX3_setFirst_13 : decode cX3_setFirst 13 = .ok (.aload_n 0, 1) := by decide +kernel
theorem dX3_setFirst_14 : decode cX3_setFirst 14 = .ok (.getfield 15, 3) := by decide +kernel
theorem dX3_setFirst_17 : decode cX3_setFirst 17 = .ok (.iload_n 1, 1) := by decide +kernel
theorem dX3_setFirst_18 : decode cX3_setFirst 18 = .ok (.aload_n 0, 1) := by decide +kernel
theorem dX3_setFirst_19 : decode cX3_setFirst 19 = .ok (.getfield 24, 3) := by decide +kernel
theorem dX3_setFirst_22 : decode cX3_setFirst 22 = .ok (.iastore, 1) := by decide +kernel
theorem dX3_setFirst_23 : decode cX3_setFirst 23 = .ok (.return_, 1) := by decide +kernel
set_option maxHeartbeats 4000000 in
set_option maxRecDepth 100000 in
theorem c_X3_setFirst (l : Launch) (D : eD) (T : Nat → ClassId) (h_t h_t_codes h_t_firsts : Nat) (t_total : Int32) (t_firsts : Nat → Int32) (p1 : Int32) (post : (Nat → Int32) → Prop) (h : F_X3_setFirst t_total t_firsts p1 post) : cV l D T yX3_setFirst cX3_setFirst 2 none 0 0 0 0 [.ref h_t, .int p1] [(h_t, .inr (2, [.ref h_t_codes, .ref h_t_firsts, .int t_total])), (h_t_firsts, aI T 8 t_firsts)] (fun w1 => ∃ (t_firsts1 : Nat → Int32), w1 = [(h_t, .inr (2, [.ref h_t_codes, .ref h_t_firsts, .int t_total])), (h_t_firsts, aI T 8 t_firsts1)] ∧ post t_firsts1) := by
  refine xV_of (by decide +kernel) (Nat.le_of_ble_eq_true rfl) rfl ?_
  intro G X hret
  change G 0 0 0 [(0, .ref h_t), (1, .int p1)] [] [(h_t, .inr (2, [.ref h_t_codes, .ref h_t_firsts, .int t_total])), (h_t_firsts, aI T 8 t_firsts)]
  unfold F_X3_setFirst at h
  have k23 : ∀ (t_firsts : Nat → Int32), F_X3_setFirst_23 t_total post t_firsts → G 0 0 23 [] [] [(h_t, .inr (2, [.ref h_t_codes, .ref h_t_firsts, .int t_total])), (h_t_firsts, aI T 8 t_firsts)] := by
    intro t_firsts h
    unfold F_X3_setFirst_23 at h
    exact hret _ _ _ dX3_setFirst_23 ⟨t_firsts, rfl, h⟩
  refine x_iload_n X dX3_setFirst_0 1 rfl ?_
  refine x_if_lt (tgt := 23) X dX3_setFirst_1 (by decide) (fun hc => ?_) (fun hc => ?_)
  · have h := h.1 hc
    exact x_sub X [] rfl (k23 t_firsts h)
  · have h := h.2 hc
    refine x_iload_n X dX3_setFirst_4 1 rfl ?_
    refine x_aload_n X dX3_setFirst_5 0 rfl ?_
    refine x_get X inGX3 1 (by decide) rfl tw_142 dX3_setFirst_6 rfl 0 rfl rfl ?_
    refine x_alen (v := (8 : Int32)) X dX3_setFirst_9 1 1 rfl rfl rfl ?_
    refine x_icmp_ge (tgt := 23) X dX3_setFirst_10 (by decide) (fun hc => ?_) (fun hc => ?_)
    · have h := h.1 hc
      exact x_sub X [] rfl (k23 t_firsts h)
    · have h := h.2 hc
      refine x_aload_n X dX3_setFirst_13 0 rfl ?_
      refine x_get X inGX3 1 (by decide) rfl tw_142 dX3_setFirst_14 rfl 0 rfl rfl ?_
      refine x_iload_n X dX3_setFirst_17 1 rfl ?_
      refine x_aload_n X dX3_setFirst_18 0 rfl ?_
      refine x_get X inGX3 2 (by decide) rfl tw_143 dX3_setFirst_19 rfl 0 rfl rfl ?_
      obtain ⟨hi, h⟩ := h
      refine x_iast (ws' := [(h_t, .inr (2, [.ref h_t_codes, .ref h_t_firsts, .int t_total])), (h_t_firsts, aI T 8 (upd t_firsts p1.toNatClampNeg t_total))]) X dX3_setFirst_22 1 rfl hi rfl ?_
      exact x_sub X [] rfl (k23 (upd t_firsts p1.toNatClampNeg t_total) h)
theorem dX3_fill_0 : decode cX3_fill 0 = .ok (.aload_n 0, 1) := by decide +kernel
theorem dX3_fill_1 : decode cX3_fill 1 = .ok (.iconst 0, 1) := by decide +kernel
theorem dX3_fill_2 : decode cX3_fill 2 = .ok (.putfield 24, 3) := by decide +kernel
theorem dX3_fill_5 : decode cX3_fill 5 = .ok (.aload_n 0, 1) := by decide +kernel
theorem dX3_fill_6 : decode cX3_fill 6 = .ok (.iconst 0, 1) := by decide +kernel
theorem dX3_fill_7 : decode cX3_fill 7 = .ok (.invokevirtual 28, 3) := by decide +kernel
theorem dX3_fill_10 : decode cX3_fill 10 = .ok (.aload_n 1, 1) := by decide +kernel
theorem dX3_fill_11 : decode cX3_fill 11 = .ok (.getfield 32, 3) := by decide +kernel
theorem dX3_fill_14 : decode cX3_fill 14 = .ok (.ifCond .eq 8, 3) := by decide +kernel
theorem dX3_fill_17 : decode cX3_fill 17 = .ok (.aload_n 0, 1) := by decide +kernel
theorem dX3_fill_18 : decode cX3_fill 18 = .ok (.iconst 1, 1) := by decide +kernel
theorem dX3_fill_19 : decode cX3_fill 19 = .ok (.invokevirtual 28, 3) := by decide +kernel
theorem dX3_fill_22 : decode cX3_fill 22 = .ok (.aload_n 0, 1) := by decide +kernel
theorem dX3_fill_23 : decode cX3_fill 23 = .ok (.iconst 2, 1) := by decide +kernel
theorem dX3_fill_24 : decode cX3_fill 24 = .ok (.invokevirtual 38, 3) := by decide +kernel
theorem dX3_fill_27 : decode cX3_fill 27 = .ok (.aload_n 1, 1) := by decide +kernel
theorem dX3_fill_28 : decode cX3_fill 28 = .ok (.getfield 32, 3) := by decide +kernel
theorem dX3_fill_31 : decode cX3_fill 31 = .ok (.ifCond .eq 7, 3) := by decide +kernel
theorem dX3_fill_34 : decode cX3_fill 34 = .ok (.iconst 2, 1) := by decide +kernel
theorem dX3_fill_35 : decode cX3_fill 35 = .ok (.goto 4, 3) := by decide +kernel
theorem dX3_fill_38 : decode cX3_fill 38 = .ok (.iconst 1, 1) := by decide +kernel
theorem dX3_fill_39 : decode cX3_fill 39 = .ok (.istore 4, 2) := by decide +kernel
theorem dX3_fill_41 : decode cX3_fill 41 = .ok (.iconst 2, 1) := by decide +kernel
theorem dX3_fill_42 : decode cX3_fill 42 = .ok (.istore 5, 2) := by decide +kernel
theorem dX3_fill_44 : decode cX3_fill 44 = .ok (.iload 5, 2) := by decide +kernel
theorem dX3_fill_46 : decode cX3_fill 46 = .ok (.bipush 6, 2) := by decide +kernel
theorem dX3_fill_48 : decode cX3_fill 48 = .ok (.if_icmp .gt 128, 3) := by decide +kernel
theorem dX3_fill_51 : decode cX3_fill 51 = .ok (.iconst 0, 1) := by decide +kernel
theorem dX3_fill_52 : decode cX3_fill 52 = .ok (.istore 6, 2) := by decide +kernel
theorem dX3_fill_54 : decode cX3_fill 54 = .ok (.iload 6, 2) := by decide +kernel
theorem dX3_fill_56 : decode cX3_fill 56 = .ok (.aload_n 0, 1) := by decide +kernel
theorem dX3_fill_57 : decode cX3_fill 57 = .ok (.iload 5, 2) := by decide +kernel
theorem dX3_fill_59 : decode cX3_fill 59 = .ok (.iconst 1, 1) := by decide +kernel
theorem dX3_fill_60 : decode cX3_fill 60 = .ok (.isub, 1) := by decide +kernel
theorem dX3_fill_61 : decode cX3_fill 61 = .ok (.invokevirtual 41, 3) := by decide +kernel
theorem dX3_fill_64 : decode cX3_fill 64 = .ok (.if_icmp .ge 98, 3) := by decide +kernel
theorem dX3_fill_67 : decode cX3_fill 67 = .ok (.iload 5, 2) := by decide +kernel
theorem dX3_fill_69 : decode cX3_fill 69 = .ok (.aload_n 1, 1) := by decide +kernel
theorem dX3_fill_70 : decode cX3_fill 70 = .ok (.getfield 45, 3) := by decide +kernel
theorem dX3_fill_73 : decode cX3_fill 73 = .ok (.if_icmp .gt 89, 3) := by decide +kernel
theorem dX3_fill_76 : decode cX3_fill 76 = .ok (.iconst 0, 1) := by decide +kernel
theorem dX3_fill_77 : decode cX3_fill 77 = .ok (.istore 7, 2) := by decide +kernel
theorem dX3_fill_79 : decode cX3_fill 79 = .ok (.iload 7, 2) := by decide +kernel
theorem dX3_fill_81 : decode cX3_fill 81 = .ok (.iload 4, 2) := by decide +kernel
theorem dX3_fill_83 : decode cX3_fill 83 = .ok (.iload 5, 2) := by decide +kernel
theorem dX3_fill_85 : decode cX3_fill 85 = .ok (.iconst 1, 1) := by decide +kernel
theorem dX3_fill_86 : decode cX3_fill 86 = .ok (.isub, 1) := by decide +kernel
theorem dX3_fill_87 : decode cX3_fill 87 = .ok (.ishl, 1) := by decide +kernel
theorem dX3_fill_88 : decode cX3_fill 88 = .ok (.if_icmp .ge 68, 3) := by decide +kernel
theorem dX3_fill_91 : decode cX3_fill 91 = .ok (.aload_n 0, 1) := by decide +kernel
theorem dX3_fill_92 : decode cX3_fill 92 = .ok (.iload 5, 2) := by decide +kernel
theorem dX3_fill_94 : decode cX3_fill 94 = .ok (.iconst 1, 1) := by decide +kernel
theorem dX3_fill_95 : decode cX3_fill 95 = .ok (.isub, 1) := by decide +kernel
theorem dX3_fill_96 : decode cX3_fill 96 = .ok (.iload 6, 2) := by decide +kernel
theorem dX3_fill_98 : decode cX3_fill 98 = .ok (.invokevirtual 48, 3) := by decide +kernel
theorem dX3_fill_101 : decode cX3_fill 101 = .ok (.iload 5, 2) := by decide +kernel
theorem dX3_fill_103 : decode cX3_fill 103 = .ok (.ishl, 1) := by decide +kernel
theorem dX3_fill_104 : decode cX3_fill 104 = .ok (.iload 7, 2) := by decide +kernel
theorem dX3_fill_106 : decode cX3_fill 106 = .ok (.ior, 1) := by decide +kernel
theorem dX3_fill_107 : decode cX3_fill 107 = .ok (.istore 8, 2) := by decide +kernel
theorem dX3_fill_109 : decode cX3_fill 109 = .ok (.aload_n 3, 1) := by decide +kernel
theorem dX3_fill_110 : decode cX3_fill 110 = .ok (.iload 5, 2) := by decide +kernel
theorem dX3_fill_112 : decode cX3_fill 112 = .ok (.iload 8, 2) := by decide +kernel
theorem dX3_fill_114 : decode cX3_fill 114 = .ok (.invokevirtual 52, 3) := by decide +kernel
theorem dX3_fill_117 : decode cX3_fill 117 = .ok (.ifCond .eq 33, 3) := by decide +kernel
theorem dX3_fill_120 : decode cX3_fill 120 = .ok (.aload_n 1, 1) := by decide +kernel
theorem dX3_fill_121 : decode cX3_fill 121 = .ok (.iload 5, 2) := by decide +kernel
theorem dX3_fill_123 : decode cX3_fill 123 = .ok (.iload 8, 2) := by decide +kernel
theorem dX3_fill_125 : decode cX3_fill 125 = .ok (.aload_n 2, 1) := by decide +kernel
theorem dX3_fill_126 : decode cX3_fill 126 = .ok (.invokevirtual 58, 3) := by decide +kernel
theorem dX3_fill_129 : decode cX3_fill 129 = .ok (.ifCond .eq 21, 3) := by decide +kernel
theorem dX3_fill_132 : decode cX3_fill 132 = .ok (.aload_n 1, 1) := by decide +kernel
theorem dX3_fill_133 : decode cX3_fill 133 = .ok (.iload 5, 2) := by decide +kernel
theorem dX3_fill_135 : decode cX3_fill 135 = .ok (.iload 8, 2) := by decide +kernel
theorem dX3_fill_137 : decode cX3_fill 137 = .ok (.aload_n 3, 1) := by decide +kernel
theorem dX3_fill_138 : decode cX3_fill 138 = .ok (.invokevirtual 62, 3) := by decide +kernel
theorem dX3_fill_141 : decode cX3_fill 141 = .ok (.ifCond .eq 9, 3) := by decide +kernel
theorem dX3_fill_144 : decode cX3_fill 144 = .ok (.aload_n 0, 1) := by decide +kernel
theorem dX3_fill_145 : decode cX3_fill 145 = .ok (.iload 8, 2) := by decide +kernel
theorem dX3_fill_147 : decode cX3_fill 147 = .ok (.invokevirtual 28, 3) := by decide +kernel
theorem dX3_fill_150 : decode cX3_fill 150 = .ok (.iinc 7 1, 3) := by decide +kernel
theorem dX3_fill_153 : decode cX3_fill 153 = .ok (.goto (-74), 3) := by decide +kernel
theorem dX3_fill_156 : decode cX3_fill 156 = .ok (.iinc 6 1, 3) := by decide +kernel
theorem dX3_fill_159 : decode cX3_fill 159 = .ok (.goto (-105), 3) := by decide +kernel
theorem dX3_fill_162 : decode cX3_fill 162 = .ok (.aload_n 0, 1) := by decide +kernel
theorem dX3_fill_163 : decode cX3_fill 163 = .ok (.iload 5, 2) := by decide +kernel
theorem dX3_fill_165 : decode cX3_fill 165 = .ok (.iconst 1, 1) := by decide +kernel
theorem dX3_fill_166 : decode cX3_fill 166 = .ok (.iadd, 1) := by decide +kernel
theorem dX3_fill_167 : decode cX3_fill 167 = .ok (.invokevirtual 38, 3) := by decide +kernel
theorem dX3_fill_170 : decode cX3_fill 170 = .ok (.iinc 5 1, 3) := by decide +kernel
theorem dX3_fill_173 : decode cX3_fill 173 = .ok (.goto (-129), 3) := by decide +kernel
theorem dX3_fill_176 : decode cX3_fill 176 = .ok (.return_, 1) := by decide +kernel
set_option maxHeartbeats 4000000 in
set_option maxRecDepth 100000 in
theorem c_X3_fill (l : Launch) (D : eD) (T : Nat → ClassId) (h_p1 h_p1_patternNodes h_p1_patternCodes h_p2 h_p2_near h_p2_fans h_p3 h_p3_sketch h_p3_sketch_near h_p3_sketch_fans h_t h_t_codes h_t_firsts : Nat) (p1_bannedCircles : Int32) (p1_endLines : Int32) (p1_endsJoined : Int32) (p1_fewestEdges : Int32) (p1_hasDark : Int32) (p1_least : Int32) (p1_most : Int32) (p1_mostEdges : Int32) (p1_patterns : Int32) (p1_ruleLines : Int32) (p1_size : Int32) (p1_unlike : Int32) (p1_words : Int32) (p1_patternCodes : Nat → Int32) (p1_patternNodes : Nat → Int32) (p2_colours : Int64) (p2_darks : Int32) (p2_nodes : Int32) (p2_fans : Nat → Int64) (p2_near : Nat → Int32) (p3_allBits : Int32) (p3_firstOrder : Int64) (p3_isBeaten : Int32) (p3_isStudy : Int32) (p3_isTest : Int32) (p3_least : Int32) (p3_nodes : Int32) (p3_order : Int64) (p3_seen : Int64) (p3_stillEdges : Int32) (p3_symmetries : Int32) (p3_sketch_colours : Int64) (p3_sketch_darks : Int32) (p3_sketch_nodes : Int32) (p3_sketch_fans : Nat → Int64) (p3_sketch_near : Nat → Int32) (t_total : Int32) (t_codes : Nat → Int32) (t_firsts : Nat → Int32) (post : Int64 → Int32 → Int32 → (Nat → Int64) → (Nat → Int32) → Int32 → Int64 → Int32 → Int32 → Int32 → Int32 → Int32 → Int64 → Int64 → Int32 → Int32 → Int64 → Int32 → Int32 → (Nat → Int64) → (Nat → Int32) → Int32 → (Nat → Int32) → (Nat → Int32) → Prop) (h : F_X3_fill p1_bannedCircles p1_hasDark p1_most p1_patterns p1_size p1_unlike p1_patternCodes p1_patternNodes p2_colours p2_darks p2_nodes p2_fans p2_near p3_allBits p3_firstOrder p3_isBeaten p3_isStudy p3_isTest p3_least p3_nodes p3_order p3_seen p3_stillEdges p3_symmetries p3_sketch_colours p3_sketch_darks p3_sketch_nodes p3_sketch_fans p3_sketch_near t_total t_codes t_firsts post) : cV l D T yX3_fill cX3_fill 9 none 35 907 0 0 [.ref h_t, .ref h_p1, .ref h_p2, .ref h_p3] [(h_p1, .inr (5, [.int p1_size, .int p1_hasDark, .int p1_words, .int p1_ruleLines, .int p1_endLines, .int p1_most, .int p1_bannedCircles, .int p1_unlike, .int p1_patterns, .ref h_p1_patternNodes, .ref h_p1_patternCodes, .int p1_endsJoined, .int p1_fewestEdges, .int p1_mostEdges, .int p1_least])), (h_p1_patternCodes, aI T 2 p1_patternCodes), (h_p1_patternNodes, aI T 2 p1_patternNodes), (h_p2, .inr (6, [.ref h_p2_near, .ref h_p2_fans, .int p2_nodes, .int p2_darks, .long p2_colours])), (h_p2_fans, aJ T 6 p2_fans), (h_p2_near, aI T 6 p2_near), (h_p3, .inr (1, [.ref h_p3_sketch, .int p3_nodes, .int p3_allBits, .int p3_isTest, .int p3_isBeaten, .int p3_isStudy, .long p3_order, .int p3_least, .int p3_symmetries, .long p3_firstOrder, .long p3_seen, .int p3_stillEdges])), (h_p3_sketch, .inr (6, [.ref h_p3_sketch_near, .ref h_p3_sketch_fans, .int p3_sketch_nodes, .int p3_sketch_darks, .long p3_sketch_colours])), (h_p3_sketch_fans, aJ T 6 p3_sketch_fans), (h_p3_sketch_near, aI T 6 p3_sketch_near), (h_t, .inr (2, [.ref h_t_codes, .ref h_t_firsts, .int t_total])), (h_t_codes, aI T 662 t_codes), (h_t_firsts, aI T 8 t_firsts)] (fun w1 => ∃ (p2_colours1 : Int64) (p2_darks1 : Int32) (p2_nodes1 : Int32) (p2_fans1 : Nat → Int64) (p2_near1 : Nat → Int32) (p3_allBits1 : Int32) (p3_firstOrder1 : Int64) (p3_isBeaten1 : Int32) (p3_isStudy1 : Int32) (p3_isTest1 : Int32) (p3_least1 : Int32) (p3_nodes1 : Int32) (p3_order1 : Int64) (p3_seen1 : Int64) (p3_stillEdges1 : Int32) (p3_symmetries1 : Int32) (p3_sketch_colours1 : Int64) (p3_sketch_darks1 : Int32) (p3_sketch_nodes1 : Int32) (p3_sketch_fans1 : Nat → Int64) (p3_sketch_near1 : Nat → Int32) (t_total1 : Int32) (t_codes1 : Nat → Int32) (t_firsts1 : Nat → Int32), w1 = [(h_p1, .inr (5, [.int p1_size, .int p1_hasDark, .int p1_words, .int p1_ruleLines, .int p1_endLines, .int p1_most, .int p1_bannedCircles, .int p1_unlike, .int p1_patterns, .ref h_p1_patternNodes, .ref h_p1_patternCodes, .int p1_endsJoined, .int p1_fewestEdges, .int p1_mostEdges, .int p1_least])), (h_p1_patternCodes, aI T 2 p1_patternCodes), (h_p1_patternNodes, aI T 2 p1_patternNodes), (h_p2, .inr (6, [.ref h_p2_near, .ref h_p2_fans, .int p2_nodes1, .int p2_darks1, .long p2_colours1])), (h_p2_fans, aJ T 6 p2_fans1), (h_p2_near, aI T 6 p2_near1), (h_p3, .inr (1, [.ref h_p3_sketch, .int p3_nodes1, .int p3_allBits1, .int p3_isTest1, .int p3_isBeaten1, .int p3_isStudy1, .long p3_order1, .int p3_least1, .int p3_symmetries1, .long p3_firstOrder1, .long p3_seen1, .int p3_stillEdges1])), (h_p3_sketch, .inr (6, [.ref h_p3_sketch_near, .ref h_p3_sketch_fans, .int p3_sketch_nodes1, .int p3_sketch_darks1, .long p3_sketch_colours1])), (h_p3_sketch_fans, aJ T 6 p3_sketch_fans1), (h_p3_sketch_near, aI T 6 p3_sketch_near1), (h_t, .inr (2, [.ref h_t_codes, .ref h_t_firsts, .int t_total1])), (h_t_codes, aI T 662 t_codes1), (h_t_firsts, aI T 8 t_firsts1)] ∧ post p2_colours1 p2_darks1 p2_nodes1 p2_fans1 p2_near1 p3_allBits1 p3_firstOrder1 p3_isBeaten1 p3_isStudy1 p3_isTest1 p3_least1 p3_nodes1 p3_order1 p3_seen1 p3_stillEdges1 p3_symmetries1 p3_sketch_colours1 p3_sketch_darks1 p3_sketch_nodes1 p3_sketch_fans1 p3_sketch_near1 t_total1 t_codes1 t_firsts1) := by
  refine xV_of (by decide +kernel) (Nat.le_of_ble_eq_true rfl) rfl ?_
  intro G X hret
  change G 0 0 0 [(0, .ref h_t), (1, .ref h_p1), (2, .ref h_p2), (3, .ref h_p3)] [] [(h_p1, .inr (5, [.int p1_size, .int p1_hasDark, .int p1_words, .int p1_ruleLines, .int p1_endLines, .int p1_most, .int p1_bannedCircles, .int p1_unlike, .int p1_patterns, .ref h_p1_patternNodes, .ref h_p1_patternCodes, .int p1_endsJoined, .int p1_fewestEdges, .int p1_mostEdges, .int p1_least])), (h_p1_patternCodes, aI T 2 p1_patternCodes), (h_p1_patternNodes, aI T 2 p1_patternNodes), (h_p2, .inr (6, [.ref h_p2_near, .ref h_p2_fans, .int p2_nodes, .int p2_darks, .long p2_colours])), (h_p2_fans, aJ T 6 p2_fans), (h_p2_near, aI T 6 p2_near), (h_p3, .inr (1, [.ref h_p3_sketch, .int p3_nodes, .int p3_allBits, .int p3_isTest, .int p3_isBeaten, .int p3_isStudy, .long p3_order, .int p3_least, .int p3_symmetries, .long p3_firstOrder, .long p3_seen, .int p3_stillEdges])), (h_p3_sketch, .inr (6, [.ref h_p3_sketch_near, .ref h_p3_sketch_fans, .int p3_sketch_nodes, .int p3_sketch_darks, .long p3_sketch_colours])), (h_p3_sketch_fans, aJ T 6 p3_sketch_fans), (h_p3_sketch_near, aI T 6 p3_sketch_near), (h_t, .inr (2, [.ref h_t_codes, .ref h_t_firsts, .int t_total])), (h_t_codes, aI T 662 t_codes), (h_t_firsts, aI T 8 t_firsts)]
  unfold F_X3_fill at h
  have k22 : ∀ (p2_colours : Int64) (p2_darks : Int32) (p2_nodes : Int32) (p2_fans : Nat → Int64) (p2_near : Nat → Int32) (p3_allBits : Int32) (p3_firstOrder : Int64) (p3_isBeaten : Int32) (p3_isStudy : Int32) (p3_isTest : Int32) (p3_least : Int32) (p3_nodes : Int32) (p3_order : Int64) (p3_seen : Int64) (p3_stillEdges : Int32) (p3_symmetries : Int32) (p3_sketch_colours : Int64) (p3_sketch_darks : Int32) (p3_sketch_nodes : Int32) (p3_sketch_fans : Nat → Int64) (p3_sketch_near : Nat → Int32) (t_total : Int32) (t_codes : Nat → Int32) (t_firsts : Nat → Int32), F_X3_fill_22 p1_bannedCircles p1_hasDark p1_most p1_patterns p1_size p1_unlike p1_patternCodes p1_patternNodes post p2_colours p2_darks p2_nodes p2_fans p2_near p3_allBits p3_firstOrder p3_isBeaten p3_isStudy p3_isTest p3_least p3_nodes p3_order p3_seen p3_stillEdges p3_symmetries p3_sketch_colours p3_sketch_darks p3_sketch_nodes p3_sketch_fans p3_sketch_near t_total t_codes t_firsts → G 0 0 22 [(0, .ref h_t), (1, .ref h_p1), (2, .ref h_p2), (3, .ref h_p3)] [] [(h_p1, .inr (5, [.int p1_size, .int p1_hasDark, .int p1_words, .int p1_ruleLines, .int p1_endLines, .int p1_most, .int p1_bannedCircles, .int p1_unlike, .int p1_patterns, .ref h_p1_patternNodes, .ref h_p1_patternCodes, .int p1_endsJoined, .int p1_fewestEdges, .int p1_mostEdges, .int p1_least])), (h_p1_patternCodes, aI T 2 p1_patternCodes), (h_p1_patternNodes, aI T 2 p1_patternNodes), (h_p2, .inr (6, [.ref h_p2_near, .ref h_p2_fans, .int p2_nodes, .int p2_darks, .long p2_colours])), (h_p2_fans, aJ T 6 p2_fans), (h_p2_near, aI T 6 p2_near), (h_p3, .inr (1, [.ref h_p3_sketch, .int p3_nodes, .int p3_allBits, .int p3_isTest, .int p3_isBeaten, .int p3_isStudy, .long p3_order, .int p3_least, .int p3_symmetries, .long p3_firstOrder, .long p3_seen, .int p3_stillEdges])), (h_p3_sketch, .inr (6, [.ref h_p3_sketch_near, .ref h_p3_sketch_fans, .int p3_sketch_nodes, .int p3_sketch_darks, .long p3_sketch_colours])), (h_p3_sketch_fans, aJ T 6 p3_sketch_fans), (h_p3_sketch_near, aI T 6 p3_sketch_near), (h_t, .inr (2, [.ref h_t_codes, .ref h_t_firsts, .int t_total])), (h_t_codes, aI T 662 t_codes), (h_t_firsts, aI T 8 t_firsts)] := by
    intro p2_colours p2_darks p2_nodes p2_fans p2_near p3_allBits p3_firstOrder p3_isBeaten p3_isStudy p3_isTest p3_least p3_nodes p3_order p3_seen p3_stillEdges p3_symmetries p3_sketch_colours p3_sketch_darks p3_sketch_nodes p3_sketch_fans p3_sketch_near t_total t_codes t_firsts h
    unfold F_X3_fill_22 at h
    have k39 : ∀ (s0 : Int32) (p2_colours : Int64) (p2_darks : Int32) (p2_nodes : Int32) (p2_fans : Nat → Int64) (p2_near : Nat → Int32) (p3_allBits : Int32) (p3_firstOrder : Int64) (p3_isBeaten : Int32) (p3_isStudy : Int32) (p3_isTest : Int32) (p3_least : Int32) (p3_nodes : Int32) (p3_order : Int64) (p3_seen : Int64) (p3_stillEdges : Int32) (p3_symmetries : Int32) (p3_sketch_colours : Int64) (p3_sketch_darks : Int32) (p3_sketch_nodes : Int32) (p3_sketch_fans : Nat → Int64) (p3_sketch_near : Nat → Int32) (t_total : Int32) (t_codes : Nat → Int32) (t_firsts : Nat → Int32), F_X3_fill_39 p1_bannedCircles p1_hasDark p1_most p1_patterns p1_size p1_unlike p1_patternCodes p1_patternNodes post s0 p2_colours p2_darks p2_nodes p2_fans p2_near p3_allBits p3_firstOrder p3_isBeaten p3_isStudy p3_isTest p3_least p3_nodes p3_order p3_seen p3_stillEdges p3_symmetries p3_sketch_colours p3_sketch_darks p3_sketch_nodes p3_sketch_fans p3_sketch_near t_total t_codes t_firsts → G 0 0 39 [(0, .ref h_t), (1, .ref h_p1), (2, .ref h_p2), (3, .ref h_p3)] [.int s0] [(h_p1, .inr (5, [.int p1_size, .int p1_hasDark, .int p1_words, .int p1_ruleLines, .int p1_endLines, .int p1_most, .int p1_bannedCircles, .int p1_unlike, .int p1_patterns, .ref h_p1_patternNodes, .ref h_p1_patternCodes, .int p1_endsJoined, .int p1_fewestEdges, .int p1_mostEdges, .int p1_least])), (h_p1_patternCodes, aI T 2 p1_patternCodes), (h_p1_patternNodes, aI T 2 p1_patternNodes), (h_p2, .inr (6, [.ref h_p2_near, .ref h_p2_fans, .int p2_nodes, .int p2_darks, .long p2_colours])), (h_p2_fans, aJ T 6 p2_fans), (h_p2_near, aI T 6 p2_near), (h_p3, .inr (1, [.ref h_p3_sketch, .int p3_nodes, .int p3_allBits, .int p3_isTest, .int p3_isBeaten, .int p3_isStudy, .long p3_order, .int p3_least, .int p3_symmetries, .long p3_firstOrder, .long p3_seen, .int p3_stillEdges])), (h_p3_sketch, .inr (6, [.ref h_p3_sketch_near, .ref h_p3_sketch_fans, .int p3_sketch_nodes, .int p3_sketch_darks, .long p3_sketch_colours])), (h_p3_sketch_fans, aJ T 6 p3_sketch_fans), (h_p3_sketch_near, aI T 6 p3_sketch_near), (h_t, .inr (2, [.ref h_t_codes, .ref h_t_firsts, .int t_total])), (h_t_codes, aI T 662 t_codes), (h_t_firsts, aI T 8 t_firsts)] := by
      intro s0 p2_colours p2_darks p2_nodes p2_fans p2_near p3_allBits p3_firstOrder p3_isBeaten p3_isStudy p3_isTest p3_least p3_nodes p3_order p3_seen p3_stillEdges p3_symmetries p3_sketch_colours p3_sketch_darks p3_sketch_nodes p3_sketch_fans p3_sketch_near t_total t_codes t_firsts h
      unfold F_X3_fill_39 at h
      have k44 : ∀ (n44 : Nat) (x4 : Int32) (x5 : Int32) (p2_colours : Int64) (p2_darks : Int32) (p2_nodes : Int32) (p2_fans : Nat → Int64) (p2_near : Nat → Int32) (p3_allBits : Int32) (p3_firstOrder : Int64) (p3_isBeaten : Int32) (p3_isStudy : Int32) (p3_isTest : Int32) (p3_least : Int32) (p3_nodes : Int32) (p3_order : Int64) (p3_seen : Int64) (p3_stillEdges : Int32) (p3_symmetries : Int32) (p3_sketch_colours : Int64) (p3_sketch_darks : Int32) (p3_sketch_nodes : Int32) (p3_sketch_fans : Nat → Int64) (p3_sketch_near : Nat → Int32) (t_total : Int32) (t_codes : Nat → Int32) (t_firsts : Nat → Int32), F_X3_fill_44 p1_bannedCircles p1_hasDark p1_most p1_patterns p1_size p1_unlike p1_patternCodes p1_patternNodes post n44 x4 x5 p2_colours p2_darks p2_nodes p2_fans p2_near p3_allBits p3_firstOrder p3_isBeaten p3_isStudy p3_isTest p3_least p3_nodes p3_order p3_seen p3_stillEdges p3_symmetries p3_sketch_colours p3_sketch_darks p3_sketch_nodes p3_sketch_fans p3_sketch_near t_total t_codes t_firsts → G 0 0 44 [(0, .ref h_t), (1, .ref h_p1), (2, .ref h_p2), (3, .ref h_p3), (4, .int x4), (5, .int x5)] [] [(h_p1, .inr (5, [.int p1_size, .int p1_hasDark, .int p1_words, .int p1_ruleLines, .int p1_endLines, .int p1_most, .int p1_bannedCircles, .int p1_unlike, .int p1_patterns, .ref h_p1_patternNodes, .ref h_p1_patternCodes, .int p1_endsJoined, .int p1_fewestEdges, .int p1_mostEdges, .int p1_least])), (h_p1_patternCodes, aI T 2 p1_patternCodes), (h_p1_patternNodes, aI T 2 p1_patternNodes), (h_p2, .inr (6, [.ref h_p2_near, .ref h_p2_fans, .int p2_nodes, .int p2_darks, .long p2_colours])), (h_p2_fans, aJ T 6 p2_fans), (h_p2_near, aI T 6 p2_near), (h_p3, .inr (1, [.ref h_p3_sketch, .int p3_nodes, .int p3_allBits, .int p3_isTest, .int p3_isBeaten, .int p3_isStudy, .long p3_order, .int p3_least, .int p3_symmetries, .long p3_firstOrder, .long p3_seen, .int p3_stillEdges])), (h_p3_sketch, .inr (6, [.ref h_p3_sketch_near, .ref h_p3_sketch_fans, .int p3_sketch_nodes, .int p3_sketch_darks, .long p3_sketch_colours])), (h_p3_sketch_fans, aJ T 6 p3_sketch_fans), (h_p3_sketch_near, aI T 6 p3_sketch_near), (h_t, .inr (2, [.ref h_t_codes, .ref h_t_firsts, .int t_total])), (h_t_codes, aI T 662 t_codes), (h_t_firsts, aI T 8 t_firsts)] := by
        intro n44
        induction n44 with
        | zero => intro x4 x5 p2_colours p2_darks p2_nodes p2_fans p2_near p3_allBits p3_firstOrder p3_isBeaten p3_isStudy p3_isTest p3_least p3_nodes p3_order p3_seen p3_stillEdges p3_symmetries p3_sketch_colours p3_sketch_darks p3_sketch_nodes p3_sketch_fans p3_sketch_near t_total t_codes t_firsts h; exact h.elim
        | succ n44 ih44 =>
          intro x4 x5 p2_colours p2_darks p2_nodes p2_fans p2_near p3_allBits p3_firstOrder p3_isBeaten p3_isStudy p3_isTest p3_least p3_nodes p3_order p3_seen p3_stillEdges p3_symmetries p3_sketch_colours p3_sketch_darks p3_sketch_nodes p3_sketch_fans p3_sketch_near t_total t_codes t_firsts h
          rw [F_X3_fill_44] at h
          have k54 : ∀ (n54 : Nat) (x4 : Int32) (x5 : Int32) (x6 : Int32) (p2_colours : Int64) (p2_darks : Int32) (p2_nodes : Int32) (p2_fans : Nat → Int64) (p2_near : Nat → Int32) (p3_allBits : Int32) (p3_firstOrder : Int64) (p3_isBeaten : Int32) (p3_isStudy : Int32) (p3_isTest : Int32) (p3_least : Int32) (p3_nodes : Int32) (p3_order : Int64) (p3_seen : Int64) (p3_stillEdges : Int32) (p3_symmetries : Int32) (p3_sketch_colours : Int64) (p3_sketch_darks : Int32) (p3_sketch_nodes : Int32) (p3_sketch_fans : Nat → Int64) (p3_sketch_near : Nat → Int32) (t_total : Int32) (t_codes : Nat → Int32) (t_firsts : Nat → Int32), F_X3_fill_54 p1_bannedCircles p1_hasDark p1_most p1_patterns p1_size p1_unlike p1_patternCodes p1_patternNodes post (F_X3_fill_44 p1_bannedCircles p1_hasDark p1_most p1_patterns p1_size p1_unlike p1_patternCodes p1_patternNodes post n44) n54 x4 x5 x6 p2_colours p2_darks p2_nodes p2_fans p2_near p3_allBits p3_firstOrder p3_isBeaten p3_isStudy p3_isTest p3_least p3_nodes p3_order p3_seen p3_stillEdges p3_symmetries p3_sketch_colours p3_sketch_darks p3_sketch_nodes p3_sketch_fans p3_sketch_near t_total t_codes t_firsts → G 0 0 54 [(0, .ref h_t), (1, .ref h_p1), (2, .ref h_p2), (3, .ref h_p3), (4, .int x4), (5, .int x5), (6, .int x6)] [] [(h_p1, .inr (5, [.int p1_size, .int p1_hasDark, .int p1_words, .int p1_ruleLines, .int p1_endLines, .int p1_most, .int p1_bannedCircles, .int p1_unlike, .int p1_patterns, .ref h_p1_patternNodes, .ref h_p1_patternCodes, .int p1_endsJoined, .int p1_fewestEdges, .int p1_mostEdges, .int p1_least])), (h_p1_patternCodes, aI T 2 p1_patternCodes), (h_p1_patternNodes, aI T 2 p1_patternNodes), (h_p2, .inr (6, [.ref h_p2_near, .ref h_p2_fans, .int p2_nodes, .int p2_darks, .long p2_colours])), (h_p2_fans, aJ T 6 p2_fans), (h_p2_near, aI T 6 p2_near), (h_p3, .inr (1, [.ref h_p3_sketch, .int p3_nodes, .int p3_allBits, .int p3_isTest, .int p3_isBeaten, .int p3_isStudy, .long p3_order, .int p3_least, .int p3_symmetries, .long p3_firstOrder, .long p3_seen, .int p3_stillEdges])), (h_p3_sketch, .inr (6, [.ref h_p3_sketch_near, .ref h_p3_sketch_fans, .int p3_sketch_nodes, .int p3_sketch_darks, .long p3_sketch_colours])), (h_p3_sketch_fans, aJ T 6 p3_sketch_fans), (h_p3_sketch_near, aI T 6 p3_sketch_near), (h_t, .inr (2, [.ref h_t_codes, .ref h_t_firsts, .int t_total])), (h_t_codes, aI T 662 t_codes), (h_t_firsts, aI T 8 t_firsts)] := by
            intro n54
            induction n54 with
            | zero => intro x4 x5 x6 p2_colours p2_darks p2_nodes p2_fans p2_near p3_allBits p3_firstOrder p3_isBeaten p3_isStudy p3_isTest p3_least p3_nodes p3_order p3_seen p3_stillEdges p3_symmetries p3_sketch_colours p3_sketch_darks p3_sketch_nodes p3_sketch_fans p3_sketch_near t_total t_codes t_firsts h; exact h.elim
            | succ n54 ih54 =>
              intro x4 x5 x6 p2_colours p2_darks p2_nodes p2_fans p2_near p3_allBits p3_firstOrder p3_isBeaten p3_isStudy p3_isTest p3_least p3_nodes p3_order p3_seen p3_stillEdges p3_symmetries p3_sketch_colours p3_sketch_darks p3_sketch_nodes p3_sketch_fans p3_sketch_near t_total t_codes t_firsts h
              rw [F_X3_fill_54] at h
              have k79 : ∀ (n79 : Nat) (x4 : Int32) (x5 : Int32) (x6 : Int32) (x7 : Int32) (p2_colours : Int64) (p2_darks : Int32) (p2_nodes : Int32) (p2_fans : Nat → Int64) (p2_near : Nat → Int32) (p3_allBits : Int32) (p3_firstOrder : Int64) (p3_isBeaten : Int32) (p3_isStudy : Int32) (p3_isTest : Int32) (p3_least : Int32) (p3_nodes : Int32) (p3_order : Int64) (p3_seen : Int64) (p3_stillEdges : Int32) (p3_symmetries : Int32) (p3_sketch_colours : Int64) (p3_sketch_darks : Int32) (p3_sketch_nodes : Int32) (p3_sketch_fans : Nat → Int64) (p3_sketch_near : Nat → Int32) (t_total : Int32) (t_codes : Nat → Int32) (t_firsts : Nat → Int32), F_X3_fill_79 p1_bannedCircles p1_hasDark p1_most p1_patterns p1_size p1_unlike p1_patternCodes p1_patternNodes post (F_X3_fill_54 p1_bannedCircles p1_hasDark p1_most p1_patterns p1_size p1_unlike p1_patternCodes p1_patternNodes post (F_X3_fill_44 p1_bannedCircles p1_hasDark p1_most p1_patterns p1_size p1_unlike p1_patternCodes p1_patternNodes post n44) n54) n79 x4 x5 x6 x7 p2_colours p2_darks p2_nodes p2_fans p2_near p3_allBits p3_firstOrder p3_isBeaten p3_isStudy p3_isTest p3_least p3_nodes p3_order p3_seen p3_stillEdges p3_symmetries p3_sketch_colours p3_sketch_darks p3_sketch_nodes p3_sketch_fans p3_sketch_near t_total t_codes t_firsts → G 0 0 79 [(0, .ref h_t), (1, .ref h_p1), (2, .ref h_p2), (3, .ref h_p3), (4, .int x4), (5, .int x5), (6, .int x6), (7, .int x7)] [] [(h_p1, .inr (5, [.int p1_size, .int p1_hasDark, .int p1_words, .int p1_ruleLines, .int p1_endLines, .int p1_most, .int p1_bannedCircles, .int p1_unlike, .int p1_patterns, .ref h_p1_patternNodes, .ref h_p1_patternCodes, .int p1_endsJoined, .int p1_fewestEdges, .int p1_mostEdges, .int p1_least])), (h_p1_patternCodes, aI T 2 p1_patternCodes), (h_p1_patternNodes, aI T 2 p1_patternNodes), (h_p2, .inr (6, [.ref h_p2_near, .ref h_p2_fans, .int p2_nodes, .int p2_darks, .long p2_colours])), (h_p2_fans, aJ T 6 p2_fans), (h_p2_near, aI T 6 p2_near), (h_p3, .inr (1, [.ref h_p3_sketch, .int p3_nodes, .int p3_allBits, .int p3_isTest, .int p3_isBeaten, .int p3_isStudy, .long p3_order, .int p3_least, .int p3_symmetries, .long p3_firstOrder, .long p3_seen, .int p3_stillEdges])), (h_p3_sketch, .inr (6, [.ref h_p3_sketch_near, .ref h_p3_sketch_fans, .int p3_sketch_nodes, .int p3_sketch_darks, .long p3_sketch_colours])), (h_p3_sketch_fans, aJ T 6 p3_sketch_fans), (h_p3_sketch_near, aI T 6 p3_sketch_near), (h_t, .inr (2, [.ref h_t_codes, .ref h_t_firsts, .int t_total])), (h_t_codes, aI T 662 t_codes), (h_t_firsts, aI T 8 t_firsts)] := by
                intro n79
                induction n79 with
                | zero => intro x4 x5 x6 x7 p2_colours p2_darks p2_nodes p2_fans p2_near p3_allBits p3_firstOrder p3_isBeaten p3_isStudy p3_isTest p3_least p3_nodes p3_order p3_seen p3_stillEdges p3_symmetries p3_sketch_colours p3_sketch_darks p3_sketch_nodes p3_sketch_fans p3_sketch_near t_total t_codes t_firsts h; exact h.elim
                | succ n79 ih79 =>
                  intro x4 x5 x6 x7 p2_colours p2_darks p2_nodes p2_fans p2_near p3_allBits p3_firstOrder p3_isBeaten p3_isStudy p3_isTest p3_least p3_nodes p3_order p3_seen p3_stillEdges p3_symmetries p3_sketch_colours p3_sketch_darks p3_sketch_nodes p3_sketch_fans p3_sketch_near t_total t_codes t_firsts h
                  rw [F_X3_fill_79] at h
                  have k150 : ∀ (x4 : Int32) (x5 : Int32) (x6 : Int32) (x7 : Int32) (p2_colours : Int64) (p2_darks : Int32) (p2_nodes : Int32) (p2_fans : Nat → Int64) (p2_near : Nat → Int32) (p3_allBits : Int32) (p3_firstOrder : Int64) (p3_isBeaten : Int32) (p3_isStudy : Int32) (p3_isTest : Int32) (p3_least : Int32) (p3_nodes : Int32) (p3_order : Int64) (p3_seen : Int64) (p3_stillEdges : Int32) (p3_symmetries : Int32) (p3_sketch_colours : Int64) (p3_sketch_darks : Int32) (p3_sketch_nodes : Int32) (p3_sketch_fans : Nat → Int64) (p3_sketch_near : Nat → Int32) (t_total : Int32) (t_codes : Nat → Int32) (t_firsts : Nat → Int32), F_X3_fill_150 p1_bannedCircles p1_hasDark p1_most p1_patterns p1_size p1_unlike p1_patternCodes p1_patternNodes post (F_X3_fill_79 p1_bannedCircles p1_hasDark p1_most p1_patterns p1_size p1_unlike p1_patternCodes p1_patternNodes post (F_X3_fill_54 p1_bannedCircles p1_hasDark p1_most p1_patterns p1_size p1_unlike p1_patternCodes p1_patternNodes post (F_X3_fill_44 p1_bannedCircles p1_hasDark p1_most p1_patterns p1_size p1_unlike p1_patternCodes p1_patternNodes post n44) n54) n79) x4 x5 x6 x7 p2_colours p2_darks p2_nodes p2_fans p2_near p3_allBits p3_firstOrder p3_isBeaten p3_isStudy p3_isTest p3_least p3_nodes p3_order p3_seen p3_stillEdges p3_symmetries p3_sketch_colours p3_sketch_darks p3_sketch_nodes p3_sketch_fans p3_sketch_near t_total t_codes t_firsts → G 0 0 150 [(0, .ref h_t), (1, .ref h_p1), (2, .ref h_p2), (3, .ref h_p3), (4, .int x4), (5, .int x5), (6, .int x6), (7, .int x7)] [] [(h_p1, .inr (5, [.int p1_size, .int p1_hasDark, .int p1_words, .int p1_ruleLines, .int p1_endLines, .int p1_most, .int p1_bannedCircles, .int p1_unlike, .int p1_patterns, .ref h_p1_patternNodes, .ref h_p1_patternCodes, .int p1_endsJoined, .int p1_fewestEdges, .int p1_mostEdges, .int p1_least])), (h_p1_patternCodes, aI T 2 p1_patternCodes), (h_p1_patternNodes, aI T 2 p1_patternNodes), (h_p2, .inr (6, [.ref h_p2_near, .ref h_p2_fans, .int p2_nodes, .int p2_darks, .long p2_colours])), (h_p2_fans, aJ T 6 p2_fans), (h_p2_near, aI T 6 p2_near), (h_p3, .inr (1, [.ref h_p3_sketch, .int p3_nodes, .int p3_allBits, .int p3_isTest, .int p3_isBeaten, .int p3_isStudy, .long p3_order, .int p3_least, .int p3_symmetries, .long p3_firstOrder, .long p3_seen, .int p3_stillEdges])), (h_p3_sketch, .inr (6, [.ref h_p3_sketch_near, .ref h_p3_sketch_fans, .int p3_sketch_nodes, .int p3_sketch_darks, .long p3_sketch_colours])), (h_p3_sketch_fans, aJ T 6 p3_sketch_fans), (h_p3_sketch_near, aI T 6 p3_sketch_near), (h_t, .inr (2, [.ref h_t_codes, .ref h_t_firsts, .int t_total])), (h_t_codes, aI T 662 t_codes), (h_t_firsts, aI T 8 t_firsts)] := by
                    intro x4 x5 x6 x7 p2_colours p2_darks p2_nodes p2_fans p2_near p3_allBits p3_firstOrder p3_isBeaten p3_isStudy p3_isTest p3_least p3_nodes p3_order p3_seen p3_stillEdges p3_symmetries p3_sketch_colours p3_sketch_darks p3_sketch_nodes p3_sketch_fans p3_sketch_near t_total t_codes t_firsts h
                    unfold F_X3_fill_150 at h
                    refine x_iinc (v := (x7 + 1)) (lv' := [(7, .int (x7 + 1)), (0, .ref h_t), (1, .ref h_p1), (2, .ref h_p2), (3, .ref h_p3), (4, .int x4), (5, .int x5), (6, .int x6)]) X dX3_fill_150 7 rfl rfl (by decide) rfl ?_
                    refine x_goto (tgt := 79) X dX3_fill_153 (by decide) ?_
                    exact x_sub X [1, 2, 3, 4, 5, 6, 7, 0] rfl (ih79 x4 x5 x6 (x7 + 1) p2_colours p2_darks p2_nodes p2_fans p2_near p3_allBits p3_firstOrder p3_isBeaten p3_isStudy p3_isTest p3_least p3_nodes p3_order p3_seen p3_stillEdges p3_symmetries p3_sketch_colours p3_sketch_darks p3_sketch_nodes p3_sketch_fans p3_sketch_near t_total t_codes t_firsts h)
                  refine x_iload X dX3_fill_79 7 rfl ?_
                  refine x_iload X dX3_fill_81 4 rfl ?_
                  refine x_iload X dX3_fill_83 5 rfl ?_
                  refine x_iconst (v := 1) X dX3_fill_85 (by decide) ?_
                  refine x_isub X dX3_fill_86 ?_
                  refine x_ishl X dX3_fill_87 ?_
                  refine x_icmp_ge (tgt := 156) X dX3_fill_88 (by decide) (fun hc => ?_) (fun hc => ?_)
                  · have h := h.1 hc
                    refine x_iinc (v := (x6 + 1)) (lv' := [(6, .int (x6 + 1)), (0, .ref h_t), (1, .ref h_p1), (2, .ref h_p2), (3, .ref h_p3), (4, .int x4), (5, .int x5), (7, .int x7)]) X dX3_fill_156 6 rfl rfl (by decide) rfl ?_
                    refine x_goto (tgt := 54) X dX3_fill_159 (by decide) ?_
                    exact x_sub X [1, 2, 3, 4, 5, 6, 0] rfl (ih54 x4 x5 (x6 + 1) p2_colours p2_darks p2_nodes p2_fans p2_near p3_allBits p3_firstOrder p3_isBeaten p3_isStudy p3_isTest p3_least p3_nodes p3_order p3_seen p3_stillEdges p3_symmetries p3_sketch_colours p3_sketch_darks p3_sketch_nodes p3_sketch_fans p3_sketch_near t_total t_codes t_firsts h)
                  · have h := h.2 hc
                    refine x_aload_n X dX3_fill_91 0 rfl ?_
                    refine x_iload X dX3_fill_92 5 rfl ?_
                    refine x_iconst (v := 1) X dX3_fill_94 (by decide) ?_
                    refine x_isub X dX3_fill_95 ?_
                    refine x_iload X dX3_fill_96 6 rfl ?_
                    refine x_callVI (av := [.int (x5 - (1 : Int32)), .int x6]) (st := []) (wr := [(h_p1, .inr (5, [.int p1_size, .int p1_hasDark, .int p1_words, .int p1_ruleLines, .int p1_endLines, .int p1_most, .int p1_bannedCircles, .int p1_unlike, .int p1_patterns, .ref h_p1_patternNodes, .ref h_p1_patternCodes, .int p1_endsJoined, .int p1_fewestEdges, .int p1_mostEdges, .int p1_least])), (h_p1_patternCodes, aI T 2 p1_patternCodes), (h_p1_patternNodes, aI T 2 p1_patternNodes), (h_p2, .inr (6, [.ref h_p2_near, .ref h_p2_fans, .int p2_nodes, .int p2_darks, .long p2_colours])), (h_p2_fans, aJ T 6 p2_fans), (h_p2_near, aI T 6 p2_near), (h_p3, .inr (1, [.ref h_p3_sketch, .int p3_nodes, .int p3_allBits, .int p3_isTest, .int p3_isBeaten, .int p3_isStudy, .long p3_order, .int p3_least, .int p3_symmetries, .long p3_firstOrder, .long p3_seen, .int p3_stillEdges])), (h_p3_sketch, .inr (6, [.ref h_p3_sketch_near, .ref h_p3_sketch_fans, .int p3_sketch_nodes, .int p3_sketch_darks, .long p3_sketch_colours])), (h_p3_sketch_fans, aJ T 6 p3_sketch_fans), (h_p3_sketch_near, aI T 6 p3_sketch_near)]) X (c_X3_codeOf l D T h_t h_t_codes h_t_firsts t_total t_codes t_firsts (x5 - (1 : Int32)) x6 _ h) yk_X3_codeOf tw_336 dX3_fill_98 10 rfl rfl [10, 11, 12] [0, 1, 2, 3, 4, 5, 6, 7, 8, 9] rfl rfl rfl rfl (by decide) rfl rfl (Nat.le_of_ble_eq_true rfl) (Nat.le_of_ble_eq_true rfl) (Nat.le_of_ble_eq_true rfl) (Nat.zero_le _) (Nat.zero_le _) (fun r98 w1 hw => ?_)
                    obtain ⟨rfl, h⟩ := hw
                    refine x_perm (ws2 := [(h_p1, .inr (5, [.int p1_size, .int p1_hasDark, .int p1_words, .int p1_ruleLines, .int p1_endLines, .int p1_most, .int p1_bannedCircles, .int p1_unlike, .int p1_patterns, .ref h_p1_patternNodes, .ref h_p1_patternCodes, .int p1_endsJoined, .int p1_fewestEdges, .int p1_mostEdges, .int p1_least])), (h_p1_patternCodes, aI T 2 p1_patternCodes), (h_p1_patternNodes, aI T 2 p1_patternNodes), (h_p2, .inr (6, [.ref h_p2_near, .ref h_p2_fans, .int p2_nodes, .int p2_darks, .long p2_colours])), (h_p2_fans, aJ T 6 p2_fans), (h_p2_near, aI T 6 p2_near), (h_p3, .inr (1, [.ref h_p3_sketch, .int p3_nodes, .int p3_allBits, .int p3_isTest, .int p3_isBeaten, .int p3_isStudy, .long p3_order, .int p3_least, .int p3_symmetries, .long p3_firstOrder, .long p3_seen, .int p3_stillEdges])), (h_p3_sketch, .inr (6, [.ref h_p3_sketch_near, .ref h_p3_sketch_fans, .int p3_sketch_nodes, .int p3_sketch_darks, .long p3_sketch_colours])), (h_p3_sketch_fans, aJ T 6 p3_sketch_fans), (h_p3_sketch_near, aI T 6 p3_sketch_near), (h_t, .inr (2, [.ref h_t_codes, .ref h_t_firsts, .int t_total])), (h_t_codes, aI T 662 t_codes), (h_t_firsts, aI T 8 t_firsts)]) X [0, 1, 2, 3, 4, 5, 6, 7, 8, 9, 10, 11, 12] rfl rfl ?_
                    refine x_iload X dX3_fill_101 5 rfl ?_
                    refine x_ishl X dX3_fill_103 ?_
                    refine x_iload X dX3_fill_104 7 rfl ?_
                    refine x_ior X dX3_fill_106 ?_
                    refine x_istore (lv' := [(8, .int ((r98 <<< (x5 &&& 31)) ||| x7)), (0, .ref h_t), (1, .ref h_p1), (2, .ref h_p2), (3, .ref h_p3), (4, .int x4), (5, .int x5), (6, .int x6), (7, .int x7)]) X dX3_fill_107 (by decide) rfl ?_
                    refine x_aload_n X dX3_fill_109 4 rfl ?_
                    refine x_iload X dX3_fill_110 6 rfl ?_
                    refine x_iload X dX3_fill_112 0 rfl ?_
                    refine x_callVI (av := [.int x5, .int ((r98 <<< (x5 &&& 31)) ||| x7)]) (st := []) (wr := [(h_p1, .inr (5, [.int p1_size, .int p1_hasDark, .int p1_words, .int p1_ruleLines, .int p1_endLines, .int p1_most, .int p1_bannedCircles, .int p1_unlike, .int p1_patterns, .ref h_p1_patternNodes, .ref h_p1_patternCodes, .int p1_endsJoined, .int p1_fewestEdges, .int p1_mostEdges, .int p1_least])), (h_p1_patternCodes, aI T 2 p1_patternCodes), (h_p1_patternNodes, aI T 2 p1_patternNodes), (h_p2, .inr (6, [.ref h_p2_near, .ref h_p2_fans, .int p2_nodes, .int p2_darks, .long p2_colours])), (h_p2_fans, aJ T 6 p2_fans), (h_p2_near, aI T 6 p2_near), (h_t, .inr (2, [.ref h_t_codes, .ref h_t_firsts, .int t_total])), (h_t_codes, aI T 662 t_codes), (h_t_firsts, aI T 8 t_firsts)]) X (c_X2_isForm l D T h_p3 h_p3_sketch h_p3_sketch_near h_p3_sketch_fans p3_allBits p3_firstOrder p3_isBeaten p3_isStudy p3_isTest p3_least p3_nodes p3_order p3_seen p3_stillEdges p3_symmetries p3_sketch_colours p3_sketch_darks p3_sketch_nodes p3_sketch_fans p3_sketch_near x5 ((r98 <<< (x5 &&& 31)) ||| x7) _ h) yk_X2_isForm tw_340 dX3_fill_114 6 rfl rfl [6, 7, 8, 9] [0, 1, 2, 3, 4, 5, 10, 11, 12] rfl rfl rfl rfl (by decide) rfl rfl (Nat.le_of_ble_eq_true rfl) (Nat.le_of_ble_eq_true rfl) (Nat.le_of_ble_eq_true rfl) (Nat.zero_le _) (Nat.zero_le _) (fun r114 w1 hw => ?_)
                    obtain ⟨p3_allBits_114, p3_firstOrder_114, p3_isBeaten_114, p3_isStudy_114, p3_isTest_114, p3_least_114, p3_nodes_114, p3_order_114, p3_seen_114, p3_stillEdges_114, p3_symmetries_114, p3_sketch_colours_114, p3_sketch_darks_114, p3_sketch_nodes_114, p3_sketch_fans_114, p3_sketch_near_114, rfl, h⟩ := hw
                    refine x_perm (ws2 := [(h_p1, .inr (5, [.int p1_size, .int p1_hasDark, .int p1_words, .int p1_ruleLines, .int p1_endLines, .int p1_most, .int p1_bannedCircles, .int p1_unlike, .int p1_patterns, .ref h_p1_patternNodes, .ref h_p1_patternCodes, .int p1_endsJoined, .int p1_fewestEdges, .int p1_mostEdges, .int p1_least])), (h_p1_patternCodes, aI T 2 p1_patternCodes), (h_p1_patternNodes, aI T 2 p1_patternNodes), (h_p2, .inr (6, [.ref h_p2_near, .ref h_p2_fans, .int p2_nodes, .int p2_darks, .long p2_colours])), (h_p2_fans, aJ T 6 p2_fans), (h_p2_near, aI T 6 p2_near), (h_p3, .inr (1, [.ref h_p3_sketch, .int p3_nodes_114, .int p3_allBits_114, .int p3_isTest_114, .int p3_isBeaten_114, .int p3_isStudy_114, .long p3_order_114, .int p3_least_114, .int p3_symmetries_114, .long p3_firstOrder_114, .long p3_seen_114, .int p3_stillEdges_114])), (h_p3_sketch, .inr (6, [.ref h_p3_sketch_near, .ref h_p3_sketch_fans, .int p3_sketch_nodes_114, .int p3_sketch_darks_114, .long p3_sketch_colours_114])), (h_p3_sketch_fans, aJ T 6 p3_sketch_fans_114), (h_p3_sketch_near, aI T 6 p3_sketch_near_114), (h_t, .inr (2, [.ref h_t_codes, .ref h_t_firsts, .int t_total])), (h_t_codes, aI T 662 t_codes), (h_t_firsts, aI T 8 t_firsts)]) X [0, 1, 2, 3, 4, 5, 9, 10, 11, 12, 6, 7, 8] rfl rfl ?_
                    refine x_if_eq (tgt := 150) X dX3_fill_117 (by decide) (fun hc => ?_) (fun hc => ?_)
                    · have h := h.1 hc
                      exact x_sub X [1, 2, 3, 4, 5, 6, 7, 8] rfl (k150 x4 x5 x6 x7 p2_colours p2_darks p2_nodes p2_fans p2_near p3_allBits_114 p3_firstOrder_114 p3_isBeaten_114 p3_isStudy_114 p3_isTest_114 p3_least_114 p3_nodes_114 p3_order_114 p3_seen_114 p3_stillEdges_114 p3_symmetries_114 p3_sketch_colours_114 p3_sketch_darks_114 p3_sketch_nodes_114 p3_sketch_fans_114 p3_sketch_near_114 t_total t_codes t_firsts h)
                    · have h := h.2 hc
                      refine x_aload_n X dX3_fill_120 2 rfl ?_
                      refine x_iload X dX3_fill_121 6 rfl ?_
                      refine x_iload X dX3_fill_123 0 rfl ?_
                      refine x_aload_n X dX3_fill_125 3 rfl ?_
                      refine x_callVI (av := [.int x5, .int ((r98 <<< (x5 &&& 31)) ||| x7), .ref h_p2]) (st := []) (wr := [(h_p1_patternCodes, aI T 2 p1_patternCodes), (h_p1_patternNodes, aI T 2 p1_patternNodes), (h_p3, .inr (1, [.ref h_p3_sketch, .int p3_nodes_114, .int p3_allBits_114, .int p3_isTest_114, .int p3_isBeaten_114, .int p3_isStudy_114, .long p3_order_114, .int p3_least_114, .int p3_symmetries_114, .long p3_firstOrder_114, .long p3_seen_114, .int p3_stillEdges_114])), (h_p3_sketch, .inr (6, [.ref h_p3_sketch_near, .ref h_p3_sketch_fans, .int p3_sketch_nodes_114, .int p3_sketch_darks_114, .long p3_sketch_colours_114])), (h_p3_sketch_fans, aJ T 6 p3_sketch_fans_114), (h_p3_sketch_near, aI T 6 p3_sketch_near_114), (h_t, .inr (2, [.ref h_t_codes, .ref h_t_firsts, .int t_total])), (h_t_codes, aI T 662 t_codes), (h_t_firsts, aI T 8 t_firsts)]) X (c_X6_shapeKept l D T h_p2 h_p2_near h_p2_fans h_p1 h_p1_patternNodes h_p1_patternCodes p2_colours p2_darks p2_nodes p2_fans p2_near p1_bannedCircles p1_endLines p1_endsJoined p1_fewestEdges p1_hasDark p1_least p1_most p1_mostEdges p1_patterns p1_ruleLines p1_size p1_unlike p1_words x5 ((r98 <<< (x5 &&& 31)) ||| x7) _ h) yk_X6_shapeKept tw_384 dX3_fill_126 0 rfl rfl [3, 4, 5, 0] [1, 2, 6, 7, 8, 9, 10, 11, 12] rfl rfl rfl rfl (by decide) rfl rfl (Nat.le_of_ble_eq_true rfl) (Nat.le_of_ble_eq_true rfl) (Nat.le_of_ble_eq_true rfl) (Nat.zero_le _) (Nat.zero_le _) (fun r126 w1 hw => ?_)
                      obtain ⟨p2_colours_126, p2_darks_126, p2_nodes_126, p2_fans_126, p2_near_126, rfl, h⟩ := hw
                      refine x_perm (ws2 := [(h_p1, .inr (5, [.int p1_size, .int p1_hasDark, .int p1_words, .int p1_ruleLines, .int p1_endLines, .int p1_most, .int p1_bannedCircles, .int p1_unlike, .int p1_patterns, .ref h_p1_patternNodes, .ref h_p1_patternCodes, .int p1_endsJoined, .int p1_fewestEdges, .int p1_mostEdges, .int p1_least])), (h_p1_patternCodes, aI T 2 p1_patternCodes), (h_p1_patternNodes, aI T 2 p1_patternNodes), (h_p2, .inr (6, [.ref h_p2_near, .ref h_p2_fans, .int p2_nodes_126, .int p2_darks_126, .long p2_colours_126])), (h_p2_fans, aJ T 6 p2_fans_126), (h_p2_near, aI T 6 p2_near_126), (h_p3, .inr (1, [.ref h_p3_sketch, .int p3_nodes_114, .int p3_allBits_114, .int p3_isTest_114, .int p3_isBeaten_114, .int p3_isStudy_114, .long p3_order_114, .int p3_least_114, .int p3_symmetries_114, .long p3_firstOrder_114, .long p3_seen_114, .int p3_stillEdges_114])), (h_p3_sketch, .inr (6, [.ref h_p3_sketch_near, .ref h_p3_sketch_fans, .int p3_sketch_nodes_114, .int p3_sketch_darks_114, .long p3_sketch_colours_114])), (h_p3_sketch_fans, aJ T 6 p3_sketch_fans_114), (h_p3_sketch_near, aI T 6 p3_sketch_near_114), (h_t, .inr (2, [.ref h_t_codes, .ref h_t_firsts, .int t_total])), (h_t_codes, aI T 662 t_codes), (h_t_firsts, aI T 8 t_firsts)]) X [12, 0, 1, 9, 10, 11, 2, 3, 4, 5, 6, 7, 8] rfl rfl ?_
                      refine x_if_eq (tgt := 150) X dX3_fill_129 (by decide) (fun hc => ?_) (fun hc => ?_)
                      · have h := h.1 hc
                        exact x_sub X [1, 2, 3, 4, 5, 6, 7, 8] rfl (k150 x4 x5 x6 x7 p2_colours_126 p2_darks_126 p2_nodes_126 p2_fans_126 p2_near_126 p3_allBits_114 p3_firstOrder_114 p3_isBeaten_114 p3_isStudy_114 p3_isTest_114 p3_least_114 p3_nodes_114 p3_order_114 p3_seen_114 p3_stillEdges_114 p3_symmetries_114 p3_sketch_colours_114 p3_sketch_darks_114 p3_sketch_nodes_114 p3_sketch_fans_114 p3_sketch_near_114 t_total t_codes t_firsts h)
                      · have h := h.2 hc
                        refine x_aload_n X dX3_fill_132 2 rfl ?_
                        refine x_iload X dX3_fill_133 6 rfl ?_
                        refine x_iload X dX3_fill_135 0 rfl ?_
                        refine x_aload_n X dX3_fill_137 4 rfl ?_
                        refine x_callVI (av := [.int x5, .int ((r98 <<< (x5 &&& 31)) ||| x7), .ref h_p3]) (st := []) (wr := [(h_p2, .inr (6, [.ref h_p2_near, .ref h_p2_fans, .int p2_nodes_126, .int p2_darks_126, .long p2_colours_126])), (h_p2_fans, aJ T 6 p2_fans_126), (h_p2_near, aI T 6 p2_near_126), (h_t, .inr (2, [.ref h_t_codes, .ref h_t_firsts, .int t_total])), (h_t_codes, aI T 662 t_codes), (h_t_firsts, aI T 8 t_firsts)]) X (c_X6_patternsKept l D T h_p3 h_p3_sketch h_p3_sketch_near h_p3_sketch_fans h_p1 h_p1_patternNodes h_p1_patternCodes p3_allBits_114 p3_firstOrder_114 p3_isBeaten_114 p3_isStudy_114 p3_isTest_114 p3_least_114 p3_nodes_114 p3_order_114 p3_seen_114 p3_stillEdges_114 p3_symmetries_114 p3_sketch_colours_114 p3_sketch_darks_114 p3_sketch_nodes_114 p3_sketch_fans_114 p3_sketch_near_114 p1_bannedCircles p1_endLines p1_endsJoined p1_fewestEdges p1_hasDark p1_least p1_most p1_mostEdges p1_patterns p1_ruleLines p1_size p1_unlike p1_words p1_patternCodes p1_patternNodes x5 ((r98 <<< (x5 &&& 31)) ||| x7) _ h) yk_X6_patternsKept tw_422 dX3_fill_138 0 rfl rfl [6, 7, 8, 9, 0, 1, 2] [3, 4, 5, 10, 11, 12] rfl rfl rfl rfl (by decide) rfl rfl (Nat.le_of_ble_eq_true rfl) (Nat.le_of_ble_eq_true rfl) (Nat.le_of_ble_eq_true rfl) (Nat.zero_le _) (Nat.zero_le _) (fun r138 w1 hw => ?_)
                        obtain ⟨p3_allBits_138, p3_firstOrder_138, p3_isBeaten_138, p3_isStudy_138, p3_isTest_138, p3_least_138, p3_nodes_138, p3_order_138, p3_seen_138, p3_stillEdges_138, p3_symmetries_138, p3_sketch_colours_138, p3_sketch_darks_138, p3_sketch_nodes_138, p3_sketch_fans_138, p3_sketch_near_138, rfl, h⟩ := hw
                        refine x_perm (ws2 := [(h_p1, .inr (5, [.int p1_size, .int p1_hasDark, .int p1_words, .int p1_ruleLines, .int p1_endLines, .int p1_most, .int p1_bannedCircles, .int p1_unlike, .int p1_patterns, .ref h_p1_patternNodes, .ref h_p1_patternCodes, .int p1_endsJoined, .int p1_fewestEdges, .int p1_mostEdges, .int p1_least])), (h_p1_patternCodes, aI T 2 p1_patternCodes), (h_p1_patternNodes, aI T 2 p1_patternNodes), (h_p2, .inr (6, [.ref h_p2_near, .ref h_p2_fans, .int p2_nodes_126, .int p2_darks_126, .long p2_colours_126])), (h_p2_fans, aJ T 6 p2_fans_126), (h_p2_near, aI T 6 p2_near_126), (h_p3, .inr (1, [.ref h_p3_sketch, .int p3_nodes_138, .int p3_allBits_138, .int p3_isTest_138, .int p3_isBeaten_138, .int p3_isStudy_138, .long p3_order_138, .int p3_least_138, .int p3_symmetries_138, .long p3_firstOrder_138, .long p3_seen_138, .int p3_stillEdges_138])), (h_p3_sketch, .inr (6, [.ref h_p3_sketch_near, .ref h_p3_sketch_fans, .int p3_sketch_nodes_138, .int p3_sketch_darks_138, .long p3_sketch_colours_138])), (h_p3_sketch_fans, aJ T 6 p3_sketch_fans_138), (h_p3_sketch_near, aI T 6 p3_sketch_near_138), (h_t, .inr (2, [.ref h_t_codes, .ref h_t_firsts, .int t_total])), (h_t_codes, aI T 662 t_codes), (h_t_firsts, aI T 8 t_firsts)]) X [10, 11, 12, 0, 1, 2, 6, 7, 8, 9, 3, 4, 5] rfl rfl ?_
                        refine x_if_eq (tgt := 150) X dX3_fill_141 (by decide) (fun hc => ?_) (fun hc => ?_)
                        · have h := h.1 hc
                          exact x_sub X [1, 2, 3, 4, 5, 6, 7, 8] rfl (k150 x4 x5 x6 x7 p2_colours_126 p2_darks_126 p2_nodes_126 p2_fans_126 p2_near_126 p3_allBits_138 p3_firstOrder_138 p3_isBeaten_138 p3_isStudy_138 p3_isTest_138 p3_least_138 p3_nodes_138 p3_order_138 p3_seen_138 p3_stillEdges_138 p3_symmetries_138 p3_sketch_colours_138 p3_sketch_darks_138 p3_sketch_nodes_138 p3_sketch_fans_138 p3_sketch_near_138 t_total t_codes t_firsts h)
                        · have h := h.2 hc
                          refine x_aload_n X dX3_fill_144 1 rfl ?_
                          refine x_iload X dX3_fill_145 0 rfl ?_
                          refine x_callVV (av := [.int ((r98 <<< (x5 &&& 31)) ||| x7)]) (st := []) (wr := [(h_p1, .inr (5, [.int p1_size, .int p1_hasDark, .int p1_words, .int p1_ruleLines, .int p1_endLines, .int p1_most, .int p1_bannedCircles, .int p1_unlike, .int p1_patterns, .ref h_p1_patternNodes, .ref h_p1_patternCodes, .int p1_endsJoined, .int p1_fewestEdges, .int p1_mostEdges, .int p1_least])), (h_p1_patternCodes, aI T 2 p1_patternCodes), (h_p1_patternNodes, aI T 2 p1_patternNodes), (h_p2, .inr (6, [.ref h_p2_near, .ref h_p2_fans, .int p2_nodes_126, .int p2_darks_126, .long p2_colours_126])), (h_p2_fans, aJ T 6 p2_fans_126), (h_p2_near, aI T 6 p2_near_126), (h_p3, .inr (1, [.ref h_p3_sketch, .int p3_nodes_138, .int p3_allBits_138, .int p3_isTest_138, .int p3_isBeaten_138, .int p3_isStudy_138, .long p3_order_138, .int p3_least_138, .int p3_symmetries_138, .long p3_firstOrder_138, .long p3_seen_138, .int p3_stillEdges_138])), (h_p3_sketch, .inr (6, [.ref h_p3_sketch_near, .ref h_p3_sketch_fans, .int p3_sketch_nodes_138, .int p3_sketch_darks_138, .long p3_sketch_colours_138])), (h_p3_sketch_fans, aJ T 6 p3_sketch_fans_138), (h_p3_sketch_near, aI T 6 p3_sketch_near_138), (h_t_firsts, aI T 8 t_firsts)]) X (c_X3_add l D T h_t h_t_codes h_t_firsts t_total t_codes ((r98 <<< (x5 &&& 31)) ||| x7) _ h) yk_X3_add tw_320 dX3_fill_147 10 rfl rfl [10, 11] [0, 1, 2, 3, 4, 5, 6, 7, 8, 9, 12] rfl rfl rfl rfl (by decide) rfl rfl (Nat.le_of_ble_eq_true rfl) (Nat.le_of_ble_eq_true rfl) (Nat.le_of_ble_eq_true rfl) (Nat.zero_le _) (Nat.zero_le _) (fun w1 hw => ?_)
                          obtain ⟨t_total_147, t_codes_147, rfl, h⟩ := hw
                          refine x_perm (ws2 := [(h_p1, .inr (5, [.int p1_size, .int p1_hasDark, .int p1_words, .int p1_ruleLines, .int p1_endLines, .int p1_most, .int p1_bannedCircles, .int p1_unlike, .int p1_patterns, .ref h_p1_patternNodes, .ref h_p1_patternCodes, .int p1_endsJoined, .int p1_fewestEdges, .int p1_mostEdges, .int p1_least])), (h_p1_patternCodes, aI T 2 p1_patternCodes), (h_p1_patternNodes, aI T 2 p1_patternNodes), (h_p2, .inr (6, [.ref h_p2_near, .ref h_p2_fans, .int p2_nodes_126, .int p2_darks_126, .long p2_colours_126])), (h_p2_fans, aJ T 6 p2_fans_126), (h_p2_near, aI T 6 p2_near_126), (h_p3, .inr (1, [.ref h_p3_sketch, .int p3_nodes_138, .int p3_allBits_138, .int p3_isTest_138, .int p3_isBeaten_138, .int p3_isStudy_138, .long p3_order_138, .int p3_least_138, .int p3_symmetries_138, .long p3_firstOrder_138, .long p3_seen_138, .int p3_stillEdges_138])), (h_p3_sketch, .inr (6, [.ref h_p3_sketch_near, .ref h_p3_sketch_fans, .int p3_sketch_nodes_138, .int p3_sketch_darks_138, .long p3_sketch_colours_138])), (h_p3_sketch_fans, aJ T 6 p3_sketch_fans_138), (h_p3_sketch_near, aI T 6 p3_sketch_near_138), (h_t, .inr (2, [.ref h_t_codes, .ref h_t_firsts, .int t_total_147])), (h_t_codes, aI T 662 t_codes_147), (h_t_firsts, aI T 8 t_firsts)]) X [0, 1, 2, 3, 4, 5, 6, 7, 8, 9, 11, 12, 10] rfl rfl ?_
                          exact x_sub X [1, 2, 3, 4, 5, 6, 7, 8] rfl (k150 x4 x5 x6 x7 p2_colours_126 p2_darks_126 p2_nodes_126 p2_fans_126 p2_near_126 p3_allBits_138 p3_firstOrder_138 p3_isBeaten_138 p3_isStudy_138 p3_isTest_138 p3_least_138 p3_nodes_138 p3_order_138 p3_seen_138 p3_stillEdges_138 p3_symmetries_138 p3_sketch_colours_138 p3_sketch_darks_138 p3_sketch_nodes_138 p3_sketch_fans_138 p3_sketch_near_138 t_total_147 t_codes_147 t_firsts h)
              have k162 : ∀ (x4 : Int32) (x5 : Int32) (p2_colours : Int64) (p2_darks : Int32) (p2_nodes : Int32) (p2_fans : Nat → Int64) (p2_near : Nat → Int32) (p3_allBits : Int32) (p3_firstOrder : Int64) (p3_isBeaten : Int32) (p3_isStudy : Int32) (p3_isTest : Int32) (p3_least : Int32) (p3_nodes : Int32) (p3_order : Int64) (p3_seen : Int64) (p3_stillEdges : Int32) (p3_symmetries : Int32) (p3_sketch_colours : Int64) (p3_sketch_darks : Int32) (p3_sketch_nodes : Int32) (p3_sketch_fans : Nat → Int64) (p3_sketch_near : Nat → Int32) (t_total : Int32) (t_codes : Nat → Int32) (t_firsts : Nat → Int32), F_X3_fill_162 p1_bannedCircles p1_hasDark p1_most p1_patterns p1_size p1_unlike p1_patternCodes p1_patternNodes post (F_X3_fill_44 p1_bannedCircles p1_hasDark p1_most p1_patterns p1_size p1_unlike p1_patternCodes p1_patternNodes post n44) x4 x5 p2_colours p2_darks p2_nodes p2_fans p2_near p3_allBits p3_firstOrder p3_isBeaten p3_isStudy p3_isTest p3_least p3_nodes p3_order p3_seen p3_stillEdges p3_symmetries p3_sketch_colours p3_sketch_darks p3_sketch_nodes p3_sketch_fans p3_sketch_near t_total t_codes t_firsts → G 0 0 162 [(0, .ref h_t), (1, .ref h_p1), (2, .ref h_p2), (3, .ref h_p3), (4, .int x4), (5, .int x5)] [] [(h_p1, .inr (5, [.int p1_size, .int p1_hasDark, .int p1_words, .int p1_ruleLines, .int p1_endLines, .int p1_most, .int p1_bannedCircles, .int p1_unlike, .int p1_patterns, .ref h_p1_patternNodes, .ref h_p1_patternCodes, .int p1_endsJoined, .int p1_fewestEdges, .int p1_mostEdges, .int p1_least])), (h_p1_patternCodes, aI T 2 p1_patternCodes), (h_p1_patternNodes, aI T 2 p1_patternNodes), (h_p2, .inr (6, [.ref h_p2_near, .ref h_p2_fans, .int p2_nodes, .int p2_darks, .long p2_colours])), (h_p2_fans, aJ T 6 p2_fans), (h_p2_near, aI T 6 p2_near), (h_p3, .inr (1, [.ref h_p3_sketch, .int p3_nodes, .int p3_allBits, .int p3_isTest, .int p3_isBeaten, .int p3_isStudy, .long p3_order, .int p3_least, .int p3_symmetries, .long p3_firstOrder, .long p3_seen, .int p3_stillEdges])), (h_p3_sketch, .inr (6, [.ref h_p3_sketch_near, .ref h_p3_sketch_fans, .int p3_sketch_nodes, .int p3_sketch_darks, .long p3_sketch_colours])), (h_p3_sketch_fans, aJ T 6 p3_sketch_fans), (h_p3_sketch_near, aI T 6 p3_sketch_near), (h_t, .inr (2, [.ref h_t_codes, .ref h_t_firsts, .int t_total])), (h_t_codes, aI T 662 t_codes), (h_t_firsts, aI T 8 t_firsts)] := by
                intro x4 x5 p2_colours p2_darks p2_nodes p2_fans p2_near p3_allBits p3_firstOrder p3_isBeaten p3_isStudy p3_isTest p3_least p3_nodes p3_order p3_seen p3_stillEdges p3_symmetries p3_sketch_colours p3_sketch_darks p3_sketch_nodes p3_sketch_fans p3_sketch_near t_total t_codes t_firsts h
                unfold F_X3_fill_162 at h
                refine x_aload_n X dX3_fill_162 0 rfl ?_
                refine x_iload X dX3_fill_163 5 rfl ?_
                refine x_iconst (v := 1) X dX3_fill_165 (by decide) ?_
                refine x_iadd X dX3_fill_166 ?_
                refine x_callVV (av := [.int (x5 + (1 : Int32))]) (st := []) (wr := [(h_p1, .inr (5, [.int p1_size, .int p1_hasDark, .int p1_words, .int p1_ruleLines, .int p1_endLines, .int p1_most, .int p1_bannedCircles, .int p1_unlike, .int p1_patterns, .ref h_p1_patternNodes, .ref h_p1_patternCodes, .int p1_endsJoined, .int p1_fewestEdges, .int p1_mostEdges, .int p1_least])), (h_p1_patternCodes, aI T 2 p1_patternCodes), (h_p1_patternNodes, aI T 2 p1_patternNodes), (h_p2, .inr (6, [.ref h_p2_near, .ref h_p2_fans, .int p2_nodes, .int p2_darks, .long p2_colours])), (h_p2_fans, aJ T 6 p2_fans), (h_p2_near, aI T 6 p2_near), (h_p3, .inr (1, [.ref h_p3_sketch, .int p3_nodes, .int p3_allBits, .int p3_isTest, .int p3_isBeaten, .int p3_isStudy, .long p3_order, .int p3_least, .int p3_symmetries, .long p3_firstOrder, .long p3_seen, .int p3_stillEdges])), (h_p3_sketch, .inr (6, [.ref h_p3_sketch_near, .ref h_p3_sketch_fans, .int p3_sketch_nodes, .int p3_sketch_darks, .long p3_sketch_colours])), (h_p3_sketch_fans, aJ T 6 p3_sketch_fans), (h_p3_sketch_near, aI T 6 p3_sketch_near), (h_t_codes, aI T 662 t_codes)]) X (c_X3_setFirst l D T h_t h_t_codes h_t_firsts t_total t_firsts (x5 + (1 : Int32)) _ h) yk_X3_setFirst tw_324 dX3_fill_167 10 rfl rfl [10, 12] [0, 1, 2, 3, 4, 5, 6, 7, 8, 9, 11] rfl rfl rfl rfl (by decide) rfl rfl (Nat.le_of_ble_eq_true rfl) (Nat.le_of_ble_eq_true rfl) (Nat.le_of_ble_eq_true rfl) (Nat.zero_le _) (Nat.zero_le _) (fun w1 hw => ?_)
                obtain ⟨t_firsts_167, rfl, h⟩ := hw
                refine x_perm (ws2 := [(h_p1, .inr (5, [.int p1_size, .int p1_hasDark, .int p1_words, .int p1_ruleLines, .int p1_endLines, .int p1_most, .int p1_bannedCircles, .int p1_unlike, .int p1_patterns, .ref h_p1_patternNodes, .ref h_p1_patternCodes, .int p1_endsJoined, .int p1_fewestEdges, .int p1_mostEdges, .int p1_least])), (h_p1_patternCodes, aI T 2 p1_patternCodes), (h_p1_patternNodes, aI T 2 p1_patternNodes), (h_p2, .inr (6, [.ref h_p2_near, .ref h_p2_fans, .int p2_nodes, .int p2_darks, .long p2_colours])), (h_p2_fans, aJ T 6 p2_fans), (h_p2_near, aI T 6 p2_near), (h_p3, .inr (1, [.ref h_p3_sketch, .int p3_nodes, .int p3_allBits, .int p3_isTest, .int p3_isBeaten, .int p3_isStudy, .long p3_order, .int p3_least, .int p3_symmetries, .long p3_firstOrder, .long p3_seen, .int p3_stillEdges])), (h_p3_sketch, .inr (6, [.ref h_p3_sketch_near, .ref h_p3_sketch_fans, .int p3_sketch_nodes, .int p3_sketch_darks, .long p3_sketch_colours])), (h_p3_sketch_fans, aJ T 6 p3_sketch_fans), (h_p3_sketch_near, aI T 6 p3_sketch_near), (h_t, .inr (2, [.ref h_t_codes, .ref h_t_firsts, .int t_total])), (h_t_codes, aI T 662 t_codes), (h_t_firsts, aI T 8 t_firsts_167)]) X [0, 1, 2, 3, 4, 5, 6, 7, 8, 9, 11, 10, 12] rfl rfl ?_
                refine x_iinc (v := (x5 + 1)) (lv' := [(5, .int (x5 + 1)), (0, .ref h_t), (1, .ref h_p1), (2, .ref h_p2), (3, .ref h_p3), (4, .int x4)]) X dX3_fill_170 5 rfl rfl (by decide) rfl ?_
                refine x_goto (tgt := 44) X dX3_fill_173 (by decide) ?_
                exact x_sub X [1, 2, 3, 4, 5, 0] rfl (ih44 x4 (x5 + 1) p2_colours p2_darks p2_nodes p2_fans p2_near p3_allBits p3_firstOrder p3_isBeaten p3_isStudy p3_isTest p3_least p3_nodes p3_order p3_seen p3_stillEdges p3_symmetries p3_sketch_colours p3_sketch_darks p3_sketch_nodes p3_sketch_fans p3_sketch_near t_total t_codes t_firsts_167 h)
              refine x_iload X dX3_fill_54 6 rfl ?_
              refine x_aload_n X dX3_fill_56 0 rfl ?_
              refine x_iload X dX3_fill_57 5 rfl ?_
              refine x_iconst (v := 1) X dX3_fill_59 (by decide) ?_
              refine x_isub X dX3_fill_60 ?_
              refine x_callVI (av := [.int (x5 - (1 : Int32))]) (st := [.int x6]) (wr := [(h_p1, .inr (5, [.int p1_size, .int p1_hasDark, .int p1_words, .int p1_ruleLines, .int p1_endLines, .int p1_most, .int p1_bannedCircles, .int p1_unlike, .int p1_patterns, .ref h_p1_patternNodes, .ref h_p1_patternCodes, .int p1_endsJoined, .int p1_fewestEdges, .int p1_mostEdges, .int p1_least])), (h_p1_patternCodes, aI T 2 p1_patternCodes), (h_p1_patternNodes, aI T 2 p1_patternNodes), (h_p2, .inr (6, [.ref h_p2_near, .ref h_p2_fans, .int p2_nodes, .int p2_darks, .long p2_colours])), (h_p2_fans, aJ T 6 p2_fans), (h_p2_near, aI T 6 p2_near), (h_p3, .inr (1, [.ref h_p3_sketch, .int p3_nodes, .int p3_allBits, .int p3_isTest, .int p3_isBeaten, .int p3_isStudy, .long p3_order, .int p3_least, .int p3_symmetries, .long p3_firstOrder, .long p3_seen, .int p3_stillEdges])), (h_p3_sketch, .inr (6, [.ref h_p3_sketch_near, .ref h_p3_sketch_fans, .int p3_sketch_nodes, .int p3_sketch_darks, .long p3_sketch_colours])), (h_p3_sketch_fans, aJ T 6 p3_sketch_fans), (h_p3_sketch_near, aI T 6 p3_sketch_near), (h_t_codes, aI T 662 t_codes)]) X (c_X3_amount l D T h_t h_t_codes h_t_firsts t_total t_firsts (x5 - (1 : Int32)) _ h) yk_X3_amount tw_328 dX3_fill_61 10 rfl rfl [10, 12] [0, 1, 2, 3, 4, 5, 6, 7, 8, 9, 11] rfl rfl rfl rfl (by decide) rfl rfl (Nat.le_of_ble_eq_true rfl) (Nat.le_of_ble_eq_true rfl) (Nat.le_of_ble_eq_true rfl) (Nat.zero_le _) (Nat.zero_le _) (fun r61 w1 hw => ?_)
              obtain ⟨rfl, h⟩ := hw
              refine x_perm (ws2 := [(h_p1, .inr (5, [.int p1_size, .int p1_hasDark, .int p1_words, .int p1_ruleLines, .int p1_endLines, .int p1_most, .int p1_bannedCircles, .int p1_unlike, .int p1_patterns, .ref h_p1_patternNodes, .ref h_p1_patternCodes, .int p1_endsJoined, .int p1_fewestEdges, .int p1_mostEdges, .int p1_least])), (h_p1_patternCodes, aI T 2 p1_patternCodes), (h_p1_patternNodes, aI T 2 p1_patternNodes), (h_p2, .inr (6, [.ref h_p2_near, .ref h_p2_fans, .int p2_nodes, .int p2_darks, .long p2_colours])), (h_p2_fans, aJ T 6 p2_fans), (h_p2_near, aI T 6 p2_near), (h_p3, .inr (1, [.ref h_p3_sketch, .int p3_nodes, .int p3_allBits, .int p3_isTest, .int p3_isBeaten, .int p3_isStudy, .long p3_order, .int p3_least, .int p3_symmetries, .long p3_firstOrder, .long p3_seen, .int p3_stillEdges])), (h_p3_sketch, .inr (6, [.ref h_p3_sketch_near, .ref h_p3_sketch_fans, .int p3_sketch_nodes, .int p3_sketch_darks, .long p3_sketch_colours])), (h_p3_sketch_fans, aJ T 6 p3_sketch_fans), (h_p3_sketch_near, aI T 6 p3_sketch_near), (h_t, .inr (2, [.ref h_t_codes, .ref h_t_firsts, .int t_total])), (h_t_codes, aI T 662 t_codes), (h_t_firsts, aI T 8 t_firsts)]) X [0, 1, 2, 3, 4, 5, 6, 7, 8, 9, 11, 10, 12] rfl rfl ?_
              refine x_icmp_ge (tgt := 162) X dX3_fill_64 (by decide) (fun hc => ?_) (fun hc => ?_)
              · have h := h.1 hc
                exact x_sub X [0, 1, 2, 3, 4, 5] rfl (k162 x4 x5 p2_colours p2_darks p2_nodes p2_fans p2_near p3_allBits p3_firstOrder p3_isBeaten p3_isStudy p3_isTest p3_least p3_nodes p3_order p3_seen p3_stillEdges p3_symmetries p3_sketch_colours p3_sketch_darks p3_sketch_nodes p3_sketch_fans p3_sketch_near t_total t_codes t_firsts h)
              · have h := h.2 hc
                refine x_iload X dX3_fill_67 5 rfl ?_
                refine x_aload_n X dX3_fill_69 1 rfl ?_
                refine x_getN X inGX6 0 (by decide) rfl tw_74 dX3_fill_70 rfl 0 rfl rfl ?_
                refine x_icmp_gt (tgt := 162) X dX3_fill_73 (by decide) (fun hc => ?_) (fun hc => ?_)
                · have h := h.1 hc
                  exact x_sub X [0, 1, 2, 3, 4, 5] rfl (k162 x4 x5 p2_colours p2_darks p2_nodes p2_fans p2_near p3_allBits p3_firstOrder p3_isBeaten p3_isStudy p3_isTest p3_least p3_nodes p3_order p3_seen p3_stillEdges p3_symmetries p3_sketch_colours p3_sketch_darks p3_sketch_nodes p3_sketch_fans p3_sketch_near t_total t_codes t_firsts h)
                · have h := h.2 hc
                  refine x_iconst (v := 0) X dX3_fill_76 (by decide) ?_
                  refine x_istore (lv' := [(7, .int (0 : Int32)), (0, .ref h_t), (1, .ref h_p1), (2, .ref h_p2), (3, .ref h_p3), (4, .int x4), (5, .int x5), (6, .int x6)]) X dX3_fill_77 (by decide) rfl ?_
                  obtain ⟨n79, h⟩ := h
                  exact x_sub X [1, 2, 3, 4, 5, 6, 7, 0] rfl (k79 n79 x4 x5 x6 (0 : Int32) p2_colours p2_darks p2_nodes p2_fans p2_near p3_allBits p3_firstOrder p3_isBeaten p3_isStudy p3_isTest p3_least p3_nodes p3_order p3_seen p3_stillEdges p3_symmetries p3_sketch_colours p3_sketch_darks p3_sketch_nodes p3_sketch_fans p3_sketch_near t_total t_codes t_firsts h)
          refine x_iload X dX3_fill_44 5 rfl ?_
          refine x_bipush (v := 6) X dX3_fill_46 (by decide) ?_
          refine x_icmp_gt (tgt := 176) X dX3_fill_48 (by decide) (fun hc => ?_) (fun hc => ?_)
          · have h := h.1 hc
            exact hret _ _ _ dX3_fill_176 ⟨p2_colours, p2_darks, p2_nodes, p2_fans, p2_near, p3_allBits, p3_firstOrder, p3_isBeaten, p3_isStudy, p3_isTest, p3_least, p3_nodes, p3_order, p3_seen, p3_stillEdges, p3_symmetries, p3_sketch_colours, p3_sketch_darks, p3_sketch_nodes, p3_sketch_fans, p3_sketch_near, t_total, t_codes, t_firsts, rfl, h⟩
          · have h := h.2 hc
            refine x_iconst (v := 0) X dX3_fill_51 (by decide) ?_
            refine x_istore (lv' := [(6, .int (0 : Int32)), (0, .ref h_t), (1, .ref h_p1), (2, .ref h_p2), (3, .ref h_p3), (4, .int x4), (5, .int x5)]) X dX3_fill_52 (by decide) rfl ?_
            obtain ⟨n54, h⟩ := h
            exact x_sub X [1, 2, 3, 4, 5, 6, 0] rfl (k54 n54 x4 x5 (0 : Int32) p2_colours p2_darks p2_nodes p2_fans p2_near p3_allBits p3_firstOrder p3_isBeaten p3_isStudy p3_isTest p3_least p3_nodes p3_order p3_seen p3_stillEdges p3_symmetries p3_sketch_colours p3_sketch_darks p3_sketch_nodes p3_sketch_fans p3_sketch_near t_total t_codes t_firsts h)
      refine x_istore (lv' := [(4, .int s0), (0, .ref h_t), (1, .ref h_p1), (2, .ref h_p2), (3, .ref h_p3)]) X dX3_fill_39 (by decide) rfl ?_
      refine x_iconst (v := 2) X dX3_fill_41 (by decide) ?_
      refine x_istore (lv' := [(5, .int (2 : Int32)), (4, .int s0), (0, .ref h_t), (1, .ref h_p1), (2, .ref h_p2), (3, .ref h_p3)]) X dX3_fill_42 (by decide) rfl ?_
      obtain ⟨n44, h⟩ := h
      exact x_sub X [2, 3, 4, 5, 1, 0] rfl (k44 n44 s0 (2 : Int32) p2_colours p2_darks p2_nodes p2_fans p2_near p3_allBits p3_firstOrder p3_isBeaten p3_isStudy p3_isTest p3_least p3_nodes p3_order p3_seen p3_stillEdges p3_symmetries p3_sketch_colours p3_sketch_darks p3_sketch_nodes p3_sketch_fans p3_sketch_near t_total t_codes t_firsts h)
    refine x_aload_n X dX3_fill_22 0 rfl ?_
    refine x_iconst (v := 2) X dX3_fill_23 (by decide) ?_
    refine x_callVV (av := [.int (2 : Int32)]) (st := []) (wr := [(h_p1, .inr (5, [.int p1_size, .int p1_hasDark, .int p1_words, .int p1_ruleLines, .int p1_endLines, .int p1_most, .int p1_bannedCircles, .int p1_unlike, .int p1_patterns, .ref h_p1_patternNodes, .ref h_p1_patternCodes, .int p1_endsJoined, .int p1_fewestEdges, .int p1_mostEdges, .int p1_least])), (h_p1_patternCodes, aI T 2 p1_patternCodes), (h_p1_patternNodes, aI T 2 p1_patternNodes), (h_p2, .inr (6, [.ref h_p2_near, .ref h_p2_fans, .int p2_nodes, .int p2_darks, .long p2_colours])), (h_p2_fans, aJ T 6 p2_fans), (h_p2_near, aI T 6 p2_near), (h_p3, .inr (1, [.ref h_p3_sketch, .int p3_nodes, .int p3_allBits, .int p3_isTest, .int p3_isBeaten, .int p3_isStudy, .long p3_order, .int p3_least, .int p3_symmetries, .long p3_firstOrder, .long p3_seen, .int p3_stillEdges])), (h_p3_sketch, .inr (6, [.ref h_p3_sketch_near, .ref h_p3_sketch_fans, .int p3_sketch_nodes, .int p3_sketch_darks, .long p3_sketch_colours])), (h_p3_sketch_fans, aJ T 6 p3_sketch_fans), (h_p3_sketch_near, aI T 6 p3_sketch_near), (h_t_codes, aI T 662 t_codes)]) X (c_X3_setFirst l D T h_t h_t_codes h_t_firsts t_total t_firsts (2 : Int32) _ h) yk_X3_setFirst tw_324 dX3_fill_24 10 rfl rfl [10, 12] [0, 1, 2, 3, 4, 5, 6, 7, 8, 9, 11] rfl rfl rfl rfl (by decide) rfl rfl (Nat.le_of_ble_eq_true rfl) (Nat.le_of_ble_eq_true rfl) (Nat.le_of_ble_eq_true rfl) (Nat.zero_le _) (Nat.zero_le _) (fun w1 hw => ?_)
    obtain ⟨t_firsts_24, rfl, h⟩ := hw
    refine x_perm (ws2 := [(h_p1, .inr (5, [.int p1_size, .int p1_hasDark, .int p1_words, .int p1_ruleLines, .int p1_endLines, .int p1_most, .int p1_bannedCircles, .int p1_unlike, .int p1_patterns, .ref h_p1_patternNodes, .ref h_p1_patternCodes, .int p1_endsJoined, .int p1_fewestEdges, .int p1_mostEdges, .int p1_least])), (h_p1_patternCodes, aI T 2 p1_patternCodes), (h_p1_patternNodes, aI T 2 p1_patternNodes), (h_p2, .inr (6, [.ref h_p2_near, .ref h_p2_fans, .int p2_nodes, .int p2_darks, .long p2_colours])), (h_p2_fans, aJ T 6 p2_fans), (h_p2_near, aI T 6 p2_near), (h_p3, .inr (1, [.ref h_p3_sketch, .int p3_nodes, .int p3_allBits, .int p3_isTest, .int p3_isBeaten, .int p3_isStudy, .long p3_order, .int p3_least, .int p3_symmetries, .long p3_firstOrder, .long p3_seen, .int p3_stillEdges])), (h_p3_sketch, .inr (6, [.ref h_p3_sketch_near, .ref h_p3_sketch_fans, .int p3_sketch_nodes, .int p3_sketch_darks, .long p3_sketch_colours])), (h_p3_sketch_fans, aJ T 6 p3_sketch_fans), (h_p3_sketch_near, aI T 6 p3_sketch_near), (h_t, .inr (2, [.ref h_t_codes, .ref h_t_firsts, .int t_total])), (h_t_codes, aI T 662 t_codes), (h_t_firsts, aI T 8 t_firsts_24)]) X [0, 1, 2, 3, 4, 5, 6, 7, 8, 9, 11, 10, 12] rfl rfl ?_
    refine x_aload_n X dX3_fill_27 1 rfl ?_
    refine x_getN X inGX6 1 (by decide) rfl tw_78 dX3_fill_28 rfl 0 rfl rfl ?_
    refine x_if_eq (tgt := 38) X dX3_fill_31 (by decide) (fun hc => ?_) (fun hc => ?_)
    · have h := h.1 hc
      refine x_iconst (v := 1) X dX3_fill_38 (by decide) ?_
      exact x_sub X [0, 1, 2, 3] rfl (k39 (1 : Int32) p2_colours p2_darks p2_nodes p2_fans p2_near p3_allBits p3_firstOrder p3_isBeaten p3_isStudy p3_isTest p3_least p3_nodes p3_order p3_seen p3_stillEdges p3_symmetries p3_sketch_colours p3_sketch_darks p3_sketch_nodes p3_sketch_fans p3_sketch_near t_total t_codes t_firsts_24 h)
    · have h := h.2 hc
      refine x_iconst (v := 2) X dX3_fill_34 (by decide) ?_
      refine x_goto (tgt := 39) X dX3_fill_35 (by decide) ?_
      exact x_sub X [0, 1, 2, 3] rfl (k39 (2 : Int32) p2_colours p2_darks p2_nodes p2_fans p2_near p3_allBits p3_firstOrder p3_isBeaten p3_isStudy p3_isTest p3_least p3_nodes p3_order p3_seen p3_stillEdges p3_symmetries p3_sketch_colours p3_sketch_darks p3_sketch_nodes p3_sketch_fans p3_sketch_near t_total t_codes t_firsts_24 h)
  refine x_aload_n X dX3_fill_0 0 rfl ?_
  refine x_iconst (v := 0) X dX3_fill_1 (by decide) ?_
  refine x_put (ws' := [(h_p1, .inr (5, [.int p1_size, .int p1_hasDark, .int p1_words, .int p1_ruleLines, .int p1_endLines, .int p1_most, .int p1_bannedCircles, .int p1_unlike, .int p1_patterns, .ref h_p1_patternNodes, .ref h_p1_patternCodes, .int p1_endsJoined, .int p1_fewestEdges, .int p1_mostEdges, .int p1_least])), (h_p1_patternCodes, aI T 2 p1_patternCodes), (h_p1_patternNodes, aI T 2 p1_patternNodes), (h_p2, .inr (6, [.ref h_p2_near, .ref h_p2_fans, .int p2_nodes, .int p2_darks, .long p2_colours])), (h_p2_fans, aJ T 6 p2_fans), (h_p2_near, aI T 6 p2_near), (h_p3, .inr (1, [.ref h_p3_sketch, .int p3_nodes, .int p3_allBits, .int p3_isTest, .int p3_isBeaten, .int p3_isStudy, .long p3_order, .int p3_least, .int p3_symmetries, .long p3_firstOrder, .long p3_seen, .int p3_stillEdges])), (h_p3_sketch, .inr (6, [.ref h_p3_sketch_near, .ref h_p3_sketch_fans, .int p3_sketch_nodes, .int p3_sketch_darks, .long p3_sketch_colours])), (h_p3_sketch_fans, aJ T 6 p3_sketch_fans), (h_p3_sketch_near, aI T 6 p3_sketch_near), (h_t, .inr (2, [.ref h_t_codes, .ref h_t_firsts, .int (0 : Int32)])), (h_t_codes, aI T 662 t_codes), (h_t_firsts, aI T 8 t_firsts)]) X inGX3 tyX3_ok nmX3 2 (by decide) rfl tw_143 dX3_fill_2 rfl rfl 10 rfl rfl rfl (Nat.le_of_ble_eq_true rfl) rfl ?_
  refine x_aload_n X dX3_fill_5 0 rfl ?_
  refine x_iconst (v := 0) X dX3_fill_6 (by decide) ?_
  refine x_callVV (av := [.int (0 : Int32)]) (st := []) (wr := [(h_p1, .inr (5, [.int p1_size, .int p1_hasDark, .int p1_words, .int p1_ruleLines, .int p1_endLines, .int p1_most, .int p1_bannedCircles, .int p1_unlike, .int p1_patterns, .ref h_p1_patternNodes, .ref h_p1_patternCodes, .int p1_endsJoined, .int p1_fewestEdges, .int p1_mostEdges, .int p1_least])), (h_p1_patternCodes, aI T 2 p1_patternCodes), (h_p1_patternNodes, aI T 2 p1_patternNodes), (h_p2, .inr (6, [.ref h_p2_near, .ref h_p2_fans, .int p2_nodes, .int p2_darks, .long p2_colours])), (h_p2_fans, aJ T 6 p2_fans), (h_p2_near, aI T 6 p2_near), (h_p3, .inr (1, [.ref h_p3_sketch, .int p3_nodes, .int p3_allBits, .int p3_isTest, .int p3_isBeaten, .int p3_isStudy, .long p3_order, .int p3_least, .int p3_symmetries, .long p3_firstOrder, .long p3_seen, .int p3_stillEdges])), (h_p3_sketch, .inr (6, [.ref h_p3_sketch_near, .ref h_p3_sketch_fans, .int p3_sketch_nodes, .int p3_sketch_darks, .long p3_sketch_colours])), (h_p3_sketch_fans, aJ T 6 p3_sketch_fans), (h_p3_sketch_near, aI T 6 p3_sketch_near), (h_t_firsts, aI T 8 t_firsts)]) X (c_X3_add l D T h_t h_t_codes h_t_firsts (0 : Int32) t_codes (0 : Int32) _ h) yk_X3_add tw_320 dX3_fill_7 10 rfl rfl [10, 11] [0, 1, 2, 3, 4, 5, 6, 7, 8, 9, 12] rfl rfl rfl rfl (by decide) rfl rfl (Nat.le_of_ble_eq_true rfl) (Nat.le_of_ble_eq_true rfl) (Nat.le_of_ble_eq_true rfl) (Nat.zero_le _) (Nat.zero_le _) (fun w1 hw => ?_)
  obtain ⟨t_total_7, t_codes_7, rfl, h⟩ := hw
  refine x_perm (ws2 := [(h_p1, .inr (5, [.int p1_size, .int p1_hasDark, .int p1_words, .int p1_ruleLines, .int p1_endLines, .int p1_most, .int p1_bannedCircles, .int p1_unlike, .int p1_patterns, .ref h_p1_patternNodes, .ref h_p1_patternCodes, .int p1_endsJoined, .int p1_fewestEdges, .int p1_mostEdges, .int p1_least])), (h_p1_patternCodes, aI T 2 p1_patternCodes), (h_p1_patternNodes, aI T 2 p1_patternNodes), (h_p2, .inr (6, [.ref h_p2_near, .ref h_p2_fans, .int p2_nodes, .int p2_darks, .long p2_colours])), (h_p2_fans, aJ T 6 p2_fans), (h_p2_near, aI T 6 p2_near), (h_p3, .inr (1, [.ref h_p3_sketch, .int p3_nodes, .int p3_allBits, .int p3_isTest, .int p3_isBeaten, .int p3_isStudy, .long p3_order, .int p3_least, .int p3_symmetries, .long p3_firstOrder, .long p3_seen, .int p3_stillEdges])), (h_p3_sketch, .inr (6, [.ref h_p3_sketch_near, .ref h_p3_sketch_fans, .int p3_sketch_nodes, .int p3_sketch_darks, .long p3_sketch_colours])), (h_p3_sketch_fans, aJ T 6 p3_sketch_fans), (h_p3_sketch_near, aI T 6 p3_sketch_near), (h_t, .inr (2, [.ref h_t_codes, .ref h_t_firsts, .int t_total_7])), (h_t_codes, aI T 662 t_codes_7), (h_t_firsts, aI T 8 t_firsts)]) X [0, 1, 2, 3, 4, 5, 6, 7, 8, 9, 11, 12, 10] rfl rfl ?_
  refine x_aload_n X dX3_fill_10 1 rfl ?_
  refine x_getN X inGX6 1 (by decide) rfl tw_78 dX3_fill_11 rfl 0 rfl rfl ?_
  refine x_if_eq (tgt := 22) X dX3_fill_14 (by decide) (fun hc => ?_) (fun hc => ?_)
  · have h := h.1 hc
    exact x_sub X [0, 1, 2, 3] rfl (k22 p2_colours p2_darks p2_nodes p2_fans p2_near p3_allBits p3_firstOrder p3_isBeaten p3_isStudy p3_isTest p3_least p3_nodes p3_order p3_seen p3_stillEdges p3_symmetries p3_sketch_colours p3_sketch_darks p3_sketch_nodes p3_sketch_fans p3_sketch_near t_total_7 t_codes_7 t_firsts h)
  · have h := h.2 hc
    refine x_aload_n X dX3_fill_17 0 rfl ?_
    refine x_iconst (v := 1) X dX3_fill_18 (by decide) ?_
    refine x_callVV (av := [.int (1 : Int32)]) (st := []) (wr := [(h_p1, .inr (5, [.int p1_size, .int p1_hasDark, .int p1_words, .int p1_ruleLines, .int p1_endLines, .int p1_most, .int p1_bannedCircles, .int p1_unlike, .int p1_patterns, .ref h_p1_patternNodes, .ref h_p1_patternCodes, .int p1_endsJoined, .int p1_fewestEdges, .int p1_mostEdges, .int p1_least])), (h_p1_patternCodes, aI T 2 p1_patternCodes), (h_p1_patternNodes, aI T 2 p1_patternNodes), (h_p2, .inr (6, [.ref h_p2_near, .ref h_p2_fans, .int p2_nodes, .int p2_darks, .long p2_colours])), (h_p2_fans, aJ T 6 p2_fans), (h_p2_near, aI T 6 p2_near), (h_p3, .inr (1, [.ref h_p3_sketch, .int p3_nodes, .int p3_allBits, .int p3_isTest, .int p3_isBeaten, .int p3_isStudy, .long p3_order, .int p3_least, .int p3_symmetries, .long p3_firstOrder, .long p3_seen, .int p3_stillEdges])), (h_p3_sketch, .inr (6, [.ref h_p3_sketch_near, .ref h_p3_sketch_fans, .int p3_sketch_nodes, .int p3_sketch_darks, .long p3_sketch_colours])), (h_p3_sketch_fans, aJ T 6 p3_sketch_fans), (h_p3_sketch_near, aI T 6 p3_sketch_near), (h_t_firsts, aI T 8 t_firsts)]) X (c_X3_add l D T h_t h_t_codes h_t_firsts t_total_7 t_codes_7 (1 : Int32) _ h) yk_X3_add tw_320 dX3_fill_19 10 rfl rfl [10, 11] [0, 1, 2, 3, 4, 5, 6, 7, 8, 9, 12] rfl rfl rfl rfl (by decide) rfl rfl (Nat.le_of_ble_eq_true rfl) (Nat.le_of_ble_eq_true rfl) (Nat.le_of_ble_eq_true rfl) (Nat.zero_le _) (Nat.zero_le _) (fun w1 hw => ?_)
    obtain ⟨t_total_19, t_codes_19, rfl, h⟩ := hw
    refine x_perm (ws2 := [(h_p1, .inr (5, [.int p1_size, .int p1_hasDark, .int p1_words, .int p1_ruleLines, .int p1_endLines, .int p1_most, .int p1_bannedCircles, .int p1_unlike, .int p1_patterns, .ref h_p1_patternNodes, .ref h_p1_patternCodes, .int p1_endsJoined, .int p1_fewestEdges, .int p1_mostEdges, .int p1_least])), (h_p1_patternCodes, aI T 2 p1_patternCodes), (h_p1_patternNodes, aI T 2 p1_patternNodes), (h_p2, .inr (6, [.ref h_p2_near, .ref h_p2_fans, .int p2_nodes, .int p2_darks, .long p2_colours])), (h_p2_fans, aJ T 6 p2_fans), (h_p2_near, aI T 6 p2_near), (h_p3, .inr (1, [.ref h_p3_sketch, .int p3_nodes, .int p3_allBits, .int p3_isTest, .int p3_isBeaten, .int p3_isStudy, .long p3_order, .int p3_least, .int p3_symmetries, .long p3_firstOrder, .long p3_seen, .int p3_stillEdges])), (h_p3_sketch, .inr (6, [.ref h_p3_sketch_near, .ref h_p3_sketch_fans, .int p3_sketch_nodes, .int p3_sketch_darks, .long p3_sketch_colours])), (h_p3_sketch_fans, aJ T 6 p3_sketch_fans), (h_p3_sketch_near, aI T 6 p3_sketch_near), (h_t, .inr (2, [.ref h_t_codes, .ref h_t_firsts, .int t_total_19])), (h_t_codes, aI T 662 t_codes_19), (h_t_firsts, aI T 8 t_firsts)]) X [0, 1, 2, 3, 4, 5, 6, 7, 8, 9, 11, 12, 10] rfl rfl ?_
    exact x_sub X [0, 1, 2, 3] rfl (k22 p2_colours p2_darks p2_nodes p2_fans p2_near p3_allBits p3_firstOrder p3_isBeaten p3_isStudy p3_isTest p3_least p3_nodes p3_order p3_seen p3_stillEdges p3_symmetries p3_sketch_colours p3_sketch_darks p3_sketch_nodes p3_sketch_fans p3_sketch_near t_total_19 t_codes_19 t_firsts h)
theorem dX3_ahead_0 : decode cX3_ahead 0 = .ok (.iconst 0, 1) := by decide +kernel
theorem dX3_ahead_1 : decode cX3_ahead 1 = .ok (.istore_n 3, 1) := by decide +kernel
theorem dX3_ahead_2 : decode cX3_ahead 2 = .ok (.aload_n 0, 1) := by decide +kernel
theorem dX3_ahead_3 : decode cX3_ahead 3 = .ok (.iload_n 1, 1) := by decide +kernel
theorem dX3_ahead_4 : decode cX3_ahead 4 = .ok (.invokevirtual 41, 3) := by decide +kernel
theorem dX3_ahead_7 : decode cX3_ahead 7 = .ok (.istore 4, 2) := by decide +kernel
theorem dX3_ahead_9 : decode cX3_ahead 9 = .ok (.iconst 0, 1) := by decide +kernel
theorem dX3_ahead_10 : decode cX3_ahead 10 = .ok (.istore 5, 2) := by decide +kernel
theorem dX3_ahead_12 : decode cX3_ahead 12 = .ok (.iload 5, 2) := by decide +kernel
theorem dX3_ahead_14 : decode cX3_ahead 14 = .ok (.bipush 32, 2) := by decide +kernel
theorem dX3_ahead_16 : decode cX3_ahead 16 = .ok (.if_icmp .ge 46, 3) := by decide +kernel
theorem dX3_ahead_19 : decode cX3_ahead 19 = .ok (.iload_n 3, 1) := by decide +kernel
theorem dX3_ahead_20 : decode cX3_ahead 20 = .ok (.iload 4, 2) := by decide +kernel
theorem dX3_ahead_22 : decode cX3_ahead 22 = .ok (.if_icmp .ge 40, 3) := by decide +kernel
theorem dX3_ahead_25 : decode cX3_ahead 25 = .ok (.iload_n 3, 1) := by decide +kernel
theorem dX3_ahead_26 : decode cX3_ahead 26 = .ok (.iload 4, 2) := by decide +kernel
theorem dX3_ahead_28 : decode cX3_ahead 28 = .ok (.iadd, 1) := by decide +kernel
theorem dX3_ahead_29 : decode cX3_ahead 29 = .ok (.iconst 2, 1) := by decide +kernel
theorem dX3_ahead_30 : decode cX3_ahead 30 = .ok (.idiv, 1) := by decide +kernel
theorem dX3_ahead_31 : decode cX3_ahead 31 = .ok (.istore 6, 2) := by decide +kernel
theorem dX3_ahead_33 : decode cX3_ahead 33 = .ok (.aload_n 0, 1) := by decide +kernel
theorem dX3_ahead_34 : decode cX3_ahead 34 = .ok (.iload_n 1, 1) := by decide +kernel
theorem dX3_ahead_35 : decode cX3_ahead 35 = .ok (.iload 6, 2) := by decide +kernel
theorem dX3_ahead_37 : decode cX3_ahead 37 = .ok (.invokevirtual 48, 3) := by decide +kernel
theorem dX3_ahead_40 : decode cX3_ahead 40 = .ok (.iload_n 2, 1) := by decide +kernel
theorem dX3_ahead_41 : decode cX3_ahead 41 = .ok (.if_icmp .ge 11, 3) := by decide +kernel
theorem dX3_ahead_44 : decode cX3_ahead 44 = .ok (.iload 6, 2) := by decide +kernel
theorem dX3_ahead_46 : decode cX3_ahead 46 = .ok (.iconst 1, 1) := by decide +kernel
theorem dX3_ahead_47 : decode cX3_ahead 47 = .ok (.iadd, 1) := by decide +kernel
theorem dX3_ahead_48 : decode cX3_ahead 48 = .ok (.istore_n 3, 1) := by decide +kernel
theorem dX3_ahead_49 : decode cX3_ahead 49 = .ok (.goto 7, 3) := by decide +kernel
theorem dX3_ahead_52 : decode cX3_ahead 52 = .ok (.iload 6, 2) := by decide +kernel
theorem dX3_ahead_54 : decode cX3_ahead 54 = .ok (.istore 4, 2) := by decide +kernel
theorem dX3_ahead_56 : decode cX3_ahead 56 = .ok (.iinc 5 1, 3) := by decide +kernel
theorem dX3_ahead_59 : decode cX3_ahead 59 = .ok (.goto (-47), 3) := by decide +kernel
theorem dX3_ahead_62 : decode cX3_ahead 62 = .ok (.iload_n 3, 1) := by decide +kernel
theorem dX3_ahead_63 : decode cX3_ahead 63 = .ok (.ireturn, 1) := by decide +kernel
set_option maxHeartbeats 4000000 in
set_option maxRecDepth 100000 in
theorem c_X3_ahead (l : Launch) (D : eD) (T : Nat → ClassId) (h_t h_t_codes h_t_firsts : Nat) (t_total : Int32) (t_codes : Nat → Int32) (t_firsts : Nat → Int32) (p1 : Int32) (p2 : Int32) (post : Int32 → Prop) (h : F_X3_ahead t_total t_codes t_firsts p1 p2 post) : cI l D T yX3_ahead cX3_ahead 7 (some .int) 2 44 0 0 [.ref h_t, .int p1, .int p2] [(h_t, .inr (2, [.ref h_t_codes, .ref h_t_firsts, .int t_total])), (h_t_codes, aI T 662 t_codes), (h_t_firsts, aI T 8 t_firsts)] (fun r w1 => w1 = [(h_t, .inr (2, [.ref h_t_codes, .ref h_t_firsts, .int t_total])), (h_t_codes, aI T 662 t_codes), (h_t_firsts, aI T 8 t_firsts)] ∧ post r ) := by
  refine xI_of (ty := .int) (by decide +kernel) (Nat.le_of_ble_eq_true rfl) rfl ?_
  intro G X hret
  change G 0 0 0 [(0, .ref h_t), (1, .int p1), (2, .int p2)] [] [(h_t, .inr (2, [.ref h_t_codes, .ref h_t_firsts, .int t_total])), (h_t_codes, aI T 662 t_codes), (h_t_firsts, aI T 8 t_firsts)]
  unfold F_X3_ahead at h
  have k12 : ∀ (n12 : Nat) (x1 : Int32) (x2 : Int32) (x3 : Int32) (x4 : Int32) (x5 : Int32), F_X3_ahead_12 t_total t_codes t_firsts post n12 x1 x2 x3 x4 x5 → G 0 0 12 [(0, .ref h_t), (1, .int x1), (2, .int x2), (3, .int x3), (4, .int x4), (5, .int x5)] [] [(h_t, .inr (2, [.ref h_t_codes, .ref h_t_firsts, .int t_total])), (h_t_codes, aI T 662 t_codes), (h_t_firsts, aI T 8 t_firsts)] := by
    intro n12
    induction n12 with
    | zero => intro x1 x2 x3 x4 x5 h; exact h.elim
    | succ n12 ih12 =>
      intro x1 x2 x3 x4 x5 h
      rw [F_X3_ahead_12] at h
      have k56 : ∀ (x1 : Int32) (x2 : Int32) (x3 : Int32) (x4 : Int32) (x5 : Int32), F_X3_ahead_56 t_total t_codes t_firsts post (F_X3_ahead_12 t_total t_codes t_firsts post n12) x1 x2 x3 x4 x5 → G 0 0 56 [(0, .ref h_t), (1, .int x1), (2, .int x2), (3, .int x3), (4, .int x4), (5, .int x5)] [] [(h_t, .inr (2, [.ref h_t_codes, .ref h_t_firsts, .int t_total])), (h_t_codes, aI T 662 t_codes), (h_t_firsts, aI T 8 t_firsts)] := by
        intro x1 x2 x3 x4 x5 h
        unfold F_X3_ahead_56 at h
        refine x_iinc (v := (x5 + 1)) (lv' := [(5, .int (x5 + 1)), (0, .ref h_t), (1, .int x1), (2, .int x2), (3, .int x3), (4, .int x4)]) X dX3_ahead_56 5 rfl rfl (by decide) rfl ?_
        refine x_goto (tgt := 12) X dX3_ahead_59 (by decide) ?_
        exact x_sub X [1, 2, 3, 4, 5, 0] rfl (ih12 x1 x2 x3 x4 (x5 + 1) h)
      have k62 : ∀ (x3 : Int32), F_X3_ahead_62 t_total t_codes t_firsts post x3 → G 0 0 62 [(3, .int x3)] [] [(h_t, .inr (2, [.ref h_t_codes, .ref h_t_firsts, .int t_total])), (h_t_codes, aI T 662 t_codes), (h_t_firsts, aI T 8 t_firsts)] := by
        intro x3 h
        unfold F_X3_ahead_62 at h
        refine x_iload_n X dX3_ahead_62 0 rfl ?_
        exact hret _ _ _ _ dX3_ahead_63 rfl ⟨rfl, h⟩
      refine x_iload X dX3_ahead_12 5 rfl ?_
      refine x_bipush (v := 32) X dX3_ahead_14 (by decide) ?_
      refine x_icmp_ge (tgt := 62) X dX3_ahead_16 (by decide) (fun hc => ?_) (fun hc => ?_)
      · have h := h.1 hc
        exact x_sub X [3] rfl (k62 x3 h)
      · have h := h.2 hc
        refine x_iload_n X dX3_ahead_19 3 rfl ?_
        refine x_iload X dX3_ahead_20 4 rfl ?_
        refine x_icmp_ge (tgt := 62) X dX3_ahead_22 (by decide) (fun hc => ?_) (fun hc => ?_)
        · have h := h.1 hc
          exact x_sub X [3] rfl (k62 x3 h)
        · have h := h.2 hc
          refine x_iload_n X dX3_ahead_25 3 rfl ?_
          refine x_iload X dX3_ahead_26 4 rfl ?_
          refine x_iadd X dX3_ahead_28 ?_
          refine x_iconst (v := 2) X dX3_ahead_29 (by decide) ?_
          refine x_idiv X dX3_ahead_30 (by decide) ?_
          refine x_istore (lv' := [(6, .int ((x3 + x4) / (2 : Int32))), (0, .ref h_t), (1, .int x1), (2, .int x2), (3, .int x3), (4, .int x4), (5, .int x5)]) X dX3_ahead_31 (by decide) rfl ?_
          refine x_aload_n X dX3_ahead_33 1 rfl ?_
          refine x_iload_n X dX3_ahead_34 2 rfl ?_
          refine x_iload X dX3_ahead_35 0 rfl ?_
          refine x_callVI (av := [.int x1, .int ((x3 + x4) / (2 : Int32))]) (st := []) (wr := []) X (c_X3_codeOf l D T h_t h_t_codes h_t_firsts t_total t_codes t_firsts x1 ((x3 + x4) / (2 : Int32)) _ h) yk_X3_codeOf tw_336 dX3_ahead_37 0 rfl rfl [0, 1, 2] [] rfl rfl rfl rfl (by decide) rfl rfl (Nat.le_of_ble_eq_true rfl) (Nat.le_of_ble_eq_true rfl) (Nat.le_of_ble_eq_true rfl) (Nat.zero_le _) (Nat.zero_le _) (fun r37 w1 hw => ?_)
          obtain ⟨rfl, h⟩ := hw
          refine x_perm (ws2 := [(h_t, .inr (2, [.ref h_t_codes, .ref h_t_firsts, .int t_total])), (h_t_codes, aI T 662 t_codes), (h_t_firsts, aI T 8 t_firsts)]) X [0, 1, 2] rfl rfl ?_
          refine x_iload_n X dX3_ahead_40 3 rfl ?_
          refine x_icmp_ge (tgt := 52) X dX3_ahead_41 (by decide) (fun hc => ?_) (fun hc => ?_)
          · have h := h.1 hc
            refine x_iload X dX3_ahead_52 0 rfl ?_
            refine x_istore (lv' := [(4, .int ((x3 + x4) / (2 : Int32))), (6, .int ((x3 + x4) / (2 : Int32))), (0, .ref h_t), (1, .int x1), (2, .int x2), (3, .int x3), (5, .int x5)]) X dX3_ahead_54 (by decide) rfl ?_
            exact x_sub X [2, 3, 4, 5, 0, 6] rfl (k56 x1 x2 x3 ((x3 + x4) / (2 : Int32)) x5 h)
          · have h := h.2 hc
            refine x_iload X dX3_ahead_44 0 rfl ?_
            refine x_iconst (v := 1) X dX3_ahead_46 (by decide) ?_
            refine x_iadd X dX3_ahead_47 ?_
            refine x_istore_n (lv' := [(3, .int (((x3 + x4) / (2 : Int32)) + (1 : Int32))), (6, .int ((x3 + x4) / (2 : Int32))), (0, .ref h_t), (1, .int x1), (2, .int x2), (4, .int x4), (5, .int x5)]) X dX3_ahead_48 (by decide) rfl ?_
            refine x_goto (tgt := 56) X dX3_ahead_49 (by decide) ?_
            exact x_sub X [2, 3, 4, 0, 5, 6] rfl (k56 x1 x2 (((x3 + x4) / (2 : Int32)) + (1 : Int32)) x4 x5 h)
  refine x_iconst (v := 0) X dX3_ahead_0 (by decide) ?_
  refine x_istore_n (lv' := [(3, .int (0 : Int32)), (0, .ref h_t), (1, .int p1), (2, .int p2)]) X dX3_ahead_1 (by decide) rfl ?_
  refine x_aload_n X dX3_ahead_2 1 rfl ?_
  refine x_iload_n X dX3_ahead_3 2 rfl ?_
  refine x_callVI (av := [.int p1]) (st := []) (wr := [(h_t_codes, aI T 662 t_codes)]) X (c_X3_amount l D T h_t h_t_codes h_t_firsts t_total t_firsts p1 _ h) yk_X3_amount tw_328 dX3_ahead_4 0 rfl rfl [0, 2] [1] rfl rfl rfl rfl (by decide) rfl rfl (Nat.le_of_ble_eq_true rfl) (Nat.le_of_ble_eq_true rfl) (Nat.le_of_ble_eq_true rfl) (Nat.zero_le _) (Nat.zero_le _) (fun r4 w1 hw => ?_)
  obtain ⟨rfl, h⟩ := hw
  refine x_perm (ws2 := [(h_t, .inr (2, [.ref h_t_codes, .ref h_t_firsts, .int t_total])), (h_t_codes, aI T 662 t_codes), (h_t_firsts, aI T 8 t_firsts)]) X [1, 0, 2] rfl rfl ?_
  refine x_istore (lv' := [(4, .int r4), (3, .int (0 : Int32)), (0, .ref h_t), (1, .int p1), (2, .int p2)]) X dX3_ahead_7 (by decide) rfl ?_
  refine x_iconst (v := 0) X dX3_ahead_9 (by decide) ?_
  refine x_istore (lv' := [(5, .int (0 : Int32)), (4, .int r4), (3, .int (0 : Int32)), (0, .ref h_t), (1, .int p1), (2, .int p2)]) X dX3_ahead_10 (by decide) rfl ?_
  obtain ⟨n12, h⟩ := h
  exact x_sub X [3, 4, 5, 2, 1, 0] rfl (k12 n12 p1 p2 (0 : Int32) r4 (0 : Int32) h)
theorem dX3_numberOf_0 : decode cX3_numberOf 0 = .ok (.aload_n 0, 1) := by decide +kernel
theorem dX3_numberOf_1 : decode cX3_numberOf 1 = .ok (.iload_n 1, 1) := by decide +kernel
theorem dX3_numberOf_2 : decode cX3_numberOf 2 = .ok (.iload_n 2, 1) := by decide +kernel
theorem dX3_numberOf_3 : decode cX3_numberOf 3 = .ok (.invokevirtual 69, 3) := by decide +kernel
theorem dX3_numberOf_6 : decode cX3_numberOf 6 = .ok (.istore_n 3, 1) := by decide +kernel
theorem dX3_numberOf_7 : decode cX3_numberOf 7 = .ok (.iload_n 3, 1) := by decide +kernel
theorem dX3_numberOf_8 : decode cX3_numberOf 8 = .ok (.aload_n 0, 1) := by decide +kernel
theorem dX3_numberOf_9 : decode cX3_numberOf 9 = .ok (.iload_n 1, 1) := by decide +kernel
theorem dX3_numberOf_10 : decode cX3_numberOf 10 = .ok (.invokevirtual 41, 3) := by decide +kernel
theorem dX3_numberOf_13 : decode cX3_numberOf 13 = .ok (.if_icmp .ge 17, 3) := by decide +kernel
theorem dX3_numberOf_16 : decode cX3_numberOf 16 = .ok (.aload_n 0, 1) := by decide +kernel
theorem dX3_numberOf_17 : decode cX3_numberOf 17 = .ok (.iload_n 1, 1) := by decide +kernel
theorem dX3_numberOf_18 : decode cX3_numberOf 18 = .ok (.iload_n 3, 1) := by decide +kernel
theorem dX3_numberOf_19 : decode cX3_numberOf 19 = .ok (.invokevirtual 48, 3) := by decide +kernel
theorem dX3_numberOf_22 : decode cX3_numberOf 22 = .ok (.iload_n 2, 1) := by decide +kernel
theorem dX3_numberOf_23 : decode cX3_numberOf 23 = .ok (.if_icmp .ne 7, 3) := by decide +kernel
theorem dX3_numberOf_26 : decode cX3_numberOf 26 = .ok (.iload_n 3, 1) := by decide +kernel
theorem dX3_numberOf_27 : decode cX3_numberOf 27 = .ok (.goto 4, 3) := by decide +kernel
theorem dX3_numberOf_30 : decode cX3_numberOf 30 = .ok (.iconst (-1), 1) := by decide +kernel
theorem dX3_numberOf_31 : decode cX3_numberOf 31 = .ok (.ireturn, 1) := by decide +kernel
set_option maxHeartbeats 4000000 in
set_option maxRecDepth 100000 in
theorem c_X3_numberOf (l : Launch) (D : eD) (T : Nat → ClassId) (h_t h_t_codes h_t_firsts : Nat) (t_total : Int32) (t_codes : Nat → Int32) (t_firsts : Nat → Int32) (p1 : Int32) (p2 : Int32) (post : Int32 → Prop) (h : F_X3_numberOf t_total t_codes t_firsts p1 p2 post) : cI l D T yX3_numberOf cX3_numberOf 4 (some .int) 3 70 0 0 [.ref h_t, .int p1, .int p2] [(h_t, .inr (2, [.ref h_t_codes, .ref h_t_firsts, .int t_total])), (h_t_codes, aI T 662 t_codes), (h_t_firsts, aI T 8 t_firsts)] (fun r w1 => w1 = [(h_t, .inr (2, [.ref h_t_codes, .ref h_t_firsts, .int t_total])), (h_t_codes, aI T 662 t_codes), (h_t_firsts, aI T 8 t_firsts)] ∧ post r ) := by
  refine xI_of (ty := .int) (by decide +kernel) (Nat.le_of_ble_eq_true rfl) rfl ?_
  intro G X hret
  change G 0 0 0 [(0, .ref h_t), (1, .int p1), (2, .int p2)] [] [(h_t, .inr (2, [.ref h_t_codes, .ref h_t_firsts, .int t_total])), (h_t_codes, aI T 662 t_codes), (h_t_firsts, aI T 8 t_firsts)]
  unfold F_X3_numberOf at h
  have k31 : ∀ (s0 : Int32), F_X3_numberOf_31 t_total t_codes t_firsts post s0 → G 0 0 31 [] [.int s0] [(h_t, .inr (2, [.ref h_t_codes, .ref h_t_firsts, .int t_total])), (h_t_codes, aI T 662 t_codes), (h_t_firsts, aI T 8 t_firsts)] := by
    intro s0 h
    unfold F_X3_numberOf_31 at h
    exact hret _ _ _ _ dX3_numberOf_31 rfl ⟨rfl, h⟩
  have k30 : F_X3_numberOf_30 t_total t_codes t_firsts post (fun s0 => F_X3_numberOf_31 t_total t_codes t_firsts post s0) → G 0 0 30 [] [] [(h_t, .inr (2, [.ref h_t_codes, .ref h_t_firsts, .int t_total])), (h_t_codes, aI T 662 t_codes), (h_t_firsts, aI T 8 t_firsts)] := by
    intro  h
    unfold F_X3_numberOf_30 at h
    refine x_iconst (v := -1) X dX3_numberOf_30 (by decide) ?_
    exact x_sub X [] rfl (k31 (-1 : Int32) h)
  refine x_aload_n X dX3_numberOf_0 0 rfl ?_
  refine x_iload_n X dX3_numberOf_1 1 rfl ?_
  refine x_iload_n X dX3_numberOf_2 2 rfl ?_
  refine x_callVI (av := [.int p1, .int p2]) (st := []) (wr := []) X (c_X3_ahead l D T h_t h_t_codes h_t_firsts t_total t_codes t_firsts p1 p2 _ h) yk_X3_ahead tw_867 dX3_numberOf_3 0 rfl rfl [0, 1, 2] [] rfl rfl rfl rfl (by decide) rfl rfl (Nat.le_of_ble_eq_true rfl) (Nat.le_of_ble_eq_true rfl) (Nat.le_of_ble_eq_true rfl) (Nat.zero_le _) (Nat.zero_le _) (fun r3 w1 hw => ?_)
  obtain ⟨rfl, h⟩ := hw
  refine x_perm (ws2 := [(h_t, .inr (2, [.ref h_t_codes, .ref h_t_firsts, .int t_total])), (h_t_codes, aI T 662 t_codes), (h_t_firsts, aI T 8 t_firsts)]) X [0, 1, 2] rfl rfl ?_
  refine x_istore_n (lv' := [(3, .int r3), (0, .ref h_t), (1, .int p1), (2, .int p2)]) X dX3_numberOf_6 (by decide) rfl ?_
  refine x_iload_n X dX3_numberOf_7 0 rfl ?_
  refine x_aload_n X dX3_numberOf_8 1 rfl ?_
  refine x_iload_n X dX3_numberOf_9 2 rfl ?_
  refine x_callVI (av := [.int p1]) (st := [.int r3]) (wr := [(h_t_codes, aI T 662 t_codes)]) X (c_X3_amount l D T h_t h_t_codes h_t_firsts t_total t_firsts p1 _ h) yk_X3_amount tw_328 dX3_numberOf_10 0 rfl rfl [0, 2] [1] rfl rfl rfl rfl (by decide) rfl rfl (Nat.le_of_ble_eq_true rfl) (Nat.le_of_ble_eq_true rfl) (Nat.le_of_ble_eq_true rfl) (Nat.zero_le _) (Nat.zero_le _) (fun r10 w1 hw => ?_)
  obtain ⟨rfl, h⟩ := hw
  refine x_perm (ws2 := [(h_t, .inr (2, [.ref h_t_codes, .ref h_t_firsts, .int t_total])), (h_t_codes, aI T 662 t_codes), (h_t_firsts, aI T 8 t_firsts)]) X [1, 0, 2] rfl rfl ?_
  refine x_icmp_ge (tgt := 30) X dX3_numberOf_13 (by decide) (fun hc => ?_) (fun hc => ?_)
  · have h := h.1 hc
    exact x_sub X [] rfl (k30 h)
  · have h := h.2 hc
    refine x_aload_n X dX3_numberOf_16 1 rfl ?_
    refine x_iload_n X dX3_numberOf_17 2 rfl ?_
    refine x_iload_n X dX3_numberOf_18 0 rfl ?_
    refine x_callVI (av := [.int p1, .int r3]) (st := []) (wr := []) X (c_X3_codeOf l D T h_t h_t_codes h_t_firsts t_total t_codes t_firsts p1 r3 _ h) yk_X3_codeOf tw_336 dX3_numberOf_19 0 rfl rfl [0, 1, 2] [] rfl rfl rfl rfl (by decide) rfl rfl (Nat.le_of_ble_eq_true rfl) (Nat.le_of_ble_eq_true rfl) (Nat.le_of_ble_eq_true rfl) (Nat.zero_le _) (Nat.zero_le _) (fun r19 w1 hw => ?_)
    obtain ⟨rfl, h⟩ := hw
    refine x_perm (ws2 := [(h_t, .inr (2, [.ref h_t_codes, .ref h_t_firsts, .int t_total])), (h_t_codes, aI T 662 t_codes), (h_t_firsts, aI T 8 t_firsts)]) X [0, 1, 2] rfl rfl ?_
    refine x_iload_n X dX3_numberOf_22 3 rfl ?_
    refine x_icmp_ne (tgt := 30) X dX3_numberOf_23 (by decide) (fun hc => ?_) (fun hc => ?_)
    · have h := h.1 hc
      exact x_sub X [] rfl (k30 h)
    · have h := h.2 hc
      refine x_iload_n X dX3_numberOf_26 0 rfl ?_
      refine x_goto (tgt := 31) X dX3_numberOf_27 (by decide) ?_
      exact x_sub X [] rfl (k31 r3 h)
theorem dX3_firstHeir_0 : decode cX3_firstHeir 0 = .ok (.aload_n 0, 1) := by decide +kernel
theorem dX3_firstHeir_1 : decode cX3_firstHeir 1 = .ok (.iload_n 3, 1) := by decide +kernel
theorem dX3_firstHeir_2 : decode cX3_firstHeir 2 = .ok (.aload_n 0, 1) := by decide +kernel
theorem dX3_firstHeir_3 : decode cX3_firstHeir 3 = .ok (.iload_n 1, 1) := by decide +kernel
theorem dX3_firstHeir_4 : decode cX3_firstHeir 4 = .ok (.iload_n 2, 1) := by decide +kernel
theorem dX3_firstHeir_5 : decode cX3_firstHeir 5 = .ok (.invokevirtual 48, 3) := by decide +kernel
theorem dX3_firstHeir_8 : decode cX3_firstHeir 8 = .ok (.iload_n 3, 1) := by decide +kernel
theorem dX3_firstHeir_9 : decode cX3_firstHeir 9 = .ok (.invokestatic 72, 3) := by decide +kernel
theorem dX3_firstHeir_12 : decode cX3_firstHeir 12 = .ok (.iload_n 1, 1) := by decide +kernel
theorem dX3_firstHeir_13 : decode cX3_firstHeir 13 = .ok (.invokestatic 72, 3) := by decide +kernel
theorem dX3_firstHeir_16 : decode cX3_firstHeir 16 = .ok (.isub, 1) := by decide +kernel
theorem dX3_firstHeir_17 : decode cX3_firstHeir 17 = .ok (.ishl, 1) := by decide +kernel
theorem dX3_firstHeir_18 : decode cX3_firstHeir 18 = .ok (.invokevirtual 69, 3) := by decide +kernel
theorem dX3_firstHeir_21 : decode cX3_firstHeir 21 = .ok (.ireturn, 1) := by decide +kernel
set_option maxHeartbeats 4000000 in
set_option maxRecDepth 100000 in
theorem c_X3_firstHeir (l : Launch) (D : eD) (T : Nat → ClassId) (h_t h_t_codes h_t_firsts : Nat) (t_total : Int32) (t_codes : Nat → Int32) (t_firsts : Nat → Int32) (p1 : Int32) (p2 : Int32) (p3 : Int32) (post : Int32 → Prop) (h : F_X3_firstHeir t_total t_codes t_firsts p1 p2 p3 post) : cI l D T yX3_firstHeir cX3_firstHeir 4 (some .int) 3 70 0 0 [.ref h_t, .int p1, .int p2, .int p3] [(h_t, .inr (2, [.ref h_t_codes, .ref h_t_firsts, .int t_total])), (h_t_codes, aI T 662 t_codes), (h_t_firsts, aI T 8 t_firsts)] (fun r w1 => w1 = [(h_t, .inr (2, [.ref h_t_codes, .ref h_t_firsts, .int t_total])), (h_t_codes, aI T 662 t_codes), (h_t_firsts, aI T 8 t_firsts)] ∧ post r ) := by
  refine xI_of (ty := .int) (by decide +kernel) (Nat.le_of_ble_eq_true rfl) rfl ?_
  intro G X hret
  change G 0 0 0 [(0, .ref h_t), (1, .int p1), (2, .int p2), (3, .int p3)] [] [(h_t, .inr (2, [.ref h_t_codes, .ref h_t_firsts, .int t_total])), (h_t_codes, aI T 662 t_codes), (h_t_firsts, aI T 8 t_firsts)]
  unfold F_X3_firstHeir at h
  refine x_aload_n X dX3_firstHeir_0 0 rfl ?_
  refine x_iload_n X dX3_firstHeir_1 3 rfl ?_
  refine x_aload_n X dX3_firstHeir_2 0 rfl ?_
  refine x_iload_n X dX3_firstHeir_3 1 rfl ?_
  refine x_iload_n X dX3_firstHeir_4 2 rfl ?_
  refine x_callVI (av := [.int p1, .int p2]) (st := [.int p3, .ref h_t]) (wr := []) X (c_X3_codeOf l D T h_t h_t_codes h_t_firsts t_total t_codes t_firsts p1 p2 _ h) yk_X3_codeOf tw_336 dX3_firstHeir_5 0 rfl rfl [0, 1, 2] [] rfl rfl rfl rfl (by decide) rfl rfl (Nat.le_of_ble_eq_true rfl) (Nat.le_of_ble_eq_true rfl) (Nat.le_of_ble_eq_true rfl) (Nat.zero_le _) (Nat.zero_le _) (fun r5 w1 hw => ?_)
  obtain ⟨rfl, h⟩ := hw
  refine x_perm (ws2 := [(h_t, .inr (2, [.ref h_t_codes, .ref h_t_firsts, .int t_total])), (h_t_codes, aI T 662 t_codes), (h_t_firsts, aI T 8 t_firsts)]) X [0, 1, 2] rfl rfl ?_
  refine x_iload_n X dX3_firstHeir_8 3 rfl ?_
  refine x_callSI (av := [.int p3]) (st := [.int r5, .int p3, .ref h_t]) (wr := [(h_t, .inr (2, [.ref h_t_codes, .ref h_t_firsts, .int t_total])), (h_t_codes, aI T 662 t_codes), (h_t_firsts, aI T 8 t_firsts)]) X (c_X0_bits l D T  p3 _ h) yk_X0_bits tw_944 dX3_firstHeir_9 [] [0, 1, 2] rfl rfl rfl rfl (by decide) rfl rfl (Nat.le_of_ble_eq_true rfl) (Nat.le_of_ble_eq_true rfl) (Nat.le_of_ble_eq_true rfl) (Nat.zero_le _) (Nat.zero_le _) (fun r9 w1 hw => ?_)
  obtain ⟨rfl, h⟩ := hw
  refine x_perm (ws2 := [(h_t, .inr (2, [.ref h_t_codes, .ref h_t_firsts, .int t_total])), (h_t_codes, aI T 662 t_codes), (h_t_firsts, aI T 8 t_firsts)]) X [0, 1, 2] rfl rfl ?_
  refine x_iload_n X dX3_firstHeir_12 1 rfl ?_
  refine x_callSI (av := [.int p1]) (st := [.int r9, .int r5, .int p3, .ref h_t]) (wr := [(h_t, .inr (2, [.ref h_t_codes, .ref h_t_firsts, .int t_total])), (h_t_codes, aI T 662 t_codes), (h_t_firsts, aI T 8 t_firsts)]) X (c_X0_bits l D T  p1 _ h) yk_X0_bits tw_944 dX3_firstHeir_13 [] [0, 1, 2] rfl rfl rfl rfl (by decide) rfl rfl (Nat.le_of_ble_eq_true rfl) (Nat.le_of_ble_eq_true rfl) (Nat.le_of_ble_eq_true rfl) (Nat.zero_le _) (Nat.zero_le _) (fun r13 w1 hw => ?_)
  obtain ⟨rfl, h⟩ := hw
  refine x_perm (ws2 := [(h_t, .inr (2, [.ref h_t_codes, .ref h_t_firsts, .int t_total])), (h_t_codes, aI T 662 t_codes), (h_t_firsts, aI T 8 t_firsts)]) X [0, 1, 2] rfl rfl ?_
  refine x_isub X dX3_firstHeir_16 ?_
  refine x_ishl X dX3_firstHeir_17 ?_
  refine x_callVI (av := [.int p3, .int (r5 <<< ((r9 - r13) &&& 31))]) (st := []) (wr := []) X (c_X3_ahead l D T h_t h_t_codes h_t_firsts t_total t_codes t_firsts p3 (r5 <<< ((r9 - r13) &&& 31)) _ h) yk_X3_ahead tw_867 dX3_firstHeir_18 0 rfl rfl [0, 1, 2] [] rfl rfl rfl rfl (by decide) rfl rfl (Nat.le_of_ble_eq_true rfl) (Nat.le_of_ble_eq_true rfl) (Nat.le_of_ble_eq_true rfl) (Nat.zero_le _) (Nat.zero_le _) (fun r18 w1 hw => ?_)
  obtain ⟨rfl, h⟩ := hw
  refine x_perm (ws2 := [(h_t, .inr (2, [.ref h_t_codes, .ref h_t_firsts, .int t_total])), (h_t_codes, aI T 662 t_codes), (h_t_firsts, aI T 8 t_firsts)]) X [0, 1, 2] rfl rfl ?_
  exact hret _ _ _ _ dX3_firstHeir_21 rfl ⟨rfl, h⟩
theorem dX3_heirs_0 : decode cX3_heirs 0 = .ok (.aload_n 0, 1) := by decide +kernel
theorem dX3_heirs_1 : decode cX3_heirs 1 = .ok (.iload_n 3, 1) := by decide +kernel
theorem dX3_heirs_2 : decode cX3_heirs 2 = .ok (.aload_n 0, 1) := by decide +kernel
theorem dX3_heirs_3 : decode cX3_heirs 3 = .ok (.iload_n 1, 1) := by decide +kernel
theorem dX3_heirs_4 : decode cX3_heirs 4 = .ok (.iload_n 2, 1) := by decide +kernel
theorem dX3_heirs_5 : decode cX3_heirs 5 = .ok (.invokevirtual 48, 3) := by decide +kernel
theorem dX3_heirs_8 : decode cX3_heirs 8 = .ok (.iconst 1, 1) := by decide +kernel
theorem dX3_heirs_9 : decode cX3_heirs 9 = .ok (.iadd, 1) := by decide +kernel
theorem dX3_heirs_10 : decode cX3_heirs 10 = .ok (.iload_n 3, 1) := by decide +kernel
theorem dX3_heirs_11 : decode cX3_heirs 11 = .ok (.invokestatic 72, 3) := by decide +kernel
theorem dX3_heirs_14 : decode cX3_heirs 14 = .ok (.iload_n 1, 1) := by decide +kernel
theorem dX3_heirs_15 : decode cX3_heirs 15 = .ok (.invokestatic 72, 3) := by decide +kernel
theorem dX3_heirs_18 : decode cX3_heirs 18 = .ok (.isub, 1) := by decide +kernel
theorem dX3_heirs_19 : decode cX3_heirs 19 = .ok (.ishl, 1) := by decide +kernel
theorem dX3_heirs_20 : decode cX3_heirs 20 = .ok (.invokevirtual 69, 3) := by decide +kernel
theorem dX3_heirs_23 : decode cX3_heirs 23 = .ok (.istore 4, 2) := by decide +kernel
theorem dX3_heirs_25 : decode cX3_heirs 25 = .ok (.iload 4, 2) := by decide +kernel
theorem dX3_heirs_27 : decode cX3_heirs 27 = .ok (.aload_n 0, 1) := by decide +kernel
theorem dX3_heirs_28 : decode cX3_heirs 28 = .ok (.iload_n 1, 1) := by decide +kernel
theorem dX3_heirs_29 : decode cX3_heirs 29 = .ok (.iload_n 2, 1) := by decide +kernel
theorem dX3_heirs_30 : decode cX3_heirs 30 = .ok (.iload_n 3, 1) := by decide +kernel
theorem dX3_heirs_31 : decode cX3_heirs 31 = .ok (.invokevirtual 77, 3) := by decide +kernel
theorem dX3_heirs_34 : decode cX3_heirs 34 = .ok (.isub, 1) := by decide +kernel
theorem dX3_heirs_35 : decode cX3_heirs 35 = .ok (.ireturn, 1) := by decide +kernel
set_option maxHeartbeats 4000000 in
set_option maxRecDepth 100000 in
theorem c_X3_heirs (l : Launch) (D : eD) (T : Nat → ClassId) (h_t h_t_codes h_t_firsts : Nat) (t_total : Int32) (t_codes : Nat → Int32) (t_firsts : Nat → Int32) (p1 : Int32) (p2 : Int32) (p3 : Int32) (post : Int32 → Prop) (h : F_X3_heirs t_total t_codes t_firsts p1 p2 p3 post) : cI l D T yX3_heirs cX3_heirs 5 (some .int) 4 93 0 0 [.ref h_t, .int p1, .int p2, .int p3] [(h_t, .inr (2, [.ref h_t_codes, .ref h_t_firsts, .int t_total])), (h_t_codes, aI T 662 t_codes), (h_t_firsts, aI T 8 t_firsts)] (fun r w1 => w1 = [(h_t, .inr (2, [.ref h_t_codes, .ref h_t_firsts, .int t_total])), (h_t_codes, aI T 662 t_codes), (h_t_firsts, aI T 8 t_firsts)] ∧ post r ) := by
  refine xI_of (ty := .int) (by decide +kernel) (Nat.le_of_ble_eq_true rfl) rfl ?_
  intro G X hret
  change G 0 0 0 [(0, .ref h_t), (1, .int p1), (2, .int p2), (3, .int p3)] [] [(h_t, .inr (2, [.ref h_t_codes, .ref h_t_firsts, .int t_total])), (h_t_codes, aI T 662 t_codes), (h_t_firsts, aI T 8 t_firsts)]
  unfold F_X3_heirs at h
  refine x_aload_n X dX3_heirs_0 0 rfl ?_
  refine x_iload_n X dX3_heirs_1 3 rfl ?_
  refine x_aload_n X dX3_heirs_2 0 rfl ?_
  refine x_iload_n X dX3_heirs_3 1 rfl ?_
  refine x_iload_n X dX3_heirs_4 2 rfl ?_
  refine x_callVI (av := [.int p1, .int p2]) (st := [.int p3, .ref h_t]) (wr := []) X (c_X3_codeOf l D T h_t h_t_codes h_t_firsts t_total t_codes t_firsts p1 p2 _ h) yk_X3_codeOf tw_336 dX3_heirs_5 0 rfl rfl [0, 1, 2] [] rfl rfl rfl rfl (by decide) rfl rfl (Nat.le_of_ble_eq_true rfl) (Nat.le_of_ble_eq_true rfl) (Nat.le_of_ble_eq_true rfl) (Nat.zero_le _) (Nat.zero_le _) (fun r5 w1 hw => ?_)
  obtain ⟨rfl, h⟩ := hw
  refine x_perm (ws2 := [(h_t, .inr (2, [.ref h_t_codes, .ref h_t_firsts, .int t_total])), (h_t_codes, aI T 662 t_codes), (h_t_firsts, aI T 8 t_firsts)]) X [0, 1, 2] rfl rfl ?_
  refine x_iconst (v := 1) X dX3_heirs_8 (by decide) ?_
  refine x_iadd X dX3_heirs_9 ?_
  refine x_iload_n X dX3_heirs_10 3 rfl ?_
  refine x_callSI (av := [.int p3]) (st := [.int (r5 + (1 : Int32)), .int p3, .ref h_t]) (wr := [(h_t, .inr (2, [.ref h_t_codes, .ref h_t_firsts, .int t_total])), (h_t_codes, aI T 662 t_codes), (h_t_firsts, aI T 8 t_firsts)]) X (c_X0_bits l D T  p3 _ h) yk_X0_bits tw_944 dX3_heirs_11 [] [0, 1, 2] rfl rfl rfl rfl (by decide) rfl rfl (Nat.le_of_ble_eq_true rfl) (Nat.le_of_ble_eq_true rfl) (Nat.le_of_ble_eq_true rfl) (Nat.zero_le _) (Nat.zero_le _) (fun r11 w1 hw => ?_)
  obtain ⟨rfl, h⟩ := hw
  refine x_perm (ws2 := [(h_t, .inr (2, [.ref h_t_codes, .ref h_t_firsts, .int t_total])), (h_t_codes, aI T 662 t_codes), (h_t_firsts, aI T 8 t_firsts)]) X [0, 1, 2] rfl rfl ?_
  refine x_iload_n X dX3_heirs_14 1 rfl ?_
  refine x_callSI (av := [.int p1]) (st := [.int r11, .int (r5 + (1 : Int32)), .int p3, .ref h_t]) (wr := [(h_t, .inr (2, [.ref h_t_codes, .ref h_t_firsts, .int t_total])), (h_t_codes, aI T 662 t_codes), (h_t_firsts, aI T 8 t_firsts)]) X (c_X0_bits l D T  p1 _ h) yk_X0_bits tw_944 dX3_heirs_15 [] [0, 1, 2] rfl rfl rfl rfl (by decide) rfl rfl (Nat.le_of_ble_eq_true rfl) (Nat.le_of_ble_eq_true rfl) (Nat.le_of_ble_eq_true rfl) (Nat.zero_le _) (Nat.zero_le _) (fun r15 w1 hw => ?_)
  obtain ⟨rfl, h⟩ := hw
  refine x_perm (ws2 := [(h_t, .inr (2, [.ref h_t_codes, .ref h_t_firsts, .int t_total])), (h_t_codes, aI T 662 t_codes), (h_t_firsts, aI T 8 t_firsts)]) X [0, 1, 2] rfl rfl ?_
  refine x_isub X dX3_heirs_18 ?_
  refine x_ishl X dX3_heirs_19 ?_
  refine x_callVI (av := [.int p3, .int ((r5 + (1 : Int32)) <<< ((r11 - r15) &&& 31))]) (st := []) (wr := []) X (c_X3_ahead l D T h_t h_t_codes h_t_firsts t_total t_codes t_firsts p3 ((r5 + (1 : Int32)) <<< ((r11 - r15) &&& 31)) _ h) yk_X3_ahead tw_867 dX3_heirs_20 0 rfl rfl [0, 1, 2] [] rfl rfl rfl rfl (by decide) rfl rfl (Nat.le_of_ble_eq_true rfl) (Nat.le_of_ble_eq_true rfl) (Nat.le_of_ble_eq_true rfl) (Nat.zero_le _) (Nat.zero_le _) (fun r20 w1 hw => ?_)
  obtain ⟨rfl, h⟩ := hw
  refine x_perm (ws2 := [(h_t, .inr (2, [.ref h_t_codes, .ref h_t_firsts, .int t_total])), (h_t_codes, aI T 662 t_codes), (h_t_firsts, aI T 8 t_firsts)]) X [0, 1, 2] rfl rfl ?_
  refine x_istore (lv' := [(4, .int r20), (0, .ref h_t), (1, .int p1), (2, .int p2), (3, .int p3)]) X dX3_heirs_23 (by decide) rfl ?_
  refine x_iload X dX3_heirs_25 0 rfl ?_
  refine x_aload_n X dX3_heirs_27 1 rfl ?_
  refine x_iload_n X dX3_heirs_28 2 rfl ?_
  refine x_iload_n X dX3_heirs_29 3 rfl ?_
  refine x_iload_n X dX3_heirs_30 4 rfl ?_
  refine x_callVI (av := [.int p1, .int p2, .int p3]) (st := [.int r20]) (wr := []) X (c_X3_firstHeir l D T h_t h_t_codes h_t_firsts t_total t_codes t_firsts p1 p2 p3 _ h) yk_X3_firstHeir tw_945 dX3_heirs_31 0 rfl rfl [0, 1, 2] [] rfl rfl rfl rfl (by decide) rfl rfl (Nat.le_of_ble_eq_true rfl) (Nat.le_of_ble_eq_true rfl) (Nat.le_of_ble_eq_true rfl) (Nat.zero_le _) (Nat.zero_le _) (fun r31 w1 hw => ?_)
  obtain ⟨rfl, h⟩ := hw
  refine x_perm (ws2 := [(h_t, .inr (2, [.ref h_t_codes, .ref h_t_firsts, .int t_total])), (h_t_codes, aI T 662 t_codes), (h_t_firsts, aI T 8 t_firsts)]) X [0, 1, 2] rfl rfl ?_
  refine x_isub X dX3_heirs_34 ?_
  exact hret _ _ _ _ dX3_heirs_35 rfl ⟨rfl, h⟩
theorem dX3_shareSize_0 : decode cX3_shareSize 0 = .ok (.iconst 0, 1) := by decide +kernel
theorem dX3_shareSize_1 : decode cX3_shareSize 1 = .ok (.istore 5, 2) := by decide +kernel
theorem dX3_shareSize_3 : decode cX3_shareSize 3 = .ok (.iload 4, 2) := by decide +kernel
theorem dX3_shareSize_5 : decode cX3_shareSize 5 = .ok (.istore 6, 2) := by decide +kernel
theorem dX3_shareSize_7 : decode cX3_shareSize 7 = .ok (.iload 6, 2) := by decide +kernel
theorem dX3_shareSize_9 : decode cX3_shareSize 9 = .ok (.aload_n 0, 1) := by decide +kernel
theorem dX3_shareSize_10 : decode cX3_shareSize 10 = .ok (.iload_n 2, 1) := by decide +kernel
theorem dX3_shareSize_11 : decode cX3_shareSize 11 = .ok (.invokevirtual 41, 3) := by decide +kernel
theorem dX3_shareSize_14 : decode cX3_shareSize 14 = .ok (.if_icmp .ge 29, 3) := by decide +kernel
theorem dX3_shareSize_17 : decode cX3_shareSize 17 = .ok (.iload_n 3, 1) := by decide +kernel
theorem dX3_shareSize_18 : decode cX3_shareSize 18 = .ok (.ifCond .le 25, 3) := by decide +kernel
theorem dX3_shareSize_21 : decode cX3_shareSize 21 = .ok (.iload 5, 2) := by decide +kernel
theorem dX3_shareSize_23 : decode cX3_shareSize 23 = .ok (.aload_n 0, 1) := by decide +kernel
theorem dX3_shareSize_24 : decode cX3_shareSize 24 = .ok (.iload_n 2, 1) := by decide +kernel
theorem dX3_shareSize_25 : decode cX3_shareSize 25 = .ok (.iload 6, 2) := by decide +kernel
theorem dX3_shareSize_27 : decode cX3_shareSize 27 = .ok (.iload_n 1, 1) := by decide +kernel
theorem dX3_shareSize_28 : decode cX3_shareSize 28 = .ok (.invokevirtual 81, 3) := by decide +kernel
theorem dX3_shareSize_31 : decode cX3_shareSize 31 = .ok (.iadd, 1) := by decide +kernel
theorem dX3_shareSize_32 : decode cX3_shareSize 32 = .ok (.istore 5, 2) := by decide +kernel
theorem dX3_shareSize_34 : decode cX3_shareSize 34 = .ok (.iload 6, 2) := by decide +kernel
theorem dX3_shareSize_36 : decode cX3_shareSize 36 = .ok (.iload_n 3, 1) := by decide +kernel
theorem dX3_shareSize_37 : decode cX3_shareSize 37 = .ok (.iadd, 1) := by decide +kernel
theorem dX3_shareSize_38 : decode cX3_shareSize 38 = .ok (.istore 6, 2) := by decide +kernel
theorem dX3_shareSize_40 : decode cX3_shareSize 40 = .ok (.goto (-33), 3) := by decide +kernel
theorem dX3_shareSize_43 : decode cX3_shareSize 43 = .ok (.iload 5, 2) := by decide +kernel
theorem dX3_shareSize_45 : decode cX3_shareSize 45 = .ok (.ireturn, 1) := by decide +kernel
set_option maxHeartbeats 4000000 in
set_option maxRecDepth 100000 in
theorem c_X3_shareSize (l : Launch) (D : eD) (T : Nat → ClassId) (h_t h_t_codes h_t_firsts : Nat) (t_total : Int32) (t_codes : Nat → Int32) (t_firsts : Nat → Int32) (p1 : Int32) (p2 : Int32) (p3 : Int32) (p4 : Int32) (post : Int32 → Prop) (h : F_X3_shareSize t_total t_codes t_firsts p1 p2 p3 p4 post) : cI l D T yX3_shareSize cX3_shareSize 7 (some .int) 5 117 0 0 [.ref h_t, .int p1, .int p2, .int p3, .int p4] [(h_t, .inr (2, [.ref h_t_codes, .ref h_t_firsts, .int t_total])), (h_t_codes, aI T 662 t_codes), (h_t_firsts, aI T 8 t_firsts)] (fun r w1 => w1 = [(h_t, .inr (2, [.ref h_t_codes, .ref h_t_firsts, .int t_total])), (h_t_codes, aI T 662 t_codes), (h_t_firsts, aI T 8 t_firsts)] ∧ post r ) := by
  refine xI_of (ty := .int) (by decide +kernel) (Nat.le_of_ble_eq_true rfl) rfl ?_
  intro G X hret
  change G 0 0 0 [(0, .ref h_t), (1, .int p1), (2, .int p2), (3, .int p3), (4, .int p4)] [] [(h_t, .inr (2, [.ref h_t_codes, .ref h_t_firsts, .int t_total])), (h_t_codes, aI T 662 t_codes), (h_t_firsts, aI T 8 t_firsts)]
  unfold F_X3_shareSize at h
  have k7 : ∀ (n7 : Nat) (x1 : Int32) (x2 : Int32) (x3 : Int32) (x5 : Int32) (x6 : Int32), F_X3_shareSize_7 t_total t_codes t_firsts post n7 x1 x2 x3 x5 x6 → G 0 0 7 [(0, .ref h_t), (1, .int x1), (2, .int x2), (3, .int x3), (5, .int x5), (6, .int x6)] [] [(h_t, .inr (2, [.ref h_t_codes, .ref h_t_firsts, .int t_total])), (h_t_codes, aI T 662 t_codes), (h_t_firsts, aI T 8 t_firsts)] := by
    intro n7
    induction n7 with
    | zero => intro x1 x2 x3 x5 x6 h; exact h.elim
    | succ n7 ih7 =>
      intro x1 x2 x3 x5 x6 h
      rw [F_X3_shareSize_7] at h
      have k43 : ∀ (x5 : Int32), F_X3_shareSize_43 t_total t_codes t_firsts post x5 → G 0 0 43 [(5, .int x5)] [] [(h_t, .inr (2, [.ref h_t_codes, .ref h_t_firsts, .int t_total])), (h_t_codes, aI T 662 t_codes), (h_t_firsts, aI T 8 t_firsts)] := by
        intro x5 h
        unfold F_X3_shareSize_43 at h
        refine x_iload X dX3_shareSize_43 0 rfl ?_
        exact hret _ _ _ _ dX3_shareSize_45 rfl ⟨rfl, h⟩
      refine x_iload X dX3_shareSize_7 5 rfl ?_
      refine x_aload_n X dX3_shareSize_9 0 rfl ?_
      refine x_iload_n X dX3_shareSize_10 2 rfl ?_
      refine x_callVI (av := [.int x2]) (st := [.int x6]) (wr := [(h_t_codes, aI T 662 t_codes)]) X (c_X3_amount l D T h_t h_t_codes h_t_firsts t_total t_firsts x2 _ h) yk_X3_amount tw_328 dX3_shareSize_11 0 rfl rfl [0, 2] [1] rfl rfl rfl rfl (by decide) rfl rfl (Nat.le_of_ble_eq_true rfl) (Nat.le_of_ble_eq_true rfl) (Nat.le_of_ble_eq_true rfl) (Nat.zero_le _) (Nat.zero_le _) (fun r11 w1 hw => ?_)
      obtain ⟨rfl, h⟩ := hw
      refine x_perm (ws2 := [(h_t, .inr (2, [.ref h_t_codes, .ref h_t_firsts, .int t_total])), (h_t_codes, aI T 662 t_codes), (h_t_firsts, aI T 8 t_firsts)]) X [1, 0, 2] rfl rfl ?_
      refine x_icmp_ge (tgt := 43) X dX3_shareSize_14 (by decide) (fun hc => ?_) (fun hc => ?_)
      · have h := h.1 hc
        exact x_sub X [4] rfl (k43 x5 h)
      · have h := h.2 hc
        refine x_iload_n X dX3_shareSize_17 3 rfl ?_
        refine x_if_le (tgt := 43) X dX3_shareSize_18 (by decide) (fun hc => ?_) (fun hc => ?_)
        · have h := h.1 hc
          exact x_sub X [4] rfl (k43 x5 h)
        · have h := h.2 hc
          refine x_iload X dX3_shareSize_21 4 rfl ?_
          refine x_aload_n X dX3_shareSize_23 0 rfl ?_
          refine x_iload_n X dX3_shareSize_24 2 rfl ?_
          refine x_iload X dX3_shareSize_25 5 rfl ?_
          refine x_iload_n X dX3_shareSize_27 1 rfl ?_
          refine x_callVI (av := [.int x2, .int x6, .int x1]) (st := [.int x5]) (wr := []) X (c_X3_heirs l D T h_t h_t_codes h_t_firsts t_total t_codes t_firsts x2 x6 x1 _ h) yk_X3_heirs tw_1275 dX3_shareSize_28 0 rfl rfl [0, 1, 2] [] rfl rfl rfl rfl (by decide) rfl rfl (Nat.le_of_ble_eq_true rfl) (Nat.le_of_ble_eq_true rfl) (Nat.le_of_ble_eq_true rfl) (Nat.zero_le _) (Nat.zero_le _) (fun r28 w1 hw => ?_)
          obtain ⟨rfl, h⟩ := hw
          refine x_perm (ws2 := [(h_t, .inr (2, [.ref h_t_codes, .ref h_t_firsts, .int t_total])), (h_t_codes, aI T 662 t_codes), (h_t_firsts, aI T 8 t_firsts)]) X [0, 1, 2] rfl rfl ?_
          refine x_iadd X dX3_shareSize_31 ?_
          refine x_istore (lv' := [(5, .int (x5 + r28)), (0, .ref h_t), (1, .int x1), (2, .int x2), (3, .int x3), (6, .int x6)]) X dX3_shareSize_32 (by decide) rfl ?_
          refine x_iload X dX3_shareSize_34 5 rfl ?_
          refine x_iload_n X dX3_shareSize_36 4 rfl ?_
          refine x_iadd X dX3_shareSize_37 ?_
          refine x_istore (lv' := [(6, .int (x6 + x3)), (5, .int (x5 + r28)), (0, .ref h_t), (1, .int x1), (2, .int x2), (3, .int x3)]) X dX3_shareSize_38 (by decide) rfl ?_
          refine x_goto (tgt := 7) X dX3_shareSize_40 (by decide) ?_
          exact x_sub X [2, 3, 4, 5, 1, 0] rfl (ih7 x1 x2 x3 (x5 + r28) (x6 + x3) h)
  refine x_iconst (v := 0) X dX3_shareSize_0 (by decide) ?_
  refine x_istore (lv' := [(5, .int (0 : Int32)), (0, .ref h_t), (1, .int p1), (2, .int p2), (3, .int p3), (4, .int p4)]) X dX3_shareSize_1 (by decide) rfl ?_
  refine x_iload X dX3_shareSize_3 5 rfl ?_
  refine x_istore (lv' := [(6, .int p4), (5, .int (0 : Int32)), (0, .ref h_t), (1, .int p1), (2, .int p2), (3, .int p3), (4, .int p4)]) X dX3_shareSize_5 (by decide) rfl ?_
  obtain ⟨n7, h⟩ := h
  exact x_sub X [2, 3, 4, 5, 1, 0] rfl (k7 n7 p1 p2 p3 (0 : Int32) p4 h)
theorem dX3_shareNumber_0 : decode cX3_shareNumber 0 = .ok (.iload 5, 2) := by decide +kernel
theorem dX3_shareNumber_2 : decode cX3_shareNumber 2 = .ok (.istore 6, 2) := by decide +kernel
theorem dX3_shareNumber_4 : decode cX3_shareNumber 4 = .ok (.iload 4, 2) := by decide +kernel
theorem dX3_shareNumber_6 : decode cX3_shareNumber 6 = .ok (.istore 7, 2) := by decide +kernel
theorem dX3_shareNumber_8 : decode cX3_shareNumber 8 = .ok (.iload 7, 2) := by decide +kernel
theorem dX3_shareNumber_10 : decode cX3_shareNumber 10 = .ok (.aload_n 0, 1) := by decide +kernel
theorem dX3_shareNumber_11 : decode cX3_shareNumber 11 = .ok (.iload_n 2, 1) := by decide +kernel
theorem dX3_shareNumber_12 : decode cX3_shareNumber 12 = .ok (.invokevirtual 41, 3) := by decide +kernel
theorem dX3_shareNumber_15 : decode cX3_shareNumber 15 = .ok (.if_icmp .ge 57, 3) := by decide +kernel
theorem dX3_shareNumber_18 : decode cX3_shareNumber 18 = .ok (.iload_n 3, 1) := by decide +kernel
theorem dX3_shareNumber_19 : decode cX3_shareNumber 19 = .ok (.ifCond .le 53, 3) := by decide +kernel
theorem dX3_shareNumber_22 : decode cX3_shareNumber 22 = .ok (.iload 6, 2) := by decide +kernel
theorem dX3_shareNumber_24 : decode cX3_shareNumber 24 = .ok (.ifCond .lt 48, 3) := by decide +kernel
theorem dX3_shareNumber_27 : decode cX3_shareNumber 27 = .ok (.aload_n 0, 1) := by decide +kernel
theorem dX3_shareNumber_28 : decode cX3_shareNumber 28 = .ok (.iload_n 2, 1) := by decide +kernel
theorem dX3_shareNumber_29 : decode cX3_shareNumber 29 = .ok (.iload 7, 2) := by decide +kernel
theorem dX3_shareNumber_31 : decode cX3_shareNumber 31 = .ok (.iload_n 1, 1) := by decide +kernel
theorem dX3_shareNumber_32 : decode cX3_shareNumber 32 = .ok (.invokevirtual 81, 3) := by decide +kernel
theorem dX3_shareNumber_35 : decode cX3_shareNumber 35 = .ok (.istore 8, 2) := by decide +kernel
theorem dX3_shareNumber_37 : decode cX3_shareNumber 37 = .ok (.iload 6, 2) := by decide +kernel
theorem dX3_shareNumber_39 : decode cX3_shareNumber 39 = .ok (.iload 8, 2) := by decide +kernel
theorem dX3_shareNumber_41 : decode cX3_shareNumber 41 = .ok (.if_icmp .ge 15, 3) := by decide +kernel
theorem dX3_shareNumber_44 : decode cX3_shareNumber 44 = .ok (.aload_n 0, 1) := by decide +kernel
theorem dX3_shareNumber_45 : decode cX3_shareNumber 45 = .ok (.iload_n 2, 1) := by decide +kernel
theorem dX3_shareNumber_46 : decode cX3_shareNumber 46 = .ok (.iload 7, 2) := by decide +kernel
theorem dX3_shareNumber_48 : decode cX3_shareNumber 48 = .ok (.iload_n 1, 1) := by decide +kernel
theorem dX3_shareNumber_49 : decode cX3_shareNumber 49 = .ok (.invokevirtual 77, 3) := by decide +kernel
theorem dX3_shareNumber_52 : decode cX3_shareNumber 52 = .ok (.iload 6, 2) := by decide +kernel
theorem dX3_shareNumber_54 : decode cX3_shareNumber 54 = .ok (.iadd, 1) := by decide +kernel
theorem dX3_shareNumber_55 : decode cX3_shareNumber 55 = .ok (.ireturn, 1) := by decide +kernel
theorem dX3_shareNumber_56 : decode cX3_shareNumber 56 = .ok (.iload 6, 2) := by decide +kernel
theorem dX3_shareNumber_58 : decode cX3_shareNumber 58 = .ok (.iload 8, 2) := by decide +kernel
theorem dX3_shareNumber_60 : decode cX3_shareNumber 60 = .ok (.isub, 1) := by decide +kernel
theorem dX3_shareNumber_61 : decode cX3_shareNumber 61 = .ok (.istore 6, 2) := by decide +kernel
theorem dX3_shareNumber_63 : decode cX3_shareNumber 63 = .ok (.iload 7, 2) := by decide +kernel
theorem dX3_shareNumber_65 : decode cX3_shareNumber 65 = .ok (.iload_n 3, 1) := by decide +kernel
theorem dX3_shareNumber_66 : decode cX3_shareNumber 66 = .ok (.iadd, 1) := by decide +kernel
theorem dX3_shareNumber_67 : decode cX3_shareNumber 67 = .ok (.istore 7, 2) := by decide +kernel
theorem dX3_shareNumber_69 : decode cX3_shareNumber 69 = .ok (.goto (-61), 3) := by decide +kernel
theorem dX3_shareNumber_72 : decode cX3_shareNumber 72 = .ok (.iconst (-1), 1) := by decide +kernel
theorem dX3_shareNumber_73 : decode cX3_shareNumber 73 = .ok (.ireturn, 1) := by decide +kernel
set_option maxHeartbeats 4000000 in
set_option maxRecDepth 100000 in
theorem c_X3_shareNumber (l : Launch) (D : eD) (T : Nat → ClassId) (h_t h_t_codes h_t_firsts : Nat) (t_total : Int32) (t_codes : Nat → Int32) (t_firsts : Nat → Int32) (p1 : Int32) (p2 : Int32) (p3 : Int32) (p4 : Int32) (p5 : Int32) (post : Int32 → Prop) (h : F_X3_shareNumber t_total t_codes t_firsts p1 p2 p3 p4 p5 post) : cI l D T yX3_shareNumber cX3_shareNumber 9 (some .int) 5 117 0 0 [.ref h_t, .int p1, .int p2, .int p3, .int p4, .int p5] [(h_t, .inr (2, [.ref h_t_codes, .ref h_t_firsts, .int t_total])), (h_t_codes, aI T 662 t_codes), (h_t_firsts, aI T 8 t_firsts)] (fun r w1 => w1 = [(h_t, .inr (2, [.ref h_t_codes, .ref h_t_firsts, .int t_total])), (h_t_codes, aI T 662 t_codes), (h_t_firsts, aI T 8 t_firsts)] ∧ post r ) := by
  refine xI_of (ty := .int) (by decide +kernel) (Nat.le_of_ble_eq_true rfl) rfl ?_
  intro G X hret
  change G 0 0 0 [(0, .ref h_t), (1, .int p1), (2, .int p2), (3, .int p3), (4, .int p4), (5, .int p5)] [] [(h_t, .inr (2, [.ref h_t_codes, .ref h_t_firsts, .int t_total])), (h_t_codes, aI T 662 t_codes), (h_t_firsts, aI T 8 t_firsts)]
  unfold F_X3_shareNumber at h
  have k8 : ∀ (n8 : Nat) (x1 : Int32) (x2 : Int32) (x3 : Int32) (x6 : Int32) (x7 : Int32), F_X3_shareNumber_8 t_total t_codes t_firsts post n8 x1 x2 x3 x6 x7 → G 0 0 8 [(0, .ref h_t), (1, .int x1), (2, .int x2), (3, .int x3), (6, .int x6), (7, .int x7)] [] [(h_t, .inr (2, [.ref h_t_codes, .ref h_t_firsts, .int t_total])), (h_t_codes, aI T 662 t_codes), (h_t_firsts, aI T 8 t_firsts)] := by
    intro n8
    induction n8 with
    | zero => intro x1 x2 x3 x6 x7 h; exact h.elim
    | succ n8 ih8 =>
      intro x1 x2 x3 x6 x7 h
      rw [F_X3_shareNumber_8] at h
      have k72 : F_X3_shareNumber_72 t_total t_codes t_firsts post → G 0 0 72 [] [] [(h_t, .inr (2, [.ref h_t_codes, .ref h_t_firsts, .int t_total])), (h_t_codes, aI T 662 t_codes), (h_t_firsts, aI T 8 t_firsts)] := by
        intro  h
        unfold F_X3_shareNumber_72 at h
        refine x_iconst (v := -1) X dX3_shareNumber_72 (by decide) ?_
        exact hret _ _ _ _ dX3_shareNumber_73 rfl ⟨rfl, h⟩
      refine x_iload X dX3_shareNumber_8 5 rfl ?_
      refine x_aload_n X dX3_shareNumber_10 0 rfl ?_
      refine x_iload_n X dX3_shareNumber_11 2 rfl ?_
      refine x_callVI (av := [.int x2]) (st := [.int x7]) (wr := [(h_t_codes, aI T 662 t_codes)]) X (c_X3_amount l D T h_t h_t_codes h_t_firsts t_total t_firsts x2 _ h) yk_X3_amount tw_328 dX3_shareNumber_12 0 rfl rfl [0, 2] [1] rfl rfl rfl rfl (by decide) rfl rfl (Nat.le_of_ble_eq_true rfl) (Nat.le_of_ble_eq_true rfl) (Nat.le_of_ble_eq_true rfl) (Nat.zero_le _) (Nat.zero_le _) (fun r12 w1 hw => ?_)
      obtain ⟨rfl, h⟩ := hw
      refine x_perm (ws2 := [(h_t, .inr (2, [.ref h_t_codes, .ref h_t_firsts, .int t_total])), (h_t_codes, aI T 662 t_codes), (h_t_firsts, aI T 8 t_firsts)]) X [1, 0, 2] rfl rfl ?_
      refine x_icmp_ge (tgt := 72) X dX3_shareNumber_15 (by decide) (fun hc => ?_) (fun hc => ?_)
      · have h := h.1 hc
        exact x_sub X [] rfl (k72 h)
      · have h := h.2 hc
        refine x_iload_n X dX3_shareNumber_18 3 rfl ?_
        refine x_if_le (tgt := 72) X dX3_shareNumber_19 (by decide) (fun hc => ?_) (fun hc => ?_)
        · have h := h.1 hc
          exact x_sub X [] rfl (k72 h)
        · have h := h.2 hc
          refine x_iload X dX3_shareNumber_22 4 rfl ?_
          refine x_if_lt (tgt := 72) X dX3_shareNumber_24 (by decide) (fun hc => ?_) (fun hc => ?_)
          · have h := h.1 hc
            exact x_sub X [] rfl (k72 h)
          · have h := h.2 hc
            refine x_aload_n X dX3_shareNumber_27 0 rfl ?_
            refine x_iload_n X dX3_shareNumber_28 2 rfl ?_
            refine x_iload X dX3_shareNumber_29 5 rfl ?_
            refine x_iload_n X dX3_shareNumber_31 1 rfl ?_
            refine x_callVI (av := [.int x2, .int x7, .int x1]) (st := []) (wr := []) X (c_X3_heirs l D T h_t h_t_codes h_t_firsts t_total t_codes t_firsts x2 x7 x1 _ h) yk_X3_heirs tw_1275 dX3_shareNumber_32 0 rfl rfl [0, 1, 2] [] rfl rfl rfl rfl (by decide) rfl rfl (Nat.le_of_ble_eq_true rfl) (Nat.le_of_ble_eq_true rfl) (Nat.le_of_ble_eq_true rfl) (Nat.zero_le _) (Nat.zero_le _) (fun r32 w1 hw => ?_)
            obtain ⟨rfl, h⟩ := hw
            refine x_perm (ws2 := [(h_t, .inr (2, [.ref h_t_codes, .ref h_t_firsts, .int t_total])), (h_t_codes, aI T 662 t_codes), (h_t_firsts, aI T 8 t_firsts)]) X [0, 1, 2] rfl rfl ?_
            refine x_istore (lv' := [(8, .int r32), (0, .ref h_t), (1, .int x1), (2, .int x2), (3, .int x3), (6, .int x6), (7, .int x7)]) X dX3_shareNumber_35 (by decide) rfl ?_
            refine x_iload X dX3_shareNumber_37 5 rfl ?_
            refine x_iload X dX3_shareNumber_39 0 rfl ?_
            refine x_icmp_ge (tgt := 56) X dX3_shareNumber_41 (by decide) (fun hc => ?_) (fun hc => ?_)
            · have h := h.1 hc
              refine x_iload X dX3_shareNumber_56 5 rfl ?_
              refine x_iload X dX3_shareNumber_58 0 rfl ?_
              refine x_isub X dX3_shareNumber_60 ?_
              refine x_istore (lv' := [(6, .int (x6 - r32)), (8, .int r32), (0, .ref h_t), (1, .int x1), (2, .int x2), (3, .int x3), (7, .int x7)]) X dX3_shareNumber_61 (by decide) rfl ?_
              refine x_iload X dX3_shareNumber_63 6 rfl ?_
              refine x_iload_n X dX3_shareNumber_65 5 rfl ?_
              refine x_iadd X dX3_shareNumber_66 ?_
              refine x_istore (lv' := [(7, .int (x7 + x3)), (6, .int (x6 - r32)), (8, .int r32), (0, .ref h_t), (1, .int x1), (2, .int x2), (3, .int x3)]) X dX3_shareNumber_67 (by decide) rfl ?_
              refine x_goto (tgt := 8) X dX3_shareNumber_69 (by decide) ?_
              exact x_sub X [3, 4, 5, 6, 1, 0] rfl (ih8 x1 x2 x3 (x6 - r32) (x7 + x3) h)
            · have h := h.2 hc
              refine x_aload_n X dX3_shareNumber_44 1 rfl ?_
              refine x_iload_n X dX3_shareNumber_45 3 rfl ?_
              refine x_iload X dX3_shareNumber_46 6 rfl ?_
              refine x_iload_n X dX3_shareNumber_48 2 rfl ?_
              refine x_callVI (av := [.int x2, .int x7, .int x1]) (st := []) (wr := []) X (c_X3_firstHeir l D T h_t h_t_codes h_t_firsts t_total t_codes t_firsts x2 x7 x1 _ h) yk_X3_firstHeir tw_945 dX3_shareNumber_49 0 rfl rfl [0, 1, 2] [] rfl rfl rfl rfl (by decide) rfl rfl (Nat.le_of_ble_eq_true rfl) (Nat.le_of_ble_eq_true rfl) (Nat.le_of_ble_eq_true rfl) (Nat.zero_le _) (Nat.zero_le _) (fun r49 w1 hw => ?_)
              obtain ⟨rfl, h⟩ := hw
              refine x_perm (ws2 := [(h_t, .inr (2, [.ref h_t_codes, .ref h_t_firsts, .int t_total])), (h_t_codes, aI T 662 t_codes), (h_t_firsts, aI T 8 t_firsts)]) X [0, 1, 2] rfl rfl ?_
              refine x_iload X dX3_shareNumber_52 5 rfl ?_
              refine x_iadd X dX3_shareNumber_54 ?_
              exact hret _ _ _ _ dX3_shareNumber_55 rfl ⟨rfl, h⟩
  refine x_iload X dX3_shareNumber_0 5 rfl ?_
  refine x_istore (lv' := [(6, .int p5), (0, .ref h_t), (1, .int p1), (2, .int p2), (3, .int p3), (4, .int p4), (5, .int p5)]) X dX3_shareNumber_2 (by decide) rfl ?_
  refine x_iload X dX3_shareNumber_4 5 rfl ?_
  refine x_istore (lv' := [(7, .int p4), (6, .int p5), (0, .ref h_t), (1, .int p1), (2, .int p2), (3, .int p3), (4, .int p4), (5, .int p5)]) X dX3_shareNumber_6 (by decide) rfl ?_
  obtain ⟨n8, h⟩ := h
  exact x_sub X [2, 3, 4, 5, 1, 0] rfl (k8 n8 p1 p2 p3 p5 p4 h)
