/-! OrderlyNets$Levels: decode rows (printed), and each method kept by its F -/
theorem dX3_copyFrom_0 : decode cX3_copyFrom 0 = .ok (.aload_n 1, 1) := by decide +kernel
theorem dX3_copyFrom_1 : decode cX3_copyFrom 1 = .ok (.getfield 11, 3) := by decide +kernel
theorem dX3_copyFrom_4 : decode cX3_copyFrom 4 = .ok (.iconst 0, 1) := by decide +kernel
theorem dX3_copyFrom_5 : decode cX3_copyFrom 5 = .ok (.aload_n 0, 1) := by decide +kernel
theorem dX3_copyFrom_6 : decode cX3_copyFrom 6 = .ok (.getfield 11, 3) := by decide +kernel
theorem dX3_copyFrom_9 : decode cX3_copyFrom 9 = .ok (.iconst 0, 1) := by decide +kernel
theorem dX3_copyFrom_10 : decode cX3_copyFrom 10 = .ok (.sipush 662, 3) := by decide +kernel
theorem dX3_copyFrom_13 : decode cX3_copyFrom 13 = .ok (.invokestatic 18, 3) := by decide +kernel
theorem dX3_copyFrom_16 : decode cX3_copyFrom 16 = .ok (.aload_n 1, 1) := by decide +kernel
theorem dX3_copyFrom_17 : decode cX3_copyFrom 17 = .ok (.getfield 15, 3) := by decide +kernel
theorem dX3_copyFrom_20 : decode cX3_copyFrom 20 = .ok (.iconst 0, 1) := by decide +kernel
theorem dX3_copyFrom_21 : decode cX3_copyFrom 21 = .ok (.aload_n 0, 1) := by decide +kernel
theorem dX3_copyFrom_22 : decode cX3_copyFrom 22 = .ok (.getfield 15, 3) := by decide +kernel
theorem dX3_copyFrom_25 : decode cX3_copyFrom 25 = .ok (.iconst 0, 1) := by decide +kernel
theorem dX3_copyFrom_26 : decode cX3_copyFrom 26 = .ok (.bipush 8, 2) := by decide +kernel
theorem dX3_copyFrom_28 : decode cX3_copyFrom 28 = .ok (.invokestatic 18, 3) := by decide +kernel
theorem dX3_copyFrom_31 : decode cX3_copyFrom 31 = .ok (.aload_n 0, 1) := by decide +kernel
theorem dX3_copyFrom_32 : decode cX3_copyFrom 32 = .ok (.aload_n 1, 1) := by decide +kernel
theorem dX3_copyFrom_33 : decode cX3_copyFrom 33 = .ok (.getfield 24, 3) := by decide +kernel
theorem dX3_copyFrom_36 : decode cX3_copyFrom 36 = .ok (.putfield 24, 3) := by decide +kernel
theorem dX3_copyFrom_39 : decode cX3_copyFrom 39 = .ok (.return_, 1) := by decide +kernel
set_option maxHeartbeats 4000000 in
set_option maxRecDepth 100000 in
theorem c_X3_copyFrom (l : Launch) (D : va_G) (T : Nat → ClassId) (h_p1 h_p1_codes h_p1_firsts h_t h_t_codes h_t_firsts : Nat) (p1_total : Int32) (p1_codes : Nat → Int32) (p1_firsts : Nat → Int32) (t_total : Int32) (t_codes : Nat → Int32) (t_firsts : Nat → Int32) (post : Int32 → (Nat → Int32) → (Nat → Int32) → Prop) (h : F_X3_copyFrom p1_total p1_codes p1_firsts t_total t_codes t_firsts post) : cV l D T yX3_copyFrom cX3_copyFrom 2 none 1 50 0 0 [.ref h_t, .ref h_p1] [(h_p1, .inr (2, [.ref h_p1_codes, .ref h_p1_firsts, .int p1_total])), (h_p1_codes, aI T 662 p1_codes), (h_p1_firsts, aI T 8 p1_firsts), (h_t, .inr (2, [.ref h_t_codes, .ref h_t_firsts, .int t_total])), (h_t_codes, aI T 662 t_codes), (h_t_firsts, aI T 8 t_firsts)] (fun w1 => ∃ (t_total1 : Int32) (t_codes1 : Nat → Int32) (t_firsts1 : Nat → Int32), w1 = [(h_p1, .inr (2, [.ref h_p1_codes, .ref h_p1_firsts, .int p1_total])), (h_p1_codes, aI T 662 p1_codes), (h_p1_firsts, aI T 8 p1_firsts), (h_t, .inr (2, [.ref h_t_codes, .ref h_t_firsts, .int t_total1])), (h_t_codes, aI T 662 t_codes1), (h_t_firsts, aI T 8 t_firsts1)] ∧ post t_total1 t_codes1 t_firsts1) := by
  refine xV_of (by decide +kernel) (Nat.le_of_ble_eq_true rfl) rfl ?_
  intro G X hret
  change G 0 0 0 [(0, .ref h_t), (1, .ref h_p1)] [] [(h_p1, .inr (2, [.ref h_p1_codes, .ref h_p1_firsts, .int p1_total])), (h_p1_codes, aI T 662 p1_codes), (h_p1_firsts, aI T 8 p1_firsts), (h_t, .inr (2, [.ref h_t_codes, .ref h_t_firsts, .int t_total])), (h_t_codes, aI T 662 t_codes), (h_t_firsts, aI T 8 t_firsts)]
  unfold F_X3_copyFrom at h
  refine x_aload_n X dX3_copyFrom_0 1 rfl ?_
  refine x_get X inGX3 0 (by decide) rfl tw_141 dX3_copyFrom_1 rfl 0 rfl rfl ?_
  refine x_iconst (v := 0) X dX3_copyFrom_4 (by decide) ?_
  refine x_aload_n X dX3_copyFrom_5 0 rfl ?_
  refine x_get X inGX3 0 (by decide) rfl tw_141 dX3_copyFrom_6 rfl 3 rfl rfl ?_
  refine x_iconst (v := 0) X dX3_copyFrom_9 (by decide) ?_
  refine x_sipush (v := 662) X dX3_copyFrom_10 (by decide) ?_
  obtain ⟨⟨g1, g2, g3, g4, g5⟩, h⟩ := h
  refine x_acopy (ws' := [(h_p1, .inr (2, [.ref h_p1_codes, .ref h_p1_firsts, .int p1_total])), (h_p1_codes, aI T 662 p1_codes), (h_p1_firsts, aI T 8 p1_firsts), (h_t, .inr (2, [.ref h_t_codes, .ref h_t_firsts, .int t_total])), (h_t_codes, aI T 662 (va_cpy p1_codes t_codes (0 : Int32).toNatClampNeg (0 : Int32).toNatClampNeg (662 : Int32).toNatClampNeg)), (h_t_firsts, aI T 8 t_firsts)]) X tw_576 tw_571 tw_570 tw_24 1 4 rfl rfl g1 g2 g3 g4 g5 (Nat.le_of_ble_eq_true rfl) (Nat.le_of_ble_eq_true rfl) (Nat.le_of_ble_eq_true rfl) dX3_copyFrom_13 rfl ?_
  refine x_aload_n X dX3_copyFrom_16 1 rfl ?_
  refine x_get X inGX3 1 (by decide) rfl tw_142 dX3_copyFrom_17 rfl 0 rfl rfl ?_
  refine x_iconst (v := 0) X dX3_copyFrom_20 (by decide) ?_
  refine x_aload_n X dX3_copyFrom_21 0 rfl ?_
  refine x_get X inGX3 1 (by decide) rfl tw_142 dX3_copyFrom_22 rfl 3 rfl rfl ?_
  refine x_iconst (v := 0) X dX3_copyFrom_25 (by decide) ?_
  refine x_bipush (v := 8) X dX3_copyFrom_26 (by decide) ?_
  obtain ⟨⟨g1, g2, g3, g4, g5⟩, h⟩ := h
  refine x_acopy (ws' := [(h_p1, .inr (2, [.ref h_p1_codes, .ref h_p1_firsts, .int p1_total])), (h_p1_codes, aI T 662 p1_codes), (h_p1_firsts, aI T 8 p1_firsts), (h_t, .inr (2, [.ref h_t_codes, .ref h_t_firsts, .int t_total])), (h_t_codes, aI T 662 (va_cpy p1_codes t_codes (0 : Int32).toNatClampNeg (0 : Int32).toNatClampNeg (662 : Int32).toNatClampNeg)), (h_t_firsts, aI T 8 (va_cpy p1_firsts t_firsts (0 : Int32).toNatClampNeg (0 : Int32).toNatClampNeg (8 : Int32).toNatClampNeg))]) X tw_576 tw_571 tw_570 tw_24 2 5 rfl rfl g1 g2 g3 g4 g5 (Nat.le_of_ble_eq_true rfl) (Nat.le_of_ble_eq_true rfl) (Nat.le_of_ble_eq_true rfl) dX3_copyFrom_28 rfl ?_
  refine x_aload_n X dX3_copyFrom_31 0 rfl ?_
  refine x_aload_n X dX3_copyFrom_32 1 rfl ?_
  refine x_get X inGX3 2 (by decide) rfl tw_143 dX3_copyFrom_33 rfl 0 rfl rfl ?_
  refine x_put (ws' := [(h_p1, .inr (2, [.ref h_p1_codes, .ref h_p1_firsts, .int p1_total])), (h_p1_codes, aI T 662 p1_codes), (h_p1_firsts, aI T 8 p1_firsts), (h_t, .inr (2, [.ref h_t_codes, .ref h_t_firsts, .int p1_total])), (h_t_codes, aI T 662 (va_cpy p1_codes t_codes (0 : Int32).toNatClampNeg (0 : Int32).toNatClampNeg (662 : Int32).toNatClampNeg)), (h_t_firsts, aI T 8 (va_cpy p1_firsts t_firsts (0 : Int32).toNatClampNeg (0 : Int32).toNatClampNeg (8 : Int32).toNatClampNeg))]) X inGX3 tyX3_ok nmX3 2 (by decide) rfl tw_143 dX3_copyFrom_36 rfl rfl 3 rfl rfl rfl (Nat.le_of_ble_eq_true rfl) rfl ?_
  exact hret _ _ _ dX3_copyFrom_39 ⟨p1_total, (va_cpy p1_codes t_codes (0 : Int32).toNatClampNeg (0 : Int32).toNatClampNeg (662 : Int32).toNatClampNeg), (va_cpy p1_firsts t_firsts (0 : Int32).toNatClampNeg (0 : Int32).toNatClampNeg (8 : Int32).toNatClampNeg), rfl, h⟩
theorem dX3_add_0 : decode cX3_add 0 = .ok (.aload_n 0, 1) := by decide +kernel
theorem dX3_add_1 : decode cX3_add 1 = .ok (.getfield 24, 3) := by decide +kernel
theorem dX3_add_4 : decode cX3_add 4 = .ok (.ifCond .lt 35, 3) := by decide +kernel
theorem dX3_add_7 : decode cX3_add 7 = .ok (.aload_n 0, 1) := by decide +kernel
theorem dX3_add_8 : decode cX3_add 8 = .ok (.getfield 24, 3) := by decide +kernel
theorem dX3_add_11 : decode cX3_add 11 = .ok (.aload_n 0, 1) := by decide +kernel
theorem dX3_add_12 : decode cX3_add 12 = .ok (.getfield 11, 3) := by decide +kernel
theorem dX3_add_15 : decode cX3_add 15 = .ok (.arraylength, 1) := by decide +kernel
theorem dX3_add_16 : decode cX3_add 16 = .ok (.if_icmp .ge 23, 3) := by decide +kernel
theorem dX3_add_19 : decode cX3_add 19 = .ok (.aload_n 0, 1) := by decide +kernel
theorem dX3_add_20 : decode cX3_add 20 = .ok (.getfield 11, 3) := by decide +kernel
theorem dX3_add_23 : decode cX3_add 23 = .ok (.aload_n 0, 1) := by decide +kernel
theorem dX3_add_24 : decode cX3_add 24 = .ok (.getfield 24, 3) := by decide +kernel
theorem dX3_add_27 : decode cX3_add 27 = .ok (.iload_n 1, 1) := by decide +kernel
theorem dX3_add_28 : decode cX3_add 28 = .ok (.iastore, 1) := by decide +kernel
theorem dX3_add_29 : decode cX3_add 29 = .ok (.aload_n 0, 1) := by decide +kernel
theorem dX3_add_30 : decode cX3_add 30 = .ok (.dup, 1) := by decide +kernel
theorem dX3_add_31 : decode cX3_add 31 = .ok (.getfield 24, 3) := by decide +kernel
theorem dX3_add_34 : decode cX3_add 34 = .ok (.iconst 1, 1) := by decide +kernel
theorem dX3_add_35 : decode cX3_add 35 = .ok (.iadd, 1) := by decide +kernel
theorem dX3_add_36 : decode cX3_add 36 = .ok (.putfield 24, 3) := by decide +kernel
theorem dX3_add_39 : decode cX3_add 39 = .ok (.return_, 1) := by decide +kernel
set_option maxHeartbeats 4000000 in
set_option maxRecDepth 100000 in
theorem c_X3_add (l : Launch) (D : va_G) (T : Nat → ClassId) (h_t h_t_codes h_t_firsts : Nat) (t_total : Int32) (t_codes : Nat → Int32) (p1 : Int32) (post : Int32 → (Nat → Int32) → Prop) (h : F_X3_add t_total t_codes p1 post) : cV l D T yX3_add cX3_add 2 none 0 0 0 0 [.ref h_t, .int p1] [(h_t, .inr (2, [.ref h_t_codes, .ref h_t_firsts, .int t_total])), (h_t_codes, aI T 662 t_codes)] (fun w1 => ∃ (t_total1 : Int32) (t_codes1 : Nat → Int32), w1 = [(h_t, .inr (2, [.ref h_t_codes, .ref h_t_firsts, .int t_total1])), (h_t_codes, aI T 662 t_codes1)] ∧ post t_total1 t_codes1) := by
  refine xV_of (by decide +kernel) (Nat.le_of_ble_eq_true rfl) rfl ?_
  intro G X hret
  change G 0 0 0 [(0, .ref h_t), (1, .int p1)] [] [(h_t, .inr (2, [.ref h_t_codes, .ref h_t_firsts, .int t_total])), (h_t_codes, aI T 662 t_codes)]
  unfold F_X3_add at h
  have k39 : ∀ (t_total : Int32) (t_codes : Nat → Int32), F_X3_add_39 post t_total t_codes → G 0 0 39 [] [] [(h_t, .inr (2, [.ref h_t_codes, .ref h_t_firsts, .int t_total])), (h_t_codes, aI T 662 t_codes)] := by
    intro t_total t_codes h
    unfold F_X3_add_39 at h
    exact hret _ _ _ dX3_add_39 ⟨t_total, t_codes, rfl, h⟩
  refine x_aload_n X dX3_add_0 0 rfl ?_
  refine x_get X inGX3 2 (by decide) rfl tw_143 dX3_add_1 rfl 0 rfl rfl ?_
  refine x_if_lt (tgt := 39) X dX3_add_4 (by decide) (fun hc => ?_) (fun hc => ?_)
  · have h := h.1 hc
    exact x_sub X [] rfl (k39 t_total t_codes h)
  · have h := h.2 hc
    refine x_aload_n X dX3_add_7 0 rfl ?_
    refine x_get X inGX3 2 (by decide) rfl tw_143 dX3_add_8 rfl 0 rfl rfl ?_
    refine x_aload_n X dX3_add_11 0 rfl ?_
    refine x_get X inGX3 0 (by decide) rfl tw_141 dX3_add_12 rfl 0 rfl rfl ?_
    refine x_alen (v := (662 : Int32)) X dX3_add_15 1 1 rfl rfl rfl ?_
    refine x_icmp_ge (tgt := 39) X dX3_add_16 (by decide) (fun hc => ?_) (fun hc => ?_)
    · have h := h.1 hc
      exact x_sub X [] rfl (k39 t_total t_codes h)
    · have h := h.2 hc
      refine x_aload_n X dX3_add_19 0 rfl ?_
      refine x_get X inGX3 0 (by decide) rfl tw_141 dX3_add_20 rfl 0 rfl rfl ?_
      refine x_aload_n X dX3_add_23 0 rfl ?_
      refine x_get X inGX3 2 (by decide) rfl tw_143 dX3_add_24 rfl 0 rfl rfl ?_
      refine x_iload_n X dX3_add_27 1 rfl ?_
      obtain ⟨hi, h⟩ := h
      refine x_iast (ws' := [(h_t, .inr (2, [.ref h_t_codes, .ref h_t_firsts, .int t_total])), (h_t_codes, aI T 662 (upd t_codes t_total.toNatClampNeg p1))]) X dX3_add_28 1 rfl hi rfl ?_
      refine x_aload_n X dX3_add_29 0 rfl ?_
      refine x_dup X dX3_add_30 rfl ?_
      refine x_get X inGX3 2 (by decide) rfl tw_143 dX3_add_31 rfl 0 rfl rfl ?_
      refine x_iconst (v := 1) X dX3_add_34 (by decide) ?_
      refine x_iadd X dX3_add_35 ?_
      refine x_put (ws' := [(h_t, .inr (2, [.ref h_t_codes, .ref h_t_firsts, .int (t_total + (1 : Int32))])), (h_t_codes, aI T 662 (upd t_codes t_total.toNatClampNeg p1))]) X inGX3 tyX3_ok nmX3 2 (by decide) rfl tw_143 dX3_add_36 rfl rfl 0 rfl rfl rfl (Nat.le_of_ble_eq_true rfl) rfl ?_
      exact x_sub X [] rfl (k39 (t_total + (1 : Int32)) (upd t_codes t_total.toNatClampNeg p1) h)
theorem dX3_firstOf_0 : decode cX3_firstOf 0 = .ok (.iload_n 1, 1) := by decide +kernel
theorem dX3_firstOf_1 : decode cX3_firstOf 1 = .ok (.ifCond .lt 21, 3) := by decide +kernel
theorem dX3_firstOf_4 : decode cX3_firstOf 4 = .ok (.iload_n 1, 1) := by decide +kernel
theorem dX3_firstOf_5 : decode cX3_firstOf 5 = .ok (.aload_n 0, 1) := by decide +kernel
theorem dX3_firstOf_6 : decode cX3_firstOf 6 = .ok (.getfield 15, 3) := by decide +kernel
theorem dX3_firstOf_9 : decode cX3_firstOf 9 = .ok (.arraylength, 1) := by decide +kernel
theorem dX3_firstOf_10 : decode cX3_firstOf 10 = .ok (.if_icmp .ge 12, 3) := by decide +kernel
theorem dX3_firstOf_13 : decode cX3_firstOf 13 = .ok (.aload_n 0, 1) := by decide +kernel
theorem dX3_firstOf_14 : decode cX3_firstOf 14 = .ok (.getfield 15, 3) := by decide +kernel
theorem dX3_firstOf_17 : decode cX3_firstOf 17 = .ok (.iload_n 1, 1) := by decide +kernel
theorem dX3_firstOf_18 : decode cX3_firstOf 18 = .ok (.iaload, 1) := by decide +kernel
theorem dX3_firstOf_19 : decode cX3_firstOf 19 = .ok (.goto 7, 3) := by decide +kernel
theorem dX3_firstOf_22 : decode cX3_firstOf 22 = .ok (.aload_n 0, 1) := by decide +kernel
theorem dX3_firstOf_23 : decode cX3_firstOf 23 = .ok (.getfield 24, 3) := by decide +kernel
theorem dX3_firstOf_26 : decode cX3_firstOf 26 = .ok (.ireturn, 1) := by decide +kernel
set_option maxHeartbeats 4000000 in
set_option maxRecDepth 100000 in
theorem c_X3_firstOf (l : Launch) (D : va_G) (T : Nat → ClassId) (h_t h_t_codes h_t_firsts : Nat) (t_total : Int32) (t_firsts : Nat → Int32) (p1 : Int32) (post : Int32 → Prop) (h : F_X3_firstOf t_total t_firsts p1 post) : cI l D T yX3_firstOf cX3_firstOf 2 (some .int) 0 0 0 0 [.ref h_t, .int p1] [(h_t, .inr (2, [.ref h_t_codes, .ref h_t_firsts, .int t_total])), (h_t_firsts, aI T 8 t_firsts)] (fun r w1 => w1 = [(h_t, .inr (2, [.ref h_t_codes, .ref h_t_firsts, .int t_total])), (h_t_firsts, aI T 8 t_firsts)] ∧ post r ) := by
  refine xI_of (ty := .int) (by decide +kernel) (Nat.le_of_ble_eq_true rfl) rfl ?_
  intro G X hret
  change G 0 0 0 [(0, .ref h_t), (1, .int p1)] [] [(h_t, .inr (2, [.ref h_t_codes, .ref h_t_firsts, .int t_total])), (h_t_firsts, aI T 8 t_firsts)]
  unfold F_X3_firstOf at h
  have k26 : ∀ (s0 : Int32), F_X3_firstOf_26 t_total t_firsts post s0 → G 0 0 26 [] [.int s0] [(h_t, .inr (2, [.ref h_t_codes, .ref h_t_firsts, .int t_total])), (h_t_firsts, aI T 8 t_firsts)] := by
    intro s0 h
    unfold F_X3_firstOf_26 at h
    exact hret _ _ _ _ dX3_firstOf_26 rfl ⟨rfl, h⟩
  have k22 : F_X3_firstOf_22 t_total t_firsts post (fun s0 => F_X3_firstOf_26 t_total t_firsts post s0) → G 0 0 22 [(0, .ref h_t)] [] [(h_t, .inr (2, [.ref h_t_codes, .ref h_t_firsts, .int t_total])), (h_t_firsts, aI T 8 t_firsts)] := by
    intro  h
    unfold F_X3_firstOf_22 at h
    refine x_aload_n X dX3_firstOf_22 0 rfl ?_
    refine x_get X inGX3 2 (by decide) rfl tw_143 dX3_firstOf_23 rfl 0 rfl rfl ?_
    exact x_sub X [] rfl (k26 t_total h)
  refine x_iload_n X dX3_firstOf_0 1 rfl ?_
  refine x_if_lt (tgt := 22) X dX3_firstOf_1 (by decide) (fun hc => ?_) (fun hc => ?_)
  · have h := h.1 hc
    exact x_sub X [0] rfl (k22 h)
  · have h := h.2 hc
    refine x_iload_n X dX3_firstOf_4 1 rfl ?_
    refine x_aload_n X dX3_firstOf_5 0 rfl ?_
    refine x_get X inGX3 1 (by decide) rfl tw_142 dX3_firstOf_6 rfl 0 rfl rfl ?_
    refine x_alen (v := (8 : Int32)) X dX3_firstOf_9 1 1 rfl rfl rfl ?_
    refine x_icmp_ge (tgt := 22) X dX3_firstOf_10 (by decide) (fun hc => ?_) (fun hc => ?_)
    · have h := h.1 hc
      exact x_sub X [0] rfl (k22 h)
    · have h := h.2 hc
      refine x_aload_n X dX3_firstOf_13 0 rfl ?_
      refine x_get X inGX3 1 (by decide) rfl tw_142 dX3_firstOf_14 rfl 0 rfl rfl ?_
      refine x_iload_n X dX3_firstOf_17 1 rfl ?_
      obtain ⟨hi, h⟩ := h
      refine x_iald X dX3_firstOf_18 1 rfl hi ?_
      refine x_goto (tgt := 26) X dX3_firstOf_19 (by decide) ?_
      exact x_sub X [] rfl (k26 (t_firsts p1.toNatClampNeg) h)
theorem dX3_amount_0 : decode cX3_amount 0 = .ok (.aload_n 0, 1) := by decide +kernel
theorem dX3_amount_1 : decode cX3_amount 1 = .ok (.iload_n 1, 1) := by decide +kernel
theorem dX3_amount_2 : decode cX3_amount 2 = .ok (.iconst 1, 1) := by decide +kernel
theorem dX3_amount_3 : decode cX3_amount 3 = .ok (.iadd, 1) := by decide +kernel
theorem dX3_amount_4 : decode cX3_amount 4 = .ok (.invokevirtual 66, 3) := by decide +kernel
theorem dX3_amount_7 : decode cX3_amount 7 = .ok (.aload_n 0, 1) := by decide +kernel
theorem dX3_amount_8 : decode cX3_amount 8 = .ok (.iload_n 1, 1) := by decide +kernel
theorem dX3_amount_9 : decode cX3_amount 9 = .ok (.invokevirtual 66, 3) := by decide +kernel
theorem dX3_amount_12 : decode cX3_amount 12 = .ok (.isub, 1) := by decide +kernel
theorem dX3_amount_13 : decode cX3_amount 13 = .ok (.ireturn, 1) := by decide +kernel
set_option maxHeartbeats 4000000 in
set_option maxRecDepth 100000 in
theorem c_X3_amount (l : Launch) (D : va_G) (T : Nat → ClassId) (h_t h_t_codes h_t_firsts : Nat) (t_total : Int32) (t_firsts : Nat → Int32) (p1 : Int32) (post : Int32 → Prop) (h : F_X3_amount t_total t_firsts p1 post) : cI l D T yX3_amount cX3_amount 2 (some .int) 1 21 0 0 [.ref h_t, .int p1] [(h_t, .inr (2, [.ref h_t_codes, .ref h_t_firsts, .int t_total])), (h_t_firsts, aI T 8 t_firsts)] (fun r w1 => w1 = [(h_t, .inr (2, [.ref h_t_codes, .ref h_t_firsts, .int t_total])), (h_t_firsts, aI T 8 t_firsts)] ∧ post r ) := by
  refine xI_of (ty := .int) (by decide +kernel) (Nat.le_of_ble_eq_true rfl) rfl ?_
  intro G X hret
  change G 0 0 0 [(0, .ref h_t), (1, .int p1)] [] [(h_t, .inr (2, [.ref h_t_codes, .ref h_t_firsts, .int t_total])), (h_t_firsts, aI T 8 t_firsts)]
  unfold F_X3_amount at h
  refine x_aload_n X dX3_amount_0 0 rfl ?_
  refine x_iload_n X dX3_amount_1 1 rfl ?_
  refine x_iconst (v := 1) X dX3_amount_2 (by decide) ?_
  refine x_iadd X dX3_amount_3 ?_
  refine x_callVI (av := [.int (p1 + (1 : Int32))]) (st := []) (wr := []) X (c_X3_firstOf l D T h_t h_t_codes h_t_firsts t_total t_firsts (p1 + (1 : Int32)) _ h) yk_X3_firstOf tw_332 dX3_amount_4 0 rfl rfl [0, 1] [] rfl rfl rfl rfl (by decide) rfl rfl (Nat.le_of_ble_eq_true rfl) (Nat.le_of_ble_eq_true rfl) (Nat.le_of_ble_eq_true rfl) (Nat.zero_le _) (Nat.zero_le _) (fun r4 w1 hw => ?_)
  obtain ⟨rfl, h⟩ := hw
  refine x_perm (ws2 := [(h_t, .inr (2, [.ref h_t_codes, .ref h_t_firsts, .int t_total])), (h_t_firsts, aI T 8 t_firsts)]) X [0, 1] rfl rfl ?_
  refine x_aload_n X dX3_amount_7 0 rfl ?_
  refine x_iload_n X dX3_amount_8 1 rfl ?_
  refine x_callVI (av := [.int p1]) (st := [.int r4]) (wr := []) X (c_X3_firstOf l D T h_t h_t_codes h_t_firsts t_total t_firsts p1 _ h) yk_X3_firstOf tw_332 dX3_amount_9 0 rfl rfl [0, 1] [] rfl rfl rfl rfl (by decide) rfl rfl (Nat.le_of_ble_eq_true rfl) (Nat.le_of_ble_eq_true rfl) (Nat.le_of_ble_eq_true rfl) (Nat.zero_le _) (Nat.zero_le _) (fun r9 w1 hw => ?_)
  obtain ⟨rfl, h⟩ := hw
  refine x_perm (ws2 := [(h_t, .inr (2, [.ref h_t_codes, .ref h_t_firsts, .int t_total])), (h_t_firsts, aI T 8 t_firsts)]) X [0, 1] rfl rfl ?_
  refine x_isub X dX3_amount_12 ?_
  exact hret _ _ _ _ dX3_amount_13 rfl ⟨rfl, h⟩
theorem dX3_codeOf_0 : decode cX3_codeOf 0 = .ok (.aload_n 0, 1) := by decide +kernel
theorem dX3_codeOf_1 : decode cX3_codeOf 1 = .ok (.iload_n 1, 1) := by decide +kernel
theorem dX3_codeOf_2 : decode cX3_codeOf 2 = .ok (.invokevirtual 66, 3) := by decide +kernel
theorem dX3_codeOf_5 : decode cX3_codeOf 5 = .ok (.iload_n 2, 1) := by decide +kernel
theorem dX3_codeOf_6 : decode cX3_codeOf 6 = .ok (.iadd, 1) := by decide +kernel
theorem dX3_codeOf_7 : decode cX3_codeOf 7 = .ok (.istore_n 3, 1) := by decide +kernel
theorem dX3_codeOf_8 : decode cX3_codeOf 8 = .ok (.iload_n 3, 1) := by decide +kernel
theorem dX3_codeOf_9 : decode cX3_codeOf 9 = .ok (.ifCond .lt 21, 3) := by decide +kernel
theorem dX3_codeOf_12 : decode cX3_codeOf 12 = .ok (.iload_n 3, 1) := by decide +kernel
theorem dX3_codeOf_13 : decode cX3_codeOf 13 = .ok (.aload_n 0, 1) := by decide +kernel
theorem dX3_codeOf_14 : decode cX3_codeOf 14 = .ok (.getfield 11, 3) := by decide +kernel
theorem dX3_codeOf_17 : decode cX3_codeOf 17 = .ok (.arraylength, 1) := by decide +kernel
theorem dX3_codeOf_18 : decode cX3_codeOf 18 = .ok (.if_icmp .ge 12, 3) := by decide +kernel
theorem dX3_codeOf_21 : decode cX3_codeOf 21 = .ok (.aload_n 0, 1) := by decide +kernel
theorem dX3_codeOf_22 : decode cX3_codeOf 22 = .ok (.getfield 11, 3) := by decide +kernel
theorem dX3_codeOf_25 : decode cX3_codeOf 25 = .ok (.iload_n 3, 1) := by decide +kernel
theorem dX3_codeOf_26 : decode cX3_codeOf 26 = .ok (.iaload, 1) := by decide +kernel
theorem dX3_codeOf_27 : decode cX3_codeOf 27 = .ok (.goto 4, 3) := by decide +kernel
theorem dX3_codeOf_30 : decode cX3_codeOf 30 = .ok (.iconst (-1), 1) := by decide +kernel
theorem dX3_codeOf_31 : decode cX3_codeOf 31 = .ok (.ireturn, 1) := by decide +kernel
set_option maxHeartbeats 4000000 in
set_option maxRecDepth 100000 in
theorem c_X3_codeOf (l : Launch) (D : va_G) (T : Nat → ClassId) (h_t h_t_codes h_t_firsts : Nat) (t_total : Int32) (t_codes : Nat → Int32) (t_firsts : Nat → Int32) (p1 : Int32) (p2 : Int32) (post : Int32 → Prop) (h : F_X3_codeOf t_total t_codes t_firsts p1 p2 post) : cI l D T yX3_codeOf cX3_codeOf 4 (some .int) 1 21 0 0 [.ref h_t, .int p1, .int p2] [(h_t, .inr (2, [.ref h_t_codes, .ref h_t_firsts, .int t_total])), (h_t_codes, aI T 662 t_codes), (h_t_firsts, aI T 8 t_firsts)] (fun r w1 => w1 = [(h_t, .inr (2, [.ref h_t_codes, .ref h_t_firsts, .int t_total])), (h_t_codes, aI T 662 t_codes), (h_t_firsts, aI T 8 t_firsts)] ∧ post r ) := by
  refine xI_of (ty := .int) (by decide +kernel) (Nat.le_of_ble_eq_true rfl) rfl ?_
  intro G X hret
  change G 0 0 0 [(0, .ref h_t), (1, .int p1), (2, .int p2)] [] [(h_t, .inr (2, [.ref h_t_codes, .ref h_t_firsts, .int t_total])), (h_t_codes, aI T 662 t_codes), (h_t_firsts, aI T 8 t_firsts)]
  unfold F_X3_codeOf at h
  have k31 : ∀ (s0 : Int32), F_X3_codeOf_31 t_total t_codes t_firsts post s0 → G 0 0 31 [] [.int s0] [(h_t, .inr (2, [.ref h_t_codes, .ref h_t_firsts, .int t_total])), (h_t_codes, aI T 662 t_codes), (h_t_firsts, aI T 8 t_firsts)] := by
    intro s0 h
    unfold F_X3_codeOf_31 at h
    exact hret _ _ _ _ dX3_codeOf_31 rfl ⟨rfl, h⟩
  have k30 : F_X3_codeOf_30 t_total t_codes t_firsts post (fun s0 => F_X3_codeOf_31 t_total t_codes t_firsts post s0) → G 0 0 30 [] [] [(h_t, .inr (2, [.ref h_t_codes, .ref h_t_firsts, .int t_total])), (h_t_codes, aI T 662 t_codes), (h_t_firsts, aI T 8 t_firsts)] := by
    intro  h
    unfold F_X3_codeOf_30 at h
    refine x_iconst (v := -1) X dX3_codeOf_30 (by decide) ?_
    exact x_sub X [] rfl (k31 (-1 : Int32) h)
  refine x_aload_n X dX3_codeOf_0 0 rfl ?_
  refine x_iload_n X dX3_codeOf_1 1 rfl ?_
  refine x_callVI (av := [.int p1]) (st := []) (wr := [(h_t_codes, aI T 662 t_codes)]) X (c_X3_firstOf l D T h_t h_t_codes h_t_firsts t_total t_firsts p1 _ h) yk_X3_firstOf tw_332 dX3_codeOf_2 0 rfl rfl [0, 2] [1] rfl rfl rfl rfl (by decide) rfl rfl (Nat.le_of_ble_eq_true rfl) (Nat.le_of_ble_eq_true rfl) (Nat.le_of_ble_eq_true rfl) (Nat.zero_le _) (Nat.zero_le _) (fun r2 w1 hw => ?_)
  obtain ⟨rfl, h⟩ := hw
  refine x_perm (ws2 := [(h_t, .inr (2, [.ref h_t_codes, .ref h_t_firsts, .int t_total])), (h_t_codes, aI T 662 t_codes), (h_t_firsts, aI T 8 t_firsts)]) X [1, 0, 2] rfl rfl ?_
  refine x_iload_n X dX3_codeOf_5 2 rfl ?_
  refine x_iadd X dX3_codeOf_6 ?_
  refine x_istore_n (lv' := [(3, .int (r2 + p2)), (0, .ref h_t), (1, .int p1), (2, .int p2)]) X dX3_codeOf_7 (by decide) rfl ?_
  refine x_iload_n X dX3_codeOf_8 0 rfl ?_
  refine x_if_lt (tgt := 30) X dX3_codeOf_9 (by decide) (fun hc => ?_) (fun hc => ?_)
  · have h := h.1 hc
    exact x_sub X [] rfl (k30 h)
  · have h := h.2 hc
    refine x_iload_n X dX3_codeOf_12 0 rfl ?_
    refine x_aload_n X dX3_codeOf_13 1 rfl ?_
    refine x_get X inGX3 0 (by decide) rfl tw_141 dX3_codeOf_14 rfl 0 rfl rfl ?_
    refine x_alen (v := (662 : Int32)) X dX3_codeOf_17 1 1 rfl rfl rfl ?_
    refine x_icmp_ge (tgt := 30) X dX3_codeOf_18 (by decide) (fun hc => ?_) (fun hc => ?_)
    · have h := h.1 hc
      exact x_sub X [] rfl (k30 h)
    · have h := h.2 hc
      refine x_aload_n X dX3_codeOf_21 1 rfl ?_
      refine x_get X inGX3 0 (by decide) rfl tw_141 dX3_codeOf_22 rfl 0 rfl rfl ?_
      refine x_iload_n X dX3_codeOf_25 0 rfl ?_
      obtain ⟨hi, h⟩ := h
      refine x_iald X dX3_codeOf_26 1 rfl hi ?_
      refine x_goto (tgt := 31) X dX3_codeOf_27 (by decide) ?_
      exact x_sub X [] rfl (k31 (t_codes (r2 + p2).toNatClampNeg) h)
theorem dX3_setFirst_0 : decode cX3_setFirst 0 = .ok (.iload_n 1, 1) := by decide +kernel
theorem dX3_setFirst_1 : decode cX3_setFirst 1 = .ok (.ifCond .lt 22, 3) := by decide +kernel
theorem dX3_setFirst_4 : decode cX3_setFirst 4 = .ok (.iload_n 1, 1) := by decide +kernel
theorem dX3_setFirst_5 : decode cX3_setFirst 5 = .ok (.aload_n 0, 1) := by decide +kernel
theorem dX3_setFirst_6 : decode cX3_setFirst 6 = .ok (.getfield 15, 3) := by decide +kernel
theorem dX3_setFirst_9 : decode cX3_setFirst 9 = .ok (.arraylength, 1) := by decide +kernel
theorem dX3_setFirst_10 : decode cX3_setFirst 10 = .ok (.if_icmp .ge 13, 3) := by decide +kernel
theorem dX3_setFirst_13 : decode cX3_setFirst 13 = .ok (.aload_n 0, 1) := by decide +kernel
theorem dX3_setFirst_14 : decode cX3_setFirst 14 = .ok (.getfield 15, 3) := by decide +kernel
theorem dX3_setFirst_17 : decode cX3_setFirst 17 = .ok (.iload_n 1, 1) := by decide +kernel
theorem dX3_setFirst_18 : decode cX3_setFirst 18 = .ok (.aload_n 0, 1) := by decide +kernel
theorem dX3_setFirst_19 : decode cX3_setFirst 19 = .ok (.getfield 24, 3) := by decide +kernel
theorem dX3_setFirst_22 : decode cX3_setFirst 22 = .ok (.iastore, 1) := by decide +kernel
theorem dX3_setFirst_23 : decode cX3_setFirst 23 = .ok (.return_, 1) := by decide +kernel
set_option maxHeartbeats 4000000 in
set_option maxRecDepth 100000 in
theorem c_X3_setFirst (l : Launch) (D : va_G) (T : Nat → ClassId) (h_t h_t_codes h_t_firsts : Nat) (t_total : Int32) (t_firsts : Nat → Int32) (p1 : Int32) (post : (Nat → Int32) → Prop) (h : F_X3_setFirst t_total t_firsts p1 post) : cV l D T yX3_setFirst cX3_setFirst 2 none 0 0 0 0 [.ref h_t, .int p1] [(h_t, .inr (2, [.ref h_t_codes, .ref h_t_firsts, .int t_total])), (h_t_firsts, aI T 8 t_firsts)] (fun w1 => ∃ (t_firsts1 : Nat → Int32), w1 = [(h_t, .inr (2, [.ref h_t_codes, .ref h_t_firsts, .int t_total])), (h_t_firsts, aI T 8 t_firsts1)] ∧ post t_firsts1) := by
  refine xV_of (by decide +kernel) (Nat.le_of_ble_eq_true rfl) rfl ?_
  intro G X hret
  change G 0 0 0 [(0, .ref h_t), (1, .int p1)] [] [(h_t, .inr (2, [.ref h_t_codes, .ref h_t_firsts, .int t_total])), (h_t_firsts, aI T 8 t_firsts)]
  unfold F_X3_setFirst at h
  have k23 : ∀ (t_firsts : Nat → Int32), F_X3_setFirst_23 t_total post t_firsts → G 0 0 23 [] [] [(h_t, .inr (2, [.ref h_t_codes, .ref h_t_firsts, .int t_total])), (h_t_firsts, aI T 8 t_firsts)] := by
    intro t_firsts h
    unfold F_X3_setFirst_23 at h
    exact hret _ _ _ dX3_setFirst_23 ⟨t_firsts, rfl, h⟩
  refine x_iload_n X dX3_setFirst_0 1 rfl ?_
  refine x_if_lt (tgt := 23) X dX3_setFirst_1 (by decide) (fun hc => ?_) (fun hc => ?_)
  · have h := h.1 hc
    exact x_sub X [] rfl (k23 t_firsts h)
  · have h := h.2 hc
    refine x_iload_n X dX3_setFirst_4 1 rfl ?_
    refine x_aload_n X dX3_setFirst_5 0 rfl ?_
    refine x_get X inGX3 1 (by decide) rfl tw_142 dX3_setFirst_6 rfl 0 rfl rfl ?_
    refine x_alen (v := (8 : Int32)) X dX3_setFirst_9 1 1 rfl rfl rfl ?_
    refine x_icmp_ge (tgt := 23) X dX3_setFirst_10 (by decide) (fun hc => ?_) (fun hc => ?_)
    · have h := h.1 hc
      exact x_sub X [] rfl (k23 t_firsts h)
    · have h := h.2 hc
      refine x_aload_n X dX3_setFirst_13 0 rfl ?_
      refine x_get X inGX3 1 (by decide) rfl tw_142 dX3_setFirst_14 rfl 0 rfl rfl ?_
      refine x_iload_n X dX3_setFirst_17 1 rfl ?_
      refine x_aload_n X dX3_setFirst_18 0 rfl ?_
      refine x_get X inGX3 2 (by decide) rfl tw_143 dX3_setFirst_19 rfl 0 rfl rfl ?_
      obtain ⟨hi, h⟩ := h
      refine x_iast (ws' := [(h_t, .inr (2, [.ref h_t_codes, .ref h_t_firsts, .int t_total])), (h_t_firsts, aI T 8 (upd t_firsts p1.toNatClampNeg t_total))]) X dX3_setFirst_22 1 rfl hi rfl ?_
      exact x_sub X [] rfl (k23 (upd t_firsts p1.toNatClampNeg t_total) h)
theorem dX3_ahead_0 : decode cX3_ahead 0 = .ok (.iconst 0, 1) := by decide +kernel
theorem dX3_ahead_1 : decode cX3_ahead 1 = .ok (.istore_n 3, 1) := by decide +kernel
theorem dX3_ahead_2 : decode cX3_ahead 2 = .ok (.aload_n 0, 1) := by decide +kernel
theorem dX3_ahead_3 : decode cX3_ahead 3 = .ok (.iload_n 1, 1) := by decide +kernel
theorem dX3_ahead_4 : decode cX3_ahead 4 = .ok (.invokevirtual 41, 3) := by decide +kernel
theorem dX3_ahead_7 : decode cX3_ahead 7 = .ok (.istore 4, 2) := by decide +kernel
theorem dX3_ahead_9 : decode cX3_ahead 9 = .ok (.iconst 0, 1) := by decide +kernel
theorem dX3_ahead_10 : decode cX3_ahead 10 = .ok (.istore 5, 2) := by decide +kernel
theorem dX3_ahead_12 : decode cX3_ahead 12 = .ok (.iload 5, 2) := by decide +kernel
theorem dX3_ahead_14 : decode cX3_ahead 14 = .ok (.bipush 32, 2) := by decide +kernel
theorem dX3_ahead_16 : decode cX3_ahead 16 = .ok (.if_icmp .ge 46, 3) := by decide +kernel
theorem dX3_ahead_19 : decode cX3_ahead 19 = .ok (.iload_n 3, 1) := by decide +kernel
theorem dX3_ahead_20 : decode cX3_ahead 20 = .ok (.iload 4, 2) := by decide +kernel
theorem dX3_ahead_22 : decode cX3_ahead 22 = .ok (.if_icmp .ge 40, 3) := by decide +kernel
theorem dX3_ahead_25 : decode cX3_ahead 25 = .ok (.iload_n 3, 1) := by decide +kernel
theorem dX3_ahead_26 : decode cX3_ahead 26 = .ok (.iload 4, 2) := by decide +kernel
theorem dX3_ahead_28 : decode cX3_ahead 28 = .ok (.iadd, 1) := by decide +kernel
theorem dX3_ahead_29 : decode cX3_ahead 29 = .ok (.iconst 2, 1) := by decide +kernel
theorem dX3_ahead_30 : decode cX3_ahead 30 = .ok (.idiv, 1) := by decide +kernel
theorem dX3_ahead_31 : decode cX3_ahead 31 = .ok (.istore 6, 2) := by decide +kernel
theorem dX3_ahead_33 : decode cX3_ahead 33 = .ok (.aload_n 0, 1) := by decide +kernel
theorem dX3_ahead_34 : decode cX3_ahead 34 = .ok (.iload_n 1, 1) := by decide +kernel
theorem dX3_ahead_35 : decode cX3_ahead 35 = .ok (.iload 6, 2) := by decide +kernel
theorem dX3_ahead_37 : decode cX3_ahead 37 = .ok (.invokevirtual 48, 3) := by decide +kernel
theorem dX3_ahead_40 : decode cX3_ahead 40 = .ok (.iload_n 2, 1) := by decide +kernel
theorem dX3_ahead_41 : decode cX3_ahead 41 = .ok (.if_icmp .ge 11, 3) := by decide +kernel
theorem dX3_ahead_44 : decode cX3_ahead 44 = .ok (.iload 6, 2) := by decide +kernel
theorem dX3_ahead_46 : decode cX3_ahead 46 = .ok (.iconst 1, 1) := by decide +kernel
theorem dX3_ahead_47 : decode cX3_ahead 47 = .ok (.iadd, 1) := by decide +kernel
theorem dX3_ahead_48 : decode cX3_ahead 48 = .ok (.istore_n 3, 1) := by decide +kernel
theorem dX3_ahead_49 : decode cX3_ahead 49 = .ok (.goto 7, 3) := by decide +kernel
theorem dX3_ahead_52 : decode cX3_ahead 52 = .ok (.iload 6, 2) := by decide +kernel
theorem dX3_ahead_54 : decode cX3_ahead 54 = .ok (.istore 4, 2) := by decide +kernel
theorem dX3_ahead_56 : decode cX3_ahead 56 = .ok (.iinc 5 1, 3) := by decide +kernel
theorem dX3_ahead_59 : decode cX3_ahead 59 = .ok (.goto (-47), 3) := by decide +kernel
theorem dX3_ahead_62 : decode cX3_ahead 62 = .ok (.iload_n 3, 1) := by decide +kernel
theorem dX3_ahead_63 : decode cX3_ahead 63 = .ok (.ireturn, 1) := by decide +kernel
set_option maxHeartbeats 4000000 in
set_option maxRecDepth 100000 in
theorem c_X3_ahead (l : Launch) (D : va_G) (T : Nat → ClassId) (h_t h_t_codes h_t_firsts : Nat) (t_total : Int32) (t_codes : Nat → Int32) (t_firsts : Nat → Int32) (p1 : Int32) (p2 : Int32) (post : Int32 → Prop) (h : F_X3_ahead t_total t_codes t_firsts p1 p2 post) : cI l D T yX3_ahead cX3_ahead 7 (some .int) 2 44 0 0 [.ref h_t, .int p1, .int p2] [(h_t, .inr (2, [.ref h_t_codes, .ref h_t_firsts, .int t_total])), (h_t_codes, aI T 662 t_codes), (h_t_firsts, aI T 8 t_firsts)] (fun r w1 => w1 = [(h_t, .inr (2, [.ref h_t_codes, .ref h_t_firsts, .int t_total])), (h_t_codes, aI T 662 t_codes), (h_t_firsts, aI T 8 t_firsts)] ∧ post r ) := by
  refine xI_of (ty := .int) (by decide +kernel) (Nat.le_of_ble_eq_true rfl) rfl ?_
  intro G X hret
  change G 0 0 0 [(0, .ref h_t), (1, .int p1), (2, .int p2)] [] [(h_t, .inr (2, [.ref h_t_codes, .ref h_t_firsts, .int t_total])), (h_t_codes, aI T 662 t_codes), (h_t_firsts, aI T 8 t_firsts)]
  unfold F_X3_ahead at h
  have k12 : ∀ (n12 : Nat) (x1 : Int32) (x2 : Int32) (x3 : Int32) (x4 : Int32) (x5 : Int32), F_X3_ahead_12 t_total t_codes t_firsts post n12 x1 x2 x3 x4 x5 → G 0 0 12 [(0, .ref h_t), (1, .int x1), (2, .int x2), (3, .int x3), (4, .int x4), (5, .int x5)] [] [(h_t, .inr (2, [.ref h_t_codes, .ref h_t_firsts, .int t_total])), (h_t_codes, aI T 662 t_codes), (h_t_firsts, aI T 8 t_firsts)] := by
    intro n12
    induction n12 with
    | zero => intro x1 x2 x3 x4 x5 h; exact h.elim
    | succ n12 ih12 =>
      intro x1 x2 x3 x4 x5 h
      rw [F_X3_ahead_12] at h
      have k56 : ∀ (x1 : Int32) (x2 : Int32) (x3 : Int32) (x4 : Int32) (x5 : Int32), F_X3_ahead_56 t_total t_codes t_firsts post (F_X3_ahead_12 t_total t_codes t_firsts post n12) x1 x2 x3 x4 x5 → G 0 0 56 [(0, .ref h_t), (1, .int x1), (2, .int x2), (3, .int x3), (4, .int x4), (5, .int x5)] [] [(h_t, .inr (2, [.ref h_t_codes, .ref h_t_firsts, .int t_total])), (h_t_codes, aI T 662 t_codes), (h_t_firsts, aI T 8 t_firsts)] := by
        intro x1 x2 x3 x4 x5 h
        unfold F_X3_ahead_56 at h
        refine x_iinc (v := (x5 + 1)) (lv' := [(5, .int (x5 + 1)), (0, .ref h_t), (1, .int x1), (2, .int x2), (3, .int x3), (4, .int x4)]) X dX3_ahead_56 5 rfl rfl (by decide) rfl ?_
        refine x_goto (tgt := 12) X dX3_ahead_59 (by decide) ?_
        exact x_sub X [1, 2, 3, 4, 5, 0] rfl (ih12 x1 x2 x3 x4 (x5 + 1) h)
      have k62 : ∀ (x3 : Int32), F_X3_ahead_62 t_total t_codes t_firsts post x3 → G 0 0 62 [(3, .int x3)] [] [(h_t, .inr (2, [.ref h_t_codes, .ref h_t_firsts, .int t_total])), (h_t_codes, aI T 662 t_codes), (h_t_firsts, aI T 8 t_firsts)] := by
        intro x3 h
        unfold F_X3_ahead_62 at h
        refine x_iload_n X dX3_ahead_62 0 rfl ?_
        exact hret _ _ _ _ dX3_ahead_63 rfl ⟨rfl, h⟩
      refine x_iload X dX3_ahead_12 5 rfl ?_
      refine x_bipush (v := 32) X dX3_ahead_14 (by decide) ?_
      refine x_icmp_ge (tgt := 62) X dX3_ahead_16 (by decide) (fun hc => ?_) (fun hc => ?_)
      · have h := h.1 hc
        exact x_sub X [3] rfl (k62 x3 h)
      · have h := h.2 hc
        refine x_iload_n X dX3_ahead_19 3 rfl ?_
        refine x_iload X dX3_ahead_20 4 rfl ?_
        refine x_icmp_ge (tgt := 62) X dX3_ahead_22 (by decide) (fun hc => ?_) (fun hc => ?_)
        · have h := h.1 hc
          exact x_sub X [3] rfl (k62 x3 h)
        · have h := h.2 hc
          refine x_iload_n X dX3_ahead_25 3 rfl ?_
          refine x_iload X dX3_ahead_26 4 rfl ?_
          refine x_iadd X dX3_ahead_28 ?_
          refine x_iconst (v := 2) X dX3_ahead_29 (by decide) ?_
          refine x_idiv X dX3_ahead_30 (by decide) ?_
          refine x_istore (lv' := [(6, .int ((x3 + x4) / (2 : Int32))), (0, .ref h_t), (1, .int x1), (2, .int x2), (3, .int x3), (4, .int x4), (5, .int x5)]) X dX3_ahead_31 (by decide) rfl ?_
          refine x_aload_n X dX3_ahead_33 1 rfl ?_
          refine x_iload_n X dX3_ahead_34 2 rfl ?_
          refine x_iload X dX3_ahead_35 0 rfl ?_
          refine x_callVI (av := [.int x1, .int ((x3 + x4) / (2 : Int32))]) (st := []) (wr := []) X (c_X3_codeOf l D T h_t h_t_codes h_t_firsts t_total t_codes t_firsts x1 ((x3 + x4) / (2 : Int32)) _ h) yk_X3_codeOf tw_336 dX3_ahead_37 0 rfl rfl [0, 1, 2] [] rfl rfl rfl rfl (by decide) rfl rfl (Nat.le_of_ble_eq_true rfl) (Nat.le_of_ble_eq_true rfl) (Nat.le_of_ble_eq_true rfl) (Nat.zero_le _) (Nat.zero_le _) (fun r37 w1 hw => ?_)
          obtain ⟨rfl, h⟩ := hw
          refine x_perm (ws2 := [(h_t, .inr (2, [.ref h_t_codes, .ref h_t_firsts, .int t_total])), (h_t_codes, aI T 662 t_codes), (h_t_firsts, aI T 8 t_firsts)]) X [0, 1, 2] rfl rfl ?_
          refine x_iload_n X dX3_ahead_40 3 rfl ?_
          refine x_icmp_ge (tgt := 52) X dX3_ahead_41 (by decide) (fun hc => ?_) (fun hc => ?_)
          · have h := h.1 hc
            refine x_iload X dX3_ahead_52 0 rfl ?_
            refine x_istore (lv' := [(4, .int ((x3 + x4) / (2 : Int32))), (6, .int ((x3 + x4) / (2 : Int32))), (0, .ref h_t), (1, .int x1), (2, .int x2), (3, .int x3), (5, .int x5)]) X dX3_ahead_54 (by decide) rfl ?_
            exact x_sub X [2, 3, 4, 5, 0, 6] rfl (k56 x1 x2 x3 ((x3 + x4) / (2 : Int32)) x5 h)
          · have h := h.2 hc
            refine x_iload X dX3_ahead_44 0 rfl ?_
            refine x_iconst (v := 1) X dX3_ahead_46 (by decide) ?_
            refine x_iadd X dX3_ahead_47 ?_
            refine x_istore_n (lv' := [(3, .int (((x3 + x4) / (2 : Int32)) + (1 : Int32))), (6, .int ((x3 + x4) / (2 : Int32))), (0, .ref h_t), (1, .int x1), (2, .int x2), (4, .int x4), (5, .int x5)]) X dX3_ahead_48 (by decide) rfl ?_
            refine x_goto (tgt := 56) X dX3_ahead_49 (by decide) ?_
            exact x_sub X [2, 3, 4, 0, 5, 6] rfl (k56 x1 x2 (((x3 + x4) / (2 : Int32)) + (1 : Int32)) x4 x5 h)
  refine x_iconst (v := 0) X dX3_ahead_0 (by decide) ?_
  refine x_istore_n (lv' := [(3, .int (0 : Int32)), (0, .ref h_t), (1, .int p1), (2, .int p2)]) X dX3_ahead_1 (by decide) rfl ?_
  refine x_aload_n X dX3_ahead_2 1 rfl ?_
  refine x_iload_n X dX3_ahead_3 2 rfl ?_
  refine x_callVI (av := [.int p1]) (st := []) (wr := [(h_t_codes, aI T 662 t_codes)]) X (c_X3_amount l D T h_t h_t_codes h_t_firsts t_total t_firsts p1 _ h) yk_X3_amount tw_328 dX3_ahead_4 0 rfl rfl [0, 2] [1] rfl rfl rfl rfl (by decide) rfl rfl (Nat.le_of_ble_eq_true rfl) (Nat.le_of_ble_eq_true rfl) (Nat.le_of_ble_eq_true rfl) (Nat.zero_le _) (Nat.zero_le _) (fun r4 w1 hw => ?_)
  obtain ⟨rfl, h⟩ := hw
  refine x_perm (ws2 := [(h_t, .inr (2, [.ref h_t_codes, .ref h_t_firsts, .int t_total])), (h_t_codes, aI T 662 t_codes), (h_t_firsts, aI T 8 t_firsts)]) X [1, 0, 2] rfl rfl ?_
  refine x_istore (lv' := [(4, .int r4), (3, .int (0 : Int32)), (0, .ref h_t), (1, .int p1), (2, .int p2)]) X dX3_ahead_7 (by decide) rfl ?_
  refine x_iconst (v := 0) X dX3_ahead_9 (by decide) ?_
  refine x_istore (lv' := [(5, .int (0 : Int32)), (4, .int r4), (3, .int (0 : Int32)), (0, .ref h_t), (1, .int p1), (2, .int p2)]) X dX3_ahead_10 (by decide) rfl ?_
  obtain ⟨n12, h⟩ := h
  exact x_sub X [3, 4, 5, 2, 1, 0] rfl (k12 n12 p1 p2 (0 : Int32) r4 (0 : Int32) h)
theorem dX3_numberOf_0 : decode cX3_numberOf 0 = .ok (.aload_n 0, 1) := by decide +kernel
theorem dX3_numberOf_1 : decode cX3_numberOf 1 = .ok (.iload_n 1, 1) := by decide +kernel
theorem dX3_numberOf_2 : decode cX3_numberOf 2 = .ok (.iload_n 2, 1) := by decide +kernel
theorem dX3_numberOf_3 : decode cX3_numberOf 3 = .ok (.invokevirtual 69, 3) := by decide +kernel
theorem dX3_numberOf_6 : decode cX3_numberOf 6 = .ok (.istore_n 3, 1) := by decide +kernel
theorem dX3_numberOf_7 : decode cX3_numberOf 7 = .ok (.iload_n 3, 1) := by decide +kernel
theorem dX3_numberOf_8 : decode cX3_numberOf 8 = .ok (.aload_n 0, 1) := by decide +kernel
theorem dX3_numberOf_9 : decode cX3_numberOf 9 = .ok (.iload_n 1, 1) := by decide +kernel
theorem dX3_numberOf_10 : decode cX3_numberOf 10 = .ok (.invokevirtual 41, 3) := by decide +kernel
theorem dX3_numberOf_13 : decode cX3_numberOf 13 = .ok (.if_icmp .ge 17, 3) := by decide +kernel
theorem dX3_numberOf_16 : decode cX3_numberOf 16 = .ok (.aload_n 0, 1) := by decide +kernel
theorem dX3_numberOf_17 : decode cX3_numberOf 17 = .ok (.iload_n 1, 1) := by decide +kernel
theorem dX3_numberOf_18 : decode cX3_numberOf 18 = .ok (.iload_n 3, 1) := by decide +kernel
theorem dX3_numberOf_19 : decode cX3_numberOf 19 = .ok (.invokevirtual 48, 3) := by decide +kernel
theorem dX3_numberOf_22 : decode cX3_numberOf 22 = .ok (.iload_n 2, 1) := by decide +kernel
theorem dX3_numberOf_23 : decode cX3_numberOf 23 = .ok (.if_icmp .ne 7, 3) := by decide +kernel
theorem dX3_numberOf_26 : decode cX3_numberOf 26 = .ok (.iload_n 3, 1) := by decide +kernel
theorem dX3_numberOf_27 : decode cX3_numberOf 27 = .ok (.goto 4, 3) := by decide +kernel
theorem dX3_numberOf_30 : decode cX3_numberOf 30 = .ok (.iconst (-1), 1) := by decide +kernel
theorem dX3_numberOf_31 : decode cX3_numberOf 31 = .ok (.ireturn, 1) := by decide +kernel
set_option maxHeartbeats 4000000 in
set_option maxRecDepth 100000 in
theorem c_X3_numberOf (l : Launch) (D : va_G) (T : Nat → ClassId) (h_t h_t_codes h_t_firsts : Nat) (t_total : Int32) (t_codes : Nat → Int32) (t_firsts : Nat → Int32) (p1 : Int32) (p2 : Int32) (post : Int32 → Prop) (h : F_X3_numberOf t_total t_codes t_firsts p1 p2 post) : cI l D T yX3_numberOf cX3_numberOf 4 (some .int) 3 70 0 0 [.ref h_t, .int p1, .int p2] [(h_t, .inr (2, [.ref h_t_codes, .ref h_t_firsts, .int t_total])), (h_t_codes, aI T 662 t_codes), (h_t_firsts, aI T 8 t_firsts)] (fun r w1 => w1 = [(h_t, .inr (2, [.ref h_t_codes, .ref h_t_firsts, .int t_total])), (h_t_codes, aI T 662 t_codes), (h_t_firsts, aI T 8 t_firsts)] ∧ post r ) := by
  refine xI_of (ty := .int) (by decide +kernel) (Nat.le_of_ble_eq_true rfl) rfl ?_
  intro G X hret
  change G 0 0 0 [(0, .ref h_t), (1, .int p1), (2, .int p2)] [] [(h_t, .inr (2, [.ref h_t_codes, .ref h_t_firsts, .int t_total])), (h_t_codes, aI T 662 t_codes), (h_t_firsts, aI T 8 t_firsts)]
  unfold F_X3_numberOf at h
  have k31 : ∀ (s0 : Int32), F_X3_numberOf_31 t_total t_codes t_firsts post s0 → G 0 0 31 [] [.int s0] [(h_t, .inr (2, [.ref h_t_codes, .ref h_t_firsts, .int t_total])), (h_t_codes, aI T 662 t_codes), (h_t_firsts, aI T 8 t_firsts)] := by
    intro s0 h
    unfold F_X3_numberOf_31 at h
    exact hret _ _ _ _ dX3_numberOf_31 rfl ⟨rfl, h⟩
  have k30 : F_X3_numberOf_30 t_total t_codes t_firsts post (fun s0 => F_X3_numberOf_31 t_total t_codes t_firsts post s0) → G 0 0 30 [] [] [(h_t, .inr (2, [.ref h_t_codes, .ref h_t_firsts, .int t_total])), (h_t_codes, aI T 662 t_codes), (h_t_firsts, aI T 8 t_firsts)] := by
    intro  h
    unfold F_X3_numberOf_30 at h
    refine x_iconst (v := -1) X dX3_numberOf_30 (by decide) ?_
    exact x_sub X [] rfl (k31 (-1 : Int32) h)
  refine x_aload_n X dX3_numberOf_0 0 rfl ?_
  refine x_iload_n X dX3_numberOf_1 1 rfl ?_
  refine x_iload_n X dX3_numberOf_2 2 rfl ?_
  refine x_callVI (av := [.int p1, .int p2]) (st := []) (wr := []) X (c_X3_ahead l D T h_t h_t_codes h_t_firsts t_total t_codes t_firsts p1 p2 _ h) yk_X3_ahead tw_867 dX3_numberOf_3 0 rfl rfl [0, 1, 2] [] rfl rfl rfl rfl (by decide) rfl rfl (Nat.le_of_ble_eq_true rfl) (Nat.le_of_ble_eq_true rfl) (Nat.le_of_ble_eq_true rfl) (Nat.zero_le _) (Nat.zero_le _) (fun r3 w1 hw => ?_)
  obtain ⟨rfl, h⟩ := hw
  refine x_perm (ws2 := [(h_t, .inr (2, [.ref h_t_codes, .ref h_t_firsts, .int t_total])), (h_t_codes, aI T 662 t_codes), (h_t_firsts, aI T 8 t_firsts)]) X [0, 1, 2] rfl rfl ?_
  refine x_istore_n (lv' := [(3, .int r3), (0, .ref h_t), (1, .int p1), (2, .int p2)]) X dX3_numberOf_6 (by decide) rfl ?_
  refine x_iload_n X dX3_numberOf_7 0 rfl ?_
  refine x_aload_n X dX3_numberOf_8 1 rfl ?_
  refine x_iload_n X dX3_numberOf_9 2 rfl ?_
  refine x_callVI (av := [.int p1]) (st := [.int r3]) (wr := [(h_t_codes, aI T 662 t_codes)]) X (c_X3_amount l D T h_t h_t_codes h_t_firsts t_total t_firsts p1 _ h) yk_X3_amount tw_328 dX3_numberOf_10 0 rfl rfl [0, 2] [1] rfl rfl rfl rfl (by decide) rfl rfl (Nat.le_of_ble_eq_true rfl) (Nat.le_of_ble_eq_true rfl) (Nat.le_of_ble_eq_true rfl) (Nat.zero_le _) (Nat.zero_le _) (fun r10 w1 hw => ?_)
  obtain ⟨rfl, h⟩ := hw
  refine x_perm (ws2 := [(h_t, .inr (2, [.ref h_t_codes, .ref h_t_firsts, .int t_total])), (h_t_codes, aI T 662 t_codes), (h_t_firsts, aI T 8 t_firsts)]) X [1, 0, 2] rfl rfl ?_
  refine x_icmp_ge (tgt := 30) X dX3_numberOf_13 (by decide) (fun hc => ?_) (fun hc => ?_)
  · have h := h.1 hc
    exact x_sub X [] rfl (k30 h)
  · have h := h.2 hc
    refine x_aload_n X dX3_numberOf_16 1 rfl ?_
    refine x_iload_n X dX3_numberOf_17 2 rfl ?_
    refine x_iload_n X dX3_numberOf_18 0 rfl ?_
    refine x_callVI (av := [.int p1, .int r3]) (st := []) (wr := []) X (c_X3_codeOf l D T h_t h_t_codes h_t_firsts t_total t_codes t_firsts p1 r3 _ h) yk_X3_codeOf tw_336 dX3_numberOf_19 0 rfl rfl [0, 1, 2] [] rfl rfl rfl rfl (by decide) rfl rfl (Nat.le_of_ble_eq_true rfl) (Nat.le_of_ble_eq_true rfl) (Nat.le_of_ble_eq_true rfl) (Nat.zero_le _) (Nat.zero_le _) (fun r19 w1 hw => ?_)
    obtain ⟨rfl, h⟩ := hw
    refine x_perm (ws2 := [(h_t, .inr (2, [.ref h_t_codes, .ref h_t_firsts, .int t_total])), (h_t_codes, aI T 662 t_codes), (h_t_firsts, aI T 8 t_firsts)]) X [0, 1, 2] rfl rfl ?_
    refine x_iload_n X dX3_numberOf_22 3 rfl ?_
    refine x_icmp_ne (tgt := 30) X dX3_numberOf_23 (by decide) (fun hc => ?_) (fun hc => ?_)
    · have h := h.1 hc
      exact x_sub X [] rfl (k30 h)
    · have h := h.2 hc
      refine x_iload_n X dX3_numberOf_26 0 rfl ?_
      refine x_goto (tgt := 31) X dX3_numberOf_27 (by decide) ?_
      exact x_sub X [] rfl (k31 r3 h)
theorem dX3_firstHeir_0 : decode cX3_firstHeir 0 = .ok (.aload_n 0, 1) := by decide +kernel
theorem dX3_firstHeir_1 : decode cX3_firstHeir 1 = .ok (.iload_n 3, 1) := by decide +kernel
theorem dX3_firstHeir_2 : decode cX3_firstHeir 2 = .ok (.aload_n 0, 1) := by decide +kernel
theorem dX3_firstHeir_3 : decode cX3_firstHeir 3 = .ok (.iload_n 1, 1) := by decide +kernel
theorem dX3_firstHeir_4 : decode cX3_firstHeir 4 = .ok (.iload_n 2, 1) := by decide +kernel
theorem dX3_firstHeir_5 : decode cX3_firstHeir 5 = .ok (.invokevirtual 48, 3) := by decide +kernel
theorem dX3_firstHeir_8 : decode cX3_firstHeir 8 = .ok (.iload_n 3, 1) := by decide +kernel
theorem dX3_firstHeir_9 : decode cX3_firstHeir 9 = .ok (.invokestatic 72, 3) := by decide +kernel
theorem dX3_firstHeir_12 : decode cX3_firstHeir 12 = .ok (.iload_n 1, 1) := by decide +kernel
theorem dX3_firstHeir_13 : decode cX3_firstHeir 13 = .ok (.invokestatic 72, 3) := by decide +kernel
theorem dX3_firstHeir_16 : decode cX3_firstHeir 16 = .ok (.isub, 1) := by decide +kernel
theorem dX3_firstHeir_17 : decode cX3_firstHeir 17 = .ok (.ishl, 1) := by decide +kernel
theorem dX3_firstHeir_18 : decode cX3_firstHeir 18 = .ok (.invokevirtual 69, 3) := by decide +kernel
theorem dX3_firstHeir_21 : decode cX3_firstHeir 21 = .ok (.ireturn, 1) := by decide +kernel
set_option maxHeartbeats 4000000 in
set_option maxRecDepth 100000 in
theorem c_X3_firstHeir (l : Launch) (D : va_G) (T : Nat → ClassId) (h_t h_t_codes h_t_firsts : Nat) (t_total : Int32) (t_codes : Nat → Int32) (t_firsts : Nat → Int32) (p1 : Int32) (p2 : Int32) (p3 : Int32) (post : Int32 → Prop) (h : F_X3_firstHeir t_total t_codes t_firsts p1 p2 p3 post) : cI l D T yX3_firstHeir cX3_firstHeir 4 (some .int) 3 70 0 0 [.ref h_t, .int p1, .int p2, .int p3] [(h_t, .inr (2, [.ref h_t_codes, .ref h_t_firsts, .int t_total])), (h_t_codes, aI T 662 t_codes), (h_t_firsts, aI T 8 t_firsts)] (fun r w1 => w1 = [(h_t, .inr (2, [.ref h_t_codes, .ref h_t_firsts, .int t_total])), (h_t_codes, aI T 662 t_codes), (h_t_firsts, aI T 8 t_firsts)] ∧ post r ) := by
  refine xI_of (ty := .int) (by decide +kernel) (Nat.le_of_ble_eq_true rfl) rfl ?_
  intro G X hret
  change G 0 0 0 [(0, .ref h_t), (1, .int p1), (2, .int p2), (3, .int p3)] [] [(h_t, .inr (2, [.ref h_t_codes, .ref h_t_firsts, .int t_total])), (h_t_codes, aI T 662 t_codes), (h_t_firsts, aI T 8 t_firsts)]
  unfold F_X3_firstHeir at h
  refine x_aload_n X dX3_firstHeir_0 0 rfl ?_
  refine x_iload_n X dX3_firstHeir_1 3 rfl ?_
  refine x_aload_n X dX3_firstHeir_2 0 rfl ?_
  refine x_iload_n X dX3_firstHeir_3 1 rfl ?_
  refine x_iload_n X dX3_firstHeir_4 2 rfl ?_
  refine x_callVI (av := [.int p1, .int p2]) (st := [.int p3, .ref h_t]) (wr := []) X (c_X3_codeOf l D T h_t h_t_codes h_t_firsts t_total t_codes t_firsts p1 p2 _ h) yk_X3_codeOf tw_336 dX3_firstHeir_5 0 rfl rfl [0, 1, 2] [] rfl rfl rfl rfl (by decide) rfl rfl (Nat.le_of_ble_eq_true rfl) (Nat.le_of_ble_eq_true rfl) (Nat.le_of_ble_eq_true rfl) (Nat.zero_le _) (Nat.zero_le _) (fun r5 w1 hw => ?_)
  obtain ⟨rfl, h⟩ := hw
  refine x_perm (ws2 := [(h_t, .inr (2, [.ref h_t_codes, .ref h_t_firsts, .int t_total])), (h_t_codes, aI T 662 t_codes), (h_t_firsts, aI T 8 t_firsts)]) X [0, 1, 2] rfl rfl ?_
  refine x_iload_n X dX3_firstHeir_8 3 rfl ?_
  refine x_callSI (av := [.int p3]) (st := [.int r5, .int p3, .ref h_t]) (wr := [(h_t, .inr (2, [.ref h_t_codes, .ref h_t_firsts, .int t_total])), (h_t_codes, aI T 662 t_codes), (h_t_firsts, aI T 8 t_firsts)]) X (c_X0_bits l D T p3 _ h) yk_X0_bits tw_944 dX3_firstHeir_9 [] [0, 1, 2] rfl rfl rfl rfl (by decide) rfl rfl (Nat.le_of_ble_eq_true rfl) (Nat.le_of_ble_eq_true rfl) (Nat.le_of_ble_eq_true rfl) (Nat.zero_le _) (Nat.zero_le _) (fun r9 w1 hw => ?_)
  obtain ⟨rfl, h⟩ := hw
  refine x_perm (ws2 := [(h_t, .inr (2, [.ref h_t_codes, .ref h_t_firsts, .int t_total])), (h_t_codes, aI T 662 t_codes), (h_t_firsts, aI T 8 t_firsts)]) X [0, 1, 2] rfl rfl ?_
  refine x_iload_n X dX3_firstHeir_12 1 rfl ?_
  refine x_callSI (av := [.int p1]) (st := [.int r9, .int r5, .int p3, .ref h_t]) (wr := [(h_t, .inr (2, [.ref h_t_codes, .ref h_t_firsts, .int t_total])), (h_t_codes, aI T 662 t_codes), (h_t_firsts, aI T 8 t_firsts)]) X (c_X0_bits l D T p1 _ h) yk_X0_bits tw_944 dX3_firstHeir_13 [] [0, 1, 2] rfl rfl rfl rfl (by decide) rfl rfl (Nat.le_of_ble_eq_true rfl) (Nat.le_of_ble_eq_true rfl) (Nat.le_of_ble_eq_true rfl) (Nat.zero_le _) (Nat.zero_le _) (fun r13 w1 hw => ?_)
  obtain ⟨rfl, h⟩ := hw
  refine x_perm (ws2 := [(h_t, .inr (2, [.ref h_t_codes, .ref h_t_firsts, .int t_total])), (h_t_codes, aI T 662 t_codes), (h_t_firsts, aI T 8 t_firsts)]) X [0, 1, 2] rfl rfl ?_
  refine x_isub X dX3_firstHeir_16 ?_
  refine x_ishl X dX3_firstHeir_17 ?_
  refine x_callVI (av := [.int p3, .int (r5 <<< ((r9 - r13) &&& 31))]) (st := []) (wr := []) X (c_X3_ahead l D T h_t h_t_codes h_t_firsts t_total t_codes t_firsts p3 (r5 <<< ((r9 - r13) &&& 31)) _ h) yk_X3_ahead tw_867 dX3_firstHeir_18 0 rfl rfl [0, 1, 2] [] rfl rfl rfl rfl (by decide) rfl rfl (Nat.le_of_ble_eq_true rfl) (Nat.le_of_ble_eq_true rfl) (Nat.le_of_ble_eq_true rfl) (Nat.zero_le _) (Nat.zero_le _) (fun r18 w1 hw => ?_)
  obtain ⟨rfl, h⟩ := hw
  refine x_perm (ws2 := [(h_t, .inr (2, [.ref h_t_codes, .ref h_t_firsts, .int t_total])), (h_t_codes, aI T 662 t_codes), (h_t_firsts, aI T 8 t_firsts)]) X [0, 1, 2] rfl rfl ?_
  exact hret _ _ _ _ dX3_firstHeir_21 rfl ⟨rfl, h⟩
theorem dX3_heirs_0 : decode cX3_heirs 0 = .ok (.aload_n 0, 1) := by decide +kernel
theorem dX3_heirs_1 : decode cX3_heirs 1 = .ok (.iload_n 3, 1) := by decide +kernel
theorem dX3_heirs_2 : decode cX3_heirs 2 = .ok (.aload_n 0, 1) := by decide +kernel
theorem dX3_heirs_3 : decode cX3_heirs 3 = .ok (.iload_n 1, 1) := by decide +kernel
theorem dX3_heirs_4 : decode cX3_heirs 4 = .ok (.iload_n 2, 1) := by decide +kernel
theorem dX3_heirs_5 : decode cX3_heirs 5 = .ok (.invokevirtual 48, 3) := by decide +kernel
theorem dX3_heirs_8 : decode cX3_heirs 8 = .ok (.iconst 1, 1) := by decide +kernel
theorem dX3_heirs_9 : decode cX3_heirs 9 = .ok (.iadd, 1) := by decide +kernel
theorem dX3_heirs_10 : decode cX3_heirs 10 = .ok (.iload_n 3, 1) := by decide +kernel
theorem dX3_heirs_11 : decode cX3_heirs 11 = .ok (.invokestatic 72, 3) := by decide +kernel
theorem dX3_heirs_14 : decode cX3_heirs 14 = .ok (.iload_n 1, 1) := by decide +kernel
theorem dX3_heirs_15 : decode cX3_heirs 15 = .ok (.invokestatic 72, 3) := by decide +kernel
theorem dX3_heirs_18 : decode cX3_heirs 18 = .ok (.isub, 1) := by decide +kernel
theorem dX3_heirs_19 : decode cX3_heirs 19 = .ok (.ishl, 1) := by decide +kernel
theorem dX3_heirs_20 : decode cX3_heirs 20 = .ok (.invokevirtual 69, 3) := by decide +kernel
theorem dX3_heirs_23 : decode cX3_heirs 23 = .ok (.istore 4, 2) := by decide +kernel
theorem dX3_heirs_25 : decode cX3_heirs 25 = .ok (.iload 4, 2) := by decide +kernel
theorem dX3_heirs_27 : decode cX3_heirs 27 = .ok (.aload_n 0, 1) := by decide +kernel
theorem dX3_heirs_28 : decode cX3_heirs 28 = .ok (.iload_n 1, 1) := by decide +kernel
theorem dX3_heirs_29 : decode cX3_heirs 29 = .ok (.iload_n 2, 1) := by decide +kernel
theorem dX3_heirs_30 : decode cX3_heirs 30 = .ok (.iload_n 3, 1) := by decide +kernel
theorem dX3_heirs_31 : decode cX3_heirs 31 = .ok (.invokevirtual 77, 3) := by decide +kernel
theorem dX3_heirs_34 : decode cX3_heirs 34 = .ok (.isub, 1) := by decide +kernel
theorem dX3_heirs_35 : decode cX3_heirs 35 = .ok (.ireturn, 1) := by decide +kernel
set_option maxHeartbeats 4000000 in
set_option maxRecDepth 100000 in
theorem c_X3_heirs (l : Launch) (D : va_G) (T : Nat → ClassId) (h_t h_t_codes h_t_firsts : Nat) (t_total : Int32) (t_codes : Nat → Int32) (t_firsts : Nat → Int32) (p1 : Int32) (p2 : Int32) (p3 : Int32) (post : Int32 → Prop) (h : F_X3_heirs t_total t_codes t_firsts p1 p2 p3 post) : cI l D T yX3_heirs cX3_heirs 5 (some .int) 4 93 0 0 [.ref h_t, .int p1, .int p2, .int p3] [(h_t, .inr (2, [.ref h_t_codes, .ref h_t_firsts, .int t_total])), (h_t_codes, aI T 662 t_codes), (h_t_firsts, aI T 8 t_firsts)] (fun r w1 => w1 = [(h_t, .inr (2, [.ref h_t_codes, .ref h_t_firsts, .int t_total])), (h_t_codes, aI T 662 t_codes), (h_t_firsts, aI T 8 t_firsts)] ∧ post r ) := by
  refine xI_of (ty := .int) (by decide +kernel) (Nat.le_of_ble_eq_true rfl) rfl ?_
  intro G X hret
  change G 0 0 0 [(0, .ref h_t), (1, .int p1), (2, .int p2), (3, .int p3)] [] [(h_t, .inr (2, [.ref h_t_codes, .ref h_t_firsts, .int t_total])), (h_t_codes, aI T 662 t_codes), (h_t_firsts, aI T 8 t_firsts)]
  unfold F_X3_heirs at h
  refine x_aload_n X dX3_heirs_0 0 rfl ?_
  refine x_iload_n X dX3_heirs_1 3 rfl ?_
  refine x_aload_n X dX3_heirs_2 0 rfl ?_
  refine x_iload_n X dX3_heirs_3 1 rfl ?_
  refine x_iload_n X dX3_heirs_4 2 rfl ?_
  refine x_callVI (av := [.int p1, .int p2]) (st := [.int p3, .ref h_t]) (wr := []) X (c_X3_codeOf l D T h_t h_t_codes h_t_firsts t_total t_codes t_firsts p1 p2 _ h) yk_X3_codeOf tw_336 dX3_heirs_5 0 rfl rfl [0, 1, 2] [] rfl rfl rfl rfl (by decide) rfl rfl (Nat.le_of_ble_eq_true rfl) (Nat.le_of_ble_eq_true rfl) (Nat.le_of_ble_eq_true rfl) (Nat.zero_le _) (Nat.zero_le _) (fun r5 w1 hw => ?_)
  obtain ⟨rfl, h⟩ := hw
  refine x_perm (ws2 := [(h_t, .inr (2, [.ref h_t_codes, .ref h_t_firsts, .int t_total])), (h_t_codes, aI T 662 t_codes), (h_t_firsts, aI T 8 t_firsts)]) X [0, 1, 2] rfl rfl ?_
  refine x_iconst (v := 1) X dX3_heirs_8 (by decide) ?_
  refine x_iadd X dX3_heirs_9 ?_
  refine x_iload_n X dX3_heirs_10 3 rfl ?_
  refine x_callSI (av := [.int p3]) (st := [.int (r5 + (1 : Int32)), .int p3, .ref h_t]) (wr := [(h_t, .inr (2, [.ref h_t_codes, .ref h_t_firsts, .int t_total])), (h_t_codes, aI T 662 t_codes), (h_t_firsts, aI T 8 t_firsts)]) X (c_X0_bits l D T p3 _ h) yk_X0_bits tw_944 dX3_heirs_11 [] [0, 1, 2] rfl rfl rfl rfl (by decide) rfl rfl (Nat.le_of_ble_eq_true rfl) (Nat.le_of_ble_eq_true rfl) (Nat.le_of_ble_eq_true rfl) (Nat.zero_le _) (Nat.zero_le _) (fun r11 w1 hw => ?_)
  obtain ⟨rfl, h⟩ := hw
  refine x_perm (ws2 := [(h_t, .inr (2, [.ref h_t_codes, .ref h_t_firsts, .int t_total])), (h_t_codes, aI T 662 t_codes), (h_t_firsts, aI T 8 t_firsts)]) X [0, 1, 2] rfl rfl ?_
  refine x_iload_n X dX3_heirs_14 1 rfl ?_
  refine x_callSI (av := [.int p1]) (st := [.int r11, .int (r5 + (1 : Int32)), .int p3, .ref h_t]) (wr := [(h_t, .inr (2, [.ref h_t_codes, .ref h_t_firsts, .int t_total])), (h_t_codes, aI T 662 t_codes), (h_t_firsts, aI T 8 t_firsts)]) X (c_X0_bits l D T p1 _ h) yk_X0_bits tw_944 dX3_heirs_15 [] [0, 1, 2] rfl rfl rfl rfl (by decide) rfl rfl (Nat.le_of_ble_eq_true rfl) (Nat.le_of_ble_eq_true rfl) (Nat.le_of_ble_eq_true rfl) (Nat.zero_le _) (Nat.zero_le _) (fun r15 w1 hw => ?_)
  obtain ⟨rfl, h⟩ := hw
  refine x_perm (ws2 := [(h_t, .inr (2, [.ref h_t_codes, .ref h_t_firsts, .int t_total])), (h_t_codes, aI T 662 t_codes), (h_t_firsts, aI T 8 t_firsts)]) X [0, 1, 2] rfl rfl ?_
  refine x_isub X dX3_heirs_18 ?_
  refine x_ishl X dX3_heirs_19 ?_
  refine x_callVI (av := [.int p3, .int ((r5 + (1 : Int32)) <<< ((r11 - r15) &&& 31))]) (st := []) (wr := []) X (c_X3_ahead l D T h_t h_t_codes h_t_firsts t_total t_codes t_firsts p3 ((r5 + (1 : Int32)) <<< ((r11 - r15) &&& 31)) _ h) yk_X3_ahead tw_867 dX3_heirs_20 0 rfl rfl [0, 1, 2] [] rfl rfl rfl rfl (by decide) rfl rfl (Nat.le_of_ble_eq_true rfl) (Nat.le_of_ble_eq_true rfl) (Nat.le_of_ble_eq_true rfl) (Nat.zero_le _) (Nat.zero_le _) (fun r20 w1 hw => ?_)
  obtain ⟨rfl, h⟩ := hw
  refine x_perm (ws2 := [(h_t, .inr (2, [.ref h_t_codes, .ref h_t_firsts, .int t_total])), (h_t_codes, aI T 662 t_codes), (h_t_firsts, aI T 8 t_firsts)]) X [0, 1, 2] rfl rfl ?_
  refine x_istore (lv' := [(4, .int r20), (0, .ref h_t), (1, .int p1), (2, .int p2), (3, .int p3)]) X dX3_heirs_23 (by decide) rfl ?_
  refine x_iload X dX3_heirs_25 0 rfl ?_
  refine x_aload_n X dX3_heirs_27 1 rfl ?_
  refine x_iload_n X dX3_heirs_28 2 rfl ?_
  refine x_iload_n X dX3_heirs_29 3 rfl ?_
  refine x_iload_n X dX3_heirs_30 4 rfl ?_
  refine x_callVI (av := [.int p1, .int p2, .int p3]) (st := [.int r20]) (wr := []) X (c_X3_firstHeir l D T h_t h_t_codes h_t_firsts t_total t_codes t_firsts p1 p2 p3 _ h) yk_X3_firstHeir tw_945 dX3_heirs_31 0 rfl rfl [0, 1, 2] [] rfl rfl rfl rfl (by decide) rfl rfl (Nat.le_of_ble_eq_true rfl) (Nat.le_of_ble_eq_true rfl) (Nat.le_of_ble_eq_true rfl) (Nat.zero_le _) (Nat.zero_le _) (fun r31 w1 hw => ?_)
  obtain ⟨rfl, h⟩ := hw
  refine x_perm (ws2 := [(h_t, .inr (2, [.ref h_t_codes, .ref h_t_firsts, .int t_total])), (h_t_codes, aI T 662 t_codes), (h_t_firsts, aI T 8 t_firsts)]) X [0, 1, 2] rfl rfl ?_
  refine x_isub X dX3_heirs_34 ?_
  exact hret _ _ _ _ dX3_heirs_35 rfl ⟨rfl, h⟩
theorem dX3_shareSize_0 : decode cX3_shareSize 0 = .ok (.iconst 0, 1) := by decide +kernel
theorem dX3_shareSize_1 : decode cX3_shareSize 1 = .ok (.istore 5, 2) := by decide +kernel
theorem dX3_shareSize_3 : decode cX3_shareSize 3 = .ok (.iload 4, 2) := by decide +kernel
theorem dX3_shareSize_5 : decode cX3_shareSize 5 = .ok (.istore 6, 2) := by decide +kernel
theorem dX3_shareSize_7 : decode cX3_shareSize 7 = .ok (.iload 6, 2) := by decide +kernel
theorem dX3_shareSize_9 : decode cX3_shareSize 9 = .ok (.aload_n 0, 1) := by decide +kernel
theorem dX3_shareSize_10 : decode cX3_shareSize 10 = .ok (.iload_n 2, 1) := by decide +kernel
theorem dX3_shareSize_11 : decode cX3_shareSize 11 = .ok (.invokevirtual 41, 3) := by decide +kernel
theorem dX3_shareSize_14 : decode cX3_shareSize 14 = .ok (.if_icmp .ge 29, 3) := by decide +kernel
theorem dX3_shareSize_17 : decode cX3_shareSize 17 = .ok (.iload_n 3, 1) := by decide +kernel
theorem dX3_shareSize_18 : decode cX3_shareSize 18 = .ok (.ifCond .le 25, 3) := by decide +kernel
theorem dX3_shareSize_21 : decode cX3_shareSize 21 = .ok (.iload 5, 2) := by decide +kernel
theorem dX3_shareSize_23 : decode cX3_shareSize 23 = .ok (.aload_n 0, 1) := by decide +kernel
theorem dX3_shareSize_24 : decode cX3_shareSize 24 = .ok (.iload_n 2, 1) := by decide +kernel
theorem dX3_shareSize_25 : decode cX3_shareSize 25 = .ok (.iload 6, 2) := by decide +kernel
theorem dX3_shareSize_27 : decode cX3_shareSize 27 = .ok (.iload_n 1, 1) := by decide +kernel
theorem dX3_shareSize_28 : decode cX3_shareSize 28 = .ok (.invokevirtual 81, 3) := by decide +kernel
theorem dX3_shareSize_31 : decode cX3_shareSize 31 = .ok (.iadd, 1) := by decide +kernel
theorem dX3_shareSize_32 : decode cX3_shareSize 32 = .ok (.istore 5, 2) := by decide +kernel
theorem dX3_shareSize_34 : decode cX3_shareSize 34 = .ok (.iload 6, 2) := by decide +kernel
theorem dX3_shareSize_36 : decode cX3_shareSize 36 = .ok (.iload_n 3, 1) := by decide +kernel
theorem dX3_shareSize_37 : decode cX3_shareSize 37 = .ok (.iadd, 1) := by decide +kernel
theorem dX3_shareSize_38 : decode cX3_shareSize 38 = .ok (.istore 6, 2) := by decide +kernel
theorem dX3_shareSize_40 : decode cX3_shareSize 40 = .ok (.goto (-33), 3) := by decide +kernel
theorem dX3_shareSize_43 : decode cX3_shareSize 43 = .ok (.iload 5, 2) := by decide +kernel
theorem dX3_shareSize_45 : decode cX3_shareSize 45 = .ok (.ireturn, 1) := by decide +kernel
set_option maxHeartbeats 4000000 in
set_option maxRecDepth 100000 in
theorem c_X3_shareSize (l : Launch) (D : va_G) (T : Nat → ClassId) (h_t h_t_codes h_t_firsts : Nat) (t_total : Int32) (t_codes : Nat → Int32) (t_firsts : Nat → Int32) (p1 : Int32) (p2 : Int32) (p3 : Int32) (p4 : Int32) (post : Int32 → Prop) (h : F_X3_shareSize t_total t_codes t_firsts p1 p2 p3 p4 post) : cI l D T yX3_shareSize cX3_shareSize 7 (some .int) 5 117 0 0 [.ref h_t, .int p1, .int p2, .int p3, .int p4] [(h_t, .inr (2, [.ref h_t_codes, .ref h_t_firsts, .int t_total])), (h_t_codes, aI T 662 t_codes), (h_t_firsts, aI T 8 t_firsts)] (fun r w1 => w1 = [(h_t, .inr (2, [.ref h_t_codes, .ref h_t_firsts, .int t_total])), (h_t_codes, aI T 662 t_codes), (h_t_firsts, aI T 8 t_firsts)] ∧ post r ) := by
  refine xI_of (ty := .int) (by decide +kernel) (Nat.le_of_ble_eq_true rfl) rfl ?_
  intro G X hret
  change G 0 0 0 [(0, .ref h_t), (1, .int p1), (2, .int p2), (3, .int p3), (4, .int p4)] [] [(h_t, .inr (2, [.ref h_t_codes, .ref h_t_firsts, .int t_total])), (h_t_codes, aI T 662 t_codes), (h_t_firsts, aI T 8 t_firsts)]
  unfold F_X3_shareSize at h
  have k7 : ∀ (n7 : Nat) (x1 : Int32) (x2 : Int32) (x3 : Int32) (x5 : Int32) (x6 : Int32), F_X3_shareSize_7 t_total t_codes t_firsts post n7 x1 x2 x3 x5 x6 → G 0 0 7 [(0, .ref h_t), (1, .int x1), (2, .int x2), (3, .int x3), (5, .int x5), (6, .int x6)] [] [(h_t, .inr (2, [.ref h_t_codes, .ref h_t_firsts, .int t_total])), (h_t_codes, aI T 662 t_codes), (h_t_firsts, aI T 8 t_firsts)] := by
    intro n7
    induction n7 with
    | zero => intro x1 x2 x3 x5 x6 h; exact h.elim
    | succ n7 ih7 =>
      intro x1 x2 x3 x5 x6 h
      rw [F_X3_shareSize_7] at h
      have k43 : ∀ (x5 : Int32), F_X3_shareSize_43 t_total t_codes t_firsts post x5 → G 0 0 43 [(5, .int x5)] [] [(h_t, .inr (2, [.ref h_t_codes, .ref h_t_firsts, .int t_total])), (h_t_codes, aI T 662 t_codes), (h_t_firsts, aI T 8 t_firsts)] := by
        intro x5 h
        unfold F_X3_shareSize_43 at h
        refine x_iload X dX3_shareSize_43 0 rfl ?_
        exact hret _ _ _ _ dX3_shareSize_45 rfl ⟨rfl, h⟩
      refine x_iload X dX3_shareSize_7 5 rfl ?_
      refine x_aload_n X dX3_shareSize_9 0 rfl ?_
      refine x_iload_n X dX3_shareSize_10 2 rfl ?_
      refine x_callVI (av := [.int x2]) (st := [.int x6]) (wr := [(h_t_codes, aI T 662 t_codes)]) X (c_X3_amount l D T h_t h_t_codes h_t_firsts t_total t_firsts x2 _ h) yk_X3_amount tw_328 dX3_shareSize_11 0 rfl rfl [0, 2] [1] rfl rfl rfl rfl (by decide) rfl rfl (Nat.le_of_ble_eq_true rfl) (Nat.le_of_ble_eq_true rfl) (Nat.le_of_ble_eq_true rfl) (Nat.zero_le _) (Nat.zero_le _) (fun r11 w1 hw => ?_)
      obtain ⟨rfl, h⟩ := hw
      refine x_perm (ws2 := [(h_t, .inr (2, [.ref h_t_codes, .ref h_t_firsts, .int t_total])), (h_t_codes, aI T 662 t_codes), (h_t_firsts, aI T 8 t_firsts)]) X [1, 0, 2] rfl rfl ?_
      refine x_icmp_ge (tgt := 43) X dX3_shareSize_14 (by decide) (fun hc => ?_) (fun hc => ?_)
      · have h := h.1 hc
        exact x_sub X [4] rfl (k43 x5 h)
      · have h := h.2 hc
        refine x_iload_n X dX3_shareSize_17 3 rfl ?_
        refine x_if_le (tgt := 43) X dX3_shareSize_18 (by decide) (fun hc => ?_) (fun hc => ?_)
        · have h := h.1 hc
          exact x_sub X [4] rfl (k43 x5 h)
        · have h := h.2 hc
          refine x_iload X dX3_shareSize_21 4 rfl ?_
          refine x_aload_n X dX3_shareSize_23 0 rfl ?_
          refine x_iload_n X dX3_shareSize_24 2 rfl ?_
          refine x_iload X dX3_shareSize_25 5 rfl ?_
          refine x_iload_n X dX3_shareSize_27 1 rfl ?_
          refine x_callVI (av := [.int x2, .int x6, .int x1]) (st := [.int x5]) (wr := []) X (c_X3_heirs l D T h_t h_t_codes h_t_firsts t_total t_codes t_firsts x2 x6 x1 _ h) yk_X3_heirs tw_1271 dX3_shareSize_28 0 rfl rfl [0, 1, 2] [] rfl rfl rfl rfl (by decide) rfl rfl (Nat.le_of_ble_eq_true rfl) (Nat.le_of_ble_eq_true rfl) (Nat.le_of_ble_eq_true rfl) (Nat.zero_le _) (Nat.zero_le _) (fun r28 w1 hw => ?_)
          obtain ⟨rfl, h⟩ := hw
          refine x_perm (ws2 := [(h_t, .inr (2, [.ref h_t_codes, .ref h_t_firsts, .int t_total])), (h_t_codes, aI T 662 t_codes), (h_t_firsts, aI T 8 t_firsts)]) X [0, 1, 2] rfl rfl ?_
          refine x_iadd X dX3_shareSize_31 ?_
          refine x_istore (lv' := [(5, .int (x5 + r28)), (0, .ref h_t), (1, .int x1), (2, .int x2), (3, .int x3), (6, .int x6)]) X dX3_shareSize_32 (by decide) rfl ?_
          refine x_iload X dX3_shareSize_34 5 rfl ?_
          refine x_iload_n X dX3_shareSize_36 4 rfl ?_
          refine x_iadd X dX3_shareSize_37 ?_
          refine x_istore (lv' := [(6, .int (x6 + x3)), (5, .int (x5 + r28)), (0, .ref h_t), (1, .int x1), (2, .int x2), (3, .int x3)]) X dX3_shareSize_38 (by decide) rfl ?_
          refine x_goto (tgt := 7) X dX3_shareSize_40 (by decide) ?_
          exact x_sub X [2, 3, 4, 5, 1, 0] rfl (ih7 x1 x2 x3 (x5 + r28) (x6 + x3) h)
  refine x_iconst (v := 0) X dX3_shareSize_0 (by decide) ?_
  refine x_istore (lv' := [(5, .int (0 : Int32)), (0, .ref h_t), (1, .int p1), (2, .int p2), (3, .int p3), (4, .int p4)]) X dX3_shareSize_1 (by decide) rfl ?_
  refine x_iload X dX3_shareSize_3 5 rfl ?_
  refine x_istore (lv' := [(6, .int p4), (5, .int (0 : Int32)), (0, .ref h_t), (1, .int p1), (2, .int p2), (3, .int p3), (4, .int p4)]) X dX3_shareSize_5 (by decide) rfl ?_
  obtain ⟨n7, h⟩ := h
  exact x_sub X [2, 3, 4, 5, 1, 0] rfl (k7 n7 p1 p2 p3 (0 : Int32) p4 h)
theorem dX3_shareNumber_0 : decode cX3_shareNumber 0 = .ok (.iload 5, 2) := by decide +kernel
theorem dX3_shareNumber_2 : decode cX3_shareNumber 2 = .ok (.istore 6, 2) := by decide +kernel
theorem dX3_shareNumber_4 : decode cX3_shareNumber 4 = .ok (.iload 4, 2) := by decide +kernel
theorem dX3_shareNumber_6 : decode cX3_shareNumber 6 = .ok (.istore 7, 2) := by decide +kernel
theorem dX3_shareNumber_8 : decode cX3_shareNumber 8 = .ok (.iload 7, 2) := by decide +kernel
theorem dX3_shareNumber_10 : decode cX3_shareNumber 10 = .ok (.aload_n 0, 1) := by decide +kernel
theorem dX3_shareNumber_11 : decode cX3_shareNumber 11 = .ok (.iload_n 2, 1) := by decide +kernel
theorem dX3_shareNumber_12 : decode cX3_shareNumber 12 = .ok (.invokevirtual 41, 3) := by decide +kernel
theorem dX3_shareNumber_15 : decode cX3_shareNumber 15 = .ok (.if_icmp .ge 57, 3) := by decide +kernel
theorem dX3_shareNumber_18 : decode cX3_shareNumber 18 = .ok (.iload_n 3, 1) := by decide +kernel
theorem dX3_shareNumber_19 : decode cX3_shareNumber 19 = .ok (.ifCond .le 53, 3) := by decide +kernel
theorem dX3_shareNumber_22 : decode cX3_shareNumber 22 = .ok (.iload 6, 2) := by decide +kernel
theorem dX3_shareNumber_24 : decode cX3_shareNumber 24 = .ok (.ifCond .lt 48, 3) := by decide +kernel
theorem dX3_shareNumber_27 : decode cX3_shareNumber 27 = .ok (.aload_n 0, 1) := by decide +kernel
theorem dX3_shareNumber_28 : decode cX3_shareNumber 28 = .ok (.iload_n 2, 1) := by decide +kernel
theorem dX3_shareNumber_29 : decode cX3_shareNumber 29 = .ok (.iload 7, 2) := by decide +kernel
theorem dX3_shareNumber_31 : decode cX3_shareNumber 31 = .ok (.iload_n 1, 1) := by decide +kernel
theorem dX3_shareNumber_32 : decode cX3_shareNumber 32 = .ok (.invokevirtual 81, 3) := by decide +kernel
theorem dX3_shareNumber_35 : decode cX3_shareNumber 35 = .ok (.istore 8, 2) := by decide +kernel
theorem dX3_shareNumber_37 : decode cX3_shareNumber 37 = .ok (.iload 6, 2) := by decide +kernel
theorem dX3_shareNumber_39 : decode cX3_shareNumber 39 = .ok (.iload 8, 2) := by decide +kernel
theorem dX3_shareNumber_41 : decode cX3_shareNumber 41 = .ok (.if_icmp .ge 15, 3) := by decide +kernel
theorem dX3_shareNumber_44 : decode cX3_shareNumber 44 = .ok (.aload_n 0, 1) := by decide +kernel
theorem dX3_shareNumber_45 : decode cX3_shareNumber 45 = .ok (.iload_n 2, 1) := by decide +kernel
theorem dX3_shareNumber_46 : decode cX3_shareNumber 46 = .ok (.iload 7, 2) := by decide +kernel
theorem dX3_shareNumber_48 : decode cX3_shareNumber 48 = .ok (.iload_n 1, 1) := by decide +kernel
theorem dX3_shareNumber_49 : decode cX3_shareNumber 49 = .ok (.invokevirtual 77, 3) := by decide +kernel
theorem dX3_shareNumber_52 : decode cX3_shareNumber 52 = .ok (.iload 6, 2) := by decide +kernel
theorem dX3_shareNumber_54 : decode cX3_shareNumber 54 = .ok (.iadd, 1) := by decide +kernel
theorem dX3_shareNumber_55 : decode cX3_shareNumber 55 = .ok (.ireturn, 1) := by decide +kernel
theorem dX3_shareNumber_56 : decode cX3_shareNumber 56 = .ok (.iload 6, 2) := by decide +kernel
theorem dX3_shareNumber_58 : decode cX3_shareNumber 58 = .ok (.iload 8, 2) := by decide +kernel
theorem dX3_shareNumber_60 : decode cX3_shareNumber 60 = .ok (.isub, 1) := by decide +kernel
theorem dX3_shareNumber_61 : decode cX3_shareNumber 61 = .ok (.istore 6, 2) := by decide +kernel
theorem dX3_shareNumber_63 : decode cX3_shareNumber 63 = .ok (.iload 7, 2) := by decide +kernel
theorem dX3_shareNumber_65 : decode cX3_shareNumber 65 = .ok (.iload_n 3, 1) := by decide +kernel
theorem dX3_shareNumber_66 : decode cX3_shareNumber 66 = .ok (.iadd, 1) := by decide +kernel
theorem dX3_shareNumber_67 : decode cX3_shareNumber 67 = .ok (.istore 7, 2) := by decide +kernel
theorem dX3_shareNumber_69 : decode cX3_shareNumber 69 = .ok (.goto (-61), 3) := by decide +kernel
theorem dX3_shareNumber_72 : decode cX3_shareNumber 72 = .ok (.iconst (-1), 1) := by decide +kernel
theorem dX3_shareNumber_73 : decode cX3_shareNumber 73 = .ok (.ireturn, 1) := by decide +kernel
set_option maxHeartbeats 4000000 in
set_option maxRecDepth 100000 in
theorem c_X3_shareNumber (l : Launch) (D : va_G) (T : Nat → ClassId) (h_t h_t_codes h_t_firsts : Nat) (t_total : Int32) (t_codes : Nat → Int32) (t_firsts : Nat → Int32) (p1 : Int32) (p2 : Int32) (p3 : Int32) (p4 : Int32) (p5 : Int32) (post : Int32 → Prop) (h : F_X3_shareNumber t_total t_codes t_firsts p1 p2 p3 p4 p5 post) : cI l D T yX3_shareNumber cX3_shareNumber 9 (some .int) 5 117 0 0 [.ref h_t, .int p1, .int p2, .int p3, .int p4, .int p5] [(h_t, .inr (2, [.ref h_t_codes, .ref h_t_firsts, .int t_total])), (h_t_codes, aI T 662 t_codes), (h_t_firsts, aI T 8 t_firsts)] (fun r w1 => w1 = [(h_t, .inr (2, [.ref h_t_codes, .ref h_t_firsts, .int t_total])), (h_t_codes, aI T 662 t_codes), (h_t_firsts, aI T 8 t_firsts)] ∧ post r ) := by
  refine xI_of (ty := .int) (by decide +kernel) (Nat.le_of_ble_eq_true rfl) rfl ?_
  intro G X hret
  change G 0 0 0 [(0, .ref h_t), (1, .int p1), (2, .int p2), (3, .int p3), (4, .int p4), (5, .int p5)] [] [(h_t, .inr (2, [.ref h_t_codes, .ref h_t_firsts, .int t_total])), (h_t_codes, aI T 662 t_codes), (h_t_firsts, aI T 8 t_firsts)]
  unfold F_X3_shareNumber at h
  have k8 : ∀ (n8 : Nat) (x1 : Int32) (x2 : Int32) (x3 : Int32) (x6 : Int32) (x7 : Int32), F_X3_shareNumber_8 t_total t_codes t_firsts post n8 x1 x2 x3 x6 x7 → G 0 0 8 [(0, .ref h_t), (1, .int x1), (2, .int x2), (3, .int x3), (6, .int x6), (7, .int x7)] [] [(h_t, .inr (2, [.ref h_t_codes, .ref h_t_firsts, .int t_total])), (h_t_codes, aI T 662 t_codes), (h_t_firsts, aI T 8 t_firsts)] := by
    intro n8
    induction n8 with
    | zero => intro x1 x2 x3 x6 x7 h; exact h.elim
    | succ n8 ih8 =>
      intro x1 x2 x3 x6 x7 h
      rw [F_X3_shareNumber_8] at h
      have k72 : F_X3_shareNumber_72 t_total t_codes t_firsts post → G 0 0 72 [] [] [(h_t, .inr (2, [.ref h_t_codes, .ref h_t_firsts, .int t_total])), (h_t_codes, aI T 662 t_codes), (h_t_firsts, aI T 8 t_firsts)] := by
        intro  h
        unfold F_X3_shareNumber_72 at h
        refine x_iconst (v := -1) X dX3_shareNumber_72 (by decide) ?_
        exact hret _ _ _ _ dX3_shareNumber_73 rfl ⟨rfl, h⟩
      refine x_iload X dX3_shareNumber_8 5 rfl ?_
      refine x_aload_n X dX3_shareNumber_10 0 rfl ?_
      refine x_iload_n X dX3_shareNumber_11 2 rfl ?_
      refine x_callVI (av := [.int x2]) (st := [.int x7]) (wr := [(h_t_codes, aI T 662 t_codes)]) X (c_X3_amount l D T h_t h_t_codes h_t_firsts t_total t_firsts x2 _ h) yk_X3_amount tw_328 dX3_shareNumber_12 0 rfl rfl [0, 2] [1] rfl rfl rfl rfl (by decide) rfl rfl (Nat.le_of_ble_eq_true rfl) (Nat.le_of_ble_eq_true rfl) (Nat.le_of_ble_eq_true rfl) (Nat.zero_le _) (Nat.zero_le _) (fun r12 w1 hw => ?_)
      obtain ⟨rfl, h⟩ := hw
      refine x_perm (ws2 := [(h_t, .inr (2, [.ref h_t_codes, .ref h_t_firsts, .int t_total])), (h_t_codes, aI T 662 t_codes), (h_t_firsts, aI T 8 t_firsts)]) X [1, 0, 2] rfl rfl ?_
      refine x_icmp_ge (tgt := 72) X dX3_shareNumber_15 (by decide) (fun hc => ?_) (fun hc => ?_)
      · have h := h.1 hc
        exact x_sub X [] rfl (k72 h)
      · have h := h.2 hc
        refine x_iload_n X dX3_shareNumber_18 3 rfl ?_
        refine x_if_le (tgt := 72) X dX3_shareNumber_19 (by decide) (fun hc => ?_) (fun hc => ?_)
        · have h := h.1 hc
          exact x_sub X [] rfl (k72 h)
        · have h := h.2 hc
          refine x_iload X dX3_shareNumber_22 4 rfl ?_
          refine x_if_lt (tgt := 72) X dX3_shareNumber_24 (by decide) (fun hc => ?_) (fun hc => ?_)
          · have h := h.1 hc
            exact x_sub X [] rfl (k72 h)
          · have h := h.2 hc
            refine x_aload_n X dX3_shareNumber_27 0 rfl ?_
            refine x_iload_n X dX3_shareNumber_28 2 rfl ?_
            refine x_iload X dX3_shareNumber_29 5 rfl ?_
            refine x_iload_n X dX3_shareNumber_31 1 rfl ?_
            refine x_callVI (av := [.int x2, .int x7, .int x1]) (st := []) (wr := []) X (c_X3_heirs l D T h_t h_t_codes h_t_firsts t_total t_codes t_firsts x2 x7 x1 _ h) yk_X3_heirs tw_1271 dX3_shareNumber_32 0 rfl rfl [0, 1, 2] [] rfl rfl rfl rfl (by decide) rfl rfl (Nat.le_of_ble_eq_true rfl) (Nat.le_of_ble_eq_true rfl) (Nat.le_of_ble_eq_true rfl) (Nat.zero_le _) (Nat.zero_le _) (fun r32 w1 hw => ?_)
            obtain ⟨rfl, h⟩ := hw
            refine x_perm (ws2 := [(h_t, .inr (2, [.ref h_t_codes, .ref h_t_firsts, .int t_total])), (h_t_codes, aI T 662 t_codes), (h_t_firsts, aI T 8 t_firsts)]) X [0, 1, 2] rfl rfl ?_
            refine x_istore (lv' := [(8, .int r32), (0, .ref h_t), (1, .int x1), (2, .int x2), (3, .int x3), (6, .int x6), (7, .int x7)]) X dX3_shareNumber_35 (by decide) rfl ?_
            refine x_iload X dX3_shareNumber_37 5 rfl ?_
            refine x_iload X dX3_shareNumber_39 0 rfl ?_
            refine x_icmp_ge (tgt := 56) X dX3_shareNumber_41 (by decide) (fun hc => ?_) (fun hc => ?_)
            · have h := h.1 hc
              refine x_iload X dX3_shareNumber_56 5 rfl ?_
              refine x_iload X dX3_shareNumber_58 0 rfl ?_
              refine x_isub X dX3_shareNumber_60 ?_
              refine x_istore (lv' := [(6, .int (x6 - r32)), (8, .int r32), (0, .ref h_t), (1, .int x1), (2, .int x2), (3, .int x3), (7, .int x7)]) X dX3_shareNumber_61 (by decide) rfl ?_
              refine x_iload X dX3_shareNumber_63 6 rfl ?_
              refine x_iload_n X dX3_shareNumber_65 5 rfl ?_
              refine x_iadd X dX3_shareNumber_66 ?_
              refine x_istore (lv' := [(7, .int (x7 + x3)), (6, .int (x6 - r32)), (8, .int r32), (0, .ref h_t), (1, .int x1), (2, .int x2), (3, .int x3)]) X dX3_shareNumber_67 (by decide) rfl ?_
              refine x_goto (tgt := 8) X dX3_shareNumber_69 (by decide) ?_
              exact x_sub X [3, 4, 5, 6, 1, 0] rfl (ih8 x1 x2 x3 (x6 - r32) (x7 + x3) h)
            · have h := h.2 hc
              refine x_aload_n X dX3_shareNumber_44 1 rfl ?_
              refine x_iload_n X dX3_shareNumber_45 3 rfl ?_
              refine x_iload X dX3_shareNumber_46 6 rfl ?_
              refine x_iload_n X dX3_shareNumber_48 2 rfl ?_
              refine x_callVI (av := [.int x2, .int x7, .int x1]) (st := []) (wr := []) X (c_X3_firstHeir l D T h_t h_t_codes h_t_firsts t_total t_codes t_firsts x2 x7 x1 _ h) yk_X3_firstHeir tw_945 dX3_shareNumber_49 0 rfl rfl [0, 1, 2] [] rfl rfl rfl rfl (by decide) rfl rfl (Nat.le_of_ble_eq_true rfl) (Nat.le_of_ble_eq_true rfl) (Nat.le_of_ble_eq_true rfl) (Nat.zero_le _) (Nat.zero_le _) (fun r49 w1 hw => ?_)
              obtain ⟨rfl, h⟩ := hw
              refine x_perm (ws2 := [(h_t, .inr (2, [.ref h_t_codes, .ref h_t_firsts, .int t_total])), (h_t_codes, aI T 662 t_codes), (h_t_firsts, aI T 8 t_firsts)]) X [0, 1, 2] rfl rfl ?_
              refine x_iload X dX3_shareNumber_52 5 rfl ?_
              refine x_iadd X dX3_shareNumber_54 ?_
              exact hret _ _ _ _ dX3_shareNumber_55 rfl ⟨rfl, h⟩
  refine x_iload X dX3_shareNumber_0 5 rfl ?_
  refine x_istore (lv' := [(6, .int p5), (0, .ref h_t), (1, .int p1), (2, .int p2), (3, .int p3), (4, .int p4), (5, .int p5)]) X dX3_shareNumber_2 (by decide) rfl ?_
  refine x_iload X dX3_shareNumber_4 5 rfl ?_
  refine x_istore (lv' := [(7, .int p4), (6, .int p5), (0, .ref h_t), (1, .int p1), (2, .int p2), (3, .int p3), (4, .int p4), (5, .int p5)]) X dX3_shareNumber_6 (by decide) rfl ?_
  obtain ⟨n8, h⟩ := h
  exact x_sub X [2, 3, 4, 5, 1, 0] rfl (k8 n8 p1 p2 p3 p5 p4 h)
