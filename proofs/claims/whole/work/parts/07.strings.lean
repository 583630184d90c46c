/-! the members of String that are called, on a text constant -/
theorem dJ0_length_8abf5_0 : decode cJ0_length_8abf5 0 = .ok (.aload_n 0, 1) := by decide +kernel
theorem dJ0_length_8abf5_1 : decode cJ0_length_8abf5 1 = .ok (.getfield 9, 3) := by decide +kernel
theorem dJ0_length_8abf5_4 : decode cJ0_length_8abf5 4 = .ok (.arraylength, 1) := by decide +kernel
theorem dJ0_length_8abf5_5 : decode cJ0_length_8abf5 5 = .ok (.aload_n 0, 1) := by decide +kernel
theorem dJ0_length_8abf5_6 : decode cJ0_length_8abf5 6 = .ok (.invokevirtual 335, 3) := by decide +kernel
theorem dJ0_length_8abf5_9 : decode cJ0_length_8abf5 9 = .ok (.ishr, 1) := by decide +kernel
theorem dJ0_length_8abf5_10 : decode cJ0_length_8abf5 10 = .ok (.ireturn, 1) := by decide +kernel
theorem dJ0_charAt_5068e_0 : decode cJ0_charAt_5068e 0 = .ok (.aload_n 0, 1) := by decide +kernel
theorem dJ0_charAt_5068e_1 : decode cJ0_charAt_5068e 1 = .ok (.invokevirtual 492, 3) := by decide +kernel
theorem dJ0_charAt_5068e_4 : decode cJ0_charAt_5068e 4 = .ok (.ifCond .eq 12, 3) := by decide +kernel
theorem dJ0_charAt_5068e_7 : decode cJ0_charAt_5068e 7 = .ok (.aload_n 0, 1) := by decide +kernel
theorem dJ0_charAt_5068e_8 : decode cJ0_charAt_5068e 8 = .ok (.getfield 9, 3) := by decide +kernel
theorem dJ0_charAt_5068e_11 : decode cJ0_charAt_5068e 11 = .ok (.iload_n 1, 1) := by decide +kernel
theorem dJ0_charAt_5068e_12 : decode cJ0_charAt_5068e 12 = .ok (.invokestatic 495, 3) := by decide +kernel
theorem dJ0_charAt_5068e_15 : decode cJ0_charAt_5068e 15 = .ok (.ireturn, 1) := by decide +kernel
theorem dJ0_charAt_5068e_16 : decode cJ0_charAt_5068e 16 = .ok (.aload_n 0, 1) := by decide +kernel
theorem dJ0_charAt_5068e_17 : decode cJ0_charAt_5068e 17 = .ok (.getfield 9, 3) := by decide +kernel
theorem dJ0_charAt_5068e_20 : decode cJ0_charAt_5068e 20 = .ok (.iload_n 1, 1) := by decide +kernel
theorem dJ0_charAt_5068e_21 : decode cJ0_charAt_5068e 21 = .ok (.invokestatic 498, 3) := by decide +kernel
theorem dJ0_charAt_5068e_24 : decode cJ0_charAt_5068e 24 = .ok (.ireturn, 1) := by decide +kernel
theorem dJ0_coder_7d493_0 : decode cJ0_coder_7d493 0 = .ok (.getstatic 38, 3) := by decide +kernel
theorem dJ0_coder_7d493_3 : decode cJ0_coder_7d493 3 = .ok (.ifCond .eq 10, 3) := by decide +kernel
theorem dJ0_coder_7d493_6 : decode cJ0_coder_7d493 6 = .ok (.aload_n 0, 1) := by decide +kernel
theorem dJ0_coder_7d493_7 : decode cJ0_coder_7d493 7 = .ok (.getfield 15, 3) := by decide +kernel
theorem dJ0_coder_7d493_10 : decode cJ0_coder_7d493 10 = .ok (.goto 4, 3) := by decide +kernel
theorem dJ0_coder_7d493_13 : decode cJ0_coder_7d493 13 = .ok (.iconst 1, 1) := by decide +kernel
theorem dJ0_coder_7d493_14 : decode cJ0_coder_7d493 14 = .ok (.ireturn, 1) := by decide +kernel
theorem dJ0_isLatin1_aae02_0 : decode cJ0_isLatin1_aae02 0 = .ok (.getstatic 38, 3) := by decide +kernel
theorem dJ0_isLatin1_aae02_3 : decode cJ0_isLatin1_aae02 3 = .ok (.ifCond .eq 14, 3) := by decide +kernel
theorem dJ0_isLatin1_aae02_6 : decode cJ0_isLatin1_aae02 6 = .ok (.aload_n 0, 1) := by decide +kernel
theorem dJ0_isLatin1_aae02_7 : decode cJ0_isLatin1_aae02 7 = .ok (.getfield 15, 3) := by decide +kernel
theorem dJ0_isLatin1_aae02_10 : decode cJ0_isLatin1_aae02 10 = .ok (.ifCond .ne 7, 3) := by decide +kernel
theorem dJ0_isLatin1_aae02_13 : decode cJ0_isLatin1_aae02 13 = .ok (.iconst 1, 1) := by decide +kernel
theorem dJ0_isLatin1_aae02_14 : decode cJ0_isLatin1_aae02 14 = .ok (.goto 4, 3) := by decide +kernel
theorem dJ0_isLatin1_aae02_17 : decode cJ0_isLatin1_aae02 17 = .ok (.iconst 0, 1) := by decide +kernel
theorem dJ0_isLatin1_aae02_18 : decode cJ0_isLatin1_aae02 18 = .ok (.ireturn, 1) := by decide +kernel
theorem dJ0_checkIndex_df160_0 : decode cJ0_checkIndex_df160 0 = .ok (.iload_n 0, 1) := by decide +kernel
theorem dJ0_checkIndex_df160_1 : decode cJ0_checkIndex_df160 1 = .ok (.iload_n 1, 1) := by decide +kernel
theorem dJ0_checkIndex_df160_2 : decode cJ0_checkIndex_df160 2 = .ok (.getstatic 1053, 3) := by decide +kernel
theorem dJ0_checkIndex_df160_5 : decode cJ0_checkIndex_df160 5 = .ok (.invokestatic 1059, 3) := by decide +kernel
theorem dJ0_checkIndex_df160_8 : decode cJ0_checkIndex_df160 8 = .ok (.pop, 1) := by decide +kernel
theorem dJ0_checkIndex_df160_9 : decode cJ0_checkIndex_df160 9 = .ok (.return_, 1) := by decide +kernel
theorem dJ1_charAt_3b067_0 : decode cJ1_charAt_3b067 0 = .ok (.iload_n 1, 1) := by decide +kernel
theorem dJ1_charAt_3b067_1 : decode cJ1_charAt_3b067 1 = .ok (.aload_n 0, 1) := by decide +kernel
theorem dJ1_charAt_3b067_2 : decode cJ1_charAt_3b067 2 = .ok (.arraylength, 1) := by decide +kernel
theorem dJ1_charAt_3b067_3 : decode cJ1_charAt_3b067 3 = .ok (.invokestatic 9, 3) := by decide +kernel
theorem dJ1_charAt_3b067_6 : decode cJ1_charAt_3b067 6 = .ok (.aload_n 0, 1) := by decide +kernel
theorem dJ1_charAt_3b067_7 : decode cJ1_charAt_3b067 7 = .ok (.iload_n 1, 1) := by decide +kernel
theorem dJ1_charAt_3b067_8 : decode cJ1_charAt_3b067 8 = .ok (.baload, 1) := by decide +kernel
theorem dJ1_charAt_3b067_9 : decode cJ1_charAt_3b067 9 = .ok (.sipush 255, 3) := by decide +kernel
theorem dJ1_charAt_3b067_12 : decode cJ1_charAt_3b067 12 = .ok (.iand, 1) := by decide +kernel
theorem dJ1_charAt_3b067_13 : decode cJ1_charAt_3b067 13 = .ok (.i2c, 1) := by decide +kernel
theorem dJ1_charAt_3b067_14 : decode cJ1_charAt_3b067 14 = .ok (.ireturn, 1) := by decide +kernel
theorem dJ3_checkIndex_8e157_0 : decode cJ3_checkIndex_8e157 0 = .ok (.iload_n 0, 1) := by decide +kernel
theorem dJ3_checkIndex_8e157_1 : decode cJ3_checkIndex_8e157 1 = .ok (.ifCond .lt 8, 3) := by decide +kernel
theorem dJ3_checkIndex_8e157_4 : decode cJ3_checkIndex_8e157 4 = .ok (.iload_n 0, 1) := by decide +kernel
theorem dJ3_checkIndex_8e157_5 : decode cJ3_checkIndex_8e157 5 = .ok (.iload_n 1, 1) := by decide +kernel
theorem dJ3_checkIndex_8e157_6 : decode cJ3_checkIndex_8e157 6 = .ok (.if_icmp .lt 10, 3) := by decide +kernel
theorem dJ3_checkIndex_8e157_9 : decode cJ3_checkIndex_8e157 9 = .ok (.aload_n 2, 1) := by decide +kernel
theorem dJ3_checkIndex_8e157_10 : decode cJ3_checkIndex_8e157 10 = .ok (.iload_n 0, 1) := by decide +kernel
theorem dJ3_checkIndex_8e157_11 : decode cJ3_checkIndex_8e157 11 = .ok (.iload_n 1, 1) := by decide +kernel
theorem dJ3_checkIndex_8e157_12 : decode cJ3_checkIndex_8e157 12 = .ok (.invokestatic 95, 3) := by decide +kernel
theorem dJ3_checkIndex_8e157_15 : decode cJ3_checkIndex_8e157 15 = .ok (.athrow, 1) := by decide +kernel
theorem dJ3_checkIndex_8e157_16 : decode cJ3_checkIndex_8e157 16 = .ok (.iload_n 0, 1) := by decide +kernel
theorem dJ3_checkIndex_8e157_17 : decode cJ3_checkIndex_8e157 17 = .ok (.ireturn, 1) := by decide +kernel
theorem yk_J0_coder : eYV yJ0_coder_7d493 cJ0_coder_7d493 1 (some .byte) 0 := ⟨tw_646, tw_644, tw_645, tw_16, by decide +kernel⟩
theorem yk_J0_isLatin1 : eYV yJ0_isLatin1_aae02 cJ0_isLatin1_aae02 1 (some .boolean) 0 := ⟨tw_656, tw_654, tw_655, tw_16, by decide +kernel⟩
theorem yk_J0_length : eYV yJ0_length_8abf5 cJ0_length_8abf5 1 (some .int) 0 := ⟨tw_642, tw_640, tw_641, tw_16, by decide +kernel⟩
theorem yk_J0_charAt : eYV yJ0_charAt_5068e cJ0_charAt_5068e 2 (some .char) 1 := ⟨tw_652, tw_650, tw_651, tw_16, by decide +kernel⟩
theorem yk_J0_checkIndex : eYS yJ0_checkIndex_df160 cJ0_checkIndex_df160 2 none 2 := ⟨tw_662, tw_661, tw_16, by decide +kernel⟩
theorem yk_J1_charAt : eYS yJ1_charAt_3b067 cJ1_charAt_3b067 2 (some .char) 2 := ⟨tw_659, tw_658, tw_17, by decide +kernel⟩
theorem yk_J3_checkIndex : eYS yJ3_checkIndex_8e157 cJ3_checkIndex_8e157 3 (some .int) 3 := ⟨tw_667, tw_666, tw_18, by decide +kernel⟩
theorem eLen_lt : ∀ i, i < eNstr → eLen i < 100 := by decide +kernel
theorem c_J0_coder (l : Launch) (D : eD) (T : Nat → ClassId) (i : Nat) (hi : i < eNstr) : cI l D T yJ0_coder_7d493 cJ0_coder_7d493 1 (some .byte) 0 0 0 0 [.ref (D.2.1 i)] [] (fun r w1 => w1 = [] ∧ r = 0) := by
  refine xI_of (ty := .byte) (by decide +kernel) (Nat.le_of_ble_eq_true rfl) rfl ?_
  intro G X hret
  change G 0 0 0 [(0, .ref (D.2.1 i))] [] []
  refine x_getsC X tw_647 dJ0_coder_7d493_0 ?_
  refine x_if_eq (tgt := 13) X dJ0_coder_7d493_3 (by decide) (fun hc => absurd hc (by decide)) (fun hc => ?_)
  refine x_aload_n X dJ0_coder_7d493_6 0 rfl ?_
  refine x_getCo X i hi tw_2008 dJ0_coder_7d493_7 ?_
  refine x_goto (tgt := 14) X dJ0_coder_7d493_10 (by decide) ?_
  exact hret _ _ _ _ dJ0_coder_7d493_14 rfl ⟨rfl, rfl⟩
theorem c_J0_isLatin1 (l : Launch) (D : eD) (T : Nat → ClassId) (i : Nat) (hi : i < eNstr) : cI l D T yJ0_isLatin1_aae02 cJ0_isLatin1_aae02 1 (some .boolean) 0 0 0 0 [.ref (D.2.1 i)] [] (fun r w1 => w1 = [] ∧ r = 1) := by
  refine xI_of (ty := .boolean) (by decide +kernel) (Nat.le_of_ble_eq_true rfl) rfl ?_
  intro G X hret
  change G 0 0 0 [(0, .ref (D.2.1 i))] [] []
  refine x_getsC X tw_647 dJ0_isLatin1_aae02_0 ?_
  refine x_if_eq (tgt := 17) X dJ0_isLatin1_aae02_3 (by decide) (fun hc => absurd hc (by decide)) (fun hc => ?_)
  refine x_aload_n X dJ0_isLatin1_aae02_6 0 rfl ?_
  refine x_getCo X i hi tw_2008 dJ0_isLatin1_aae02_7 ?_
  refine x_if_ne (tgt := 17) X dJ0_isLatin1_aae02_10 (by decide) (fun hc => absurd rfl hc) (fun hc => ?_)
  refine x_iconst (v := 1) X dJ0_isLatin1_aae02_13 (by decide) ?_
  refine x_goto (tgt := 18) X dJ0_isLatin1_aae02_14 (by decide) ?_
  exact hret _ _ _ _ dJ0_isLatin1_aae02_18 rfl ⟨rfl, rfl⟩
theorem c_J0_length (l : Launch) (D : eD) (T : Nat → ClassId) (i : Nat) (hi : i < eNstr) : cI l D T yJ0_length_8abf5 cJ0_length_8abf5 1 (some .int) 1 20 0 0 [.ref (D.2.1 i)] [] (fun r w1 => w1 = [] ∧ r = nI (eLen i)) := by
  refine xI_of (ty := .int) (by decide +kernel) (Nat.le_of_ble_eq_true rfl) rfl ?_
  intro G X hret
  change G 0 0 0 [(0, .ref (D.2.1 i))] [] []
  refine x_aload_n X dJ0_length_8abf5_0 0 rfl ?_
  refine x_getVa X i hi tw_2007 dJ0_length_8abf5_1 ?_
  refine x_alenS X i hi dJ0_length_8abf5_4 ?_
  refine x_aload_n X dJ0_length_8abf5_5 0 rfl ?_
  refine x_callVS (av := []) (st := [.int (nI (eLen i))]) X i hi (c_J0_coder l D T i hi) rfl yk_J0_coder tw_643 dJ0_length_8abf5_6 rfl rfl (Nat.le_of_ble_eq_true rfl) (Nat.le_of_ble_eq_true rfl) (Nat.le_of_ble_eq_true rfl) (Nat.zero_le _) (Nat.zero_le _) (fun _ _ hw => hw.1) (fun v hw => ?_)
  obtain ⟨-, rfl⟩ := hw
  refine x_ishr X dJ0_length_8abf5_9 ?_
  exact hret _ _ _ _ dJ0_length_8abf5_10 rfl ⟨rfl, sc_shr0 (Nat.lt_trans (eLen_lt i hi) (by decide))⟩
theorem c_J3_checkIndex (l : Launch) (D : eD) (T : Nat → ClassId) (k n : Int32) (v : Value) (hv : v = .null ∨ ∃ t : Nat, v = .ref t) (h1 : ¬ k < 0) (h2 : k < n) : cI l D T yJ3_checkIndex_8e157 cJ3_checkIndex_8e157 3 (some .int) 0 0 0 0 [.int k, .int n, v] [] (fun r w1 => w1 = [] ∧ r = k) := by
  refine xI_of (ty := .int) (by decide +kernel) (by rcases hv with rfl | ⟨t, rfl⟩ <;> exact (Nat.le_of_ble_eq_true rfl)) rfl ?_
  intro G X hret
  change G 0 0 0 [(0, .int k), (1, .int n), (2, v)] [] []
  refine x_iload_n X dJ3_checkIndex_8e157_0 0 rfl ?_
  refine x_if_lt (tgt := 9) X dJ3_checkIndex_8e157_1 (by decide) (fun hc => absurd hc h1) (fun hc => ?_)
  refine x_iload_n X dJ3_checkIndex_8e157_4 0 rfl ?_
  refine x_iload_n X dJ3_checkIndex_8e157_5 1 rfl ?_
  refine x_icmp_lt (tgt := 16) X dJ3_checkIndex_8e157_6 (by decide) (fun hc => ?_) (fun hc => absurd h2 hc)
  refine x_iload_n X dJ3_checkIndex_8e157_16 0 rfl ?_
  exact hret _ _ _ _ dJ3_checkIndex_8e157_17 rfl ⟨rfl, rfl⟩
theorem c_J0_checkIndex (l : Launch) (D : eD) (T : Nat → ClassId) (k n : Int32) (h1 : ¬ k < 0) (h2 : k < n) : cV l D T yJ0_checkIndex_df160 cJ0_checkIndex_df160 2 none 1 22 0 0 [.int k, .int n] [] (fun w1 => w1 = []) := by
  refine xV_of (by decide +kernel) (Nat.le_of_ble_eq_true rfl) rfl ?_
  intro G X hret
  change G 0 0 0 [(0, .int k), (1, .int n)] [] []
  refine x_iload_n X dJ0_checkIndex_df160_0 0 rfl ?_
  refine x_iload_n X dJ0_checkIndex_df160_1 1 rfl ?_
  refine x_getsF X tw_663 dJ0_checkIndex_df160_2 (fun v hv => ?_)
  refine x_callSI (av := [.int k, .int n, v]) (st := []) (wr := []) X (c_J3_checkIndex l D T k n v hv h1 h2) yk_J3_checkIndex tw_665 dJ0_checkIndex_df160_5 [] [] rfl rfl rfl rfl (by decide) rfl rfl (Nat.le_of_ble_eq_true rfl) (Nat.le_of_ble_eq_true rfl) (Nat.le_of_ble_eq_true rfl) (Nat.zero_le _) (Nat.zero_le _) (fun r w1 hw => ?_)
  obtain ⟨rfl, rfl⟩ := hw
  refine x_pop X dJ0_checkIndex_df160_8 rfl ?_
  exact hret _ _ _ dJ0_checkIndex_df160_9 rfl
theorem c_J1_charAt (l : Launch) (D : eD) (T : Nat → ClassId) (i : Nat) (hi : i < eNstr) (k : Int32) (hk : vp_in k (eLen i)) : cI l D T yJ1_charAt_3b067 cJ1_charAt_3b067 2 (some .char) 2 43 0 0 [.ref (D.2.2 i), .int k] [] (fun r w1 => w1 = [] ∧ r = eCh i k) := by
  refine xI_of (ty := .char) (by decide +kernel) (Nat.le_of_ble_eq_true rfl) rfl ?_
  intro G X hret
  change G 0 0 0 [(0, .ref (D.2.2 i)), (1, .int k)] [] []
  obtain ⟨j, hj, ej⟩ := vp_in_of hk (Nat.lt_trans (eLen_lt i hi) (by decide))
  have h1 : ¬ k < 0 := fun q => hk (Or.inl q)
  have h2 : k < nI (eLen i) := by rw [ej]; exact nI_lt hj (Nat.lt_trans (eLen_lt i hi) (by decide))
  refine x_iload_n X dJ1_charAt_3b067_0 1 rfl ?_
  refine x_aload_n X dJ1_charAt_3b067_1 0 rfl ?_
  refine x_alenS X i hi dJ1_charAt_3b067_2 ?_
  refine x_callSV (av := [.int k, .int (nI (eLen i))]) (st := []) (wr := []) X (c_J0_checkIndex l D T k (nI (eLen i)) h1 h2) yk_J0_checkIndex tw_660 dJ1_charAt_3b067_3 [] [] rfl rfl rfl rfl (by decide) rfl rfl (Nat.le_of_ble_eq_true rfl) (Nat.le_of_ble_eq_true rfl) (Nat.le_of_ble_eq_true rfl) (Nat.zero_le _) (Nat.zero_le _) (fun w1 hw => ?_)
  obtain rfl := hw
  refine x_aload_n X dJ1_charAt_3b067_6 0 rfl ?_
  refine x_iload_n X dJ1_charAt_3b067_7 1 rfl ?_
  refine x_baldS X i hi hk dJ1_charAt_3b067_8 ?_
  refine x_sipush (v := 255) X dJ1_charAt_3b067_9 (by decide) ?_
  refine x_iand X dJ1_charAt_3b067_12 ?_
  refine x_i2c X dJ1_charAt_3b067_13 ?_
  exact hret _ _ _ _ dJ1_charAt_3b067_14 (pk_nc _) ⟨rfl, rfl⟩
theorem c_J0_charAt (l : Launch) (D : eD) (T : Nat → ClassId) (i : Nat) (hi : i < eNstr) (k : Int32) (hk : vp_in k (eLen i)) : cI l D T yJ0_charAt_5068e cJ0_charAt_5068e 2 (some .char) 3 64 0 0 [.ref (D.2.1 i), .int k] [] (fun r w1 => w1 = [] ∧ r = eCh i k) := by
  refine xI_of (ty := .char) (by decide +kernel) (Nat.le_of_ble_eq_true rfl) rfl ?_
  intro G X hret
  change G 0 0 0 [(0, .ref (D.2.1 i)), (1, .int k)] [] []
  refine x_aload_n X dJ0_charAt_5068e_0 0 rfl ?_
  refine x_callVS (av := []) (st := []) X i hi (c_J0_isLatin1 l D T i hi) rfl yk_J0_isLatin1 tw_653 dJ0_charAt_5068e_1 rfl rfl (Nat.le_of_ble_eq_true rfl) (Nat.le_of_ble_eq_true rfl) (Nat.le_of_ble_eq_true rfl) (Nat.zero_le _) (Nat.zero_le _) (fun _ _ hw => hw.1) (fun v hw => ?_)
  obtain ⟨-, rfl⟩ := hw
  refine x_if_eq (tgt := 16) X dJ0_charAt_5068e_4 (by decide) (fun hc => absurd hc (by decide)) (fun hc => ?_)
  refine x_aload_n X dJ0_charAt_5068e_7 0 rfl ?_
  refine x_getVa X i hi tw_2007 dJ0_charAt_5068e_8 ?_
  refine x_iload_n X dJ0_charAt_5068e_11 1 rfl ?_
  refine x_callSI (av := [.ref (D.2.2 i), .int k]) (st := []) (wr := []) X (c_J1_charAt l D T i hi k hk) yk_J1_charAt tw_657 dJ0_charAt_5068e_12 [] [] rfl rfl rfl rfl (by decide) rfl rfl (Nat.le_of_ble_eq_true rfl) (Nat.le_of_ble_eq_true rfl) (Nat.le_of_ble_eq_true rfl) (Nat.zero_le _) (Nat.zero_le _) (fun r w1 hw => ?_)
  obtain ⟨rfl, rfl⟩ := hw
  exact hret _ _ _ _ dJ0_charAt_5068e_15 (pk_nc _) ⟨rfl, rfl⟩
