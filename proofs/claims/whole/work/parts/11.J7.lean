/-! java/util/Arrays: decode rows (printed), and each method kept by its F -/
theorem dJ7_fill_d0a16_0 : decode cJ7_fill_d0a16 0 = .ok (.iconst 0, 1) := by decide +kernel
theorem dJ7_fill_d0a16_1 : decode cJ7_fill_d0a16 1 = .ok (.istore_n 3, 1) := by decide +kernel
theorem dJ7_fill_d0a16_2 : decode cJ7_fill_d0a16 2 = .ok (.aload_n 0, 1) := by decide +kernel
theorem dJ7_fill_d0a16_3 : decode cJ7_fill_d0a16 3 = .ok (.arraylength, 1) := by decide +kernel
theorem dJ7_fill_d0a16_4 : decode cJ7_fill_d0a16 4 = .ok (.istore 4, 2) := by decide +kernel
theorem dJ7_fill_d0a16_6 : decode cJ7_fill_d0a16 6 = .ok (.iload_n 3, 1) := by decide +kernel
theorem dJ7_fill_d0a16_7 : decode cJ7_fill_d0a16 7 = .ok (.iload 4, 2) := by decide +kernel
theorem dJ7_fill_d0a16_9 : decode cJ7_fill_d0a16 9 = .ok (.if_icmp .ge 13, 3) := by decide +kernel
theorem dJ7_fill_d0a16_12 : decode cJ7_fill_d0a16 12 = .ok (.aload_n 0, 1) := by decide +kernel
theorem dJ7_fill_d0a16_13 : decode cJ7_fill_d0a16 13 = .ok (.iload_n 3, 1) := by decide +kernel
theorem dJ7_fill_d0a16_14 : decode cJ7_fill_d0a16 14 = .ok (.lload_n 1, 1) := by decide +kernel
theorem dJ7_fill_d0a16_15 : decode cJ7_fill_d0a16 15 = .ok (.lastore, 1) := by decide +kernel
theorem dJ7_fill_d0a16_16 : decode cJ7_fill_d0a16 16 = .ok (.iinc 3 1, 3) := by decide +kernel
theorem dJ7_fill_d0a16_19 : decode cJ7_fill_d0a16 19 = .ok (.goto (-13), 3) := by decide +kernel
theorem dJ7_fill_d0a16_22 : decode cJ7_fill_d0a16 22 = .ok (.return_, 1) := by decide +kernel
set_option maxHeartbeats 4000000 in
set_option maxRecDepth 100000 in
theorem c_J7_fill_d0a16 (l : Launch) (D : eD) (T : Nat → ClassId) (h_p0 : Nat) (n_p0 : Nat) (p0 : Nat → Int64) (p1 : Int64) (post : (Nat → Int64) → Prop) (h : F_J7_fill_d0a16 n_p0 p0 p1 post) : cV l D T yJ7_fill_d0a16 cJ7_fill_d0a16 5 none 0 0 0 0 [.ref h_p0, .long p1] [(h_p0, aJ T n_p0 p0)] (fun w1 => ∃ (p01 : Nat → Int64), w1 = [(h_p0, aJ T n_p0 p01)] ∧ post p01) := by
  refine xV_of (by decide +kernel) (Nat.le_of_ble_eq_true rfl) rfl ?_
  intro G X hret
  change G 0 0 0 [(0, .ref h_p0), (1, .long p1)] [] [(h_p0, aJ T n_p0 p0)]
  unfold F_J7_fill_d0a16 at h
  have k6 : ∀ (n6 : Nat) (x1 : Int64) (x3 : Int32) (x4 : Int32) (p0 : Nat → Int64), F_J7_fill_d0a16_6 n_p0 post n6 x1 x3 x4 p0 → G 0 0 6 [(0, .ref h_p0), (1, .long x1), (3, .int x3), (4, .int x4)] [] [(h_p0, aJ T n_p0 p0)] := by
    intro n6
    induction n6 with
    | zero => intro x1 x3 x4 p0 h; exact h.elim
    | succ n6 ih6 =>
      intro x1 x3 x4 p0 h
      rw [F_J7_fill_d0a16_6] at h
      refine x_iload_n X dJ7_fill_d0a16_6 2 rfl ?_
      refine x_iload X dJ7_fill_d0a16_7 3 rfl ?_
      refine x_icmp_ge (tgt := 22) X dJ7_fill_d0a16_9 (by decide) (fun hc => ?_) (fun hc => ?_)
      · have h := h.1 hc
        exact hret _ _ _ dJ7_fill_d0a16_22 ⟨p0, rfl, h⟩
      · have h := h.2 hc
        refine x_aload_n X dJ7_fill_d0a16_12 0 rfl ?_
        refine x_iload_n X dJ7_fill_d0a16_13 2 rfl ?_
        refine x_lload_n X dJ7_fill_d0a16_14 1 rfl ?_
        obtain ⟨hi, h⟩ := h
        refine x_last (ws' := [(h_p0, aJ T n_p0 (vp_updL p0 x3.toNatClampNeg x1))]) X dJ7_fill_d0a16_15 0 rfl hi rfl ?_
        refine x_iinc (v := (x3 + 1)) (lv' := [(3, .int (x3 + 1)), (0, .ref h_p0), (1, .long x1), (4, .int x4)]) X dJ7_fill_d0a16_16 2 rfl rfl (by decide) rfl ?_
        refine x_goto (tgt := 6) X dJ7_fill_d0a16_19 (by decide) ?_
        exact x_sub X [1, 2, 0, 3] rfl (ih6 x1 (x3 + 1) x4 (vp_updL p0 x3.toNatClampNeg x1) h)
  refine x_iconst (v := 0) X dJ7_fill_d0a16_0 (by decide) ?_
  refine x_istore_n (lv' := [(3, .int (0 : Int32)), (0, .ref h_p0), (1, .long p1)]) X dJ7_fill_d0a16_1 (by decide) rfl ?_
  refine x_aload_n X dJ7_fill_d0a16_2 1 rfl ?_
  refine x_alen (v := (Int32.ofNat n_p0)) X dJ7_fill_d0a16_3 0 2 rfl rfl rfl ?_
  refine x_istore (lv' := [(4, .int (Int32.ofNat n_p0)), (3, .int (0 : Int32)), (0, .ref h_p0), (1, .long p1)]) X dJ7_fill_d0a16_4 (by decide) rfl ?_
  obtain ⟨n6, h⟩ := h
  exact x_sub X [2, 3, 1, 0] rfl (k6 n6 p1 (0 : Int32) (Int32.ofNat n_p0) p0 h)
