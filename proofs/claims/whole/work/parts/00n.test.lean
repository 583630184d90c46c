/-! the search as a test: whether some order has a lesser code -/
def TestRes (f : List Nat → Nat) (m : Nat) (Xs : List (List Nat)) (bt : Int32) : Prop := (bt = 0 ∧ ∀ l ∈ Xs, m ≤ f l) ∨ (bt = 1 ∧ ∃ l ∈ Xs, f l < m)
def TestOk (n D : Nat) (B : Nat → Nat) (FA : Int32 → Int32 → Int32 → Int32 → (Nat → Int64) → Int64 → Int32 → Int32 → Int64 → Int64 → Int32 → Int32 → Int32 → Int32 → Int32 → Int64 → (Int64 → Int32 → Int32 → Int64 → Int64 → Int32 → Int32 → Prop) → Prop) (fans : Nat → Int64) (m k : Nat) : Prop :=
  ∀ (p : List Nat) (u : Nat) (first order seen : Int64) (still sym : Int32) (post : Int64 → Int32 → Int32 → Int64 → Int64 → Int32 → Int32 → Prop),
    p.length + k = n → u < 2 ^ n → k ≤ unc u n → ordIs order p p.length → m < 2 ^ LN n → (k = 0 → cod D B p = m) →
    (∀ (first' order' seen' : Int64) (still' sym' bt : Int32), TestRes (cod D B) m (lv n k p u) bt → ordIs order' p p.length → post first' bt (nI m) order' seen' still' sym') →
    FA (nI (LN n)) 0 1 (nI n) fans first 0 (nI m) order seen still sym (nI p.length) (nI u) (nI (cod D B p)) (lN (lanes n (fun v => blk D B v p))) post
theorem zv_rest2 {n k : Nat} {p : List Nat} {u s v : Nat} (hv : v ≤ n) : ∀ l ∈ zv n k p u s v, l ∈ zv n k p u s n := by
  intro l hl
  obtain ⟨R, h, _⟩ := zv_rest (n := n) (k := k) (p := p) (u := u) (s := s) hv
  rw [h]; exact List.mem_append_left _ hl
theorem pt_141 {n D m : Nat} {B : Nat → Nat} {FA} {fans : Nat → Int64} {k : Nat} (hn : n ≤ 6) (hsym : ∀ v j, v < n → j < n → (B v).testBit j = (B j).testBit v) (hfan : ∀ v, v < n → fans v = lN (lanes n (fun j => ((B v).testBit j).toNat))) (FAok : TestOk n D B FA fans m k) (hm : m < 2 ^ LN n)
    {p : List Nat} {u : Nat} (hk : p.length + (k + 1) = n) (hu : u < 2 ^ n) (hunc : k + 1 ≤ unc u n) {s x : Nat} (hs : ∀ w, s.testBit w = true → w < n ∧ u.testBit w = false ∧ x = cod D B (p ++ [w])) (hs2 : s < 2 ^ n) (hx : x < 2 ^ 22) (hge : m / 2 ^ (LN n - LN (p.length + 1)) ≤ x) {post}
    (fin : ∀ (first' order' seen' : Int64) (still' sym' bt : Int32), TestRes (cod D B) m (zv n k p u s n) bt → ordIs order' p p.length → post first' bt (nI m) order' seen' still' sym') : ∀ (j v : Nat) (first order seen : Int64) (still sym : Int32), v + j = n →
    ordIs order p p.length → (∀ l ∈ zv n k p u s v, m ≤ cod D B l) →
    F_X2_placeNext_141 FA (nI (LN n)) 0 1 (nI n) fans post (j + 1) (nI p.length) (nI u) (lN (lanes n (fun v => blk D B v p))) (nI s) (nI x) (nI (LN n - LN (p.length + 1))) (nI v) first 0 (nI m) order seen still sym
  | 0, v, first, order, seen, still, sym, he, ho, hS => by
    have : v = n := by omega
    subst this
    unfold F_X2_placeNext_141 F_X2_placeNext_198
    exact br1 (Int32.le_refl _) (fin _ _ _ _ _ _ (Or.inl ⟨rfl, hS⟩) ho)
  | j + 1, v, first, order, seen, still, sym, he, ho, hS => by
    have hL6 := LN_mono hn
    have h6 : LN 6 = 21 := rfl
    have hm21 : m < 2 ^ 21 := Nat.lt_of_lt_of_le hm (Nat.pow_le_pow_right (by decide) (by omega))
    have hLd := LN_mono (show p.length + 1 ≤ n by omega)
    have next : ∀ (first order seen : Int64) (still sym : Int32), ordIs order p p.length → (∀ l ∈ zv n k p u s (v + 1), m ≤ cod D B l) → F_X2_placeNext_192 FA (nI (LN n)) 0 1 (nI n) fans post (F_X2_placeNext_141 FA (nI (LN n)) 0 1 (nI n) fans post (j + 1)) (nI p.length) (nI u) (lN (lanes n (fun v => blk D B v p))) (nI s) (nI x) (nI (LN n - LN (p.length + 1))) (nI v) first 0 (nI m) order seen still sym := by
      intro first order seen still sym ho hS
      unfold F_X2_placeNext_192
      rw [nI_1]
      exact pt_141 hn hsym hfan FAok hm hk hu hunc hs hs2 hx hge fin j (v + 1) first order seen still sym (by omega) ho hS
    unfold F_X2_placeNext_141
    refine br2 (nI_ge (by omega) (by omega)) ⟨fun a => absurd rfl a, fun _ => ?_⟩
    rw [ni_shr (show m < 2 ^ 31 from Nat.lt_of_lt_of_le hm21 (by decide)) (show LN n - LN (p.length + 1) < 32 by omega)]
    have hdm : m / 2 ^ (LN n - LN (p.length + 1)) ≤ m := Nat.div_le_self _ _
    have hsb := ni_b1 (show s < 2 ^ 31 from Nat.lt_of_lt_of_le hs2 (Nat.pow_le_pow_right (by decide) (by omega))) (show v < 32 by omega)
    refine ⟨fun a => ?_, fun a => ⟨fun b => ?_, fun b => ?_⟩⟩
    · have a := (nI_ltI (by omega) (by omega)).mp a
      unfold F_X2_placeNext_198
      obtain ⟨R, r1, r2⟩ := zv_rest (n := n) (k := k) (p := p) (u := u) (s := s) (v := v) (by omega)
      refine fin _ _ _ _ _ _ (Or.inl ⟨rfl, ?_⟩) ho
      rw [r1]
      intro r hr
      rcases List.mem_append.mp hr with hr | hr
      · exact hS r hr
      · obtain ⟨w, _, _, c, d⟩ := r2 r hr
        have h1 := cod_lv D B k _ _ r d
        have h2 := (hs w c).2.2
        rw [List.length_append] at h1
        simp only [List.length_cons, List.length_nil, Nat.zero_add] at h1
        rw [show p.length + 1 + k = n by omega, ← h2] at h1
        rw [← h1] at a
        exact Nat.le_of_lt (Nat.lt_of_not_le (fun g => absurd (Nat.div_le_div_right (c := 2 ^ (LN n - LN (p.length + 1))) g) (by omega)))
    · refine next first order seen still sym ho ?_
      have : s.testBit v = false := by
        cases e : s.testBit v with
        | false => rfl
        | true => exact absurd (hsb.mpr e) b
      rw [zv_succ, this]
      simpa using hS
    · have hv := hsb.mp b
      obtain ⟨_, hvu, hxv⟩ := hs v hv
      unfold F_X2_place
      refine f_fan (by omega) ?_
      have e1 : nI p.length + 1 = nI (p ++ [v]).length := by rw [nI_1]; simp
      have e2 : nI u ||| ((1 : Int32) <<< (nI v &&& 31)) = nI (u ||| 2 ^ v) := by
        have : (1 : Int32) <<< (nI v &&& 31) = nI (2 ^ v) := by
          show nI 1 <<< _ = _
          rw [ni_shl 1 (show v < 32 by omega), Nat.one_mul]
        rw [this, ni_or]
      have bl : ∀ w, blk D B w p < 64 := fun w => Nat.lt_of_lt_of_le (blk_lt D B w p) (show _ ≤ 2 ^ 6 from Nat.pow_le_pow_right (by decide) (by omega))
      have e3 : (lN (lanes n (fun v => blk D B v p)) <<< ((1 : Int32).toInt64 &&& 63)) ||| fans v = lN (lanes n (fun w => blk D B w (p ++ [v]))) := by
        rw [hfan v (by omega)]
        have h1 : lN (lanes n (fun v => blk D B v p)) <<< ((1 : Int32).toInt64 &&& 63) = lN (2 * lanes n (fun v => blk D B v p)) := by
          have := ln_shl (lanes n (fun v => blk D B v p)) (show 1 < 64 by omega)
          rw [Nat.mul_comm]
          exact this
        rw [h1, ln_or, lanes_shift (fun w => by have := bl w; omega)]
        have : ∀ m, m ≤ n → lanes m (fun w => 2 * blk D B w p + ((B v).testBit w).toNat) = lanes m (fun w => blk D B w (p ++ [v])) := by
          intro m
          induction m with
          | zero => intro _; rfl
          | succ m ih => intro hm; rw [lanes, lanes, ih (by omega), blk_snoc, hsym v m (by omega) (by omega)]
        rw [this n (Nat.le_refl _)]
      rw [e1, e2, hxv, e3]
      have hu2 : (u ||| 2 ^ v) < 2 ^ n := Nat.or_lt_two_pow hu (Nat.pow_lt_pow_right (by decide) (by omega))
      have hc := unc_or (u := u) (w := v) n hvu
      rw [if_pos (by omega)] at hc
      refine FAok (p ++ [v]) (u ||| 2 ^ v) first _ seen still sym _ (by simp; omega) hu2 (by omega) ?_ hm ?_ ?_
      · rw [List.length_append]
        exact ord_upd ho rfl (by omega) (by omega)
      · intro hk0
        subst hk0
        have hle : ¬ m / 2 ^ (LN n - LN (p.length + 1)) < x := fun g => a (nI_lt g (by omega))
        rw [show p.length + 1 = n by omega, Nat.sub_self] at hle hge
        simp at hle hge
        omega
      · intro first' order' seen' still' sym' bt hR ho'
        rw [List.length_append] at ho'
        have ho' := ordIs_pre rfl ho'
        rcases hR with ⟨rfl, hR⟩ | ⟨rfl, l, hl, hR⟩
        · dsimp only
          rw [← hxv]
          refine next first' order' seen' still' sym' ho' ?_
          rw [zv_succ, hv, if_pos rfl]
          intro l hl
          rcases List.mem_append.mp hl with hl | hl
          · exact hS l hl
          · exact hR l hl
        · have hin : l ∈ zv n k p u s n := zv_rest2 (v := v + 1) (by omega) l (by rw [zv_succ, hv, if_pos rfl]; exact List.mem_append_right _ hl)
          have fin' := fin first' order' seen' still' sym' 1 (Or.inr ⟨rfl, l, hin, hR⟩) ho'
          unfold F_X2_placeNext_192 F_X2_placeNext_141 F_X2_placeNext_198
          refine ⟨fun _ => fin', fun _ => br3 (show ¬ (1 : Int32) = 0 by decide) fin'⟩
theorem zv_some {n D : Nat} {B : Nat → Nat} {k : Nat} {p : List Nat} {u : Nat} (hk : p.length + (k + 1) = n) (hn : n ≤ 6) (hunc : k + 1 ≤ unc u n) : ∀ y ∈ lv n (k + 1) p u, ∃ z ∈ zv n k p u (lows D B p u n).2 n, cod D B z ≤ cod D B y := by
  intro y hy
  have hL := lows_le (D := D) (B := B) (p := p) (u := u) n
  have bl : ∀ w, blk D B w p < 64 := fun w => Nat.lt_of_lt_of_le (blk_lt D B w p) (show _ ≤ 2 ^ 6 from Nat.pow_le_pow_right (by decide) (by omega))
  rw [lv, List.mem_flatMap] at hy
  obtain ⟨w, hw, hy⟩ := hy
  split at hy
  · simp at hy
  · rename_i hu
    have hu : u.testBit w = false := by simpa using hu
    have hw := List.mem_range.mp hw
    have hlo := hL.1 w hw hu
    by_cases hne : blk D B w p = (lows D B p u n).1
    · refine ⟨y, ?_, Nat.le_refl _⟩
      unfold zv
      rw [List.mem_flatMap]
      exact ⟨w, List.mem_range.mpr hw, by rw [if_pos ((hL.2.1 w).mpr ⟨hw, hu, hne⟩)]; exact hy⟩
    · obtain ⟨w0, a, b, c⟩ : ∃ w0, w0 < n ∧ u.testBit w0 = false ∧ blk D B w0 p = (lows D B p u n).1 := by
        rcases hL.2.2.1 with h64 | h
        · have := bl w; omega
        · exact h
      have hc := unc_or (u := u) (w := w0) n b
      rw [if_pos a] at hc
      obtain ⟨z, hz⟩ := List.exists_mem_of_ne_nil _ (lv_ne (n := n) k (p ++ [w0]) (u ||| 2 ^ w0) (by omega))
      refine ⟨z, ?_, ?_⟩
      · unfold zv
        rw [List.mem_flatMap]
        exact ⟨w0, List.mem_range.mpr a, by rw [if_pos ((hL.2.1 w0).mpr ⟨a, b, c⟩)]; exact hz⟩
      · have h1 := cod_lv D B k _ _ z hz
        have h2 := cod_lv D B k _ _ y hy
        rw [cod_snoc] at h1 h2
        simp only [List.length_append, List.length_cons, List.length_nil, Nat.zero_add] at h1 h2
        exact Nat.le_of_lt (Nat.lt_of_not_le (fun g => absurd (Nat.div_le_div_right (c := 2 ^ (LN (p.length + 1 + k) - LN (p.length + 1))) g) (by omega)))
theorem zv_in {n k : Nat} {p : List Nat} {u s : Nat} (hs : ∀ w, s.testBit w = true → u.testBit w = false) : ∀ y ∈ zv n k p u s n, y ∈ lv n (k + 1) p u := by
  intro y hy
  unfold zv at hy
  rw [List.mem_flatMap] at hy
  obtain ⟨w, hw, hy⟩ := hy
  by_cases e : s.testBit w = true
  · rw [if_pos e] at hy
    rw [lv, List.mem_flatMap]
    exact ⟨w, hw, by rw [if_neg (by rw [hs w e]; decide)]; exact hy⟩
  · rw [if_neg e] at hy; simp at hy
theorem test_ok {n D m : Nat} {B : Nat → Nat} {fans : Nat → Int64} (hn : n ≤ 6) (hsym : ∀ v j, v < n → j < n → (B v).testBit j = (B j).testBit v) (hfan : ∀ v, v < n → fans v = lN (lanes n (fun j => ((B v).testBit j).toNat))) : ∀ (k fu : Nat), k < fu → TestOk n D B (F_X2_placeNext fu) fans m k
  | 0, 0, h => absurd h (Nat.lt_irrefl _)
  | _ + 1, 0, h => absurd h (Nat.not_lt_zero _)
  | 0, fu + 1, _ => by
    intro p u first order seen still sym post hk hu hunc ho hm h0 hpost
    have hkn : p.length = n := by omega
    have h0 := h0 rfl
    rw [F_X2_placeNext]
    unfold FB_X2_placeNext
    refine br2 (nI_nlt (by omega) (by omega)) ?_
    rw [h0]
    have hL6 := LN_mono hn
    have h6 : LN 6 = 21 := rfl
    have hm21 : m < 2 ^ 21 := Nat.lt_of_lt_of_le hm (Nat.pow_le_pow_right (by decide) (by omega))
    have res : ∀ f sn sl sy, post f 0 (nI m) order sn sl sy := fun f sn sl sy => hpost f order sn sl sy 0 (Or.inl ⟨rfl, by rw [lv]; intro l hl; simp at hl; subst hl; omega⟩) ho
    have r43 : ∀ f sn sl sy, F_X2_arrive_43 (nI (LN n)) 0 (nI n) order (fun t_firstOrder_10 t_least_10 t_seen_10 t_stillEdges_10 t_symmetries_10 => post t_firstOrder_10 0 t_least_10 order t_seen_10 t_stillEdges_10 t_symmetries_10) (nI m) f (nI m) sn sl sy := by
      intro f sn sl sy
      unfold F_X2_arrive_43
      refine ⟨1, ?_⟩
      unfold F_X2_arrive_60 F_X2_arrive_225
      exact ⟨fun _ => res _ _ _ _, fun _ => br1 rfl (res _ _ _ _)⟩
    unfold F_X2_arrive F_X2_arrive_15
    exact br2 (nI_nlt (Nat.le_refl _) (by omega)) ⟨fun _ => r43 _ _ _ _, fun _ => r43 _ _ _ _⟩
  | k + 1, fu + 1, hfu => by
    intro p u first order seen still sym post hk hu hunc ho hm h0 hpost
    have hL6 := LN_mono hn
    have h6 : LN 6 = 21 := rfl
    have hm21 : m < 2 ^ 21 := Nat.lt_of_lt_of_le hm (Nat.pow_le_pow_right (by decide) (by omega))
    have IH : TestOk n D B (F_X2_placeNext fu) fans m k := test_ok hn hsym hfan k fu (by omega)
    have hL := lows_le (D := D) (B := B) (p := p) (u := u) n
    have hLd := LN_mono (show p.length + 1 ≤ n by omega)
    have hcl := cod_lt D B p
    have bl : ∀ w, blk D B w p < 2 ^ (p.length + 1) := fun w => blk_lt D B w p
    have hS' := LN_succ p.length
    have hc21 : cod D B p * 2 ^ (p.length + 1) < 2 ^ 21 := by
      have h1 : cod D B p * 2 ^ (p.length + 1) < 2 ^ LN p.length * 2 ^ (p.length + 1) := Nat.mul_lt_mul_of_pos_right hcl (Nat.pow_pos (by decide))
      rw [← Nat.pow_add] at h1
      exact Nat.lt_of_lt_of_le h1 (Nat.pow_le_pow_right (by decide) (by omega))
    have hx : (cod D B p * 2 ^ (p.length + 1) ||| (lows D B p u n).1) < 2 ^ 21 := Nat.or_lt_two_pow hc21 (by have := hL.2.2.2.2; omega)
    have hs : ∀ w, (lows D B p u n).2.testBit w = true → w < n ∧ u.testBit w = false ∧ (cod D B p * 2 ^ (p.length + 1) ||| (lows D B p u n).1) = cod D B (p ++ [w]) := by
      intro w hw
      obtain ⟨a, b, c⟩ := (hL.2.1 w).mp hw
      refine ⟨a, b, ?_⟩
      rw [← c, cod_snoc, Nat.mul_comm, ← Nat.two_pow_add_eq_or_of_lt (bl w)]
    rw [F_X2_placeNext]
    unfold FB_X2_placeNext
    refine br1 (nI_lt (by omega) (by omega)) ⟨n + 1, ?_⟩
    refine pl_24 (D := D) (B := B) (p := p) (u := u) (n := n) (b := lanes n (fun v => blk D B v p)) (c := cod D B p) (d := p.length) rfl hn (by omega) hu rfl n 0 (by omega) ?_
    unfold F_X2_placeNext_24
    refine br1 (Int32.le_refl _) ?_
    rw [nI_1]
    refine f_bits (by omega) (br2 (by decide) ?_)
    rw [ni_shl _ (show p.length + 1 < 32 by omega), ni_or, ni_sub hLd, ni_shr (show m < 2 ^ 31 from Nat.lt_of_lt_of_le hm21 (by decide)) (show LN n - LN (p.length + 1) < 32 by omega)]
    have hdm : m / 2 ^ (LN n - LN (p.length + 1)) ≤ m := Nat.div_le_self _ _
    refine ⟨fun a => ?_, fun a => ?_⟩
    · have a := (nI_leI (by omega) (by omega)).mp a
      unfold F_X2_placeNext_138
      refine ⟨n + 1, ?_⟩
      refine pt_141 (k := k) hn hsym hfan IH hm hk hu hunc hs hL.2.2.2.1 (by omega) a ?_ n 0 first order seen still sym (by omega) ho (by simp [zv])
      intro first' order' seen' still' sym' bt hR ho'
      refine hpost first' order' seen' still' sym' bt ?_ ho'
      rcases hR with ⟨h1, h2⟩ | ⟨h1, l, hl, h2⟩
      · refine Or.inl ⟨h1, fun y hy => ?_⟩
        obtain ⟨z, hz, hle⟩ := zv_some (D := D) (B := B) hk hn hunc y hy
        have := h2 z hz; omega
      · exact Or.inr ⟨h1, l, zv_in (fun w hw => (hs w hw).2.1) l hl, h2⟩
    · have a : ¬ m / 2 ^ (LN n - LN (p.length + 1)) ≤ (cod D B p * 2 ^ (p.length + 1) ||| (lows D B p u n).1) := fun g => a (nI_le g (by omega))
      unfold F_X2_placeNext_138
      refine ⟨1, ?_⟩
      unfold F_X2_placeNext_141 F_X2_placeNext_198
      refine br2 (nI_ge (a := 0) (by omega) (by omega)) (br3 (show ¬ (1 : Int32) = 0 by decide) ?_)
      refine hpost first order seen still sym 1 (Or.inr ⟨rfl, ?_⟩) ho
      obtain ⟨y, hy⟩ := List.exists_mem_of_ne_nil _ (lv_ne (n := n) (k + 1) p u hunc)
      obtain ⟨z, hz, _⟩ := zv_some (D := D) (B := B) hk hn hunc y hy
      refine ⟨z, zv_in (fun w hw => (hs w hw).2.1) z hz, ?_⟩
      unfold zv at hz
      rw [List.mem_flatMap] at hz
      obtain ⟨w, hw, hz⟩ := hz
      by_cases e : (lows D B p u n).2.testBit w = true
      · rw [if_pos e] at hz
        have h1 := cod_lv D B k _ _ z hz
        rw [List.length_append] at h1
        simp only [List.length_cons, List.length_nil, Nat.zero_add] at h1
        rw [show p.length + 1 + k = n by omega, ← (hs w e).2.2] at h1
        exact Nat.lt_of_not_le (fun g => absurd (Nat.div_le_div_right (c := 2 ^ (LN n - LN (p.length + 1))) g) (by omega))
      · rw [if_neg e] at hz; simp at hz
theorem f_isForm {n c : Nat} (hn : n ≤ 6) (h1n : 1 ≤ n) (hc : c < 2 ^ LN n) {ab : Int32} {fo : Int64} {ib is it le nn : Int32} {od se : Int64} {sl sy : Int32} {cl : Int64} {dk sn : Int32} {fans : Nat → Int64} {near : Nat → Int32} (ho : ordOk od) {post : Int32 → Int32 → Int64 → Int32 → Int32 → Int32 → Int32 → Int32 → Int64 → Int64 → Int32 → Int32 → Int64 → Int32 → Int32 → (Nat → Int64) → (Nat → Int32) → Prop}
    (K : ∀ ab fo ib is it le nn od se sl sy cl dk sn fans near, ordOk od → post (if c ≤ frm n (dkM n c) (byM n c) then 1 else 0) ab fo ib is it le nn od se sl sy cl dk sn fans near) :
    F_X2_isForm ab fo ib is it le nn od se sl sy cl dk sn fans near (nI n) (nI c) post := by
  unfold F_X2_isForm
  refine f_begin hn hc ?_
  intro cl dk fans near hS
  obtain ⟨m, hm, e⟩ := ho
  have h := test_ok (n := n) (D := dkM n c) (B := byM n c) (m := c) (fans := fans) hn (byM_sym n c) (fun v hv => (hS.2.2.2 v hv).2) n 10 (by omega)
  rw [sk_lanes hS]
  refine h [] 0 fo od se sl 0 _ (by simp) (Nat.pow_pos (by decide)) (by rw [unc_0]; exact Nat.le_refl _) ⟨m, hm, e, fun i hi => absurd hi (Nat.not_lt_zero _)⟩ hc (fun h => absurd h (by omega)) ?_
  intro first' order' seen' still' sym' bt hR ho'
  unfold F_X2_isForm_42
  have sm := frm_sm n (dkM n c) (byM n c)
  rcases hR with ⟨rfl, hR⟩ | ⟨rfl, l, hl, hR⟩
  · refine ⟨fun g => absurd rfl g, fun _ => ⟨by decide, ?_⟩⟩
    have : c ≤ frm n (dkM n c) (byM n c) := by
      rcases sm with ⟨a, _⟩ | ⟨_, a, b, _⟩
      · exact absurd a (lex_ne n)
      · obtain ⟨x, hx⟩ := List.exists_mem_of_ne_nil _ a
        rw [b, List.mem_filter] at hx
        have := hR x hx.1
        have e := hx.2
        simp at e
        omega
    have := K (nI (LN n)) first' 0 0 1 (nI c) (nI n) order' seen' still' sym' (lN (lanes n (fun v => blk (dkM n c) (byM n c) v []))) dk (nI n) fans near (ordIs_ok ho')
    rw [if_pos (by assumption)] at this
    exact this
  · refine ⟨fun _ => ⟨by decide, ?_⟩, fun g => absurd g (by decide)⟩
    have : ¬ c ≤ frm n (dkM n c) (byM n c) := by
      have := frm_le (D := dkM n c) (B := byM n c) (show l ∈ lex n from hl)
      omega
    have := K (nI (LN n)) first' 1 0 1 (nI c) (nI n) order' seen' still' sym' (lN (lanes n (fun v => blk (dkM n c) (byM n c) v []))) dk (nI n) fans near (ordIs_ok ho')
    rw [if_neg (by assumption)] at this
    exact this
