/-! the class fills its levels -/
def off (k : KD) : Nat → Nat
  | 0 => 0
  | 1 => 0
  | n + 2 => off k (n + 1) + (lvl k (n + 1)).length
theorem off_succ (k : KD) {n : Nat} (h : 1 ≤ n) : off k (n + 1) = off k n + (lvl k n).length := by
  obtain ⟨m, rfl⟩ : ∃ m, n = m + 1 := ⟨n - 1, by omega⟩
  rfl
theorem off_mono (k : KD) {a b : Nat} (h1 : 1 ≤ a) (h : a ≤ b) : off k a ≤ off k b := by
  induction b with
  | zero => omega
  | succ m ih =>
    rcases Nat.lt_or_ge m a with g | g
    · have : a = m + 1 := by omega
      subst this; exact Nat.le_refl _
    · have := ih g
      rw [off_succ k (by omega)]; omega
theorem off_7 (k : KD) : off k 7 ≤ 662 := by
  have h : ∀ n, n ≤ 6 → (lvl k n).length ≤ (CT n (kDk k)).length := by
    intro n _
    unfold lvl
    split
    · exact List.length_filter_le _ _
    · simp
  have s : ∀ dk, (CT 1 dk).length + (CT 2 dk).length + (CT 3 dk).length + (CT 4 dk).length + (CT 5 dk).length + (CT 6 dk).length ≤ 662 := by decide +kernel
  have := s (kDk k)
  have := h 1 (by omega)
  have := h 2 (by omega)
  have := h 3 (by omega)
  have := h 4 (by omega)
  have := h 5 (by omega)
  have := h 6 (by omega)
  have e : off k 7 = 0 + (lvl k 1).length + (lvl k 2).length + (lvl k 3).length + (lvl k 4).length + (lvl k 5).length + (lvl k 6).length := rfl
  omega
def FstUp (k : KD) (m : Nat) (firsts : Nat → Int32) : Prop := ∀ n, 1 ≤ n → n ≤ m → firsts n = nI (off k n)
def CodUp (k : KD) (n : Nat) (acc : List Nat) (codes : Nat → Int32) : Prop := (∀ j, 1 ≤ j → j < n → ∀ i, i < (lvl k j).length → codes (off k j + i) = nI ((lvl k j).getD i 0)) ∧ ∀ i, i < acc.length → codes (off k n + i) = nI (acc.getD i 0)
def LvX (k : KD) (total : Int32) (codes firsts : Nat → Int32) : Prop := total = nI (off k 7) ∧ FstUp k 7 firsts ∧ CodUp k 7 [] codes
theorem f_firstOf {total : Int32} {firsts : Nat → Int32} {n : Nat} (hn : n < 8) {post : Int32 → Prop} (K : post (firsts n)) : F_X3_firstOf total firsts (nI n) post := by
  unfold F_X3_firstOf F_X3_firstOf_26
  refine br2 (nI_pos (by omega)) (br2 (nI_ge (a := n) (b := 8) (by omega) (by decide)) ⟨vp_in_nI hn (by decide), ?_⟩)
  rw [nI_clamp (by omega)]; exact K
theorem f_amount {k : KD} {total : Int32} {firsts : Nat → Int32} {m n : Nat} (hF : FstUp k m firsts) (h1 : 1 ≤ n) (hn : n + 1 ≤ m) (hm : m ≤ 7) {post : Int32 → Prop} (K : post (nI (lvl k n).length)) : F_X3_amount total firsts (nI n) post := by
  unfold F_X3_amount
  rw [nI_1]
  refine f_firstOf (by omega) (f_firstOf (by omega) ?_)
  rw [hF (n + 1) (by omega) hn, hF n h1 (by omega), off_succ k h1, ni_sub (by omega), Nat.add_sub_cancel_left]
  exact K
theorem f_codeOfI {k : KD} {total : Int32} {codes firsts : Nat → Int32} {m n i x : Nat} (hF : FstUp k m firsts) (h1 : 1 ≤ n) (hn : n ≤ m) (hm : m ≤ 7) (hx : codes (off k n + i) = nI x) (hi : off k n + i < 662) {post : Int32 → Prop} (K : post (nI x)) : F_X3_codeOf total codes firsts (nI n) (nI i) post := by
  unfold F_X3_codeOf F_X3_codeOf_31
  refine f_firstOf (by omega) ?_
  rw [hF n h1 hn, nI_add]
  refine br2 (nI_pos (by omega)) (br2 (nI_ge (b := 662) hi (by decide)) ⟨vp_in_nI hi (by decide), ?_⟩)
  rw [nI_clamp (by omega), hx]; exact K
theorem f_add {k : KD} {n : Nat} {acc : List Nat} {codes : Nat → Int32} {x : Nat} (h1 : 1 ≤ n) (hC : CodUp k n acc codes) (hb : off k n + acc.length < 662) {post : Int32 → (Nat → Int32) → Prop} (K : ∀ codes, CodUp k n (acc ++ [x]) codes → post (nI (off k n + (acc ++ [x]).length)) codes) : F_X3_add (nI (off k n + acc.length)) codes (nI x) post := by
  unfold F_X3_add F_X3_add_39
  refine br2 (nI_pos (by omega)) (br2 (nI_ge (b := 662) hb (by decide)) ⟨vp_in_nI hb (by decide), ?_⟩)
  rw [nI_clamp (by omega), nI_1]
  have e : off k n + acc.length + 1 = off k n + (acc ++ [x]).length := by simp; omega
  rw [e]
  refine K _ ⟨fun j a b i hi => ?_, fun i hi => ?_⟩
  · have := off_succ k a
    have := off_mono k (a := j + 1) (b := n) (by omega) (by omega)
    rw [upd_out (by omega)]
    exact hC.1 j a b i hi
  · rw [List.length_append] at hi
    simp at hi
    by_cases e : i = acc.length
    · subst e; rw [upd_in]; simp [List.getD_eq_getElem?_getD]
    · rw [upd_out (by omega), hC.2 i (by omega)]
      simp [List.getD_eq_getElem?_getD, List.getElem?_append_left (show i < acc.length by omega)]
theorem f_setFirst {k : KD} {n : Nat} {firsts : Nat → Int32} (hn : n + 1 ≤ 7) (hF : FstUp k n firsts) {post : (Nat → Int32) → Prop} (K : ∀ firsts, FstUp k (n + 1) firsts → post firsts) : F_X3_setFirst (nI (off k (n + 1))) firsts (nI (n + 1)) post := by
  unfold F_X3_setFirst F_X3_setFirst_23
  refine br2 (nI_pos (by omega)) (br2 (nI_ge (a := n + 1) (b := 8) (by omega) (by decide)) ⟨vp_in_nI (by omega) (by decide), ?_⟩)
  rw [nI_clamp (by omega)]
  refine K _ (fun j a b => ?_)
  by_cases e : j = n + 1
  · subst e; rw [upd_in]
  · rw [upd_out e]; exact hF j a (by omega)
/-! what the class tests -/
def shp (k : KD) (n c : Nat) : Bool := decide (mxF (byM n c) n 0 0 ≤ kMo k) && (decide (cirF n (byM n c) &&& kBc k = 0) && (!kUl k || !jocF (dkM n c) (byM n c) n 0))
theorem keeps_shp (k : KD) (n c : Nat) : keeps k n c = (shp k n c && psAll n (byM n c) (kPs k)) := by
  unfold keeps shp psAll
  rw [Bool.and_assoc, Bool.and_assoc]
theorem sk_Nr {n c : Nat} {cl : Int64} {dk nn : Int32} {fans : Nat → Int64} {near : Nat → Int32} (hn : n ≤ 6) (h : Sk n c cl dk nn fans near) : Nr n (byM n c) near := ⟨hn, fun v hv => ⟨(h.2.2.2 v hv).1, byM_lt n c v⟩⟩
theorem mx_lt (B : Nat → Nat) : ∀ j k a, a < 100 → mxF B j k a < 100
  | 0, k, a, h => h
  | j + 1, k, a, h => by rw [mxF]; refine mx_lt B j _ _ ?_; have := popc_le (B k) 24; omega
theorem f_shapeKept {k : KD} (hk : KOk k) {n c : Nat} (h1 : 1 ≤ n) (h2 : n ≤ kSz k) (hc : c ∈ CT n (kDk k)) {kc : Int64} {kd : Int32} {kn : Int32} {kf : (Nat → Int64)} {kr : (Nat → Int32)} {post : Int32 → Int64 → Int32 → Int32 → (Nat → Int64) → (Nat → Int32) → Prop} (K : ∀ kc kd kn kf kr, post (nI (shp k n c).toNat) kc kd kn kf kr) : F_X6_shapeKept (nI (kBc k)) (nI (kMo k)) (nI (kUl k).toNat) kc kd kn kf kr (nI n) (nI c) post := by
  have hsz : n ≤ (if kDk k then 5 else 6) := Nat.le_trans h2 hk.2.1
  have hn : n ≤ 6 := Nat.le_trans h2 (size_le hk)
  obtain ⟨f1, _, _, _, _, _, _, f8, _⟩ := CT_facts h1 hsz hc
  have hL6 := LN_mono hn
  have h6 : LN 6 = 21 := rfl
  have hc21 : c < 2 ^ 21 := Nat.lt_of_lt_of_le f8 (Nat.pow_le_pow_right (by decide) (by omega))
  have hmx := mx_lt (byM n c) n 0 0 (by omega)
  have hmo := hk.2.2.1
  unfold F_X6_shapeKept F_X6_shapeKept_54 F_X6_shapeKept_55
  unfold shp at K
  refine f_draw hn hc21 (fun kc kd kn kf kr hS => ?_)
  have hN := sk_Nr hn hS
  have hkn := hS.2.2.1
  have hkd := hS.2.1
  subst hkn hkd
  have r31 : mxF (byM n c) n 0 0 ≤ kMo k → (kUl k = false ∨ jocF (dkM n c) (byM n c) n 0 = false) → F_X6_shapeKept_31 (nI (kBc k)) (nI (kMo k)) (nI (kUl k).toNat) post (fun p3_colours p3_darks p3_nodes p3_fans p3_near => ((0 : Int32) &&& 1 = 0 ∧ post 0 p3_colours p3_darks p3_nodes p3_fans p3_near)) (fun s0 p3_colours p3_darks p3_nodes p3_fans p3_near => (s0 &&& 1 = s0 ∧ post s0 p3_colours p3_darks p3_nodes p3_fans p3_near)) kc (nI (dkM n c)) (nI n) kf kr := by
    intro g1 g2
    unfold F_X6_shapeKept_31 F_X6_shapeKept_50
    have e3 : (!kUl k || !jocF (dkM n c) (byM n c) n 0) = true := by rcases g2 with g | g <;> rw [g] <;> simp
    rw [decide_eq_true g1, e3, Bool.true_and, Bool.and_true] at K
    refine ⟨fun g => ⟨by decide, ?_⟩, fun g => f_circles hN h1 ?_⟩
    · have g : kBc k = 0 := ni_inj (b := 0) (by have := hk.2.2.2.1.1; omega) (by decide) g
      rw [g, Nat.and_zero] at K
      exact K _ _ _ _ _
    · rw [ni_and]
      have l1 : cirF n (byM n c) &&& kBc k < 128 := Nat.lt_of_le_of_lt Nat.and_le_left f1
      refine ⟨fun g => ⟨by decide, ?_⟩, fun g => ⟨by decide, ?_⟩⟩
      · have g : ¬ (cirF n (byM n c) &&& kBc k = 0) := fun e => g (by rw [e]; rfl)
        rw [decide_eq_false g] at K
        exact K _ _ _ _ _
      · have g : cirF n (byM n c) &&& kBc k = 0 := ni_inj (b := 0) (by omega) (by decide) g
        rw [decide_eq_true g] at K
        exact K _ _ _ _ _
  refine f_mostNear hN ⟨fun g => ⟨by decide, ?_⟩, fun g => ?_⟩
  · have g := (nI_ltI (by omega) (by omega)).mp g
    rw [decide_eq_false (show ¬ mxF (byM n c) n 0 0 ≤ kMo k by omega)] at K
    exact K _ _ _ _ _
  · have g : mxF (byM n c) n 0 0 ≤ kMo k := by
      have : ¬ kMo k < mxF (byM n c) n 0 0 := fun e => g (nI_lt e (by omega))
      omega
    refine ⟨fun g2 => ?_, fun g2 => f_joins hN (mask_lt _ _) ⟨fun g3 => ⟨by decide, ?_⟩, fun g3 => ?_⟩⟩
    · rw [bnz] at g2
      exact r31 g (Or.inl g2)
    · have g2 := bnn g2
      have g3 := bnn g3
      have g3 : jocF (dkM n c) (byM n c) n 0 = true := g3
      rw [g2, g3] at K
      have t := K kc (nI (dkM n c)) (nI n) kf kr
      simp at t
      exact t
    · rw [bnz] at g3
      exact r31 g (Or.inr g3)
theorem ae_at : ∀ n, n ≤ 6 → (∀ i, i < n → (aeM n).testBit (LN n - 1 - LN i) = false) ∧ ∀ i, i < n → ∀ j, j < i → (aeM n).testBit (LN n - 2 - LN i - j) = true := by decide +kernel
theorem light_cod {n c : Nat} (hn : n ≤ 6) (hc : c < 2 ^ LN n) : c &&& aeM n = cod 0 (byM n c) (List.range n) := by
  have hlt := cod_lt 0 (byM n c) (List.range n)
  obtain ⟨h1, h2⟩ := cod_tb 0 (byM n c) (List.range n)
  rw [List.length_range] at hlt h1 h2
  obtain ⟨a1, a2⟩ := ae_at n hn
  apply Nat.eq_of_testBit_eq
  intro t
  rw [Nat.testBit_and]
  by_cases ht : t < LN n
  · rcases bit_at n hn t ht with ⟨i, hi, rfl⟩ | ⟨i, hi, j, hj, rfl⟩
    · rw [h1 i hi, a1 i hi]; simp
    · rw [h2 i j hj hi, a2 i hi j hj, range_getD hi, range_getD (show j < n by omega), Bool.and_true, byM_tb, decide_eq_true (show j < n by omega), Bool.true_and]
      unfold egb
      rw [decide_eq_true (show i ≠ j by omega), Bool.true_and, show max i j = i by omega, show min i j = j by omega]
  · rw [Nat.testBit_lt_two_pow (Nat.lt_of_lt_of_le hlt (Nat.pow_le_pow_right (by decide) (by omega))), Nat.testBit_lt_two_pow (Nat.lt_of_lt_of_le hc (Nat.pow_le_pow_right (by decide) (by omega)))]; rfl
theorem like_light {n c m P : Nat} (hn : n ≤ 6) (hc : c < 2 ^ LN n) (hm : m ≤ 4) (hm2 : 2 ≤ m) (hP : P < 2 ^ (m * (m - 1) / 2)) : 0 < plC n (c &&& aeM n) m (frm m 0 (pB m P)) (2 ^ n) ↔ hasP n (byM n c) m P = true := by
  rw [plC_pos, hasP_iff (gb_byM n c) hn hm hm2 hP, light_cod hn hc]
  have e : ∀ s, cod (dkM n (cod 0 (byM n c) (List.range n))) (byM n (cod 0 (byM n c) (List.range n))) (nds s n) = cod 0 (byM n c) (nds s n) := by
    intro s
    exact cod_congr (fun v _ => by rw [dkM_cod (gb_byM n c) (Nat.pow_pos (by decide))]) (fun v hv u _ => by rw [byM_cod (gb_byM n c) (nds_mem hv)])
  constructor
  · rintro ⟨s, h1, h2⟩
    unfold lkS at h2
    rw [e, Bool.and_eq_true, beq_iff_eq, beq_iff_eq] at h2
    exact ⟨s, h1, h2.1, h2.2⟩
  · rintro ⟨s, h1, h2, h3⟩
    refine ⟨s, h1, ?_⟩
    unfold lkS
    rw [e, Bool.and_eq_true, beq_iff_eq, beq_iff_eq]
    exact ⟨h2, h3⟩
theorem f_patternsKept {k : KD} (hk : KOk k) {n c : Nat} (hn : n ≤ 6) (hc : c < 2 ^ LN n) {rpc rpn : Nat → Int32} (hp : ∀ i, i < (kPs k).length → rpc i = nI (frm ((kPs k).getD i (0, 0)).1 0 (pB ((kPs k).getD i (0, 0)).1 ((kPs k).getD i (0, 0)).2)) ∧ rpn i = nI ((kPs k).getD i (0, 0)).1) {ab : Int32} {fo : Int64} {ib : Int32} {is' : Int32} {it : Int32} {le : Int32} {nn : Int32} {od : Int64} {se : Int64} {sl : Int32} {sy : Int32} {cl : Int64} {dk' : Int32} {sn : Int32} {fans : (Nat → Int64)} {near : (Nat → Int32)} (ho : ordOk od) {post : Int32 → Int32 → Int64 → Int32 → Int32 → Int32 → Int32 → Int32 → Int64 → Int64 → Int32 → Int32 → Int64 → Int32 → Int32 → (Nat → Int64) → (Nat → Int32) → Prop} (K : ∀ ab fo ib is' it le nn od se sl sy cl dk' sn fans near, ordOk od → post (nI (psAll n (byM n c) (kPs k)).toNat) ab fo ib is' it le nn od se sl sy cl dk' sn fans near) : F_X6_patternsKept (nI (kPs k).length) rpc rpn ab fo ib is' it le nn od se sl sy cl dk' sn fans near (nI n) (nI c) post := by
  obtain ⟨_, _, _, _, hl, hps, _⟩ := hk
  have hL6 := LN_mono hn
  have h6 : LN 6 = 21 := rfl
  have hlt : c &&& aeM n < 2 ^ LN n := Nat.lt_of_le_of_lt Nat.and_le_left hc
  unfold F_X6_patternsKept
  refine f_allEdges hn ⟨(kPs k).length + 1, ?_⟩
  rw [ni_and]
  have main : ∀ j i ab fo ib is' it le nn od se sl sy cl dk' sn fans near, i + j = (kPs k).length → ordOk od → (∀ ab fo ib is' it le nn od se sl sy cl dk' sn fans near, ordOk od → post (nI (psAll n (byM n c) ((kPs k).drop i)).toNat) ab fo ib is' it le nn od se sl sy cl dk' sn fans near) → F_X6_patternsKept_11 (nI (kPs k).length) rpc rpn post (j + 1) (nI n) (nI (c &&& aeM n)) (nI i) ab fo ib is' it le nn od se sl sy cl dk' sn fans near := by
    intro j
    induction j with
    | zero =>
      intro i ab fo ib is' it le nn od se sl sy cl dk' sn fans near hi ho K2
      unfold F_X6_patternsKept_11 F_X6_patternsKept_72
      refine br1 (nI_le (by omega) (by omega)) ?_
      rw [List.drop_eq_nil_of_le (by omega)] at K2
      exact K2 _ _ _ _ _ _ _ _ _ _ _ _ _ _ _ _ ho
    | succ j ih =>
      intro i ab fo ib is' it le nn od se sl sy cl dk' sn fans near hi ho K2
      unfold F_X6_patternsKept_11
      obtain ⟨p1, p2⟩ := hp i (by omega)
      have hx : (kPs k).getD i (0, 0) ∈ kPs k := by
        rw [List.getD_eq_getElem?_getD, List.getElem?_eq_getElem (show i < (kPs k).length by omega)]
        exact List.getElem_mem _
      obtain ⟨q1, q2, q3⟩ := hps _ hx
      have ed : (kPs k).drop i = (kPs k).getD i (0, 0) :: (kPs k).drop (i + 1) := by
        rw [List.getD_eq_getElem?_getD, List.getElem?_eq_getElem (show i < (kPs k).length by omega)]
        exact List.drop_eq_getElem_cons (show i < (kPs k).length by omega)
      rw [ed] at K2
      have g2 := nI_ge (a := i) (b := 2) (by omega) (by decide)
      have gi := vp_in_nI (n := i) (N := 2) (by omega) (by decide)
      have hfr := frm_lt ((kPs k).getD i (0, 0)).1 0 (pB ((kPs k).getD i (0, 0)).1 ((kPs k).getD i (0, 0)).2)
      have hL4 := LN_mono q2
      have hfr21 : frm ((kPs k).getD i (0, 0)).1 0 (pB ((kPs k).getD i (0, 0)).1 ((kPs k).getD i (0, 0)).2) < 2 ^ 21 := Nat.lt_of_lt_of_le hfr (Nat.pow_le_pow_right (by decide) (Nat.le_trans hL4 (by decide)))
      have hll := like_light hn hc q2 q1 q3
      have hpl := plC_le n (c &&& aeM n) ((kPs k).getD i (0, 0)).1 (frm ((kPs k).getD i (0, 0)).1 0 (pB ((kPs k).getD i (0, 0)).1 ((kPs k).getD i (0, 0)).2)) (2 ^ n)
      have p64 : 2 ^ n ≤ 2 ^ 6 := Nat.pow_le_pow_right (by decide) hn
      refine br2 (nI_ge (by omega) (by omega)) (br2 g2 (br2 g2 ⟨gi, gi, ?_⟩))
      rw [nI_clamp (by omega), p1, p2]
      refine f_partsLike hn hlt (by omega) hfr21 ho (fun ab fo ib is' it le nn od se sl sy cl dk' sn fans near ho => ⟨fun g => ?_, fun g => ⟨by decide, ?_⟩⟩)
      · have g : ¬ 0 < plC n (c &&& aeM n) ((kPs k).getD i (0, 0)).1 (frm ((kPs k).getD i (0, 0)).1 0 (pB ((kPs k).getD i (0, 0)).1 ((kPs k).getD i (0, 0)).2)) (2 ^ n) := by
          have := (nI_leI (b := 0) (by omega) (by decide)).mp g
          omega
        rw [hll] at g
        rw [nI_1]
        refine ih (i + 1) _ _ _ _ _ _ _ _ _ _ _ _ _ _ _ _ (by omega) ho ?_
        unfold psAll at K2 ⊢
        rw [List.all_cons, Bool.eq_false_iff.mpr g] at K2
        exact K2
      · have g : 0 < plC n (c &&& aeM n) ((kPs k).getD i (0, 0)).1 (frm ((kPs k).getD i (0, 0)).1 0 (pB ((kPs k).getD i (0, 0)).1 ((kPs k).getD i (0, 0)).2)) (2 ^ n) := by
          rcases Nat.eq_zero_or_pos (plC n (c &&& aeM n) ((kPs k).getD i (0, 0)).1 (frm ((kPs k).getD i (0, 0)).1 0 (pB ((kPs k).getD i (0, 0)).1 ((kPs k).getD i (0, 0)).2)) (2 ^ n)) with e | e
          · rw [e] at g; exact absurd (Int32.le_refl _) g
          · exact e
        rw [hll] at g
        unfold psAll at K2
        rw [List.all_cons, g] at K2
        exact K2 _ _ _ _ _ _ _ _ _ _ _ _ _ _ _ _ ho
  exact main (kPs k).length 0 _ _ _ _ _ _ _ _ _ _ _ _ _ _ _ _ (by omega) ho K
