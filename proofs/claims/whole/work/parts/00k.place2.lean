/-! the search: the recursion -/
def ordOk (o : Int64) : Prop := ∃ m, m < 2 ^ 18 ∧ o = lN m
/-- what a search from a beginning p does: the summary of what was looked at is now that of all orders that begin so, too -/
def PlaceOk (n D : Nat) (B : Nat → Nat) (st : Int32) (FA : Int32 → Int32 → Int32 → Int32 → (Nat → Int64) → Int64 → Int32 → Int32 → Int64 → Int64 → Int32 → Int32 → Int32 → Int32 → Int32 → Int64 → (Int64 → Int32 → Int32 → Int64 → Int64 → Int32 → Int32 → Prop) → Prop) (fans : Nat → Int64) (k : Nat) : Prop :=
  ∀ (p : List Nat) (u : Nat) (Xs acc : List (List Nat)) (m : Nat) (first order seen : Int64) (still sym : Int32) (post : Int64 → Int32 → Int32 → Int64 → Int64 → Int32 → Int32 → Prop),
    p.length + k = n → (∀ i, i < p.length → p.getD i 0 < n) → u < 2 ^ n → k ≤ unc u n → ordIs order p p.length → IsSm (cod D B) (2 ^ LN n - 1) Xs m acc → FS n st m acc first seen still sym → Xs.length + (lv n k p u).length < 1000 → m < 2 ^ LN n → (k = 0 → cod D B p ≤ m) →
    (∀ (first' order' seen' : Int64) (still' sym' : Int32) (m' : Nat) (acc' : List (List Nat)), IsSm (cod D B) (2 ^ LN n - 1) (Xs ++ lv n k p u) m' acc' → FS n st m' acc' first' seen' still' sym' → m' < 2 ^ LN n → ordIs order' p p.length → post first' 0 (nI m') order' seen' still' sym') →
    FA (nI (LN n)) st 0 (nI n) fans first 0 (nI m) order seen still sym (nI p.length) (nI u) (nI (cod D B p)) (lN (lanes n (fun v => blk D B v p))) post
theorem ordIs_ok {o : Int64} {l : List Nat} {k : Nat} (h : ordIs o l k) : ordOk o := by obtain ⟨m, a, b, _⟩ := h; exact ⟨m, a, b⟩
theorem ordIs_pre {o : Int64} {p : List Nat} {v d : Nat} (hp : p.length = d) (h : ordIs o (p ++ [v]) (d + 1)) : ordIs o p d := by
  obtain ⟨m, a, b, c⟩ := h
  refine ⟨m, a, b, fun i hi => ?_⟩
  rw [c i (by omega)]
  simp [List.getD_eq_getElem?_getD, List.getElem?_append_left (show i < p.length by omega)]
def zv (n k : Nat) (p : List Nat) (u s : Nat) (v : Nat) : List (List Nat) := (List.range v).flatMap (fun w => if s.testBit w then lv n k (p ++ [w]) (u ||| 2 ^ w) else [])
theorem sm_acc_len {f : List Nat → Nat} {top : Nat} {Xs acc : List (List Nat)} {m : Nat} (h : IsSm f top Xs m acc) : acc.length ≤ Xs.length := by
  rcases h with ⟨h1, h2, _⟩ | ⟨_, _, h, _⟩
  · rw [h2]; simp
  · rw [h]; exact List.length_filter_le _ _
theorem zv_succ (n k : Nat) (p : List Nat) (u s : Nat) (v : Nat) : zv n k p u s (v + 1) = zv n k p u s v ++ (if s.testBit v then lv n k (p ++ [v]) (u ||| 2 ^ v) else []) := by
  unfold zv
  rw [List.range_succ, List.flatMap_append]; simp
theorem zv_len {n k : Nat} {p : List Nat} {u s : Nat} (hs : ∀ w, s.testBit w = true → u.testBit w = false) {v : Nat} (hv : v ≤ n) : (zv n k p u s v).length ≤ (lv n (k + 1) p u).length := by
  have h1 := fm_le (fun w => if s.testBit w then lv n k (p ++ [w]) (u ||| 2 ^ w) else []) (fun v => if u.testBit v then [] else lv n k (p ++ [v]) (u ||| 2 ^ v)) (by
    intro w
    show List.length (if _ then _ else _) ≤ List.length (if _ then _ else _)
    by_cases e : s.testBit w = true
    · have := hs w e
      simp [e, this]
    · simp [e]) v
  obtain ⟨R, h2, _⟩ := fm_mono (fun v => if u.testBit v then [] else lv n k (p ++ [v]) (u ||| 2 ^ v)) (v := v) n hv
  unfold zv
  rw [lv, h2, List.length_append]
  omega
theorem zv_rest {n k : Nat} {p : List Nat} {u s : Nat} {v : Nat} (hv : v ≤ n) : ∃ R, zv n k p u s n = zv n k p u s v ++ R ∧ ∀ r ∈ R, ∃ w, v ≤ w ∧ w < n ∧ s.testBit w = true ∧ r ∈ lv n k (p ++ [w]) (u ||| 2 ^ w) := by
  obtain ⟨R, h1, h2⟩ := fm_mono (fun w => if s.testBit w then lv n k (p ++ [w]) (u ||| 2 ^ w) else []) (v := v) n hv
  refine ⟨R, h1, fun r hr => ?_⟩
  obtain ⟨w, a, b, c⟩ := h2 r hr
  refine ⟨w, a, b, ?_⟩
  by_cases e : s.testBit w = true
  · simp only [e, if_true] at c; exact ⟨e, c⟩
  · simp [e] at c
theorem pl_141 {n D : Nat} {B : Nat → Nat} {st : Int32} {FA} {fans : Nat → Int64} {k : Nat} (hn : n ≤ 6) (hsym : ∀ v j, v < n → j < n → (B v).testBit j = (B j).testBit v) (hfan : ∀ v, v < n → fans v = lN (lanes n (fun j => ((B v).testBit j).toNat))) (hB : ∀ v, B v < 2 ^ n) (FAok : PlaceOk n D B st FA fans k)
    {p : List Nat} {u : Nat} (hk : p.length + (k + 1) = n) (hpn : ∀ i, i < p.length → p.getD i 0 < n) (hu : u < 2 ^ n) (hunc : k + 1 ≤ unc u n) {s x : Nat} (hs : ∀ w, s.testBit w = true → w < n ∧ u.testBit w = false ∧ x = cod D B (p ++ [w])) (hs2 : s < 2 ^ n) (hx : x < 2 ^ 22) {Xs : List (List Nat)} (hlen : Xs.length + (lv n (k + 1) p u).length < 1000) {post} 
    (fin : ∀ (first' order' seen' : Int64) (still' sym' : Int32) (m' : Nat) (acc' : List (List Nat)), IsSm (cod D B) (2 ^ LN n - 1) (Xs ++ zv n k p u s n) m' acc' → FS n st m' acc' first' seen' still' sym' → m' < 2 ^ LN n → ordIs order' p p.length → post first' 0 (nI m') order' seen' still' sym') : ∀ (j v : Nat) (acc : List (List Nat)) (m : Nat) (first order seen : Int64) (still sym : Int32), v + j = n →
    ordIs order p p.length → IsSm (cod D B) (2 ^ LN n - 1) (Xs ++ zv n k p u s v) m acc → FS n st m acc first seen still sym → m < 2 ^ LN n →
    F_X2_placeNext_141 FA (nI (LN n)) st 0 (nI n) fans post (j + 1) (nI p.length) (nI u) (lN (lanes n (fun v => blk D B v p))) (nI s) (nI x) (nI (LN n - LN (p.length + 1))) (nI v) first 0 (nI m) order seen still sym
  | 0, v, acc, m, first, order, seen, still, sym, he, ho, hS, hF, hm => by
    have : v = n := by omega
    subst this
    unfold F_X2_placeNext_141 F_X2_placeNext_198
    exact br1 (Int32.le_refl _) (fin _ _ _ _ _ _ _ hS hF hm ho)
  | j + 1, v, acc, m, first, order, seen, still, sym, he, ho, hS, hF, hm => by
    have hL6 := LN_mono hn
    have h6 : LN 6 = 21 := rfl
    have hm21 : m < 2 ^ 21 := Nat.lt_of_lt_of_le hm (Nat.pow_le_pow_right (by decide) (by omega))
    have hLd := LN_mono (show p.length + 1 ≤ n by omega)
    have next : ∀ (acc : List (List Nat)) (m : Nat) (first order seen : Int64) (still sym : Int32), ordIs order p p.length → IsSm (cod D B) (2 ^ LN n - 1) (Xs ++ zv n k p u s (v + 1)) m acc → FS n st m acc first seen still sym → m < 2 ^ LN n → F_X2_placeNext_192 FA (nI (LN n)) st 0 (nI n) fans post (F_X2_placeNext_141 FA (nI (LN n)) st 0 (nI n) fans post (j + 1)) (nI p.length) (nI u) (lN (lanes n (fun v => blk D B v p))) (nI s) (nI x) (nI (LN n - LN (p.length + 1))) (nI v) first 0 (nI m) order seen still sym := by
      intro acc m first order seen still sym ho hS hF hm
      unfold F_X2_placeNext_192
      rw [nI_1]
      exact pl_141 hn hsym hfan hB FAok hk hpn hu hunc hs hs2 hx hlen fin j (v + 1) acc m first order seen still sym (by omega) ho hS hF hm
    unfold F_X2_placeNext_141
    refine br2 (nI_ge (by omega) (by omega)) ⟨fun a => absurd rfl a, fun _ => ?_⟩
    rw [ni_shr (show m < 2 ^ 31 from Nat.lt_of_lt_of_le hm21 (by decide)) (show LN n - LN (p.length + 1) < 32 by omega)]
    have hdm : m / 2 ^ (LN n - LN (p.length + 1)) ≤ m := Nat.div_le_self _ _
    have hsb := ni_b1 (show s < 2 ^ 31 from Nat.lt_of_lt_of_le hs2 (Nat.pow_le_pow_right (by decide) (by omega))) (show v < 32 by omega)
    refine ⟨fun a => ?_, fun a => ⟨fun b => ?_, fun b => ?_⟩⟩
    · have a := (nI_ltI (by omega) (by omega)).mp a
      unfold F_X2_placeNext_198
      obtain ⟨R, r1, r2⟩ := zv_rest (n := n) (k := k) (p := p) (u := u) (s := s) (v := v) (by omega)
      have hR : ∀ r ∈ R, m < cod D B r := by
        intro r hr
        obtain ⟨w, _, _, c, d⟩ := r2 r hr
        have h1 := cod_lv D B k _ _ r d
        have h2 := (hs w c).2.2
        rw [List.length_append] at h1
        simp only [List.length_cons, List.length_nil, Nat.zero_add] at h1
        rw [show p.length + 1 + k = n by omega, ← h2] at h1
        rw [← h1] at a
        exact Nat.lt_of_not_le (fun g => absurd (Nat.div_le_div_right (c := 2 ^ (LN n - LN (p.length + 1))) g) (by omega))
      refine fin _ _ _ _ _ m acc ?_ hF hm ho
      rw [r1, ← List.append_assoc]
      by_cases ha : acc = []
      · have : R = [] := by
          rcases R with _ | ⟨r, R⟩
          · rfl
          · obtain ⟨w, _, _, c, d⟩ := r2 r (by simp)
            exfalso
            rcases hS with ⟨_, _, h3⟩ | ⟨_, h3, _⟩
            · have := hR r (by simp)
              have hlr := cod_lt D B r
              rw [lv_len k _ _ r d] at hlr
              simp at hlr
              rw [show p.length + 1 + k = n by omega] at hlr
              omega
            · exact h3 ha
        rw [this, List.append_nil]
        exact hS
      · exact sm_skip hS ha R hR
    · refine next acc m first order seen still sym ho ?_ hF hm
      have : s.testBit v = false := by
        cases e : s.testBit v with
        | false => rfl
        | true => exact absurd (hsb.mpr e) b
      rw [zv_succ, this]
      simpa using hS
    · have hv := hsb.mp b
      obtain ⟨_, hvu, hxv⟩ := hs v hv
      unfold F_X2_place
      refine f_fan (by omega) ?_
      have e1 : nI p.length + 1 = nI (p ++ [v]).length := by rw [nI_1]; simp
      have e2 : nI u ||| ((1 : Int32) <<< (nI v &&& 31)) = nI (u ||| 2 ^ v) := by
        have : (1 : Int32) <<< (nI v &&& 31) = nI (2 ^ v) := by
          show nI 1 <<< _ = _
          rw [ni_shl 1 (show v < 32 by omega), Nat.one_mul]
        rw [this, ni_or]
      have bl : ∀ w, blk D B w p < 64 := fun w => Nat.lt_of_lt_of_le (blk_lt D B w p) (show _ ≤ 2 ^ 6 from Nat.pow_le_pow_right (by decide) (by omega))
      have e3 : (lN (lanes n (fun v => blk D B v p)) <<< ((1 : Int32).toInt64 &&& 63)) ||| fans v = lN (lanes n (fun w => blk D B w (p ++ [v]))) := by
        rw [hfan v (by omega)]
        have h1 : lN (lanes n (fun v => blk D B v p)) <<< ((1 : Int32).toInt64 &&& 63) = lN (2 * lanes n (fun v => blk D B v p)) := by
          have := ln_shl (lanes n (fun v => blk D B v p)) (show 1 < 64 by omega)
          rw [Nat.mul_comm]
          exact this
        rw [h1, ln_or, lanes_shift (fun w => by have := bl w; omega)]
        have : ∀ m, m ≤ n → lanes m (fun w => 2 * blk D B w p + ((B v).testBit w).toNat) = lanes m (fun w => blk D B w (p ++ [v])) := by
          intro m
          induction m with
          | zero => intro _; rfl
          | succ m ih => intro hm; rw [lanes, lanes, ih (by omega), blk_snoc, hsym v m (by omega) (by omega)]
        rw [this n (Nat.le_refl _)]
      rw [e1, e2, hxv, e3]
      have hu2 : (u ||| 2 ^ v) < 2 ^ n := Nat.or_lt_two_pow hu (Nat.pow_lt_pow_right (by decide) (by omega))
      have hc := unc_or (u := u) (w := v) n hvu
      rw [if_pos (by omega)] at hc
      have zl := zv_len (n := n) (k := k) (p := p) (u := u) (s := s) (fun w h => (hs w h).2.1) (v := v + 1) (by omega)
      rw [zv_succ, hv, if_pos rfl, List.length_append] at zl
      refine FAok (p ++ [v]) (u ||| 2 ^ v) (Xs ++ zv n k p u s v) acc m first _ seen still sym _ (by simp; omega) ?_ hu2 (by omega) ?_ hS hF (by rw [List.length_append]; omega) hm ?_ ?_
      · intro i hi
        rw [List.length_append] at hi
        simp at hi
        rcases Nat.lt_succ_iff_lt_or_eq.mp hi with g | rfl
        · have := hpn i g
          simpa [List.getD_eq_getElem?_getD, List.getElem?_append_left g] using this
        · simp [List.getD_eq_getElem?_getD]; omega
      · rw [List.length_append]
        exact ord_upd ho rfl (by omega) (by omega)
      · intro hk0
        subst hk0
        have hle : ¬ m / 2 ^ (LN n - LN (p.length + 1)) < x := fun g => a (nI_lt g (by omega))
        rw [show p.length + 1 = n by omega, Nat.sub_self] at hle
        simp at hle
        omega
      · intro first' order' seen' still' sym' m' acc' hS' hF' hm' ho'
        dsimp only
        rw [← hxv]
        refine next acc' m' first' order' seen' still' sym' ?_ ?_ hF' hm'
        · rw [List.length_append] at ho'
          exact ordIs_pre rfl ho'
        · rw [zv_succ, hv, if_pos rfl, ← List.append_assoc]
          exact hS'
theorem zv_all {n D : Nat} {B : Nat → Nat} {k : Nat} {p : List Nat} {u top m : Nat} {Xs acc : List (List Nat)} (hk : p.length + (k + 1) = n) (hn : n ≤ 6) (hunc : k + 1 ≤ unc u n) (h : IsSm (cod D B) top (Xs ++ zv n k p u (lows D B p u n).2 n) m acc) : IsSm (cod D B) top (Xs ++ lv n (k + 1) p u) m acc := by
  have hL := lows_le (D := D) (B := B) (p := p) (u := u) n
  have bl : ∀ w, blk D B w p < 64 := fun w => Nat.lt_of_lt_of_le (blk_lt D B w p) (show _ ≤ 2 ^ 6 from Nat.pow_le_pow_right (by decide) (by omega))
  have at_d : ∀ w l, l ∈ lv n k (p ++ [w]) (u ||| 2 ^ w) → l.getD p.length 0 = w := by
    intro w l hl
    rw [lv_get k _ _ l hl p.length (by simp)]
    simp [List.getD_eq_getElem?_getD]
  refine sm_drop h (fun l => (lows D B p u n).2.testBit (l.getD p.length 0)) ?_ ?_
  · rw [lv, List.filter_flatMap]
    unfold zv
    congr 1
    funext w
    by_cases e : (lows D B p u n).2.testBit w = true
    · have hu := ((hL.2.1 w).mp e).2.1
      simp only [e, hu, if_true, Bool.false_eq_true, if_false]
      rw [List.filter_eq_self.mpr]
      intro l hl
      rw [at_d w l hl, e]
    · simp only [e, Bool.false_eq_true, if_false]
      by_cases e2 : u.testBit w = true
      · simp [e2]
      · simp only [e2, Bool.false_eq_true, if_false]
        symm
        rw [List.filter_eq_nil_iff]
        intro l hl
        rw [at_d w l hl]
        exact e
  · intro y hy hq
    rw [lv, List.mem_flatMap] at hy
    obtain ⟨w, hw, hy⟩ := hy
    split at hy
    · simp at hy
    · rename_i hu
      have hu : u.testBit w = false := by simpa using hu
      have hw := List.mem_range.mp hw
      rw [at_d w y hy] at hq
      have hlo := hL.1 w hw hu
      have hne : blk D B w p ≠ (lows D B p u n).1 := by
        intro e
        have := (hL.2.1 w).mpr ⟨hw, hu, e⟩
        rw [hq] at this
        simp at this
      obtain ⟨w0, a, b, c⟩ : ∃ w0, w0 < n ∧ u.testBit w0 = false ∧ blk D B w0 p = (lows D B p u n).1 := by
        rcases hL.2.2.1 with h64 | h
        · have := bl w; omega
        · exact h
      have hc := unc_or (u := u) (w := w0) n b
      rw [if_pos a] at hc
      obtain ⟨z, hz⟩ := List.exists_mem_of_ne_nil _ (lv_ne (n := n) k (p ++ [w0]) (u ||| 2 ^ w0) (by omega))
      refine ⟨z, ?_, ?_⟩
      · unfold zv
        rw [List.mem_flatMap]
        exact ⟨w0, List.mem_range.mpr a, by rw [if_pos ((hL.2.1 w0).mpr ⟨a, b, c⟩)]; exact hz⟩
      · have h1 := cod_lv D B k _ _ z hz
        have h2 := cod_lv D B k _ _ y hy
        rw [cod_snoc] at h1 h2
        simp only [List.length_append, List.length_cons, List.length_nil, Nat.zero_add] at h1 h2
        exact Nat.lt_of_not_le (fun g => absurd (Nat.div_le_div_right (c := 2 ^ (LN (p.length + 1 + k) - LN (p.length + 1))) g) (by omega))
theorem place_ok {n D : Nat} {B : Nat → Nat} {st : Int32} {fans : Nat → Int64} (hn : n ≤ 6) (hsym : ∀ v j, v < n → j < n → (B v).testBit j = (B j).testBit v) (hfan : ∀ v, v < n → fans v = lN (lanes n (fun j => ((B v).testBit j).toNat))) (hB : ∀ v, B v < 2 ^ n) : ∀ (k fu : Nat), k < fu → PlaceOk n D B st (F_X2_placeNext fu) fans k
  | 0, 0, h => absurd h (Nat.lt_irrefl _)
  | _ + 1, 0, h => absurd h (Nat.not_lt_zero _)
  | 0, fu + 1, _ => by
    intro p u Xs acc m first order seen still sym post hk hpn hu hunc ho hS hF hlen hm h0 hpost
    have hL6 := LN_mono hn
    have h6 : LN 6 = 21 := rfl
    have hm21 : m < 2 ^ 21 := Nat.lt_of_lt_of_le hm (Nat.pow_le_pow_right (by decide) (by omega))
    have hkn : p.length = n := by omega
    rw [F_X2_placeNext]
    unfold FB_X2_placeNext
    refine br2 (nI_nlt (by omega) (by omega)) ?_
    have ha := sm_acc_len hS
    refine f_arrive hn hm21 (by rw [hkn] at ho; exact ho) ⟨hkn, fun i hi => by have := hpn i (by omega); omega⟩ (by omega) hF (h0 rfl) ?_
    intro first' seen' still' sym' hF'
    refine hpost first' order seen' still' sym' (cod D B p) _ ?_ hF' (by rw [← hkn]; exact cod_lt D B p) ho
    rw [lv]
    have h0 := h0 rfl
    by_cases e : cod D B p < m ∨ acc = []
    · rw [if_pos e]; exact sm_new hS p e
    · rw [if_neg e]
      have e1 : cod D B p = m := by have : ¬ cod D B p < m := fun g => e (Or.inl g); omega
      have := sm_more hS p e1 (fun g => e (Or.inr g))
      rw [e1]; exact this
  | k + 1, fu + 1, hfu => by
    intro p u Xs acc m first order seen still sym post hk hpn hu hunc ho hS hF hlen hm h0 hpost
    have hL6 := LN_mono hn
    have h6 : LN 6 = 21 := rfl
    have IH : PlaceOk n D B st (F_X2_placeNext fu) fans k := place_ok hn hsym hfan hB k fu (by omega)
    have hL := lows_le (D := D) (B := B) (p := p) (u := u) n
    have hLd := LN_mono (show p.length + 1 ≤ n by omega)
    have hcl := cod_lt D B p
    have bl : ∀ w, blk D B w p < 2 ^ (p.length + 1) := fun w => blk_lt D B w p
    have hS' := LN_succ p.length
    have hc21 : cod D B p * 2 ^ (p.length + 1) < 2 ^ 21 := by
      have h1 : cod D B p * 2 ^ (p.length + 1) < 2 ^ LN p.length * 2 ^ (p.length + 1) := Nat.mul_lt_mul_of_pos_right hcl (Nat.pow_pos (by decide))
      rw [← Nat.pow_add] at h1
      exact Nat.lt_of_lt_of_le h1 (Nat.pow_le_pow_right (by decide) (by omega))
    rw [F_X2_placeNext]
    unfold FB_X2_placeNext
    refine br1 (nI_lt (by omega) (by omega)) ⟨n + 1, ?_⟩
    refine pl_24 (D := D) (B := B) (p := p) (u := u) (n := n) (b := lanes n (fun v => blk D B v p)) (c := cod D B p) (d := p.length) rfl hn (by omega) hu rfl n 0 (by omega) ?_
    unfold F_X2_placeNext_24
    refine br1 (Int32.le_refl _) ?_
    rw [nI_1]
    refine f_bits (by omega) (br1 rfl ?_)
    rw [ni_shl _ (show p.length + 1 < 32 by omega), ni_or, ni_sub hLd]
    unfold F_X2_placeNext_138
    refine ⟨n + 1, ?_⟩
    refine pl_141 (k := k) hn hsym hfan hB IH hk hpn hu hunc (x := cod D B p * 2 ^ (p.length + 1) ||| (lows D B p u n).1) ?_ hL.2.2.2.1 (Nat.or_lt_two_pow (by omega) (by have := hL.2.2.2.2; omega)) (Xs := Xs) hlen ?_ n 0 acc m first order seen still sym (by omega) ho (by simpa [zv] using hS) hF hm
    · intro w hw
      obtain ⟨a, b, c⟩ := (hL.2.1 w).mp hw
      refine ⟨a, b, ?_⟩
      rw [← c, cod_snoc, Nat.mul_comm, ← Nat.two_pow_add_eq_or_of_lt (bl w)]
    · intro first' order' seen' still' sym' m' acc' hS' hF' hm' ho'
      exact hpost first' order' seen' still' sym' m' acc' (zv_all hk hn hunc hS') hF' hm' ho'
