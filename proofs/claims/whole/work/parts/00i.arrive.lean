/-! an order that arrives: what is kept of those that have the least code -/
def seenF (l : List Nat) (s : Nat) : Nat → Nat
  | 0 => s
  | k + 1 => seenF l s k ||| 2 ^ (6 * k + l.getD k 0)
def stI (n m : Nat) (h l : List Nat) (k : Nat) : Nat → Nat
  | 0 => 0
  | e + 1 => stI n m h l k e + (if m.testBit (LN n - LN k - 2 - e) = true ∧ (2 ^ l.getD k 0 ||| 2 ^ l.getD e 0) = (2 ^ h.getD k 0 ||| 2 ^ h.getD e 0) then 1 else 0)
def stO (n m : Nat) (h l : List Nat) : Nat → Nat
  | 0 => 0
  | k + 1 => stO n m h l k + stI n m h l k k
def snA (n : Nat) (acc : List (List Nat)) : Nat := acc.foldl (fun s l => seenF l s n) 0
def stA (n m : Nat) (h : List Nat) (acc : List (List Nat)) : Nat := acc.foldl (fun s l => s + stO n m h l n) 0
/-- a long that holds the first k of a list of small numbers, three bits each -/
def ordIs (o : Int64) (l : List Nat) (k : Nat) : Prop := ∃ m, m < 2 ^ 18 ∧ o = lN m ∧ ∀ i, i < k → m / 2 ^ (3 * i) % 8 = l.getD i 0
def smallL (n : Nat) (l : List Nat) : Prop := l.length = n ∧ ∀ i, i < n → l.getD i 0 < 6
def FS (n : Nat) (st : Int32) (m : Nat) (acc : List (List Nat)) (first : Int64) (seen : Int64) (still sym : Int32) : Prop := sym = nI acc.length ∧ (acc ≠ [] → ordIs first (acc.headD []) n ∧ smallL n (acc.headD []) ∧ (st ≠ 0 → seen = lN (snA n acc) ∧ still = nI (stA n m (acc.headD []) acc)))
theorem o_fld {m k v : Nat} (hm : m < 2 ^ 18) (hk : k < 6) (hv : m / 2 ^ (3 * k) % 8 = v) : ((lN m >>> (((3 : Int32) * nI k).toInt64 &&& 63)) &&& (7 : Int64)) = lN v := by
  have e : (3 : Int32) * nI k = nI (3 * k) := ni_mul 3 k
  rw [e, ln_shr (Nat.lt_of_lt_of_le hm (by decide)) (show 3 * k < 64 by omega)]
  show lN _ &&& lN 7 = _
  rw [ln_and, show 7 = 2 ^ 3 - 1 from rfl, Nat.and_two_pow_sub_one_eq_mod]
  show lN (m / 2 ^ (3 * k) % 8) = _
  rw [hv]
theorem o_one {v : Nat} (hv : v < 60) : ((1 : Int64) <<< (((lN v).toInt32).toInt64 &&& 63)) = lN (2 ^ v) := by
  show lN 1 <<< _ = _
  rw [lN_i, ln_shl 1 (show v < 64 by omega), Nat.one_mul]
theorem pow_lt60 {v : Nat} (hv : v < 60) : 2 ^ v < 2 ^ 60 := Nat.pow_lt_pow_right (by decide) hv
theorem arr_in {n m k : Nat} {h l : List Nat} {st : Int32} {o f : Nat} {post} {K60} (hn : n ≤ 6) (hm : m < 2 ^ 21) (hk : k < n) (ho : o < 2 ^ 18) (hf : f < 2 ^ 18) (hol : ∀ i, i < n → o / 2 ^ (3 * i) % 8 = l.getD i 0) (hfl : ∀ i, i < n → f / 2 ^ (3 * i) % 8 = h.getD i 0) (hl : smallL n l) (hh : smallL n h) {seen : Int64} {sym : Int32} : ∀ (j e s : Nat), e + j = k →
    K60 (nI m) (nI (LN n - LN (k + 1))) (nI k + 1) (lN f) (nI m) seen (nI (s + stI n m h l k k)) sym →
    F_X2_arrive_129 (nI (LN n)) st (nI n) (lN o) post K60 (j + 1) (nI m) (nI (LN n - LN k - 1 - e)) (nI k) (lN (l.getD k 0)) (lN (h.getD k 0)) (nI e) (lN f) (nI m) seen (nI (s + stI n m h l k e)) sym
  | 0, e, s, he, hp => by
    have : e = k := by omega
    subst this
    unfold F_X2_arrive_129
    refine br1 (Int32.le_refl _) ?_
    have := LN_succ e
    rw [show LN n - LN e - 1 - e = LN n - LN (e + 1) by omega]
    exact hp
  | j + 1, e, s, he, hp => by
    unfold F_X2_arrive_129
    have hLk := LN_succ k
    have hLm := LN_mono (show k + 1 ≤ n by omega)
    have hL6 := LN_mono hn
    have h6 : LN 6 = 21 := rfl
    refine br2 (nI_ge (by omega) (by omega)) ?_
    have lk := hl.2 k hk
    have le := hl.2 e (by omega)
    have hk' := hh.2 k hk
    have he' := hh.2 e (by omega)
    intro x9 e9 x11 e11
    rw [o_fld ho (by omega) (hol e (by omega)), o_one (by omega), o_one (by omega), ln_or] at e9
    rw [o_fld hf (by omega) (hfl e (by omega)), o_one (by omega), o_one (by omega), ln_or] at e11
    have eb : nI (LN n - LN k - 1 - e) + (-1) = nI (LN n - LN k - 1 - (e + 1)) := by
      rw [show LN n - LN k - 1 - e = (LN n - LN k - 1 - (e + 1)) + 1 by omega, ni_dec]
    have es : LN n - LN k - 1 - (e + 1) = LN n - LN k - 2 - e := by omega
    rw [eb]
    have p1 : (2 ^ l.getD k 0 ||| 2 ^ l.getD e 0) < 2 ^ 60 := Nat.or_lt_two_pow (pow_lt60 (by omega)) (pow_lt60 (by omega))
    have p2 : (2 ^ h.getD k 0 ||| 2 ^ h.getD e 0) < 2 ^ 60 := Nat.or_lt_two_pow (pow_lt60 (by omega)) (pow_lt60 (by omega))
    have ec : lg_cmp x9 x11 = 0 ↔ (2 ^ l.getD k 0 ||| 2 ^ l.getD e 0) = (2 ^ h.getD k 0 ||| 2 ^ h.getD e 0) := by
      rw [lg_cmp_eq, e9, e11, ln_inj (Nat.lt_of_lt_of_le p1 (by decide)) (Nat.lt_of_lt_of_le p2 (by decide))]
    have hb := ni_b1 (show m < 2 ^ 31 from Nat.lt_of_lt_of_le hm (by decide)) (show LN n - LN k - 1 - (e + 1) < 32 by omega)
    have ih := arr_in (post := post) (K60 := K60) (st := st) hn hm hk ho hf hol hfl hl hh (seen := seen) (sym := sym) j (e + 1) s (by omega) hp
    refine ⟨fun c => ?_, fun c => ⟨fun c2 => ?_, fun c2 => ?_⟩⟩
    · unfold F_X2_arrive_213
      rw [nI_1]
      rw [stI, if_neg (by rw [← es]; exact fun g => c (hb.mpr g.1))] at ih
      exact ih
    · unfold F_X2_arrive_213
      rw [nI_1]
      rw [stI, if_neg (by exact fun g => c2 (ec.mpr g.2))] at ih
      exact ih
    · unfold F_X2_arrive_213
      rw [nI_1]
      rw [stI, if_pos ⟨by rw [← es]; exact hb.mp c, ec.mp c2⟩] at ih
      rw [nI_1]
      exact ih
theorem arr_out {n m : Nat} {h l : List Nat} {st : Int32} (hst : st ≠ 0) {o f : Nat} {post} (hn : n ≤ 6) (hm : m < 2 ^ 21) (ho : o < 2 ^ 18) (hf : f < 2 ^ 18) (hol : ∀ i, i < n → o / 2 ^ (3 * i) % 8 = l.getD i 0) (hfl : ∀ i, i < n → f / 2 ^ (3 * i) % 8 = h.getD i 0) (hl : smallL n l) (hh : smallL n h) {sym : Int32} {s0 s : Nat} : ∀ (j k : Nat), k + j = n →
    post (lN f) (nI m) (lN (seenF l s0 n)) (nI (s + stO n m h l n)) sym →
    F_X2_arrive_60 (nI (LN n)) st (nI n) (lN o) post (j + 1) (nI m) (nI (LN n - LN k)) (nI k) (lN f) (nI m) (lN (seenF l s0 k)) (nI (s + stO n m h l k)) sym
  | 0, k, he, hp => by
    have : k = n := by omega
    subst this
    unfold F_X2_arrive_60 F_X2_arrive_225
    exact br1 (Int32.le_refl _) hp
  | j + 1, k, he, hp => by
    unfold F_X2_arrive_60
    refine br2 (nI_ge (by omega) (by omega)) (br2 hst ?_)
    intro x6 e6
    rw [o_fld hf (by omega) (hfl k (by omega))] at e6
    have hLk := LN_succ k
    have hLm := LN_mono (show k + 1 ≤ n by omega)
    have lk := hl.2 k (by omega)
    rw [o_fld ho (by omega) (hol k (by omega)), e6]
    have e1 : (((6 : Int32) * nI k).toInt64 + lN (l.getD k 0)) = lN (6 * k + l.getD k 0) := by
      rw [show (6 : Int32) * nI k = nI (6 * k) from ni_mul 6 k, nI_l (by omega), lN_add]
    rw [e1, o_one (by omega), ln_or]
    have eb : nI (LN n - LN k) + (-1) = nI (LN n - LN k - 1 - 0) := by
      rw [show LN n - LN k = (LN n - LN k - 1 - 0) + 1 by omega, ni_dec]; rfl
    rw [eb]
    refine ⟨k + 1, ?_⟩
    have ih := arr_out (post := post) (sym := sym) (s0 := s0) (s := s) hst hn hm ho hf hol hfl hl hh j (k + 1) (by omega) hp
    refine arr_in (h := h) hn hm (by omega) ho hf hol hfl hl hh k 0 (s + stO n m h l k) (by omega) ?_
    rw [nI_1, Nat.add_assoc]
    exact ih
theorem f_arrive {n m c : Nat} {l : List Nat} {acc : List (List Nat)} {st : Int32} {order first seen : Int64} {still sym : Int32} {post : Int64 → Int32 → Int64 → Int32 → Int32 → Prop} (hn : n ≤ 6) (hm : m < 2 ^ 21) (ho : ordIs order l n) (hl : smallL n l) (hacc : acc.length < 1000) (h : FS n st m acc first seen still sym) (hc : c ≤ m)
    (hp : ∀ first' seen' still' sym', FS n st c (if c < m ∨ acc = [] then [l] else acc ++ [l]) first' seen' still' sym' → post first' (nI c) seen' still' sym') :
    F_X2_arrive (nI (LN n)) st (nI n) order first (nI m) seen still sym (nI c) post := by
  obtain ⟨o, ho, rfl, hol⟩ := ho
  obtain ⟨hs, h⟩ := h
  have hc2 : c < 2 ^ 21 := by omega
  have new : (c < m ∨ acc = []) → F_X2_arrive_43 (nI (LN n)) st (nI n) (lN o) post (nI c) (lN o) (nI c) (0 : Int64) 0 0 := by
    intro hx
    unfold F_X2_arrive_43
    refine ⟨n + 1, ?_⟩
    have hF := hp (lN o)
    rw [if_pos hx] at hF
    by_cases hst : st = 0
    · subst hst
      cases n with
      | zero =>
        unfold F_X2_arrive_60 F_X2_arrive_225
        refine br1 (by decide) (hF _ _ _ ⟨rfl, fun _ => ⟨⟨o, ho, rfl, hol⟩, hl, fun h => absurd rfl h⟩⟩)
      | succ n =>
        unfold F_X2_arrive_60 F_X2_arrive_225
        refine br2 (nI_ge (a := 0) (by omega) (by omega)) (br1 rfl (hF _ _ _ ⟨rfl, fun _ => ⟨⟨o, ho, rfl, hol⟩, hl, fun h => absurd rfl h⟩⟩))
    · refine arr_out (l := l) (h := l) (s0 := 0) (s := 0) hst hn hc2 ho ho hol hol hl hl n 0 (by omega) ?_
      refine hF _ _ _ ⟨rfl, fun _ => ⟨⟨o, ho, rfl, hol⟩, hl, fun _ => ⟨?_, ?_⟩⟩⟩
      · simp [snA]
      · simp [stA]
  have hsym : sym = 0 ↔ acc = [] := by
    rw [hs]
    constructor
    · intro e
      have : acc.length = 0 := ni_inj (by omega) (by decide) e
      exact List.length_eq_zero_iff.mp this
    · rintro rfl; rfl
  unfold F_X2_arrive F_X2_arrive_15
  refine ⟨fun a => new (Or.inl ((nI_ltI (by omega) (by omega)).mp a)), fun a => ⟨fun b => ?_, fun b => new (Or.inr (hsym.mp b))⟩⟩
  have e : c = m := by
    have : ¬ c < m := fun g => a (nI_lt g (by omega))
    omega
  subst e
  have ha : acc ≠ [] := fun g => b (hsym.mpr g)
  obtain ⟨⟨f, hf, rfl, hfl⟩, hh, h⟩ := h ha
  have hne : ¬ (c < c ∨ acc = []) := by simp [ha]
  have hd : (acc ++ [l]).headD [] = acc.headD [] := by
    cases acc with
    | nil => exact absurd rfl ha
    | cons => rfl
  have hF := hp (lN f)
  rw [if_neg hne] at hF
  have el : sym + 1 = nI (acc ++ [l]).length := by rw [hs, nI_1]; simp
  unfold F_X2_arrive_43
  refine ⟨n + 1, ?_⟩
  by_cases hst : st = 0
  · subst hst
    have fin := fun s2 s3 => hF s2 s3 (sym + 1) ⟨el, fun _ => ⟨by rw [hd]; exact ⟨f, hf, rfl, hfl⟩, by rw [hd]; exact hh, fun h => absurd rfl h⟩⟩
    cases n with
    | zero =>
      unfold F_X2_arrive_60 F_X2_arrive_225
      exact br1 (by decide) (fin _ _)
    | succ n =>
      unfold F_X2_arrive_60 F_X2_arrive_225
      exact br2 (nI_ge (a := 0) (by omega) (by omega)) (br1 rfl (fin _ _))
  · obtain ⟨h1, h2⟩ := h hst
    rw [h1, h2]
    refine arr_out (l := l) (h := acc.headD []) (s0 := snA n acc) (s := stA n c (acc.headD []) acc) hst hn hm ho hf hol hfl hl hh n 0 (by omega) ?_
    refine hF _ _ _ ⟨el, fun _ => ⟨by rw [hd]; exact ⟨f, hf, rfl, hfl⟩, by rw [hd]; exact hh, fun _ => ⟨?_, ?_⟩⟩⟩
    · simp [snA, List.foldl_append]
    · rw [hd]; simp [stA, List.foldl_append]
