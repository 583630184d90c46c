/-! every least code is among them; the class's levels are the reference's -/
theorem bf_pre {B : Nat → Nat} {v : Nat} : ∀ (p : List Nat) (a : Nat), bf B v a p / 2 ^ p.length = a
  | [], a => by show a / 2 ^ 0 = a; simp
  | u :: p, a => by
    show bf B v (2 * a + ((B v).testBit u).toNat) p / 2 ^ (p.length + 1) = a
    rw [Nat.pow_succ, ← Nat.div_div_eq_div_mul, bf_pre p]
    have := bool_lt2 ((B v).testBit u)
    omega
theorem bf_inj {B A : Nat → Nat} {v w : Nat} : ∀ (p q : List Nat) (a b : Nat), p.length = q.length → bf B v a p = bf A w b q → a = b ∧ ∀ j, j < p.length → (B v).testBit (p.getD j 0) = (A w).testBit (q.getD j 0)
  | [], [], a, b, _, h => ⟨h, fun j hj => absurd hj (Nat.not_lt_zero _)⟩
  | [], _ :: _, a, b, hl, _ => by simp at hl
  | _ :: _, [], a, b, hl, _ => by simp at hl
  | u :: p, x :: q, a, b, hl, h => by
    have h : bf B v (2 * a + ((B v).testBit u).toNat) p = bf A w (2 * b + ((A w).testBit x).toNat) q := h
    obtain ⟨h1, h2⟩ := bf_inj p q _ _ (by simpa using hl) h
    have e1 := bool_lt2 ((B v).testBit u)
    have e2 := bool_lt2 ((A w).testBit x)
    have e : ((B v).testBit u).toNat = ((A w).testBit x).toNat := by omega
    refine ⟨by omega, fun j hj => ?_⟩
    cases j with
    | zero => revert e; show _ → (B v).testBit u = (A w).testBit x; cases (B v).testBit u <;> cases (A w).testBit x <;> simp
    | succ j => exact h2 j (by simpa using hj)
theorem scf_pre {B : Nat → Nat} : ∀ (r p : List Nat) (a : Nat), scf B p a r / 2 ^ sumr p.length r.length = a
  | [], p, a => by show a / 2 ^ 0 = a; simp
  | v :: r, p, a => by
    have ih := scf_pre (B := B) r (p ++ [v]) (bf B v a p)
    rw [List.length_append] at ih
    simp only [List.length_cons, List.length_nil, Nat.zero_add] at ih
    rw [scf, List.length_cons, sumr, Nat.add_comm, Nat.pow_add, ← Nat.div_div_eq_div_mul, ih, bf_pre]
theorem scf_inj {B A : Nat → Nat} : ∀ (r r' p q : List Nat) (a b : Nat), p.length = q.length → r.length = r'.length → scf B p a r = scf A q b r' → a = b ∧ ∀ i j, j < i → p.length ≤ i → i < p.length + r.length → (B ((p ++ r).getD i 0)).testBit ((p ++ r).getD j 0) = (A ((q ++ r').getD i 0)).testBit ((q ++ r').getD j 0)
  | [], [], p, q, a, b, _, _, h => ⟨h, fun i j _ h1 h2 => by simp at h2; omega⟩
  | [], _ :: _, _, _, _, _, _, hr, _ => by simp at hr
  | _ :: _, [], _, _, _, _, _, hr, _ => by simp at hr
  | v :: r, w :: r', p, q, a, b, hl, hr, h => by
    rw [scf, scf] at h
    obtain ⟨h1, h2⟩ := scf_inj r r' (p ++ [v]) (q ++ [w]) _ _ (by simp [hl]) (by simpa using hr) h
    obtain ⟨g1, g2⟩ := bf_inj p q a b hl h1
    refine ⟨g1, fun i j hj hi hi2 => ?_⟩
    rcases Nat.eq_or_lt_of_le hi with e | e
    · subst e
      have e1 : (p ++ v :: r).getD p.length 0 = v := by simp [List.getD_eq_getElem?_getD]
      have e2 : (q ++ w :: r').getD p.length 0 = w := by simp [List.getD_eq_getElem?_getD, hl]
      have e3 : (p ++ v :: r).getD j 0 = p.getD j 0 := by simp [List.getD_eq_getElem?_getD, List.getElem?_append_left hj]
      have e4 : (q ++ w :: r').getD j 0 = q.getD j 0 := by simp [List.getD_eq_getElem?_getD, List.getElem?_append_left (show j < q.length by omega)]
      rw [e1, e2, e3, e4]
      exact g2 j hj
    · have := h2 i j hj (by simp; omega) (by simp at hi2 ⊢; omega)
      simpa using this
theorem adv_M {n : Nat} {dk : Bool} : ∀ (L : List Nat) (k M k' M' : Nat), adv n dk L k M = some (k', M') → M' = L.foldl (fun M c => mkP n dk c M) M
  | [], k, M, k', M', h => by simp [adv] at h; exact h.2.symm
  | c :: r, k, M, k', M', h => by
    rw [adv] at h
    split at h
    · rw [List.foldl_cons]; exact adv_M r _ _ _ _ h
    · simp at h
theorem mk_bit {n : Nat} {dk : Bool} {c t : Nat} : ∀ (L : List (List Nat)) (M : Nat), (L.foldl (fun M l => M ||| 2 ^ shr n dk (cod (dkM n c) (byM n c) l)) M).testBit t = true → M.testBit t = true ∨ ∃ l ∈ L, shr n dk (cod (dkM n c) (byM n c) l) = t
  | [], M, h => Or.inl h
  | l :: L, M, h => by
    rw [List.foldl_cons] at h
    rcases mk_bit L _ h with h | ⟨l', hl, e⟩
    · rw [tb_or_pow, Bool.or_eq_true, decide_eq_true_eq] at h
      rcases h with h | h
      · exact Or.inl h
      · exact Or.inr ⟨l, by simp, h⟩
    · exact Or.inr ⟨l', by simp [hl], e⟩
theorem mks_bit {n : Nat} (hn : n ≤ 6) {dk : Bool} {t : Nat} : ∀ (L : List Nat) (M : Nat), (L.foldl (fun M c => mkP n dk c M) M).testBit t = true → M.testBit t = true ∨ ∃ c ∈ L, ∃ l ∈ lex n, shr n dk (cod (dkM n c) (byM n c) l) = t
  | [], M, h => Or.inl h
  | c :: L, M, h => by
    rw [List.foldl_cons] at h
    rcases mks_bit hn L _ h with h | ⟨c', hc, r⟩
    · rw [mk_eq hn] at h
      rcases mk_bit (lex n) M h with h | ⟨l, hl, e⟩
      · exact Or.inl h
      · exact Or.inr ⟨c, by simp, l, hl, e⟩
    · exact Or.inr ⟨c', by simp [hc], r⟩
theorem all_marked : ∀ n dk, 1 ≤ n → n ≤ (if dk then 5 else 6) → (CT n dk).foldl (fun M c => mkP n dk c M) 0 = 2 ^ (2 ^ ncod n dk) - 1 := by
  intro n dk h1 h2
  have f : ∀ {n dk L N M}, adv n dk L 0 0 = some (N, M) → M = 2 ^ N - 1 → L.foldl (fun M c => mkP n dk c M) 0 = 2 ^ N - 1 := fun h e => by rw [← adv_M _ _ _ _ _ h, e]
  cases dk with
  | true =>
    have h2 : n ≤ 5 := h2
    match n, h1, h2 with
    | 1, _, _ => exact f adv_D1_0 (by decide +kernel)
    | 2, _, _ => exact f adv_D2_0 (by decide +kernel)
    | 3, _, _ => exact f adv_D3_0 (by decide +kernel)
    | 4, _, _ => exact f ((adv_append _ _ _ _ _ _ adv_D4_0).trans adv_D4_1) (by decide +kernel)
    | 5, _, _ => exact f ((adv_append _ _ _ _ _ _ adv_D5_0).trans ((adv_append _ _ _ _ _ _ adv_D5_1).trans ((adv_append _ _ _ _ _ _ adv_D5_2).trans ((adv_append _ _ _ _ _ _ adv_D5_3).trans ((adv_append _ _ _ _ _ _ adv_D5_4).trans ((adv_append _ _ _ _ _ _ adv_D5_5).trans ((adv_append _ _ _ _ _ _ adv_D5_6).trans ((adv_append _ _ _ _ _ _ adv_D5_7).trans ((adv_append _ _ _ _ _ _ adv_D5_8).trans adv_D5_9))))))))) (by decide +kernel)
  | false =>
    have h2 : n ≤ 6 := h2
    match n, h1, h2 with
    | 1, _, _ => exact f adv_L1_0 (by decide +kernel)
    | 2, _, _ => exact f adv_L2_0 (by decide +kernel)
    | 3, _, _ => exact f adv_L3_0 (by decide +kernel)
    | 4, _, _ => exact f adv_L4_0 (by decide +kernel)
    | 5, _, _ => exact f adv_L5_0 (by decide +kernel)
    | 6, _, _ => exact f ((adv_append _ _ _ _ _ _ adv_L6_0).trans ((adv_append _ _ _ _ _ _ adv_L6_1).trans adv_L6_2)) (by decide +kernel)
theorem shr_lt2 {n c : Nat} {dk : Bool} (h : n ≤ (if dk then 5 else 6)) (hc : c < 2 ^ LN n) : shr n dk c < 2 ^ ncod n dk := by
  have hn : n ≤ 6 := by cases dk <;> simp at h <;> omega
  cases dk with
  | true => exact hc
  | false =>
    have h2 := shO_cod (D := dkM n c) (B := byM n c) (l := List.range n) (n := n) (by simp) (List.range n) [] 0 rfl
    rw [List.length_range, cod_self hn hc, List.length_nil, LN_0, Nat.sub_zero] at h2
    show shO c n 0 0 (LN n) < _
    rw [h2]
    have := scf_lt (B := byM n c) (List.range n) [] 0 0 (by decide)
    have b : ∀ n, n ≤ 6 → sumr 0 n = n * (n - 1) / 2 := by decide
    rw [List.length_nil, List.length_range, b n hn, Nat.zero_add] at this
    exact this
/-- a least code is among them -/
theorem CT_all {n c : Nat} {dk : Bool} (h1 : 1 ≤ n) (h2 : n ≤ (if dk then 5 else 6)) (hc : c < 2 ^ LN n) (hd : dk = false → dkM n c = 0) (hf : c ≤ frm n (dkM n c) (byM n c)) : c ∈ CT n dk := by
  have hn : n ≤ 6 := by cases dk <;> simp at h2 <;> omega
  have hlt := shr_lt2 h2 hc
  have hm : ((CT n dk).foldl (fun M c => mkP n dk c M) 0).testBit (shr n dk c) = true := by
    rw [all_marked n dk h1 h2, Nat.testBit_two_pow_sub_one]; simpa using hlt
  rcases mks_bit hn _ _ hm with h | ⟨c0, h0, l, hl, e⟩
  · simp at h
  · obtain ⟨_, _, _, _, _, _, _, g8, g9, g10, _⟩ := CT_facts h1 h2 h0
    have hll := lex_mem_len hl
    have ec : cod (dkM n c0) (byM n c0) l = c := by
      cases dk with
      | true => exact e
      | false =>
        have e1 := shO_cod (D := dkM n c0) (B := byM n c0) hll l [] 0 rfl
        have e2 := shO_cod (D := dkM n c) (B := byM n c) (l := List.range n) (n := n) (by simp) (List.range n) [] 0 rfl
        rw [List.length_range, cod_self hn hc, List.length_nil, LN_0, Nat.sub_zero] at e2
        rw [hll, List.length_nil, LN_0, Nat.sub_zero] at e1
        have e3 : scf (byM n c0) [] 0 l = scf (byM n c) [] 0 (List.range n) := by rw [← e1, ← e2]; exact e
        obtain ⟨_, g⟩ := scf_inj l (List.range n) [] [] 0 0 rfl (by simp [hll]) e3
        have := net_cod_eq (D := dkM n c0) (E := dkM n c) (gb_byM n c0) (gb_byM n c) (p := l) (q := List.range n) (by simp [hll]) (lex_mem hl) (fun x hx => List.mem_range.mp hx) (fun i hi => by rw [g10 rfl, hd rfl]; simp) (fun i j hj hi => g i j hj (Nat.zero_le _) (by simpa using hi)) (l := List.range n) (fun x hx => by rw [hll]; exact List.mem_range.mp hx)
        rw [range_map_getD hll, range_map_getD (by simp)] at this
        rw [this, cod_self hn hc]
    have iso := frm_iso (k := n) (D := dkM n c0) (E := dkM n c) hn (gb_byM n c0) (gb_byM n c) (p := List.range n) (q := List.range n) (by simp) (by simp) (fun x hx => List.mem_range.mp hx) (fun x hx => List.mem_range.mp hx)
    have idl : l.map (fun i => (List.range n).getD i 0) = l := by
      have : ∀ v ∈ l, (List.range n).getD v 0 = v := fun v hv => range_getD (lex_mem hl v hv)
      rw [List.map_congr_left this, List.map_id']
    have e5 := iso.mpr ⟨l, hl, by rw [idl, ec, cod_self hn hc]⟩
    rw [cod_self hn g8, cod_self hn hc, g9] at e5
    have le : frm n (dkM n c) (byM n c) ≤ c := by
      have := frm_le (D := dkM n c) (B := byM n c) (show List.range n ∈ lex n from lex_of (by simp) List.nodup_range (fun x hx => List.mem_range.mp hx))
      rw [cod_self hn hc] at this
      exact this
    have : c0 = c := by omega
    rw [← this]; exact h0
/-! lists that go up -/
theorem up_eq : ∀ (L R : List Nat), L.Pairwise (· < ·) → R.Pairwise (· < ·) → (∀ x, x ∈ L ↔ x ∈ R) → L = R
  | [], [], _, _, _ => rfl
  | [], b :: R, _, _, h => absurd ((h b).mpr (by simp)) (by simp)
  | a :: L, [], _, _, h => absurd ((h a).mp (by simp)) (by simp)
  | a :: L, b :: R, hL, hR, h => by
    rw [List.pairwise_cons] at hL hR
    have e : a = b := by
      have h1 := (h a).mp (by simp)
      have h2 := (h b).mpr (by simp)
      rcases List.mem_cons.mp h1 with h1 | h1
      · exact h1
      · rcases List.mem_cons.mp h2 with h2 | h2
        · exact h2.symm
        · have := hR.1 a h1; have := hL.1 b h2; omega
    subst e
    congr 1
    refine up_eq L R hL.2 hR.2 (fun x => ⟨fun hx => ?_, fun hx => ?_⟩)
    · rcases List.mem_cons.mp ((h x).mp (by simp [hx])) with e | e
      · have := hL.1 x hx; omega
      · exact e
    · rcases List.mem_cons.mp ((h x).mpr (by simp [hx])) with e | e
      · have := hR.1 x hx; omega
      · exact e
def upB : List Nat → Bool
  | [] => true
  | [_] => true
  | a :: b :: r => Nat.blt a b && upB (b :: r)
theorem upB_ok : ∀ L, upB L = true → L.Pairwise (· < ·)
  | [], _ => List.Pairwise.nil
  | [a], _ => by simp
  | a :: b :: r, h => by
    rw [upB, Bool.and_eq_true] at h
    have ih := upB_ok (b :: r) h.2
    have hab : a < b := by simpa using h.1
    rw [List.pairwise_cons]
    refine ⟨fun x hx => ?_, ih⟩
    rcases List.mem_cons.mp hx with rfl | hx
    · exact hab
    · rw [List.pairwise_cons] at ih
      have := ih.1 x hx; omega
theorem CT_up : ∀ dk n, n ≤ 6 → upB (CT n dk) = true := by decide +kernel
theorem lvl_up (k : KD) {n : Nat} (hn : n ≤ 6) : (lvl k n).Pairwise (· < ·) := by
  unfold lvl
  split
  · exact (upB_ok _ (CT_up _ n hn)).filter _
  · exact List.Pairwise.nil
theorem size_le {k : KD} (hk : KOk k) : kSz k ≤ 6 := by have := hk.2.1; cases e : kDk k <;> rw [e] at this <;> simp at this <;> omega
theorem lvl_mem {k : KD} (hk : KOk k) {n c : Nat} (h : c ∈ lvl k n) : n ≤ kSz k ∧ c ∈ CT n (kDk k) ∧ keeps k n c = true := by
  unfold lvl at h
  split at h
  · rename_i g
    rw [List.mem_filter] at h
    exact ⟨g, h.1, h.2⟩
  · simp at h
theorem lvl_of {k : KD} {n c : Nat} (h1 : n ≤ kSz k) (h2 : c ∈ CT n (kDk k)) (h3 : keeps k n c = true) : c ∈ lvl k n := by
  unfold lvl
  rw [if_pos h1, List.mem_filter]
  exact ⟨h2, h3⟩
/-! a net keeps the rules only if what is left without its last node does -/
theorem pre_net {n c v : Nat} (hv : v < n) : (∀ u, u < n → (byM n (c / 2 ^ (n + 1)) v).testBit u = (byM (n + 1) c v).testBit u) ∧ (dkM n (c / 2 ^ (n + 1))).testBit v = (dkM (n + 1) c).testBit v := by
  have hs := LN_succ n
  refine ⟨fun u hu => ?_, ?_⟩
  · rw [byM_tb, byM_tb, decide_eq_true hu, decide_eq_true (show u < n + 1 by omega), Bool.true_and, Bool.true_and]
    unfold egb
    by_cases e : v = u
    · simp [e]
    · have := LN_mono (show max v u + 1 ≤ n by omega)
      have := LN_succ (max v u)
      rw [Nat.testBit_div_two_pow, show LN n - 2 - LN (max v u) - min v u + (n + 1) = LN (n + 1) - 2 - LN (max v u) - min v u by omega]
  · rw [dkM_tb, dkM_tb, decide_eq_true hv, decide_eq_true (show v < n + 1 by omega), Bool.true_and, Bool.true_and]
    unfold dkb
    have := LN_mono (show v + 1 ≤ n by omega)
    have := LN_succ v
    rw [Nat.testBit_div_two_pow, show LN n - 1 - LN v + (n + 1) = LN (n + 1) - 1 - LN v by omega]
theorem lvx_sub {n : Nat} : ∀ k p u, ∀ l ∈ lv n k p u, l ∈ lv (n + 1) k p u
  | 0, p, u, l, h => h
  | k + 1, p, u, l, h => by
    rw [lv, List.mem_flatMap] at h ⊢
    obtain ⟨v, hv, h⟩ := h
    refine ⟨v, List.mem_range.mpr (by have := List.mem_range.mp hv; omega), ?_⟩
    by_cases e : u.testBit v = true
    · rw [if_pos e] at h; simp at h
    · rw [if_neg e] at h ⊢
      exact lvx_sub k _ _ l h
theorem lvx_lt {n : Nat} : ∀ k p u l, l ∈ lv n k p u → (∀ x ∈ p, x < n) → ∀ x ∈ l, x < n
  | 0, p, u, l, h, hp => by simp [lv] at h; subst h; exact hp
  | k + 1, p, u, l, h, hp => by
    rw [lv, List.mem_flatMap] at h
    obtain ⟨v, hv, h⟩ := h
    split at h
    · simp at h
    · refine lvx_lt k _ _ l h (fun x hx => ?_)
      rcases List.mem_append.mp hx with hx | hx
      · exact hp x hx
      · simp at hx; subst hx; exact List.mem_range.mp hv
theorem hasP_pre {n c m P : Nat} (h : hasP n (byM n (c / 2 ^ (n + 1))) m P = true) : hasP (n + 1) (byM (n + 1) c) m P = true := by
  unfold hasP at h ⊢
  rw [List.any_eq_true] at h ⊢
  obtain ⟨t, ht, h⟩ := h
  refine ⟨t, lvx_sub _ _ _ t ht, ?_⟩
  have tn := lvx_lt _ _ _ t ht (by simp)
  have := isP_map (B := byM (n + 1) c) (B2 := byM n (c / 2 ^ (n + 1))) (P := P) (f := fun x => x) (l := t) (fun v hv u hu => (pre_net (tn v hv)).1 u (tn u hu))
  rw [List.map_id'] at this
  rw [this]; exact h
theorem keeps_pre {k : KD} (hk : KOk k) {n c : Nat} (h2 : n + 1 ≤ kSz k) (h1 : 1 ≤ n) (hc : c ∈ CT (n + 1) (kDk k)) (h : keeps k (n + 1) c = true) : c / 2 ^ (n + 1) ∈ CT n (kDk k) ∧ keeps k n (c / 2 ^ (n + 1)) = true := by
  obtain ⟨_, _, _, _, _, _, _, _, _, _, g⟩ := CT_facts (by omega) (Nat.le_trans h2 hk.2.1) hc
  obtain ⟨g1, g2, g3, g4⟩ := g (by omega)
  have e : n + 1 - 1 = n := by omega
  rw [e] at g1 g2 g3 g4
  refine ⟨g1, ?_⟩
  unfold keeps at h ⊢
  simp only [Bool.and_eq_true, decide_eq_true_eq, Bool.or_eq_true, Bool.not_eq_true', List.all_eq_true] at h ⊢
  obtain ⟨a, b, c', d⟩ := h
  refine ⟨by omega, ?_, ?_, fun x hx => ?_⟩
  · apply Nat.eq_of_testBit_eq
    intro i
    have hb := congrArg (fun z => z.testBit i) b
    have hg := congrArg (fun z => z.testBit i) g3
    simp only [Nat.testBit_and, Nat.zero_testBit] at hb hg ⊢
    revert hb hg
    cases (cirF n (byM n (c / 2 ^ (n + 1)))).testBit i <;> cases (cirF (n + 1) (byM (n + 1) c)).testBit i <;> cases (kBc k).testBit i <;> simp
  · rcases c' with c' | c'
    · exact Or.inl c'
    · refine Or.inr ?_
      cases e : jocF (dkM n (c / 2 ^ (n + 1))) (byM n (c / 2 ^ (n + 1))) n 0 with
      | false => rfl
      | true => rw [g4 e] at c'; exact c'
  · have := d x hx
    cases e : hasP n (byM n (c / 2 ^ (n + 1))) x.1 x.2 with
    | false => rfl
    | true => rw [hasP_pre e] at this; exact this
/-- the blocks that the class tries behind a code -/
def blN (n : Nat) (dk : Bool) : Nat := if dk then 2 ^ (n + 1) else 2 ^ n
def tryL (k : KD) (n : Nat) (L : List Nat) : List Nat := L.flatMap (fun p => (List.range (blN n (kDk k))).flatMap (fun b => if decide (p * 2 ^ (n + 1) + b ≤ frm (n + 1) (dkM (n + 1) (p * 2 ^ (n + 1) + b)) (byM (n + 1) (p * 2 ^ (n + 1) + b))) && keeps k (n + 1) (p * 2 ^ (n + 1) + b) then [p * 2 ^ (n + 1) + b] else []))
theorem blN_le (n : Nat) (dk : Bool) : blN n dk ≤ 2 ^ (n + 1) := by
  unfold blN
  split
  · exact Nat.le_refl _
  · exact Nat.pow_le_pow_right (by decide) (by omega)
theorem up_flat {α : Nat → List Nat} {lo hi : Nat → Nat} : ∀ {L : List Nat}, L.Pairwise (· < ·) → (∀ p ∈ L, (α p).Pairwise (· < ·) ∧ ∀ x ∈ α p, lo p ≤ x ∧ x < hi p) → (∀ p q, p < q → hi p ≤ lo q) → (L.flatMap α).Pairwise (· < ·)
  | [], _, _, _ => by simp
  | p :: L, hL, h, hlh => by
    rw [List.pairwise_cons] at hL
    rw [List.flatMap_cons, List.pairwise_append]
    refine ⟨(h p (by simp)).1, up_flat hL.2 (fun q hq => h q (by simp [hq])) hlh, fun x hx y hy => ?_⟩
    obtain ⟨q, hq, hy⟩ := List.mem_flatMap.mp hy
    have h1 := (h p (by simp)).2 x hx
    have h2 := (h q (by simp [hq])).2 y hy
    have := hlh p q (hL.1 q hq)
    omega
theorem try_eq {k : KD} (hk : KOk k) {n : Nat} (h1 : 1 ≤ n) (h2 : n + 1 ≤ kSz k) : tryL k n (lvl k n) = lvl k (n + 1) := by
  have hs := size_le hk
  refine up_eq _ _ ?_ (lvl_up k (by omega)) (fun x => ⟨fun hx => ?_, fun hx => ?_⟩)
  · refine up_flat (lo := fun p => p * 2 ^ (n + 1)) (hi := fun p => (p + 1) * 2 ^ (n + 1)) (lvl_up k (by omega)) (fun p _ => ⟨?_, fun x hx => ?_⟩) (fun p q hpq => Nat.mul_le_mul_right _ hpq)
    · refine up_flat (lo := fun b => p * 2 ^ (n + 1) + b) (hi := fun b => p * 2 ^ (n + 1) + b + 1) List.pairwise_lt_range (fun b _ => ⟨?_, fun x hx => ?_⟩) (fun a b h => by omega)
      · split <;> simp
      · split at hx
        · simp at hx; omega
        · simp at hx
    · obtain ⟨b, hb, hx⟩ := List.mem_flatMap.mp hx
      have hb := List.mem_range.mp hb
      have := blN_le n (kDk k)
      split at hx
      · simp at hx
        rw [Nat.add_mul]; omega
      · simp at hx
  · unfold tryL at hx
    obtain ⟨p, hp, hx⟩ := List.mem_flatMap.mp hx
    obtain ⟨b, hb, hx⟩ := List.mem_flatMap.mp hx
    have hb := List.mem_range.mp hb
    split at hx
    · rename_i g
      rw [List.mem_singleton] at hx
      subst hx
      rw [Bool.and_eq_true, decide_eq_true_eq] at g
      obtain ⟨_, hpc, _⟩ := lvl_mem hk hp
      have hpl := CT_lt h1 (show n ≤ (if kDk k then 5 else 6) by have := hk.2.1; omega) hpc
      have bl := blN_le n (kDk k)
      have hlt : p * 2 ^ (n + 1) + b < 2 ^ LN (n + 1) := by
        have e0 : 2 ^ (LN n + (n + 1)) = 2 ^ LN n * 2 ^ (n + 1) := Nat.pow_add _ _ _
        rw [LN_succ, e0]
        have : (p + 1) * 2 ^ (n + 1) ≤ 2 ^ LN n * 2 ^ (n + 1) := Nat.mul_le_mul_right _ hpl
        rw [Nat.add_mul] at this
        omega
      refine lvl_of h2 (CT_all (by omega) (by have := hk.2.1; omega) hlt (fun hd => ?_) g.1) g.2
      have hd0 := (CT_facts h1 (show n ≤ (if kDk k then 5 else 6) by have := hk.2.1; omega) hpc).2.2.2.2.2.2.2.2.2.1 hd
      have pd : 0 < 2 ^ (n + 1) := Nat.pow_pos (by decide)
      have eq1 : (p * 2 ^ (n + 1) + b) / 2 ^ (n + 1) = p := by
        rw [Nat.mul_comm, Nat.mul_add_div pd, Nat.div_eq_of_lt (by omega)]; rfl
      apply Nat.eq_of_testBit_eq
      intro v
      rw [Nat.zero_testBit]
      by_cases hv : v < n
      · have := (pre_net (c := p * 2 ^ (n + 1) + b) hv).2
        rw [eq1, hd0, Nat.zero_testBit] at this
        exact this.symm
      · rw [dkM_tb]
        by_cases hv2 : v = n
        · subst hv2
          have hs := LN_succ v
          rw [decide_eq_true (show v < v + 1 by omega), Bool.true_and]
          unfold dkb
          rw [show LN (v + 1) - 1 - LN v = v by omega, Nat.mul_comm, Nat.testBit_two_pow_mul_add _ (show b < 2 ^ (v + 1) by omega), if_pos (by omega)]
          unfold blN at hb
          rw [hd] at hb
          exact Nat.testBit_lt_two_pow hb
        · rw [decide_eq_false (show ¬ v < n + 1 by omega)]; rfl
    · simp at hx
  · obtain ⟨_, hc, hkp⟩ := lvl_mem hk hx
    obtain ⟨q1, q2⟩ := keeps_pre hk h2 h1 hc hkp
    have hsz1 : n + 1 ≤ (if kDk k then 5 else 6) := by have := hk.2.1; omega
    obtain ⟨_, _, _, _, _, _, _, f8, f9, f10, _⟩ := CT_facts (by omega) hsz1 hc
    unfold tryL
    rw [List.mem_flatMap]
    refine ⟨x / 2 ^ (n + 1), lvl_of (by omega) q1 q2, ?_⟩
    rw [List.mem_flatMap]
    have pd : 0 < 2 ^ (n + 1) := Nat.pow_pos (by decide)
    have ed : x / 2 ^ (n + 1) * 2 ^ (n + 1) + x % 2 ^ (n + 1) = x := by rw [Nat.mul_comm]; exact Nat.div_add_mod _ _
    refine ⟨x % 2 ^ (n + 1), List.mem_range.mpr ?_, ?_⟩
    · have hm := Nat.mod_lt x pd
      unfold blN
      cases e : kDk k with
      | true => exact hm
      | false =>
        have hd := f10 e
        show x % 2 ^ (n + 1) < 2 ^ n
        have hs := LN_succ n
        have tb : x.testBit n = false := by
          have := congrArg (fun z => z.testBit n) hd
          simp only [Nat.zero_testBit] at this
          rw [dkM_tb, decide_eq_true (show n < n + 1 by omega), Bool.true_and] at this
          unfold dkb at this
          rw [show LN (n + 1) - 1 - LN n = n by omega] at this
          exact this
        apply Nat.lt_pow_two_of_testBit
        intro i hi
        rw [Nat.testBit_mod_two_pow]
        by_cases e2 : i = n
        · subst e2; rw [tb]; simp
        · have : ¬ i < n + 1 := by omega
          simp [this]
    · rw [ed, f9, hkp]; simp
