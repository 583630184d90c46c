/-! the reference's marking meets the least codes alone -/
def pf (c : Nat) (a : Nat) (ps : List Nat) : Nat := ps.foldl (fun a P => 2 * a + c / P % 2) a
theorem pcd_pf (c : Nat) (ps : List Nat) : pcd c ps = pf c 0 ps := by
  have g : ∀ (ps : List Nat) (a : Nat), (List.rec (motive := fun _ => Nat → Nat) (fun a => a) (fun P _ ih a => ih (Nat.add (Nat.mul (nat_lit 2) a) (Nat.mod (Nat.div c P) (nat_lit 2)))) ps : Nat → Nat) a = pf c a ps := by
    intro ps
    induction ps with
    | nil => intro a; rfl
    | cons P ps ih => intro a; exact ih _
  exact g ps 0
theorem mkP_eq (n : Nat) (dk : Bool) (c M : Nat) : mkP n dk c M = (lex n).foldl (fun M l => M ||| 2 ^ pf c 0 (psF n dk [] l)) M := by
  have g : ∀ (L : List (List Nat)) (M : Nat), (List.rec (motive := fun _ => Nat → Nat) (fun M => M) (fun ps _ ih M => ih (Nat.lor M (Nat.pow (nat_lit 2) (pcd c ps)))) (L.map (psF n dk [])) : Nat → Nat) M = L.foldl (fun M l => M ||| 2 ^ pf c 0 (psF n dk [] l)) M := by
    intro L
    induction L with
    | nil => intro M; rfl
    | cons l L ih =>
      intro M
      rw [List.foldl_cons, ← pcd_pf]
      exact ih _
  exact g (lex n) M
def bf (B : Nat → Nat) (v : Nat) (a : Nat) (p : List Nat) : Nat := p.foldl (fun a u => 2 * a + ((B v).testBit u).toNat) a
theorem bf_shift (B : Nat → Nat) (v X : Nat) : ∀ (p : List Nat) (a t : Nat), bf B v (a + X * 2 ^ t) p = bf B v a p + X * 2 ^ (t + p.length)
  | [], a, t => rfl
  | u :: p, a, t => by
    show bf B v (2 * (a + X * 2 ^ t) + _) p = bf B v (2 * a + _) p + _
    have e : 2 * (a + X * 2 ^ t) + ((B v).testBit u).toNat = (2 * a + ((B v).testBit u).toNat) + X * 2 ^ (t + 1) := by
      rw [Nat.pow_succ, ← Nat.mul_assoc]; omega
    rw [e, bf_shift B v X p _ (t + 1), show t + (u :: p).length = t + 1 + p.length by simp; omega]
theorem blk_bf (D : Nat) (B : Nat → Nat) (v : Nat) (p : List Nat) : blk D B v p = bf B v (D.testBit v).toNat p := rfl
theorem pf_bf {n c v : Nat} (hv : v < n) : ∀ (p : List Nat) (a : Nat), (∀ u ∈ p, u < n ∧ u ≠ v) → pf c a (p.map (fun u => 2 ^ (LN n - 2 - LN (max v u) - min v u))) = bf (byM n c) v a p
  | [], a, _ => rfl
  | u :: p, a, h => by
    obtain ⟨h1, h2⟩ := h u (by simp)
    show pf c (2 * a + c / _ % 2) (p.map _) = bf (byM n c) v (2 * a + ((byM n c v).testBit u).toNat) p
    rw [← Nat.toNat_testBit, eg_eq hv h1 (fun e => h2 e.symm)]
    exact pf_bf hv p _ (fun w hw => h w (by simp [hw]))
theorem pf_append (c a : Nat) (x y : List Nat) : pf c a (x ++ y) = pf c (pf c a x) y := List.foldl_append
theorem pf_dark {n c : Nat} : ∀ (r p : List Nat), (p ++ r).Nodup → (∀ x ∈ p ++ r, x < n) → pf c (cod (dkM n c) (byM n c) p) (psF n true p r) = cod (dkM n c) (byM n c) (p ++ r)
  | [], p, _, _ => by simp [psF, pf]
  | v :: r, p, hd, hn => by
    have hv : v < n := hn v (by simp)
    have hpv : ∀ u ∈ p, u < n ∧ u ≠ v := by
      intro u hu
      refine ⟨hn u (by simp [hu]), ?_⟩
      intro e
      subst e
      rw [List.nodup_append] at hd
      exact hd.2.2 u hu u (by simp) rfl
    rw [psF, if_pos rfl, pf_append, pf_append, pf_bf hv p _ hpv]
    have e : pf c (cod (dkM n c) (byM n c) p) [2 ^ (LN n - 1 - LN v)] = ((dkM n c).testBit v).toNat + cod (dkM n c) (byM n c) p * 2 ^ 1 := by
      show 2 * _ + c / 2 ^ (LN n - 1 - LN v) % 2 = _
      rw [← Nat.toNat_testBit, dkM_tb, decide_eq_true hv, Bool.true_and]
      show _ + (dkb n c v).toNat = _
      omega
    rw [e, bf_shift, ← blk_bf]
    have e2 : blk (dkM n c) (byM n c) v p + cod (dkM n c) (byM n c) p * 2 ^ (1 + p.length) = cod (dkM n c) (byM n c) (p ++ [v]) := by
      rw [cod_snoc, Nat.add_comm 1]; omega
    rw [e2, pf_dark r (p ++ [v]) (by simpa using hd) (by simpa using hn)]
    simp
/-- the code of an order without its colours -/
def scf (B : Nat → Nat) : List Nat → Nat → List Nat → Nat
  | _, a, [] => a
  | p, a, v :: r => scf B (p ++ [v]) (bf B v a p) r
theorem pf_light {n c : Nat} : ∀ (r p : List Nat) (a : Nat), (p ++ r).Nodup → (∀ x ∈ p ++ r, x < n) → pf c a (psF n false p r) = scf (byM n c) p a r
  | [], p, a, _, _ => by simp [psF, pf, scf]
  | v :: r, p, a, hd, hn => by
    have hv : v < n := hn v (by simp)
    have hpv : ∀ u ∈ p, u < n ∧ u ≠ v := by
      intro u hu
      refine ⟨hn u (by simp [hu]), ?_⟩
      intro e
      subst e
      rw [List.nodup_append] at hd
      exact hd.2.2 u hu u (by simp) rfl
    rw [psF, pf_append, pf_append, pf_bf hv p _ hpv, scf]
    exact pf_light r (p ++ [v]) _ (by simpa using hd) (by simpa using hn)
theorem spI_bits {B : Nat → Nat} {v c : Nat} : ∀ (p : List Nat) (a T : Nat), (∀ j, j < p.length → c.testBit (T - 1 - j) = (B v).testBit (p.getD j 0)) → p.length ≤ T → spI c p.length a T = (bf B v a p, T - p.length)
  | [], a, T, _, _ => rfl
  | u :: p, a, T, h, hT => by
    have h0 := h 0 (by simp)
    simp at h0
    show spI c p.length (2 * a + (c.testBit (T - 1)).toNat) (T - 1) = (bf B v (2 * a + ((B v).testBit u).toNat) p, _)
    rw [h0, spI_bits (B := B) (v := v) p _ (T - 1) (fun j hj => by
      have := h (j + 1) (by simp; omega)
      rw [show T - 1 - 1 - j = T - 1 - (j + 1) by omega]
      exact this) (by simp at hT; omega), show T - (u :: p).length = T - 1 - p.length by simp; omega]
theorem shO_cod {n D : Nat} {B : Nat → Nat} {l : List Nat} (hl : l.length = n) : ∀ (r p : List Nat) (v : Nat), l = p ++ r → shO (cod D B l) r.length p.length v (LN n - LN p.length) = scf B p v r
  | [], p, v, _ => rfl
  | u :: r, p, v, h => by
    have hL := LN_mono (show p.length + 1 ≤ n by rw [← hl, h]; simp)
    have hs := LN_succ p.length
    have hb : ∀ j, j < p.length → (cod D B l).testBit (LN n - LN p.length - 1 - 1 - j) = (B u).testBit (p.getD j 0) := by
      intro j hj
      have := (cod_tb D B l).2 p.length j hj (by rw [h]; simp)
      have e1 : l.getD p.length 0 = u := by rw [h]; simp [List.getD_eq_getElem?_getD]
      have e2 : l.getD j 0 = p.getD j 0 := by rw [h]; simp [List.getD_eq_getElem?_getD, List.getElem?_append_left hj]
      rw [e1, e2, hl] at this
      rw [← this]
      congr 1; omega
    have e := spI_bits (B := B) (v := u) p v (LN n - LN p.length - 1) hb (by omega)
    show shO (cod D B l) r.length (p.length + 1) (spI (cod D B l) p.length v (LN n - LN p.length - 1)).1 (spI (cod D B l) p.length v (LN n - LN p.length - 1)).2 = scf B (p ++ [u]) (bf B u v p) r
    rw [e]
    dsimp only
    have := shO_cod (D := D) (B := B) hl r (p ++ [u]) (bf B u v p) (by rw [h]; simp)
    rw [List.length_append] at this
    simp only [List.length_cons, List.length_nil, Nat.zero_add] at this
    rw [show LN n - LN p.length - 1 - p.length = LN n - LN (p.length + 1) by omega]
    exact this
theorem lex_nodup : ∀ n, n ≤ 6 → ∀ l ∈ lex n, l.Nodup := by
  have h : ∀ n, n ≤ 6 → (lex n).all (fun l => decide l.Nodup) = true := by decide +kernel
  intro n hn l hl
  have := List.all_eq_true.mp (h n hn) l hl
  simpa using this
theorem mk_eq {n : Nat} (hn : n ≤ 6) (dk : Bool) (c M : Nat) : mkP n dk c M = mkF n dk c M := by
  rw [mkP_eq]
  unfold mkF
  have g : ∀ (L : List (List Nat)) (M : Nat), (∀ l ∈ L, l ∈ lex n) → L.foldl (fun M l => M ||| 2 ^ pf c 0 (psF n dk [] l)) M = L.foldl (fun M l => M ||| 2 ^ shr n dk (cod (dkM n c) (byM n c) l)) M := by
    intro L
    induction L with
    | nil => intro M _; rfl
    | cons l L ih =>
      intro M h
      have hl := h l (by simp)
      have hd := lex_nodup n hn l hl
      have hm := lex_mem hl
      have e : pf c 0 (psF n dk [] l) = shr n dk (cod (dkM n c) (byM n c) l) := by
        cases dk with
        | true =>
          have := pf_dark (n := n) (c := c) l [] (by simpa using hd) (by simpa using hm)
          rw [show cod (dkM n c) (byM n c) [] = 0 from rfl] at this
          simpa [shr] using this
        | false =>
          have h1 := pf_light (n := n) (c := c) l [] 0 (by simpa using hd) (by simpa using hm)
          have h2 := shO_cod (D := dkM n c) (B := byM n c) (lex_mem_len hl) l [] 0 rfl
          rw [lex_mem_len hl] at h2
          rw [h1]
          exact h2.symm
      rw [List.foldl_cons, List.foldl_cons, e]
      exact ih _ (fun l hl => h l (by simp [hl]))
  exact g _ _ (fun l hl => hl)
theorem adv_mono {n : Nat} {dk : Bool} : ∀ (L : List Nat) (k M k' M' : Nat), adv n dk L k M = some (k', M') → k ≤ k'
  | [], k, M, k', M', h => by simp [adv] at h; omega
  | c :: r, k, M, k', M', h => by
    rw [adv] at h
    split at h
    · rename_i g
      simp only [Bool.and_eq_true, Nat.ble_eq] at g
      have := adv_mono r _ _ _ _ h
      omega
    · simp at h
theorem cn_skip {n : Nat} {dk : Bool} {M : Nat} : ∀ (d j k : Nat), (∀ i, i < d → M.testBit (k + i) = true) → cnF n dk (d + j) k M = cnF n dk j (k + d) M
  | 0, j, k, _ => by simp
  | d + 1, j, k, h => by
    rw [show d + 1 + j = (d + j) + 1 by omega, cnF, if_pos (by simpa using h 0 (by omega)), cn_skip d j (k + 1) (fun i hi => by rw [show k + 1 + i = k + (i + 1) by omega]; exact h (i + 1) (by omega))]
    congr 1; omega
theorem cn_adv {n : Nat} (hn : n ≤ 6) {dk : Bool} {N : Nat} : ∀ (L : List Nat) (k M k' M' : Nat), adv n dk L k M = some (k', M') → k' ≤ N → cnF n dk (N - k) k M = L ++ cnF n dk (N - k') k' M'
  | [], k, M, k', M', h, _ => by simp [adv] at h; obtain ⟨rfl, rfl⟩ := h; rfl
  | c :: r, k, M, k', M', h, hN => by
    rw [adv] at h
    split at h
    · rename_i g
      simp only [Bool.and_eq_true, Nat.ble_eq, beq_iff_eq, Bool.not_eq_true'] at g
      obtain ⟨g1, g2, g3, g4⟩ := g
      have hm := adv_mono r _ _ _ _ h
      have ih := cn_adv hn r _ _ _ _ h hN
      have hs : ∀ i, i < shr n dk c - k → M.testBit (k + i) = true := by
        intro i hi
        have e : (M / 2 ^ k % 2 ^ (shr n dk c - k)).testBit i = (2 ^ (shr n dk c - k) - 1).testBit i := by rw [g2]
        rw [Nat.testBit_mod_two_pow, Nat.testBit_div_two_pow, Nat.testBit_two_pow_sub_one, decide_eq_true hi, Bool.true_and, Nat.add_comm] at e
        exact e
      have e1 := cn_skip (n := n) (dk := dk) (shr n dk c - k) (N - shr n dk c) k hs
      rw [show shr n dk c - k + (N - shr n dk c) = N - k by omega, show k + (shr n dk c - k) = shr n dk c by omega] at e1
      rw [e1, show N - shr n dk c = (N - (shr n dk c + 1)) + 1 by omega, cnF, if_neg (by rw [g3]; decide), g4, ← mk_eq hn, ih]
      rfl
    · simp at h
theorem cn_all {n : Nat} (hn : n ≤ 6) {dk : Bool} {N : Nat} {L : List Nat} {M : Nat} (h : adv n dk L 0 0 = some (N, M)) : cnF n dk N 0 0 = L := by
  have := cn_adv hn L 0 0 N M h (Nat.le_refl _)
  rw [Nat.sub_zero, Nat.sub_self] at this
  rw [this]; simp [cnF]
theorem adv_append {n : Nat} {dk : Bool} : ∀ (L R : List Nat) (k M k' M' : Nat), adv n dk L k M = some (k', M') → adv n dk (L ++ R) k M = adv n dk R k' M'
  | [], R, k, M, k', M', h => by simp [adv] at h; obtain ⟨rfl, rfl⟩ := h; rfl
  | c :: r, R, k, M, k', M', h => by
    rw [List.cons_append, adv]
    rw [adv] at h
    split at h
    · rename_i g
      rw [if_pos g]
      exact adv_append r R _ _ _ _ h
    · simp at h
theorem cn_CT : ∀ n dk, 1 ≤ n → n ≤ (if dk then 5 else 6) → cnF n dk (2 ^ ncod n dk) 0 0 = CT n dk := by
  intro n dk h1 h2
  cases dk with
  | true =>
    have h2 : n ≤ 5 := h2
    match n, h1, h2 with
    | 1, _, _ => exact cn_all (by decide) adv_D1_0
    | 2, _, _ => exact cn_all (by decide) adv_D2_0
    | 3, _, _ => exact cn_all (by decide) adv_D3_0
    | 4, _, _ => exact cn_all (by decide) ((adv_append _ _ _ _ _ _ adv_D4_0).trans adv_D4_1)
    | 5, _, _ => exact cn_all (by decide) ((adv_append _ _ _ _ _ _ adv_D5_0).trans ((adv_append _ _ _ _ _ _ adv_D5_1).trans ((adv_append _ _ _ _ _ _ adv_D5_2).trans ((adv_append _ _ _ _ _ _ adv_D5_3).trans ((adv_append _ _ _ _ _ _ adv_D5_4).trans ((adv_append _ _ _ _ _ _ adv_D5_5).trans ((adv_append _ _ _ _ _ _ adv_D5_6).trans ((adv_append _ _ _ _ _ _ adv_D5_7).trans ((adv_append _ _ _ _ _ _ adv_D5_8).trans adv_D5_9)))))))))
  | false =>
    have h2 : n ≤ 6 := h2
    match n, h1, h2 with
    | 1, _, _ => exact cn_all (by decide) adv_L1_0
    | 2, _, _ => exact cn_all (by decide) adv_L2_0
    | 3, _, _ => exact cn_all (by decide) adv_L3_0
    | 4, _, _ => exact cn_all (by decide) adv_L4_0
    | 5, _, _ => exact cn_all (by decide) adv_L5_0
    | 6, _, _ => exact cn_all (by decide) ((adv_append _ _ _ _ _ _ adv_L6_0).trans ((adv_append _ _ _ _ _ _ adv_L6_1).trans adv_L6_2))
