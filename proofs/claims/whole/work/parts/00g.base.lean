/-! the pure level: branches, ints and longs as natural numbers (some rows began as kit/laws BITS, NUMBERS, COUNTS) -/
theorem br1 {c A B : Prop} (h : c) (a : A) : (c → A) ∧ (¬ c → B) := ⟨fun _ => a, fun n => absurd h n⟩
theorem br2 {c A B : Prop} (h : ¬ c) (b : B) : (c → A) ∧ (¬ c → B) := ⟨fun n => absurd n h, fun _ => b⟩
theorem br3 {c A B : Prop} (h : ¬ c) (b : B) : (¬ c → B) ∧ (c → A) := ⟨fun _ => b, fun n => absurd n h⟩
theorem br4 {c A B : Prop} (h : c) (a : A) : (¬ c → B) ∧ (c → A) := ⟨fun n => absurd h n, fun _ => a⟩
theorem brd {c : Prop} {A B : Prop} [Decidable c] (h : if c then A else B) : (c → A) ∧ (¬ c → B) := by
  by_cases e : c
  · rw [if_pos e] at h; exact br1 e h
  · rw [if_neg e] at h; exact br2 e h
theorem ni_or (a b : Nat) : nI a ||| nI b = nI (a ||| b) := by
  apply Int32.toBitVec_inj.1
  show BitVec.ofNat 32 a ||| BitVec.ofNat 32 b = BitVec.ofNat 32 (a ||| b)
  apply BitVec.eq_of_getLsbD_eq
  intro i hi
  simp [hi]
theorem ni_and (a b : Nat) : nI a &&& nI b = nI (a &&& b) := by
  apply Int32.toBitVec_inj.1
  show BitVec.ofNat 32 a &&& BitVec.ofNat 32 b = BitVec.ofNat 32 (a &&& b)
  apply BitVec.eq_of_getLsbD_eq
  intro i hi
  simp [hi]
theorem ni_xor (a b : Nat) : nI a ^^^ nI b = nI (a ^^^ b) := by
  apply Int32.toBitVec_inj.1
  show BitVec.ofNat 32 a ^^^ BitVec.ofNat 32 b = BitVec.ofNat 32 (a ^^^ b)
  apply BitVec.eq_of_getLsbD_eq
  intro i hi
  simp [hi]
theorem ni_sl : ∀ n, n < 32 → ((nI n &&& 31).toBitVec.smod 32).toNat = n := by decide +kernel
theorem ni_shl (a : Nat) {k : Nat} (hk : k < 32) : nI a <<< (nI k &&& 31) = nI (a * 2 ^ k) := by
  apply Int32.toBitVec_inj.mp
  rw [Int32.toBitVec_shiftLeft]
  show BitVec.ofNat 32 a <<< ((nI k &&& 31).toBitVec.smod 32).toNat = BitVec.ofNat 32 _
  rw [ni_sl k hk]
  apply BitVec.eq_of_toNat_eq
  rw [BitVec.toNat_shiftLeft, BitVec.toNat_ofNat, BitVec.toNat_ofNat, Nat.shiftLeft_eq, Nat.mul_mod, Nat.mod_mod, ← Nat.mul_mod]
theorem ni_shr {a : Nat} (h : a < 2 ^ 31) {k : Nat} (hk : k < 32) : nI a >>> (nI k &&& 31) = nI (a / 2 ^ k) := by
  have hd : a / 2 ^ k ≤ a := Nat.div_le_self _ _
  apply Int32.toInt_inj.mp
  have e : (nI a >>> (nI k &&& 31)).toInt = (nI a).toInt >>> k := by
    conv => rhs; rw [← ni_sl k hk]
    exact BitVec.toInt_sshiftRight ..
  rw [e, Int.shiftRight_eq_div_pow, nI_toInt h, nI_toInt (by omega)]
  rfl
theorem ni_mul (a b : Nat) : nI a * nI b = nI (a * b) := (Int32.ofNat_mul a b).symm
theorem ni_sub {a b : Nat} (h : b ≤ a) : nI a - nI b = nI (a - b) := by
  have : nI a = nI (a - b) + nI b := by rw [nI_add, Nat.sub_add_cancel h]
  rw [this, Int32.add_sub_cancel]
theorem ni_div {a b : Nat} (ha : a < 2 ^ 31) (hb : b < 2 ^ 31) (h0 : 0 < b) : nI a / nI b = nI (a / b) := by
  apply Int32.toInt_inj.mp
  have hd : a / b ≤ a := Nat.div_le_self _ _
  rw [lg_idiv_nonneg (by rw [nI_toInt ha]; omega) (by rw [nI_toInt hb]; omega), nI_toInt ha, nI_toInt hb, nI_toInt (by omega)]
  rfl
theorem ni_dec (a : Nat) : nI (a + 1) + (-1) = nI a := by
  rw [nI_succ, Int32.add_assoc]
  show nI a + 0 = nI a
  rw [Int32.add_zero]
theorem ni_bit {a : Nat} (h : a < 2 ^ 31) {k : Nat} (hk : k < 32) : ((nI a >>> (nI k &&& 31)) &&& 1) = nI (a / 2 ^ k % 2) := by
  rw [ni_shr h hk]
  show nI _ &&& nI 1 = _
  rw [ni_and, Nat.and_one_is_mod]
theorem ni_tb {a : Nat} (h : a < 2 ^ 31) {k : Nat} (hk : k < 32) : ((nI a >>> (nI k &&& 31)) &&& 1) = nI (a.testBit k).toNat := by
  rw [ni_bit h hk, Nat.toNat_testBit]
theorem ni_b1 {a : Nat} (h : a < 2 ^ 31) {k : Nat} (hk : k < 32) : ((nI a >>> (nI k &&& 31)) &&& 1) = 1 ↔ a.testBit k = true := by
  rw [ni_tb h hk]
  cases a.testBit k <;> decide
theorem ni_b0 {a : Nat} (h : a < 2 ^ 31) {k : Nat} (hk : k < 32) : ((nI a >>> (nI k &&& 31)) &&& 1) = 0 ↔ a.testBit k = false := by
  rw [ni_tb h hk]
  cases a.testBit k <;> decide
theorem ni_inj {a b : Nat} (ha : a < 2 ^ 31) (hb : b < 2 ^ 31) (h : nI a = nI b) : a = b := (nI_eq ha hb).mp h
/-! longs -/
theorem ln_or (a b : Nat) : lN a ||| lN b = lN (a ||| b) := by
  apply Int64.toBitVec_inj.1
  show BitVec.ofNat 64 a ||| BitVec.ofNat 64 b = BitVec.ofNat 64 (a ||| b)
  apply BitVec.eq_of_getLsbD_eq
  intro i hi
  simp [hi]
theorem ln_and (a b : Nat) : lN a &&& lN b = lN (a &&& b) := by
  apply Int64.toBitVec_inj.1
  show BitVec.ofNat 64 a &&& BitVec.ofNat 64 b = BitVec.ofNat 64 (a &&& b)
  apply BitVec.eq_of_getLsbD_eq
  intro i hi
  simp [hi]
theorem ln_sl : ∀ k, k < 64 → (((nI k).toInt64 &&& 63).toBitVec.smod 64).toNat = k := by decide +kernel
theorem ln_shl (a : Nat) {k : Nat} (hk : k < 64) : lN a <<< ((nI k).toInt64 &&& 63) = lN (a * 2 ^ k) := by
  apply Int64.toBitVec_inj.mp
  rw [Int64.toBitVec_shiftLeft]
  show BitVec.ofNat 64 a <<< (((nI k).toInt64 &&& 63).toBitVec.smod 64).toNat = BitVec.ofNat 64 _
  rw [ln_sl k hk]
  apply BitVec.eq_of_toNat_eq
  rw [BitVec.toNat_shiftLeft, BitVec.toNat_ofNat, BitVec.toNat_ofNat, Nat.shiftLeft_eq, Nat.mul_mod, Nat.mod_mod, ← Nat.mul_mod]
theorem ln_toInt {a : Nat} (h : a < 2 ^ 63) : (lN a).toInt = (a : Int) := lg_ofNat_toInt h
theorem ln_shr {a : Nat} (h : a < 2 ^ 63) {k : Nat} (hk : k < 64) : lN a >>> ((nI k).toInt64 &&& 63) = lN (a / 2 ^ k) := by
  have hd : a / 2 ^ k ≤ a := Nat.div_le_self _ _
  apply Int64.toInt_inj.mp
  have e : (lN a >>> ((nI k).toInt64 &&& 63)).toInt = (lN a).toInt >>> k := by
    conv => rhs; rw [← ln_sl k hk]
    exact BitVec.toInt_sshiftRight ..
  rw [e, Int.shiftRight_eq_div_pow, ln_toInt h, ln_toInt (by omega)]
  rfl
theorem ln_inj {a b : Nat} (ha : a < 2 ^ 63) (hb : b < 2 ^ 63) : lN a = lN b ↔ a = b := by
  rw [← Int64.toInt_inj, ln_toInt ha, ln_toInt hb]; omega
theorem li_mask (a k : Nat) : (lN a).toInt32 &&& nI (2 ^ k - 1) = nI (a % 2 ^ k) := by
  rw [lN_i, ni_and, Nat.and_two_pow_sub_one_eq_mod]
/-! arrays -/
theorem upd_in {f : Nat → Int32} {i : Nat} {x : Int32} : upd f i x i = x := by unfold upd; simp
theorem upd_out {f : Nat → Int32} {i j : Nat} {x : Int32} (h : j ≠ i) : upd f i x j = f j := by unfold upd; simp [h]
theorem updL_in {f : Nat → Int64} {i : Nat} {x : Int64} : vp_updL f i x i = x := by unfold vp_updL; simp
theorem updL_out {f : Nat → Int64} {i j : Nat} {x : Int64} (h : j ≠ i) : vp_updL f i x j = f j := by unfold vp_updL; simp [h]
/-! sizes of codes -/
def LN (n : Nat) : Nat := n * (n + 1) / 2
theorem LN_0 : LN 0 = 0 := rfl
theorem LN_succ (n : Nat) : LN (n + 1) = LN n + (n + 1) := by
  unfold LN
  have e : (n + 1) * (n + 1 + 1) = n * (n + 1) + 2 * (n + 1) := by simp [Nat.add_mul, Nat.mul_add]; omega
  rw [e, Nat.add_mul_div_left _ _ (by decide)]
theorem LN_mono {a b : Nat} (h : a ≤ b) : LN a ≤ LN b := by
  induction b with
  | zero => have : a = 0 := by omega
            subst this; exact Nat.le_refl _
  | succ m ih =>
    rcases Nat.lt_or_ge a (m + 1) with g | g
    · have := ih (by omega); rw [LN_succ]; omega
    · have : a = m + 1 := by omega
      subst this; exact Nat.le_refl _
theorem f_bits {n : Nat} (hn : n < 1000) {post : Int32 → Prop} (h : post (nI (LN n))) : F_X0_bits (nI n) post := by
  unfold F_X0_bits
  have e : (nI n * (nI n + 1)) / 2 = nI (LN n) := by
    rw [nI_1, ni_mul]
    show nI _ / nI 2 = _
    have h1 : n * (n + 1) < 2 ^ 31 := Nat.lt_of_lt_of_le (Nat.mul_lt_mul_of_lt_of_le hn (show n + 1 ≤ 1001 by omega) (by omega)) (by decide)
    rw [ni_div h1 (by decide) (by decide)]
    rfl
  rw [e]; exact h
