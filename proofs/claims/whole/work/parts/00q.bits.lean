/-! how many bits -/
def popc (x : Nat) : Nat → Nat
  | 0 => 0
  | k + 1 => popc x k + (x.testBit k).toNat
theorem popc_le (x : Nat) : ∀ k, popc x k ≤ k
  | 0 => Nat.le_refl _
  | k + 1 => by have := popc_le x k; have := bool_lt2 (x.testBit k); rw [popc]; omega
theorem popc_big {x k : Nat} (h : x < 2 ^ k) : ∀ j, popc x (k + j) = popc x k
  | 0 => rfl
  | j + 1 => by
    have : x.testBit (k + j) = false := Nat.testBit_lt_two_pow (Nat.lt_of_lt_of_le h (Nat.pow_le_pow_right (by decide) (by omega)))
    rw [← Nat.add_assoc, popc, popc_big h j, this]; rfl
theorem popc_add {x : Nat} (a : Nat) : ∀ b, popc x (a + b) = popc x a + popc (x / 2 ^ a) b
  | 0 => rfl
  | b + 1 => by rw [← Nat.add_assoc, popc, popc, popc_add a b, Nat.testBit_div_two_pow, Nat.add_comm a b]; omega
theorem popc_mod (x m : Nat) : ∀ k, k ≤ m → popc (x % 2 ^ m) k = popc x k
  | 0, _ => rfl
  | k + 1, h => by rw [popc, popc, popc_mod x m k (by omega), Nat.testBit_mod_two_pow]; simp [show k < m by omega]
theorem and_low {x y a b k : Nat} (hx : x < 2 ^ k) (hy : y < 2 ^ k) : (x + 2 ^ k * a) &&& (y + 2 ^ k * b) = (x &&& y) + 2 ^ k * (a &&& b) := by
  have h : ∀ z w, z < 2 ^ k → z + 2 ^ k * w = 2 ^ k * w ||| z := fun z w hz => by rw [Nat.add_comm, Nat.two_pow_add_eq_or_of_lt hz]
  rw [h x a hx, h y b hy, h _ _ (Nat.lt_of_le_of_lt Nat.and_le_left hx)]
  apply Nat.eq_of_testBit_eq
  intro i
  simp only [Nat.testBit_or, Nat.testBit_and, Nat.testBit_two_pow_mul]
  by_cases e : k ≤ i
  · have h1 : x.testBit i = false := Nat.testBit_lt_two_pow (Nat.lt_of_lt_of_le hx (Nat.pow_le_pow_right (by decide) e))
    have h2 : y.testBit i = false := Nat.testBit_lt_two_pow (Nat.lt_of_lt_of_le hy (Nat.pow_le_pow_right (by decide) e))
    simp [e, h1, h2]
  · simp [e]
def b1 (x : Nat) : Nat := x - (x / 2 &&& 1431655765)
def b2 (y : Nat) : Nat := (y &&& 858993459) + (y / 4 &&& 858993459)
def b3 (z : Nat) : Nat := (z + z / 16) &&& 252645135
theorem byte_12 : ∀ a, a < 256 → (a / 2 &&& 85) ≤ a ∧ b1 a < 256 ∧ b2 (b1 a) < 128 ∧ b2 (b1 a) % 16 ≤ 4 ∧ b2 (b1 a) / 16 ≤ 4 ∧ (b2 (b1 a) + b2 (b1 a) / 16) % 16 = popc a 8 := by decide +kernel
theorem b1_split {a b : Nat} (ha : a < 256) (hb : b < 2 ^ 22) : b1 (a + 256 * b) = b1 a + 256 * b1 b ∧ (b / 2 &&& 1431655765) ≤ b := by
  unfold b1
  have h1 : (a + 256 * b) / 2 = (a / 2 + 128 * (b % 2)) + 2 ^ 8 * (b / 2) := by omega
  have h2 : (1431655765 : Nat) = 85 + 2 ^ 8 * 5592405 := by decide
  have h3 : a / 2 &&& 1431655765 = a / 2 &&& 85 := by
    have : a / 2 = a / 2 + 2 ^ 8 * 0 := by omega
    rw [this, h2, and_low (by omega) (by decide)]; simp
  have h4 : b / 2 &&& 1431655765 = b / 2 &&& 5592405 := by
    have h5 : (1431655765 : Nat) = 5592405 + 2 ^ 24 * 85 := by decide
    have : b / 2 = b / 2 + 2 ^ 24 * 0 := by omega
    rw [this, h5, and_low (by omega) (by decide)]; simp
  have h6 : (a / 2 + 128 * (b % 2)) &&& 85 = a / 2 &&& 85 := by
    have e : (85 : Nat) = 85 + 2 ^ 7 * 0 := by decide
    have e2 : a / 2 + 128 * (b % 2) = a / 2 + 2 ^ 7 * (b % 2) := by omega
    rw [e2, e, and_low (by omega) (by decide)]; simp
  have le1 : (a / 2 &&& 85) ≤ a := (byte_12 a ha).1
  have le2 : (b / 2 &&& 5592405) ≤ b / 2 := Nat.and_le_left
  rw [h1, h2, and_low (by omega) (by decide), ← h2, h6, h3, h4]
  omega
theorem b2_split {a b : Nat} (ha : a < 256) (hb : b < 2 ^ 22) : b2 (a + 256 * b) = b2 a + 256 * b2 b := by
  unfold b2
  have h1 : (a + 256 * b) / 4 = (a / 4 + 64 * (b % 4)) + 2 ^ 8 * (b / 4) := by omega
  have h2 : (858993459 : Nat) = 51 + 2 ^ 8 * 3355443 := by decide
  have h3 : ∀ z, z < 256 → z &&& 858993459 = z &&& 51 := by
    intro z hz
    have : z = z + 2 ^ 8 * 0 := by omega
    rw [this, h2, and_low (by omega) (by decide)]; simp
  have h4 : ∀ z, z < 2 ^ 22 → z &&& 858993459 = z &&& 3355443 := by
    intro z hz
    have h5 : (858993459 : Nat) = 3355443 + 2 ^ 24 * 51 := by decide
    have : z = z + 2 ^ 24 * 0 := by omega
    rw [this, h5, and_low (by omega) (by decide)]; simp
  have h6 : (a / 4 + 64 * (b % 4)) &&& 51 = a / 4 &&& 51 := by
    have e : (51 : Nat) = 51 + 2 ^ 6 * 0 := by decide
    have e2 : a / 4 + 64 * (b % 4) = a / 4 + 2 ^ 6 * (b % 4) := by omega
    rw [e2, e, and_low (by omega) (by decide)]; simp
  have e0 : a + 256 * b = a + 2 ^ 8 * b := by omega
  have l1 : a / 4 + 64 * (b % 4) < 2 ^ 8 := by omega
  have e1 : (a + 2 ^ 8 * b) &&& 858993459 = (a &&& 51) + 2 ^ 8 * (b &&& 3355443) := by
    rw [h2, and_low (by omega) (by decide)]
  have e2 : (a / 4 + 64 * (b % 4) + 2 ^ 8 * (b / 4)) &&& 858993459 = (a / 4 &&& 51) + 2 ^ 8 * (b / 4 &&& 3355443) := by
    rw [h2, and_low l1 (by decide), h6]
  rw [h1, e0, e1, e2, h3 a ha, h3 (a / 4) (by omega), h4 b hb, h4 (b / 4) (by omega)]
  omega
theorem b3_split {a b : Nat} (ha : a % 16 ≤ 4) (ha2 : a / 16 ≤ 4) (hb : b % 16 ≤ 4) (hb2 : b < 2 ^ 22) : b3 (a + 256 * b) = (a + a / 16) % 16 + 256 * b3 b := by
  unfold b3
  have h1 : a + 256 * b + (a + 256 * b) / 16 = (a + a / 16 + 16 * (b % 16)) + 2 ^ 8 * (b + b / 16) := by omega
  have h2 : (252645135 : Nat) = 15 + 2 ^ 8 * 986895 := by decide
  have h4 : (b + b / 16) &&& 252645135 = (b + b / 16) &&& 986895 := by
    have h5 : (252645135 : Nat) = 986895 + 2 ^ 24 * 15 := by decide
    have : b + b / 16 = (b + b / 16) + 2 ^ 24 * 0 := by omega
    rw [this, h5, and_low (by omega) (by decide)]; simp
  have h6 : (a + a / 16 + 16 * (b % 16)) &&& 15 = (a + a / 16) % 16 := by
    rw [show 15 = 2 ^ 4 - 1 from rfl, Nat.and_two_pow_sub_one_eq_mod]; omega
  have l1 : a + a / 16 + 16 * (b % 16) < 2 ^ 8 := by omega
  have e1 : (a + a / 16 + 16 * (b % 16) + 2 ^ 8 * (b + b / 16)) &&& 252645135 = ((a + a / 16) % 16) + 2 ^ 8 * ((b + b / 16) &&& 986895) := by
    rw [h2, and_low l1 (by decide), h6]
  rw [h1, e1, h4]
theorem b3_one {a : Nat} (ha : a % 16 ≤ 4) (ha2 : a / 16 ≤ 4) : b3 a = (a + a / 16) % 16 := by
  have := b3_split (a := a) (b := 0) ha ha2 (by decide) (by decide)
  simpa [b3] using this
theorem aux16 {y z : Nat} (h : y % 16 ≤ 4) : (y + 256 * z) % 16 ≤ 4 := by omega
theorem aux64 {p q r : Nat} (hp : p ≤ 8) (hq : q ≤ 8) (hr : r ≤ 8) : (p + 256 * (q + 256 * r) + (p + 256 * (q + 256 * r)) / 256 + (p + 256 * (q + 256 * r) + (p + 256 * (q + 256 * r)) / 256) / 65536) % 64 = p + q + r := by
  have e1 : (p + 256 * (q + 256 * r)) / 256 = q + 256 * r := by omega
  rw [e1]
  have e2 : (p + 256 * (q + 256 * r) + (q + 256 * r)) / 65536 = r := by omega
  rw [e2]
  omega
theorem swar {x : Nat} (hx : x < 2 ^ 24) : (fun w => (fun u => (u + u / 65536) % 64) (w + w / 256)) (b3 (b2 (b1 x))) = popc x 24 ∧ (x / 2 &&& 1431655765) ≤ x ∧ b1 x < 2 ^ 24 ∧ b2 (b1 x) < 2 ^ 24 ∧ b3 (b2 (b1 x)) < 2 ^ 24 := by
  obtain ⟨a, b, c, ha, hb, hc, rfl⟩ : ∃ a b c, a < 256 ∧ b < 256 ∧ c < 256 ∧ x = a + 256 * (b + 256 * c) := ⟨x % 256, x / 256 % 256, x / 65536, by omega, by omega, by omega, by omega⟩
  have A := byte_12 a ha
  have B := byte_12 b hb
  have C := byte_12 c hc
  have s1 := b1_split (a := a) (b := b + 256 * c) ha (by omega)
  have s2 := b1_split (a := b) (b := c) hb (by omega)
  have t2 : b2 (b1 b + 256 * b1 c) = b2 (b1 b) + 256 * b2 (b1 c) := b2_split B.2.1 (by have := C.2.1; omega)
  have t1 : b2 (b1 a + 256 * (b1 b + 256 * b1 c)) = b2 (b1 a) + 256 * (b2 (b1 b) + 256 * b2 (b1 c)) := by
    rw [b2_split A.2.1 (by have := B.2.1; have := C.2.1; omega), t2]
  rw [s1.1, s2.1, t1]
  have u2 : b3 (b2 (b1 b) + 256 * b2 (b1 c)) = popc b 8 + 256 * popc c 8 := by
    rw [b3_split B.2.2.2.1 B.2.2.2.2.1 C.2.2.2.1 (by have := C.2.2.1; omega), B.2.2.2.2.2, b3_one C.2.2.2.1 C.2.2.2.2.1, C.2.2.2.2.2]
  have u1 : b3 (b2 (b1 a) + 256 * (b2 (b1 b) + 256 * b2 (b1 c))) = popc a 8 + 256 * (popc b 8 + 256 * popc c 8) := by
    rw [b3_split A.2.2.2.1 A.2.2.2.2.1 (aux16 B.2.2.2.1) (by have := B.2.2.1; have := C.2.2.1; omega), A.2.2.2.2.2, u2]
  rw [u1]
  have pa := popc_le a 8
  have pb := popc_le b 8
  have pc := popc_le c 8
  have hp : popc (a + 256 * (b + 256 * c)) 24 = popc a 8 + popc b 8 + popc c 8 := by
    rw [show 24 = 8 + 16 from rfl, popc_add 8 16, show 16 = 8 + 8 from rfl, popc_add 8 8]
    have e1 := popc_mod (a + 256 * (b + 256 * c)) 8 8 (Nat.le_refl _)
    rw [show (a + 256 * (b + 256 * c)) % 2 ^ 8 = a by omega] at e1
    have e2 : (a + 256 * (b + 256 * c)) / 2 ^ 8 = b + 256 * c := by omega
    have e3 := popc_mod (b + 256 * c) 8 8 (Nat.le_refl _)
    rw [show (b + 256 * c) % 2 ^ 8 = b by omega] at e3
    have e4 : (b + 256 * c) / 2 ^ 8 = c := by omega
    rw [← e1, e2, ← e3, e4]; omega
  rw [hp]
  refine ⟨?_, ?_, ?_, ?_, ?_⟩
  · exact aux64 pa pb pc
  · have h1 := s1.2
    have h2 : (b + 256 * c) / 2 &&& 1431655765 ≤ (b + 256 * c) := s1.2
    exact Nat.le_trans Nat.and_le_left (Nat.div_le_self _ _)
  · have := A.2.1; have := B.2.1; have := C.2.1; omega
  · have := A.2.2.1; have := B.2.2.1; have := C.2.2.1; omega
  · omega
theorem ni_ush {a k : Nat} (ha : a < 2 ^ 31) (hk : k < 32) : ((nI a).toUInt32 >>> ((nI k).toUInt32 &&& Int32.toUInt32 31)).toInt32 = nI (a / 2 ^ k) := by
  have hs : a / 2 ^ k ≤ a := Nat.div_le_self _ _
  have hc : ∀ j : Fin 32, (UInt32.ofNat j.val &&& Int32.toUInt32 31).toNat % 32 = j.val := by decide +kernel
  have e2 : UInt32.ofNat a >>> (UInt32.ofNat k &&& Int32.toUInt32 31) = UInt32.ofNat (a / 2 ^ k) := by
    apply UInt32.toNat_inj.1
    have h1 : (UInt32.ofNat a).toNat = a := Nat.mod_eq_of_lt (by omega)
    have h2 : (UInt32.ofNat (a / 2 ^ k)).toNat = a / 2 ^ k := Nat.mod_eq_of_lt (by omega)
    rw [UInt32.toNat_shiftRight, hc ⟨k, hk⟩, h1, h2, Nat.shiftRight_eq_div_pow]
  show (UInt32.ofNat a >>> (UInt32.ofNat k &&& Int32.toUInt32 31)).toInt32 = _
  rw [e2]
  rfl
theorem f_bitCount {x : Nat} (hx : x < 2 ^ 24) {post : Int32 → Prop} (K : post (nI (popc x 24))) : F_J6_bitCount_0f7a4 (nI x) post := by
  obtain ⟨h1, h2, h3, h4, h5⟩ := swar hx
  unfold F_J6_bitCount_0f7a4
  intro y hy z hz w hw u hu v hv
  have e1 : ((nI x).toUInt32 >>> (((1 : Int32)).toUInt32 &&& Int32.toUInt32 31)).toInt32 = nI (x / 2) := ni_ush (k := 1) (by omega) (by decide)
  have hy : y = nI (b1 x) := by
    rw [hy, e1]
    show nI x - (nI (x / 2) &&& nI 1431655765) = _
    rw [ni_and, ni_sub h2]; rfl
  subst hy
  have e2 : ((nI (b1 x)).toUInt32 >>> (((2 : Int32)).toUInt32 &&& Int32.toUInt32 31)).toInt32 = nI (b1 x / 4) := ni_ush (k := 2) (by omega) (by decide)
  have hz : z = nI (b2 (b1 x)) := by
    rw [hz, e2]
    show (nI (b1 x) &&& nI 858993459) + (nI (b1 x / 4) &&& nI 858993459) = _
    rw [ni_and, ni_and, nI_add]; rfl
  subst hz
  have e3 : ((nI (b2 (b1 x))).toUInt32 >>> (((4 : Int32)).toUInt32 &&& Int32.toUInt32 31)).toInt32 = nI (b2 (b1 x) / 16) := ni_ush (k := 4) (by omega) (by decide)
  have hw : w = nI (b3 (b2 (b1 x))) := by
    rw [hw, e3]
    show (nI (b2 (b1 x)) + nI (b2 (b1 x) / 16)) &&& nI 252645135 = _
    rw [nI_add, ni_and]; rfl
  subst hw
  have e4 : ((nI (b3 (b2 (b1 x)))).toUInt32 >>> (((8 : Int32)).toUInt32 &&& Int32.toUInt32 31)).toInt32 = nI (b3 (b2 (b1 x)) / 256) := ni_ush (k := 8) (by omega) (by decide)
  rw [e4, nI_add] at hu
  subst hu
  have e5 : ((nI (b3 (b2 (b1 x)) + b3 (b2 (b1 x)) / 256)).toUInt32 >>> (((16 : Int32)).toUInt32 &&& Int32.toUInt32 31)).toInt32 = nI ((b3 (b2 (b1 x)) + b3 (b2 (b1 x)) / 256) / 65536) := ni_ush (k := 16) (by omega) (by decide)
  rw [e5, nI_add] at hv
  subst hv
  have e6 : ∀ a, nI a &&& (63 : Int32) = nI (a % 64) := by
    intro a
    show nI a &&& nI (2 ^ 6 - 1) = _
    rw [ni_and, Nat.and_two_pow_sub_one_eq_mod]
  rw [e6]
  dsimp only at h1
  rw [h1]
  exact K
theorem f_bits12 {x : Nat} (hx : x < 2 ^ 24) {post : Int32 → Prop} (K : post (nI (popc x 24))) : F_X12_bits (nI x) post := by
  unfold F_X12_bits
  refine ⟨32, ?_⟩
  have main : ∀ j k, k + j = 31 → F_X12_bits_4 post (j + 1) (nI x) (nI (popc x k)) (nI k) := by
    intro j
    induction j with
    | zero =>
      intro k hk
      have : k = 31 := by omega
      subst this
      unfold F_X12_bits_4
      refine br1 (show (31 : Int32) ≤ nI 31 from Int32.le_refl _) ?_
      rw [popc_big (k := 24) hx 7]
      exact K
    | succ j ih =>
      intro k hk
      unfold F_X12_bits_4
      refine br2 (nI_ge (a := k) (b := 31) (by omega) (by decide)) ?_
      rw [ni_tb (by omega) (by omega), nI_add, nI_1]
      exact ih (k + 1) (by omega)
  exact main 31 0 (by omega)
