/-! the class's sketch: what is read off it -/
def oI : Option Nat → Int32
  | none => -1
  | some k => nI k
def stepF (B : Nat → Nat) (s : Nat) : Nat → Nat
  | 0 => s
  | k + 1 => if s.testBit k then stepF B s k ||| B k else stepF B s k
def iterF (n : Nat) (B : Nat → Nat) : Nat → Nat → Nat
  | 0, s => s
  | m + 1, s => iterF n B m (stepF B s n)
def pcsF (n : Nat) (B : Nat → Nat) : Nat → Nat × Nat
  | 0 => (0, 0)
  | k + 1 => if (pcsF n B k).2.testBit k then pcsF n B k else ((pcsF n B k).1 + 1, (pcsF n B k).2 ||| iterF n B (n - 1) (2 ^ k))
def wlF (n : Nat) (B : Nat → Nat) : Nat → Nat → Nat → Nat × Nat
  | 0, s, st => (s, st)
  | f + 1, s, st => if s = 2 ^ n - 1 then (s, st) else wlF n B f (stepF B s n) (st + 1)
def wdF (n : Nat) (B : Nat → Nat) : Nat → Nat → Nat → Option Nat
  | 0, _, far => some far
  | j + 1, k, far => if (wlF n B n (2 ^ k) 0).1 = 2 ^ n - 1 then wdF n B j (k + 1) (max far (wlF n B n (2 ^ k) 0).2) else none
def orF (g : Nat → Nat) : Nat → Nat → Nat → Nat
  | 0, _, a => a
  | j + 1, v, a => orF g j (v + 1) (a ||| g v)
def clsF (n : Nat) (B : Nat → Nat) : Nat → Nat → Nat → Nat → Nat → Nat
  | 0, _, _, _, _ => 0
  | f + 1, fi, la, us, le => if le < n then orF (fun v => if (B la).testBit v && !us.testBit v then clsF n B f fi v (us ||| 2 ^ v) (le + 1) else 0) (n - (fi + 1)) (fi + 1) (if 2 < le ∧ (B la).testBit fi then 2 ^ le else 0) else (if 2 < le ∧ (B la).testBit fi then 2 ^ le else 0)
def cirF (n : Nat) (B : Nat → Nat) : Nat := orF (fun v => clsF n B 10 v v (2 ^ v) 1) n 0 0
def jocF (D : Nat) (B : Nat → Nat) : Nat → Nat → Bool
  | 0, _ => false
  | j + 1, k => if B k &&& (if D.testBit k then D else D ^^^ (2 ^ 32 - 1)) = 0 then jocF D B j (k + 1) else true
def mxF (B : Nat → Nat) : Nat → Nat → Nat → Nat
  | 0, _, a => a
  | j + 1, k, a => mxF B j (k + 1) (max a (popc (B k) 24))
def mnF (B : Nat → Nat) : Nat → Nat → Nat → Nat
  | 0, _, a => a
  | j + 1, k, a => mnF B j (k + 1) (min a (popc (B k) 24))
def lwF (x : Nat) : Nat → Nat → Option Nat
  | 0, _ => none
  | j + 1, k => if x.testBit k then some k else lwF x j (k + 1)
/-- the rows of a net, as ints -/
def Nr (n : Nat) (B : Nat → Nat) (near : Nat → Int32) : Prop := n ≤ 6 ∧ ∀ v, v < n → near v = nI (B v) ∧ B v < 2 ^ n
theorem Nr_lt {n : Nat} {B : Nat → Nat} {near : Nat → Int32} (h : Nr n B near) {v : Nat} (hv : v < n) : B v < 2 ^ 6 := Nat.lt_of_lt_of_le (h.2 v hv).2 (Nat.pow_le_pow_right (by decide) h.1)
theorem f_nearOf {n : Nat} {B : Nat → Nat} {near : Nat → Int32} (h : Nr n B near) {v : Nat} (hv : v < n) {post : Int32 → Prop} (K : post (nI (B v))) : F_X7_nearOf near (nI v) post := by
  have h6 := h.1
  unfold F_X7_nearOf F_X7_nearOf_23
  refine br2 (nI_pos (by omega)) (br2 (nI_ge (a := v) (b := 6) (by omega) (by decide)) ⟨vp_in_nI (by omega) (by decide), ?_⟩)
  rw [nI_clamp (by omega), (h.2 v hv).1]
  exact K
theorem stepF_lt {n : Nat} {B : Nat → Nat} {near : Nat → Int32} (h : Nr n B near) {s : Nat} (hs : s < 2 ^ n) : ∀ k, k ≤ n → stepF B s k < 2 ^ n
  | 0, _ => hs
  | k + 1, hk => by
    have ih := stepF_lt h hs k (by omega)
    rw [stepF]
    split
    · exact Nat.or_lt_two_pow ih (h.2 k (by omega)).2
    · exact ih
theorem lt64 {n s : Nat} (hn : n ≤ 6) (h : s < 2 ^ n) : s < 64 := Nat.lt_of_lt_of_le h (show 2 ^ n ≤ 2 ^ 6 from Nat.pow_le_pow_right (by decide) hn)
theorem f_oneStepOn {n : Nat} {B : Nat → Nat} {near : Nat → Int32} (h : Nr n B near) {s : Nat} (hs : s < 2 ^ n) {post : Int32 → Prop} (K : post (nI (stepF B s n))) : F_X7_oneStepOn (nI n) near (nI s) post := by
  unfold F_X7_oneStepOn
  refine ⟨n + 1, ?_⟩
  have hn := h.1
  have s64 := lt64 hn hs
  have main : ∀ j k, k + j = n → F_X7_oneStepOn_4 (nI n) near post (j + 1) (nI s) (nI (stepF B s k)) (nI k) := by
    intro j
    induction j with
    | zero =>
      intro k hk
      have : k = n := by omega
      subst this
      unfold F_X7_oneStepOn_4
      exact br1 (Int32.le_refl _) K
    | succ j ih =>
      intro k hk
      unfold F_X7_oneStepOn_4 F_X7_oneStepOn_29
      have hb := ni_b1 (a := s) (by omega) (show k < 32 by omega)
      have ih := ih (k + 1) (by omega)
      refine br2 (nI_ge (by omega) (by omega)) ⟨fun g => ?_, fun g => f_nearOf h (by omega) ?_⟩
      · rw [stepF, if_neg (fun e => g (hb.mpr e))] at ih
        rw [nI_1]; exact ih
      · rw [stepF, if_pos (hb.mp g)] at ih
        rw [nI_1, ni_or]; exact ih
  exact main n 0 (by omega)
theorem iterF_lt {n : Nat} {B : Nat → Nat} {near : Nat → Int32} (h : Nr n B near) : ∀ m s, s < 2 ^ n → iterF n B m s < 2 ^ n
  | 0, s, hs => hs
  | m + 1, s, hs => iterF_lt h m _ (stepF_lt h hs n (Nat.le_refl _))
theorem pcsF_lt {n : Nat} {B : Nat → Nat} {near : Nat → Int32} (h : Nr n B near) : ∀ k, k ≤ n → (pcsF n B k).2 < 2 ^ n
  | 0, _ => Nat.pow_pos (by decide)
  | k + 1, hk => by
    have ih := pcsF_lt h k (by omega)
    rw [pcsF]
    split
    · exact ih
    · exact Nat.or_lt_two_pow ih (iterF_lt h _ _ (Nat.pow_lt_pow_right (by decide) (by omega)))
theorem pcs_33 {n : Nat} {B : Nat → Nat} {near : Nat → Int32} (h : Nr n B near) {post : Int32 → Prop} {K61 : Int32 → Int32 → Int32 → Prop} {x1 x3 : Int32} {r : Nat} : ∀ j k s, k + j = n → s < 2 ^ n → K61 x1 (nI (r ||| iterF n B j s)) x3 → F_X7_pieces_33 (nI n) near post K61 (j + 1) x1 (nI r) x3 (nI s) (nI k)
  | 0, k, s, hk, hs, K => by
    have : k = n := by omega
    subst this
    unfold F_X7_pieces_33
    refine br1 (Int32.le_refl _) ?_
    rw [ni_or]; exact K
  | j + 1, k, s, hk, hs, K => by
    have hn := h.1
    unfold F_X7_pieces_33
    refine br2 (nI_ge (by omega) (by omega)) (f_oneStepOn h hs ?_)
    rw [nI_1]
    exact pcs_33 h j (k + 1) _ (by omega) (stepF_lt h hs n (Nat.le_refl _)) K
theorem f_pieces {n : Nat} {B : Nat → Nat} {near : Nat → Int32} (h : Nr n B near) (h1 : 1 ≤ n) {post : Int32 → Prop} (K : post (nI (pcsF n B n).1)) : F_X7_pieces (nI n) near post := by
  unfold F_X7_pieces
  refine ⟨n + 1, ?_⟩
  have hn := h.1
  have main : ∀ j k, k + j = n → F_X7_pieces_6 (nI n) near post (j + 1) (nI (pcsF n B k).1) (nI (pcsF n B k).2) (nI k) := by
    intro j
    induction j with
    | zero =>
      intro k hk
      have : k = n := by omega
      subst this
      unfold F_X7_pieces_6
      exact br1 (Int32.le_refl _) K
    | succ j ih =>
      intro k hk
      unfold F_X7_pieces_6 F_X7_pieces_61
      have hr := pcsF_lt h k (by omega)
      have r64 := lt64 hn hr
      have hb := ni_b0 (a := (pcsF n B k).2) (by omega) (show k < 32 by omega)
      have ih := ih (k + 1) (by omega)
      refine br2 (nI_ge (by omega) (by omega)) ⟨fun g => ?_, fun g => ⟨n - 1 + 1, ?_⟩⟩
      · have e : (pcsF n B k).2.testBit k = true := by
          cases e : (pcsF n B k).2.testBit k with
          | true => rfl
          | false => exact absurd (hb.mpr e) g
        rw [pcsF, if_pos e] at ih
        rw [nI_1]; exact ih
      · rw [pcsF, if_neg (by rw [hb.mp g]; decide)] at ih
        rw [ni_1shl (by omega)]
        refine pcs_33 (n := n) (B := B) h (n - 1) 1 (2 ^ k) (by omega) (Nat.pow_lt_pow_right (by decide) (by omega)) ?_
        rw [nI_1, nI_1]
        exact ih
  exact main n 0 (by omega)
theorem wd_29 {n : Nat} {B : Nat → Nat} {near : Nat → Int32} (h : Nr n B near) {post : Int32 → Prop} {K13 : Int32 → Int32 → Int32 → Prop} {x2 x3 : Int32} : ∀ f st s, st + f = n → s < 2 ^ n → F_X7_width_58 (nI n) near post K13 (nI (2 ^ n - 1)) x2 x3 (nI (wlF n B f s st).1) (nI (wlF n B f s st).2) → F_X7_width_29 (nI n) near post K13 (f + 1) (nI (2 ^ n - 1)) x2 x3 (nI s) (nI st)
  | 0, st, s, hst, hs, K => by
    have : st = n := by omega
    subst this
    unfold F_X7_width_29
    exact ⟨fun _ => K, fun _ => br1 (Int32.le_refl _) K⟩
  | f + 1, st, s, hst, hs, K => by
    have hn := h.1
    have s64 := lt64 hn hs
    have p64 := lt64 hn (show 2 ^ n - 1 < 2 ^ n by have := Nat.pow_pos (n := n) (show 0 < 2 by decide); omega)
    unfold F_X7_width_29
    rw [wlF] at K
    refine ⟨fun g => ?_, fun g => br2 (nI_ge (by omega) (by omega)) (f_oneStepOn h hs ?_)⟩
    · rw [if_pos (ni_inj (by omega) (by omega) g)] at K
      exact K
    · rw [if_neg (fun e => g (by rw [e]))] at K
      rw [nI_1]
      exact wd_29 h f (st + 1) _ (by omega) (stepF_lt h hs n (Nat.le_refl _)) K
theorem wlF_bd {n : Nat} {B : Nat → Nat} {near : Nat → Int32} (h : Nr n B near) : ∀ f st s, s < 2 ^ n → (wlF n B f s st).1 < 2 ^ n ∧ (wlF n B f s st).2 ≤ st + f
  | 0, st, s, hs => ⟨hs, Nat.le_refl _⟩
  | f + 1, st, s, hs => by
    rw [wlF]
    split
    · exact ⟨hs, by omega⟩
    · have := wlF_bd h f (st + 1) _ (stepF_lt h hs n (Nat.le_refl _))
      exact ⟨this.1, by omega⟩
theorem nI_max {a b : Nat} (ha : a < 2 ^ 31) (hb : b < 2 ^ 31) : (if nI a < nI b then nI b else nI a) = nI (max a b) := by
  by_cases e : a < b
  · rw [if_pos (nI_lt e hb)]; congr 1; omega
  · rw [if_neg (nI_nlt (by omega) ha)]; congr 1; omega
theorem nI_min {a b : Nat} (ha : a < 2 ^ 31) (hb : b < 2 ^ 31) : (if nI b < nI a then nI b else nI a) = nI (min a b) := by
  by_cases e : b < a
  · rw [if_pos (nI_lt e ha)]; congr 1; omega
  · rw [if_neg (nI_nlt (by omega) hb)]; congr 1; omega
theorem wd_13 {n : Nat} {B : Nat → Nat} {near : Nat → Int32} (h : Nr n B near) {post : Int32 → Prop} : ∀ j k far, k + j = n → far ≤ 100 → post (oI (wdF n B j k far)) → F_X7_width_13 (nI n) near post (j + 1) (nI (2 ^ n - 1)) (nI far) (nI k)
  | 0, k, far, hk, hf, K => by
    have : k = n := by omega
    subst this
    unfold F_X7_width_13
    exact br1 (Int32.le_refl _) K
  | j + 1, k, far, hk, hf, K => by
    have hn := h.1
    have pk : 2 ^ k < 2 ^ n := Nat.pow_lt_pow_right (by decide) (by omega)
    have bd := wlF_bd h n 0 (2 ^ k) pk
    have w64 := lt64 hn bd.1
    have p64 := lt64 hn (show 2 ^ n - 1 < 2 ^ n by have := Nat.pow_pos (n := n) (show 0 < 2 by decide); omega)
    unfold F_X7_width_13
    refine br2 (nI_ge (by omega) (by omega)) ⟨n + 1, ?_⟩
    rw [ni_1shl (by omega)]
    refine wd_29 (B := B) h n 0 (2 ^ k) (by omega) pk ?_
    unfold F_X7_width_58
    rw [wdF] at K
    refine ⟨fun g => ?_, fun g => ?_⟩
    · rw [if_pos (ni_inj (by omega) (by omega) g)] at K
      rw [nI_1, nI_max (by omega) (by omega)]
      exact wd_13 h j (k + 1) _ (by omega) (by omega) K
    · rw [if_neg (fun e => g (by rw [e]))] at K
      exact K
theorem f_width {n : Nat} {B : Nat → Nat} {near : Nat → Int32} (h : Nr n B near) {post : Int32 → Prop} (K : post (oI (wdF n B n 0 0))) : F_X7_width (nI n) near post := by
  unfold F_X7_width
  have hn := h.1
  have e : ((1 : Int32) <<< (nI n &&& 31)) - 1 = nI (2 ^ n - 1) := by
    rw [ni_1shl (by omega)]
    show _ - nI 1 = _
    rw [ni_sub (Nat.pow_pos (by decide))]
  rw [e]
  exact ⟨n + 1, wd_13 h n 0 0 (by omega) (by omega) K⟩
theorem m1_nI : (-1 : Int32) = nI (2 ^ 32 - 1) := by decide +kernel
theorem cls_ok {n : Nat} {B : Nat → Nat} {near : Nat → Int32} (h : Nr n B near) : ∀ (d fi la us le : Nat) (post : Int32 → Prop), n < le + d → fi < n → la < n → us < 2 ^ n → 0 < le → le ≤ n → post (nI (clsF n B d fi la us le)) → F_X7_closeFrom d (nI n) near (nI fi) (nI la) (nI us) (nI le) post
  | 0, fi, la, us, le, post, hd, _, _, _, _, hle, _ => absurd hd (by omega)
  | d + 1, fi, la, us, le, post, hd, hfi, hla, hus, h0, hle, K => by
    have hn := h.1
    have us64 := lt64 hn hus
    have b64 : B la < 64 := Nr_lt h hla
    rw [clsF] at K
    have r27 : ∀ s0 : Nat, post (nI (if le < n then orF (fun v => if (B la).testBit v && !us.testBit v then clsF n B d fi v (us ||| 2 ^ v) (le + 1) else 0) (n - (fi + 1)) (fi + 1) s0 else s0)) → F_X7_closeFrom_27 (F_X7_closeFrom d) (nI n) near post (nI fi) (nI la) (nI us) (nI le) (nI s0) := by
      intro s0 K
      unfold F_X7_closeFrom_27
      refine ⟨fun g => ⟨n - (fi + 1) + 1, ?_⟩, fun g => ?_⟩
      · have g := (nI_ltI (by omega) (by omega)).mp g
        rw [if_pos g] at K
        rw [nI_1]
        have main : ∀ j v a, v + j = n → post (nI (orF (fun v => if (B la).testBit v && !us.testBit v then clsF n B d fi v (us ||| 2 ^ v) (le + 1) else 0) j v a)) → F_X7_closeFrom_46 (F_X7_closeFrom d) (nI n) near post (j + 1) (nI fi) (nI la) (nI us) (nI le) (nI a) (nI v) := by
          intro j
          induction j with
          | zero =>
            intro v a hv K
            have : v = n := by omega
            subst this
            unfold F_X7_closeFrom_46
            exact br1 (Int32.le_refl _) K
          | succ j ih =>
            intro v a hv K
            unfold F_X7_closeFrom_46 F_X7_closeFrom_88
            rw [orF] at K
            refine br2 (nI_ge (by omega) (by omega)) (f_nearOf h hla ?_)
            have e1 : nI (B la) &&& (nI us ^^^ (-1)) = nI (B la &&& (us ^^^ (2 ^ 32 - 1))) := by
              rw [m1_nI, ni_xor, ni_and]
            have l1 : B la &&& (us ^^^ (2 ^ 32 - 1)) < 64 := Nat.lt_of_le_of_lt Nat.and_le_left b64
            have hb := ni_b1 (a := B la &&& (us ^^^ (2 ^ 32 - 1))) (by omega) (show v < 32 by omega)
            have e2 : (B la &&& (us ^^^ (2 ^ 32 - 1))).testBit v = ((B la).testBit v && !us.testBit v) := by
              rw [Nat.testBit_and, Nat.testBit_xor, Nat.testBit_two_pow_sub_one]
              simp [show v < 32 by omega]
            rw [e1]
            rw [e2] at hb
            refine ⟨fun g => ?_, fun g => ?_⟩
            · rw [if_neg (fun e => g (hb.mpr e)), Nat.or_zero] at K
              rw [nI_1]
              exact ih (v + 1) a (by omega) K
            · rw [if_pos (hb.mp g)] at K
              unfold F_X7_stepTo
              rw [ni_1shl (by omega), ni_or, nI_1]
              refine cls_ok h d fi v (us ||| 2 ^ v) (le + 1) _ (by omega) hfi (by omega) (Nat.or_lt_two_pow hus (Nat.pow_lt_pow_right (by decide) (by omega))) (by omega) (by omega) ?_
              dsimp only
              rw [ni_or, nI_1]
              exact ih (v + 1) _ (by omega) K
        exact main (n - (fi + 1)) (fi + 1) s0 (by omega) K
      · rw [if_neg (fun e => g (nI_lt e (by omega)))] at K
        exact K
    rw [F_X7_closeFrom]
    unfold FB_X7_closeFrom F_X7_closeFrom_26
    have hb := ni_b1 (a := B la) (by omega) (show fi < 32 by omega)
    refine ⟨fun g => ?_, fun g => f_nearOf h hla ⟨fun g2 => ?_, fun g2 => ?_⟩⟩
    · have g : le ≤ 2 := (nI_leI (a := le) (b := 2) (by omega) (by decide)).mp g
      rw [if_neg (show ¬ (2 < le ∧ (B la).testBit fi = true) by omega)] at K
      exact r27 0 K
    · rw [if_neg (show ¬ (2 < le ∧ (B la).testBit fi = true) from fun e => g2 (hb.mpr e.2))] at K
      exact r27 0 K
    · have g : 2 < le := by
        have : ¬ le ≤ 2 := fun e => g (nI_le (b := 2) e (by decide))
        omega
      rw [if_pos (show (2 < le ∧ (B la).testBit fi = true) from ⟨g, hb.mp g2⟩)] at K
      rw [ni_1shl (by omega)]
      exact r27 (2 ^ le) K
theorem f_circles {n : Nat} {B : Nat → Nat} {near : Nat → Int32} (h : Nr n B near) (h1 : 1 ≤ n) {post : Int32 → Prop} (K : post (nI (cirF n B))) : F_X7_circles (nI n) near post := by
  unfold F_X7_circles
  refine ⟨n + 1, ?_⟩
  have hn := h.1
  unfold cirF at K
  have main : ∀ j k a, k + j = n → post (nI (orF (fun v => clsF n B 10 v v (2 ^ v) 1) j k a)) → F_X7_circles_4 (nI n) near post (j + 1) (nI a) (nI k) := by
    intro j
    induction j with
    | zero =>
      intro k a hk K
      have : k = n := by omega
      subst this
      unfold F_X7_circles_4
      exact br1 (Int32.le_refl _) K
    | succ j ih =>
      intro k a hk K
      unfold F_X7_circles_4
      rw [orF] at K
      refine br2 (nI_ge (by omega) (by omega)) ?_
      rw [ni_1shl (by omega)]
      refine cls_ok h 10 k k (2 ^ k) 1 _ (by omega) (by omega) (by omega) (Nat.pow_lt_pow_right (by decide) (by omega)) (by omega) (by omega) ?_
      rw [ni_or, nI_1]
      exact ih (k + 1) _ (by omega) K
  exact main n 0 0 (by omega) K
theorem f_joins {n D : Nat} {B : Nat → Nat} {near : Nat → Int32} (h : Nr n B near) (hD : D < 2 ^ n) {post : Int32 → Prop} (K : post (nI (jocF D B n 0).toNat)) : F_X7_joinsOneColour (nI D) (nI n) near post := by
  unfold F_X7_joinsOneColour
  refine ⟨n + 1, ?_⟩
  have hn := h.1
  have D64 := lt64 hn hD
  have main : ∀ j k, k + j = n → post (nI (jocF D B j k).toNat) → F_X7_joinsOneColour_2 (nI D) (nI n) near post (j + 1) (nI k) := by
    intro j
    induction j with
    | zero =>
      intro k hk K2
      have : k = n := by omega
      subst this
      unfold F_X7_joinsOneColour_2
      exact br1 (Int32.le_refl _) ⟨by decide, K2⟩
    | succ j ih =>
      intro k hk K2
      unfold F_X7_joinsOneColour_2 F_X7_joinsOneColour_35
      have hb := ni_b1 (a := D) (by omega) (show k < 32 by omega)
      have b64 : B k < 64 := Nr_lt h (by omega)
      rw [jocF] at K2
      have r : ∀ z : Nat, post (nI (if B k &&& z = 0 then jocF D B j (k + 1) else true).toNat) → F_X7_nearOf near (nI k) (fun r38 => ((r38 &&& nI z) = 0 → F_X7_joinsOneColour_2 (nI D) (nI n) near post (j + 1) (nI k + 1)) ∧ (¬ (r38 &&& nI z) = 0 → post 1)) := by
        intro z K2
        refine f_nearOf h (by omega) ?_
        rw [ni_and]
        have l1 : B k &&& z < 64 := Nat.lt_of_le_of_lt Nat.and_le_left b64
        refine ⟨fun g => ?_, fun g => ?_⟩
        · have g : B k &&& z = 0 := ni_inj (b := 0) (by omega) (by decide) g
          rw [if_pos g] at K2
          rw [nI_1]
          exact ih (k + 1) (by omega) K2
        · rw [if_neg (fun e => g (by rw [e]; rfl))] at K2
          exact K2
      refine br2 (nI_ge (by omega) (by omega)) ⟨fun g => ?_, fun g => ?_⟩
      · rw [if_neg (fun e => g (hb.mpr e))] at K2
        rw [m1_nI, ni_xor]
        exact r _ K2
      · rw [if_pos (hb.mp g)] at K2
        exact r _ K2
  exact main n 0 (by omega) K
theorem f_mostNear {n : Nat} {B : Nat → Nat} {near : Nat → Int32} (h : Nr n B near) {post : Int32 → Prop} (K : post (nI (mxF B n 0 0))) : F_X7_mostNear (nI n) near post := by
  unfold F_X7_mostNear
  refine ⟨n + 1, ?_⟩
  have hn := h.1
  have main : ∀ j k a, k + j = n → a < 100 → post (nI (mxF B j k a)) → F_X7_mostNear_4 (nI n) near post (j + 1) (nI a) (nI k) := by
    intro j
    induction j with
    | zero =>
      intro k a hk ha K2
      have : k = n := by omega
      subst this
      unfold F_X7_mostNear_4
      exact br1 (Int32.le_refl _) K2
    | succ j ih =>
      intro k a hk ha K2
      unfold F_X7_mostNear_4
      have b64 : B k < 64 := Nr_lt h (by omega)
      have := popc_le (B k) 24
      refine br2 (nI_ge (by omega) (by omega)) (f_nearOf h (by omega) (f_bitCount (by omega) ?_))
      rw [nI_max (by omega) (by omega), nI_1]
      exact ih (k + 1) _ (by omega) (by omega) K2
  exact main n 0 0 (by omega) (by omega) K
theorem f_leastNear {n : Nat} {B : Nat → Nat} {near : Nat → Int32} (h : Nr n B near) {post : Int32 → Prop} (K : post (nI (mnF B n 0 6))) : F_X7_leastNear (nI n) near post := by
  unfold F_X7_leastNear
  refine ⟨n + 1, ?_⟩
  have hn := h.1
  have main : ∀ j k a, k + j = n → a < 100 → post (nI (mnF B j k a)) → F_X7_leastNear_5 (nI n) near post (j + 1) (nI a) (nI k) := by
    intro j
    induction j with
    | zero =>
      intro k a hk ha K2
      have : k = n := by omega
      subst this
      unfold F_X7_leastNear_5
      exact br1 (Int32.le_refl _) K2
    | succ j ih =>
      intro k a hk ha K2
      unfold F_X7_leastNear_5
      have b64 : B k < 64 := Nr_lt h (by omega)
      have := popc_le (B k) 24
      refine br2 (nI_ge (by omega) (by omega)) (f_nearOf h (by omega) (f_bitCount (by omega) ?_))
      rw [nI_min (by omega) (by omega), nI_1]
      exact ih (k + 1) _ (by omega) (by omega) K2
  exact main n 0 6 (by omega) (by omega) K
theorem f_lowest {x : Nat} (hx : x < 2 ^ 31) {post : Int32 → Prop} (K : post (oI (lwF x 31 0))) : F_X7_lowest (nI x) post := by
  unfold F_X7_lowest
  refine ⟨32, ?_⟩
  have main : ∀ j k, k + j = 31 → post (oI (lwF x j k)) → F_X7_lowest_2 post (j + 1) (nI x) (nI k) := by
    intro j
    induction j with
    | zero =>
      intro k hk K
      have : k = 31 := by omega
      subst this
      unfold F_X7_lowest_2
      exact br1 (Int32.le_refl _) K
    | succ j ih =>
      intro k hk K
      unfold F_X7_lowest_2
      rw [lwF] at K
      have hb := ni_b1 hx (show k < 32 by omega)
      refine br2 (nI_ge (a := k) (b := 31) (by omega) (by decide)) ⟨fun g => ?_, fun g => ?_⟩
      · rw [if_neg (fun e => g (hb.mpr e))] at K
        rw [nI_1]
        exact ih (k + 1) (by omega) K
      · rw [if_pos (hb.mp g)] at K
        exact K
  exact main 31 0 (by omega) K
theorem lwF_bd (x : Nat) : ∀ j k i, lwF x j k = some i → k ≤ i ∧ i < k + j
  | 0, k, i, h => by simp [lwF] at h
  | j + 1, k, i, h => by
    rw [lwF] at h
    split at h
    · simp at h; omega
    · have := lwF_bd x j (k + 1) i h; omega
theorem f_shortest {n : Nat} {B : Nat → Nat} {near : Nat → Int32} (h : Nr n B near) (h1 : 1 ≤ n) (hc : cirF n B < 2 ^ 31) {post : Int32 → Prop} (K : post (nI ((lwF (cirF n B) 31 0).getD 0))) : F_X7_shortestCircle (nI n) near post := by
  unfold F_X7_shortestCircle
  refine f_circles h h1 (f_lowest hc ?_)
  cases e : lwF (cirF n B) 31 0 with
  | none =>
    rw [e] at K
    exact K
  | some k =>
    rw [e] at K
    have := lwF_bd _ _ _ _ e
    show post (if nI 0 < nI k then nI k else nI 0)
    rw [nI_max (by decide) (by omega)]
    have e : max 0 k = k := by omega
    rw [e]
    exact K
/-! orbits, out of what was seen -/
def lsF (n sn node : Nat) : Nat → Nat → Int32
  | 0, _ => nI node
  | j + 1, p => if (sn / 2 ^ (6 * p) % 64).testBit node then oI (lwF (sn / 2 ^ (6 * p) % 64) 31 0) else lsF n sn node j (p + 1)
theorem f_seenAt {sn p : Nat} (hs : sn < 2 ^ 36) (hp : p < 6) {post : Int32 → Prop} (K : post (nI (sn / 2 ^ (6 * p) % 64))) : F_X2_seenAt (lN sn) (nI p) post := by
  unfold F_X2_seenAt
  have e : (6 : Int32) * nI p = nI (6 * p) := ni_mul 6 p
  have e2 : (63 : Int32) = nI (2 ^ 6 - 1) := rfl
  rw [e, ln_shr (Nat.lt_of_lt_of_le hs (by decide)) (show 6 * p < 64 by omega), e2, li_mask]
  exact K
theorem f_leastSeenWith {n sn node : Nat} (hn : n ≤ 6) (hs : sn < 2 ^ 36) (hv : node < 6) {post : Int32 → Prop} (K : post (lsF n sn node n 0)) : F_X2_leastSeenWith (nI n) (lN sn) (nI node) post := by
  unfold F_X2_leastSeenWith
  refine ⟨n + 1, ?_⟩
  have main : ∀ j p, p + j = n → post (lsF n sn node j p) → F_X2_leastSeenWith_2 (nI n) (lN sn) post (j + 1) (nI node) (nI p) := by
    intro j
    induction j with
    | zero =>
      intro p hp K
      have : p = n := by omega
      subst this
      unfold F_X2_leastSeenWith_2
      exact br1 (Int32.le_refl _) K
    | succ j ih =>
      intro p hp K
      unfold F_X2_leastSeenWith_2
      rw [lsF] at K
      have l64 : sn / 2 ^ (6 * p) % 64 < 64 := Nat.mod_lt _ (by decide)
      have hb := ni_b1 (a := sn / 2 ^ (6 * p) % 64) (by omega) (show node < 32 by omega)
      refine br2 (nI_ge (by omega) (by omega)) (f_seenAt hs (by omega) ⟨fun g => ?_, fun g => ?_⟩)
      · rw [if_neg (fun e => g (hb.mpr e))] at K
        rw [nI_1]
        exact ih (p + 1) (by omega) K
      · rw [if_pos (hb.mp g)] at K
        exact f_seenAt hs (by omega) (f_lowest (by omega) K)
  exact main n 0 (by omega) K
