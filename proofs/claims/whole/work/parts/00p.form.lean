/-! the reference's form: all orders, one behind the other -/
def lsM (n : Nat) (acc : List (List Nat)) : Nat := acc.foldl (fun s l => s ||| 2 ^ l.getD (n - 1) 0) 0
theorem lsM_snoc (n : Nat) (acc : List (List Nat)) (l : List Nat) : lsM n (acc ++ [l]) = lsM n acc ||| 2 ^ l.getD (n - 1) 0 := by simp [lsM, List.foldl_append]
def LFS (n : Nat) (acc : List (List Nat)) (lasts sym : Int32) (first : Nat → Int32) : Prop := acc ≠ [] → sym = nI acc.length ∧ lasts = nI (lsM n acc) ∧ OrdA first (acc.headD []) n
theorem ni_1shl {k : Nat} (hk : k < 32) : (1 : Int32) <<< (nI k &&& 31) = nI (2 ^ k) := by
  show nI 1 <<< _ = _
  rw [ni_shl 1 hk, Nat.one_mul]
theorem lf_51 {n : Nat} (hn : n ≤ 6) {dark : Int32} {by' : Nat → Int32} {post} {K77 : Int32 → Int32 → Int32 → (Nat → Int32) → (Nat → Int32) → Prop} {l : List Nat} {o : Nat → Int32} (h : OrdA o l n) {fm la sy : Int32} (K : ∀ first, OrdA first l n → K77 fm la sy first o) : ∀ j k (first : Nat → Int32), k + j = n → (∀ i, i < k → first i = o i) → F_X12_laysForm_51 dark (nI n) by' post K77 (j + 1) (nI k) fm la sy first o
  | 0, k, first, hk, hf => by
    have : k = n := by omega
    subst this
    unfold F_X12_laysForm_51
    exact br1 (Int32.le_refl _) (K first ⟨h.1, fun i hi => by rw [hf i hi]; exact h.2 i hi⟩)
  | j + 1, k, first, hk, hf => by
    unfold F_X12_laysForm_51
    have gk := vp_in_nI (n := k) (N := 6) (by omega) (by decide)
    refine br2 (nI_ge (by omega) (by omega)) ⟨gk, gk, ?_⟩
    rw [nI_clamp (by omega), nI_1]
    refine lf_51 hn h K j (k + 1) _ (by omega) ?_
    intro i hi
    by_cases e : i = k
    · subst e; exact upd_in
    · rw [upd_out e]; exact hf i (by omega)
theorem lf_body {n D : Nat} {B : Nat → Nat} {dark nodes : Int32} {by' : Nat → Int32} (hn : n ≤ 6) (h1 : 1 ≤ n) (hG : RG n D B dark nodes by') {post : Int32 → Int32 → Int32 → (Nat → Int32) → (Nat → Int32) → Prop} {l : List Nat} {Xs acc : List (List Nat)} {m : Nat} {lasts sym : Int32} {first o : Nat → Int32} {f : Nat} (ho : OrdA o l n) (hm : m ≤ 2147483647) (hS : IsSm (cod D B) 2147483647 Xs m acc) (hF : LFS n acc lasts sym first) (step : ∀ m acc lasts sym first, m ≤ 2147483647 → IsSm (cod D B) 2147483647 (Xs ++ [l]) m acc → LFS n acc lasts sym first → F_X12_laysForm_109 dark nodes by' post (F_X12_laysForm_10 dark nodes by' post f) (nI m) lasts sym first o) : F_X12_laysForm_10 dark nodes by' post (f + 1) (nI m) lasts sym first o := by
  unfold F_X12_laysForm_10
  refine f_codeNow hn hG ho ?_
  have hc := cod_lt21 (D := D) (B := B) (l := l) hn (by rw [ho.1]; exact Nat.le_refl _)
  have hl := (ho.2 (n - 1) (by omega)).2
  have em : nI n - 1 = nI (n - 1) := by show nI n - nI 1 = _; rw [ni_sub h1]
  have r77 : ∀ m acc (lasts sym : Int32) first, m ≤ 2147483647 → IsSm (cod D B) 2147483647 (Xs ++ [l]) m acc → (acc ≠ [] → sym + 1 = nI acc.length ∧ (lasts ||| nI (2 ^ l.getD (n - 1) 0)) = nI (lsM n acc) ∧ OrdA first (acc.headD []) n) → F_X12_laysForm_77 dark nodes by' post (fun t_form t_lasts t_symmetries t_firstOrder t_order => F_X12_laysForm_109 dark nodes by' post (F_X12_laysForm_10 dark nodes by' post f) t_form t_lasts t_symmetries t_firstOrder t_order) (nI m) lasts sym first o := by
    intro m acc lasts sym first hm hS hF
    unfold F_X12_laysForm_77
    have hG2 := hG.2.1
    subst hG2
    rw [em]
    refine ⟨vp_in_nI (by omega) (by decide), ?_⟩
    rw [nI_clamp (by omega), (ho.2 (n - 1) (by omega)).1, ni_1shl (by omega)]
    exact step m acc _ _ first hm hS hF
  refine ⟨fun a => ⟨fun b => ?_, fun b => ?_⟩, fun a => ?_⟩
  · have a := (nI_leI (by omega) (by omega)).mp a
    have b := (nI_leI (by omega) (by omega)).mp b
    have e : cod D B l = m := by omega
    have ha : acc ≠ [] := by
      rcases hS with ⟨_, _, h⟩ | ⟨_, h, _⟩
      · omega
      · exact h
    obtain ⟨f1, f2, f3⟩ := hF ha
    refine r77 m (acc ++ [l]) lasts sym first hm (sm_more hS l e ha) (fun _ => ⟨?_, ?_, ?_⟩)
    · rw [f1, nI_1]; simp
    · rw [f2, ni_or, lsM_snoc]
    · have : (acc ++ [l]).headD [] = acc.headD [] := by
        cases acc with
        | nil => exact absurd rfl ha
        | cons => rfl
      rw [this]; exact f3
  · have a := (nI_leI (by omega) (by omega)).mp a
    have b : ¬ m ≤ cod D B l := fun g => b (nI_le g (by omega))
    have hG2 := hG.2.1
    refine ⟨n + 1, ?_⟩
    have g := lf_51 (dark := dark) (by' := by') (post := post) (K77 := fun t_form t_lasts t_symmetries t_firstOrder t_order => F_X12_laysForm_77 dark nodes by' post (fun t_form t_lasts t_symmetries t_firstOrder t_order => F_X12_laysForm_109 dark nodes by' post (F_X12_laysForm_10 dark nodes by' post f) t_form t_lasts t_symmetries t_firstOrder t_order) t_form t_lasts t_symmetries t_firstOrder t_order) hn ho (fm := nI (cod D B l)) (la := 0) (sy := 0) (fun first hf => by
      refine r77 (cod D B l) [l] 0 0 first (by omega) (sm_new hS l (Or.inl (by omega))) (fun _ => ⟨rfl, ?_, hf⟩)
      show nI 0 ||| _ = _
      rw [ni_or]
      simp [lsM]) n 0 first (by omega) (fun i hi => absurd hi (Nat.not_lt_zero _))
    rw [hG2]
    rw [hG2] at g
    exact g
  · have a : ¬ cod D B l ≤ m := fun g => a (nI_le g (by omega))
    have ha : acc ≠ [] := by
      rcases hS with ⟨_, _, h⟩ | ⟨_, h, _⟩
      · omega
      · exact h
    exact step m acc lasts sym first hm (sm_skip hS ha [l] (by intro y hy; simp at hy; subst hy; omega)) hF
theorem lf_10 {n D : Nat} {B : Nat → Nat} {dark nodes : Int32} {by' : Nat → Int32} (hn : n ≤ 6) (h1 : 1 ≤ n) (hG : RG n D B dark nodes by') {post : Int32 → Int32 → Int32 → (Nat → Int32) → (Nat → Int32) → Prop} (K : ∀ lasts sym first order, LFS n (ags n D B) lasts sym first → post (nI (frm n D B)) lasts sym first order) : ∀ (L : List (List Nat)) (l : List Nat) (Xs acc : List (List Nat)) (m : Nat) (lasts sym : Int32) (first o : Nat → Int32), lex n = Xs ++ l :: L → chn n (l :: L) = true → OrdA o l n → m ≤ 2147483647 → IsSm (cod D B) 2147483647 Xs m acc → LFS n acc lasts sym first → F_X12_laysForm_10 dark nodes by' post (L.length + 1) (nI m) lasts sym first o := by
  intro L
  induction L with
  | nil =>
    intro l Xs acc m lasts sym first o hlex hch ho hm hS hF
    refine lf_body hn h1 hG ho hm hS hF ?_
    intro m acc lasts sym first hm hS hF
    unfold F_X12_laysForm_109
    rw [hG.2.1]
    rw [← hlex] at hS
    obtain ⟨e1, e2⟩ := sm_uni (lex_ne n) hS (frm_sm n D B)
    subst e1 e2
    refine f_nextOrder hn h1 ho (fun _ => ?_) (fun l' o' e _ => ?_)
    · exact ⟨fun a => absurd rfl a, fun _ => K _ _ _ _ hF⟩
    · simp [chn] at hch
      rw [hch] at e
      simp at e
  | cons l2 L ih =>
    intro l Xs acc m lasts sym first o hlex hch ho hm hS hF
    refine lf_body hn h1 hG ho hm hS hF ?_
    intro m acc lasts sym first hm hS hF
    unfold F_X12_laysForm_109
    have hG2 := hG.2.1
    subst hG2
    simp only [chn, Bool.and_eq_true, beq_iff_eq] at hch
    refine f_nextOrder hn h1 ho (fun e => ?_) (fun l' o' e ho' => ?_)
    · rw [hch.1] at e; simp at e
    · rw [hch.1] at e
      simp at e
      subst e
      exact ⟨fun _ => ih l2 (Xs ++ [l]) acc m lasts sym first o' (by rw [hlex]; simp) hch.2 ho' hm hS hF, fun a => absurd a (by decide)⟩
theorem lex_cons (n : Nat) (hn : n ≤ 6) : ∃ L, lex n = List.range n :: L := by
  have h := lex_head n hn
  cases e : lex n with
  | nil => rw [e] at h; simp at h
  | cons l L => rw [e] at h; simp at h; subst h; exact ⟨L, rfl⟩
theorem f_laysForm {n D : Nat} {B : Nat → Nat} {dark nodes : Int32} {by' : Nat → Int32} (hn : n ≤ 6) (h1 : 1 ≤ n) (hG : RG n D B dark nodes by') {fm la sy : Int32} {fo od : Nat → Int32} {post : Int32 → Int32 → Int32 → (Nat → Int32) → (Nat → Int32) → Prop} (K : ∀ lasts sym first order, LFS n (ags n D B) lasts sym first → post (nI (frm n D B)) lasts sym first order) : F_X12_laysForm dark nodes by' fm la sy fo od post := by
  unfold F_X12_laysForm
  have hG2 := hG.2.1
  subst hG2
  refine f_beginsOrders hn (fun o' ho' => ?_)
  obtain ⟨L, hL⟩ := lex_cons n hn
  refine ⟨L.length + 1, ?_⟩
  exact lf_10 hn h1 hG K L (List.range n) [] [] 2147483647 la sy fo o' (by rw [hL]; rfl) (by rw [← hL]; exact chn_lex n hn) ho' (Nat.le_refl _) (sm_nil _ _) (fun h => absurd rfl h)
theorem f_formNow {n D : Nat} {B : Nat → Nat} {dark nodes : Int32} {by' : Nat → Int32} (hn : n ≤ 6) (h1 : 1 ≤ n) (hG : RG n D B dark nodes by') {fm la sy : Int32} {fo od : Nat → Int32} {post : Int32 → Int32 → Int32 → Int32 → (Nat → Int32) → (Nat → Int32) → Prop} (K : ∀ lasts sym first order, LFS n (ags n D B) lasts sym first → post (nI (frm n D B)) (nI (frm n D B)) lasts sym first order) : F_X12_formNow dark nodes by' fm la sy fo od post := by
  unfold F_X12_formNow
  exact f_laysForm hn h1 hG K
theorem ags_ne (n D : Nat) (B : Nat → Nat) : ags n D B ≠ [] := by
  rcases frm_sm n D B with ⟨h, _⟩ | ⟨_, h, _⟩
  · exact absurd h (lex_ne n)
  · exact h
/-! the net of a code, as the reference takes it -/
def Tied (n c a b : Nat) (by' : Nat → Int32) : Prop := ∀ v, v < n → by' v = nI (maskOf (es n c a b v) n)
theorem f_holds {a k : Nat} (ha : a < 2 ^ 31) (hk : k < 32) {post : Int32 → Prop} (K : post (nI (a.testBit k).toNat)) : F_X12_holds (nI a) (nI k) post := by
  unfold F_X12_holds F_X12_holds_14
  have h := ni_b1 ha hk
  refine ⟨fun g => ⟨by decide, ?_⟩, fun g => ⟨by decide, ?_⟩⟩
  · have : a.testBit k = false := by
      cases e : a.testBit k with
      | false => rfl
      | true => exact absurd (h.mpr e) g
    rw [this] at K; exact K
  · rw [h.mp g] at K; exact K
theorem f_ties {by' : Nat → Int32} {v u : Nat} (hv : v < 6) (hu : u < 6) {post : (Nat → Int32) → Prop} (h : post (upd (upd by' v (by' v ||| nI (2 ^ u))) u (upd by' v (by' v ||| nI (2 ^ u)) u ||| nI (2 ^ v)))) : F_X12_ties by' (nI v) (nI u) post := by
  unfold F_X12_ties
  have gv := vp_in_nI (n := v) (N := 6) (by omega) (by decide)
  have gu := vp_in_nI (n := u) (N := 6) (by omega) (by decide)
  refine ⟨gv, gv, gu, gu, ?_⟩
  rw [nI_clamp (by omega), nI_clamp (by omega), ni_1shl (by omega), ni_1shl (by omega)]
  exact h
theorem tied_congr {n c a b a2 b2 : Nat} {by' : Nat → Int32} (h : Tied n c a b by') (e : ∀ v u, v < n → u < n → es n c a b v u = es n c a2 b2 v u) : Tied n c a2 b2 by' := by
  intro v hv
  rw [h v hv, mask_congr (fun i hi => e v i hv hi)]
theorem tied_join {n c a b : Nat} {by' : Nat → Int32} (ha : a < n) (hb : b < a) (h : Tied n c a b by') : (egb n c a b = false → Tied n c a (b + 1) by') ∧ (egb n c a b = true → Tied n c a (b + 1) (upd (upd by' a (by' a ||| nI (2 ^ b))) b (upd by' a (by' a ||| nI (2 ^ b)) b ||| nI (2 ^ a)))) := by
  refine ⟨fun e => tied_congr h (fun v u _ _ => by rw [es_step n c a b v u hb, e]; simp), fun e => ?_⟩
  intro v hv
  rw [upd_out (show b ≠ a by omega)]
  by_cases h1 : v = b
  · subst h1
    rw [upd_in, h v hv, ni_or, mask_set (by omega)]
    congr 1
    refine mask_congr (fun u _ => ?_)
    rw [es_step n c a v v u hb, e]
    have : ¬ v = a := by omega
    simp [this]
  · rw [upd_out h1]
    by_cases h2 : v = a
    · subst h2
      rw [upd_in, h v hv, ni_or, mask_set (by omega)]
      congr 1
      refine mask_congr (fun u _ => ?_)
      rw [es_step n c v b v u hb, e]
      simp [h1]
    · rw [upd_out h2, h v hv]
      congr 1
      refine mask_congr (fun u _ => ?_)
      rw [es_step n c a b v u hb]
      simp [h1, h2]
theorem tk_77 {n c a : Nat} (hn : n ≤ 6) (hc : c < 2 ^ 21) (ha : a < n) {post K40 : _} {dk nn : Int32} (K : ∀ by', Tied n c a a by' → K40 (nI n) (nI c) (nI (LN n - LN (a + 1)) + (-1)) (nI a + 1) dk nn by') : ∀ (j b : Nat) (by' : Nat → Int32), b + j = a → Tied n c a b by' → F_X12_takesCode_77 post K40 (j + 1) (nI n) (nI c) (nI (LN n - LN a - 1 - b) + (-1)) (nI a) (nI b) dk nn by'
  | 0, b, by', he, h => by
    have : b = a := by omega
    subst this
    unfold F_X12_takesCode_77
    refine br1 (Int32.le_refl _) ?_
    have := K by' h
    rw [show LN n - LN (b + 1) = LN n - LN b - 1 - b by rw [LN_succ]; omega] at this
    exact this
  | j + 1, b, by', he, h => by
    unfold F_X12_takesCode_77
    have hLk := LN_succ a
    have hLm := LN_mono (show a + 1 ≤ n by omega)
    have hL6 := LN_mono hn
    have h6 : LN 6 = 21 := rfl
    refine br2 (nI_ge (by omega) (by omega)) ?_
    have eb : nI (LN n - LN a - 1 - b) + (-1) = nI (LN n - 2 - LN a - b) := by
      rw [show LN n - LN a - 1 - b = (LN n - 2 - LN a - b) + 1 by omega, ni_dec]
    have eb2 : nI (LN n - 2 - LN a - b) = nI (LN n - LN a - 1 - (b + 1)) := by
      congr 1; omega
    have hd := tied_join ha (show b < a by omega) h
    have ee : egb n c a b = c.testBit (LN n - 2 - LN a - b) := by
      unfold egb
      have h1 : max a b = a := by omega
      have h2 : min a b = b := by omega
      have h3 : a ≠ b := by omega
      simp [h1, h2, h3]
    rw [eb]
    refine f_holds (Nat.lt_of_lt_of_le hc (by decide)) (by omega) ?_
    rw [← ee]
    cases e : egb n c a b with
    | false =>
      refine br1 (show nI 0 = 0 from rfl) ?_
      unfold F_X12_takesCode_100
      rw [nI_1, eb2]
      exact tk_77 hn hc ha K j (b + 1) by' (by omega) (hd.1 e)
    | true =>
      refine br2 (show ¬ nI 1 = 0 by decide) (f_ties (by omega) (by omega) ?_)
      unfold F_X12_takesCode_100
      rw [nI_1, eb2]
      exact tk_77 hn hc ha K j (b + 1) _ (by omega) (hd.2 e)
theorem tk_40 {n c : Nat} (hn : n ≤ 6) (hc : c < 2 ^ 21) {post : Int32 → Int32 → (Nat → Int32) → Prop} (K : ∀ by', Tied n c n 0 by' → post (nI (dkM n c)) (nI n) by') : ∀ (j a : Nat) (by' : Nat → Int32), a + j = n → Tied n c a 0 by' → F_X12_takesCode_40 post (j + 1) (nI n) (nI c) (nI (LN n - LN a) + (-1)) (nI a) (nI (maskOf (dkb n c) a)) (nI n) by'
  | 0, a, by', he, h => by
    have : a = n := by omega
    subst this
    unfold F_X12_takesCode_40
    exact br1 (Int32.le_refl _) (K by' h)
  | j + 1, a, by', he, h => by
    unfold F_X12_takesCode_40
    have hLk := LN_succ a
    have hLm := LN_mono (show a + 1 ≤ n by omega)
    have hL6 := LN_mono hn
    have h6 : LN 6 = 21 := rfl
    have eb : nI (LN n - LN a) + (-1) = nI (LN n - 1 - LN a) := by
      rw [show LN n - LN a = (LN n - 1 - LN a) + 1 by omega, ni_dec]
    have eb2 : nI (LN n - 1 - LN a) = nI (LN n - LN a - 1 - 0) := by
      congr 1; omega
    have r67 : F_X12_takesCode_67 post (F_X12_takesCode_40 post (j + 1)) (nI n) (nI c) (nI (LN n - 1 - LN a)) (nI a) (nI (maskOf (dkb n c) a)) (nI ((dkb n c a).toNat * 2 ^ a)) (nI (maskOf (dkb n c) a)) (nI n) by' := by
      unfold F_X12_takesCode_67
      rw [ni_or, eb2]
      refine ⟨a + 1, tk_77 hn hc (by omega) (fun by' h => ?_) a 0 by' (by omega) h⟩
      rw [nI_1]
      exact tk_40 hn hc K j (a + 1) by' (by omega) (tied_congr h (fun v u _ _ => es_row n c a v u))
    refine br2 (nI_ge (by omega) (by omega)) ?_
    rw [eb]
    refine f_holds (Nat.lt_of_lt_of_le hc (by decide)) (by omega) ?_
    have ed : c.testBit (LN n - 1 - LN a) = dkb n c a := rfl
    rw [ed]
    cases e : dkb n c a with
    | false =>
      rw [e] at r67
      simp only [Bool.toNat_false, Nat.zero_mul] at r67
      exact br1 (show nI 0 = 0 from rfl) r67
    | true =>
      rw [e] at r67
      simp only [Bool.toNat_true, Nat.one_mul] at r67
      refine br2 (show ¬ nI 1 = 0 by decide) ?_
      rw [ni_1shl (by omega)]
      exact r67
theorem f_lengthOf {n : Nat} (hn : n < 1000) {post : Int32 → Prop} (h : post (nI (LN n))) : F_X12_lengthOf (nI n) post := f_bits hn h
theorem f_takesCode {n c : Nat} (hn : n ≤ 6) (hc : c < 2 ^ LN n) {dk nn : Int32} {by0 : Nat → Int32} {post : Int32 → Int32 → (Nat → Int32) → Prop} (K : ∀ dark nodes by', RG n (dkM n c) (byM n c) dark nodes by' → post dark nodes by') : F_X12_takesCode dk nn by0 (nI n) (nI c) post := by
  unfold F_X12_takesCode
  refine ⟨n + 1, ?_⟩
  have hL6 := LN_mono hn
  have h6 : LN 6 = 21 := rfl
  have hc21 : c < 2 ^ 21 := Nat.lt_of_lt_of_le hc (Nat.pow_le_pow_right (show 0 < 2 by decide) (show LN n ≤ 21 by omega))
  have pn : 2 ^ n ≤ 2 ^ 6 := Nat.pow_le_pow_right (by decide) hn
  have main : ∀ j a (by' : Nat → Int32), a + j = n → (∀ v, v < a → by' v = 0) → F_X12_takesCode_12 post (j + 1) (nI n) (nI c) (nI a) 0 (nI n) by' := by
    intro j
    induction j with
    | zero =>
      intro a by' ha h
      have : a = n := by omega
      subst this
      unfold F_X12_takesCode_12
      refine br1 (Int32.le_refl _) (f_lengthOf (by omega) ⟨a + 1, ?_⟩)
      have e : nI (LN a) - 1 = nI (LN a - LN 0) + (-1) := by
        rw [Int32.sub_eq_add_neg]; rfl
      rw [e]
      refine tk_40 hn hc21 ?_ a 0 by' (by omega) ?_
      · intro by' h
        refine K _ _ _ ⟨rfl, rfl, ?_, ?_⟩
        · have := mask_lt (dkb a c) a
          unfold dkM; omega
        · intro v hv
          have hb : byM a c v < 2 ^ 31 := by have := byM_lt a c v; omega
          refine ⟨?_, hb⟩
          rw [h v hv, mask_congr (fun i hi => es_full a c a v i hv hi)]
          rfl
      · intro v hv
        have z1 : maskOf (es a c 0 0 v) a = 0 := by
          apply Nat.eq_of_testBit_eq; intro i; rw [mask_tb]; unfold es; simp
        rw [z1]
        exact h v hv
    | succ j ih =>
      intro a by' ha h
      unfold F_X12_takesCode_12
      refine br2 (nI_ge (by omega) (by omega)) ⟨vp_in_nI (by omega) (by decide), ?_⟩
      rw [nI_clamp (by omega), nI_1]
      refine ih (a + 1) _ (by omega) ?_
      intro v hv
      by_cases e : v = a
      · subst e; exact upd_in
      · rw [upd_out e]; exact h v (by omega)
  exact main n 0 by0 (by omega) (fun v h => absurd h (Nat.not_lt_zero _))
