/-! the least code of a net, all orders that have it; the class's search for them -/
def frm (n D : Nat) (B : Nat → Nat) : Nat := (lex n).foldl (fun m l => min m (cod D B l)) (2 ^ LN n - 1)
def ags (n D : Nat) (B : Nat → Nat) : List (List Nat) := (lex n).filter (fun l => cod D B l == frm n D B)
theorem fold_min (f : List Nat → Nat) : ∀ (Xs : List (List Nat)) (m : Nat), (∀ x ∈ Xs, Xs.foldl (fun m l => min m (f l)) m ≤ f x) ∧ Xs.foldl (fun m l => min m (f l)) m ≤ m ∧ (Xs.foldl (fun m l => min m (f l)) m = m ∨ ∃ x ∈ Xs, f x = Xs.foldl (fun m l => min m (f l)) m)
  | [], m => ⟨by simp, Nat.le_refl _, Or.inl rfl⟩
  | x :: Xs, m => by
    obtain ⟨h1, h2, h3⟩ := fold_min f Xs (min m (f x))
    simp only [List.foldl_cons]
    refine ⟨fun y hy => ?_, by omega, ?_⟩
    · rcases List.mem_cons.mp hy with rfl | hy
      · omega
      · exact h1 y hy
    · rcases h3 with h3 | ⟨y, hy, h3⟩
      · by_cases e : m ≤ f x
        · left; omega
        · right; exact ⟨x, by simp, by omega⟩
      · exact Or.inr ⟨y, by simp [hy], h3⟩
theorem lex_ne (n : Nat) : lex n ≠ [] := by
  have u0 : ∀ n, unc 0 n = n := by
    intro n
    induction n with
    | zero => rfl
    | succ n ih => rw [unc, ih]; simp
  exact lv_ne n [] 0 (by rw [u0]; exact Nat.le_refl _)
theorem unc_0 : ∀ n, unc 0 n = n
  | 0 => rfl
  | n + 1 => by rw [unc, unc_0 n]; simp
theorem lex_mem_len {n : Nat} {l : List Nat} (h : l ∈ lex n) : l.length = n := by have := lv_len _ _ _ _ h; simpa using this
theorem frm_sm (n D : Nat) (B : Nat → Nat) : IsSm (cod D B) (2 ^ LN n - 1) (lex n) (frm n D B) (ags n D B) := by
  obtain ⟨h1, h2, h3⟩ := fold_min (cod D B) (lex n) (2 ^ LN n - 1)
  refine Or.inr ⟨lex_ne n, ?_, rfl, h1⟩
  have : ∃ x ∈ lex n, cod D B x = frm n D B := by
    rcases h3 with h3 | h3
    · obtain ⟨x, hx⟩ := List.exists_mem_of_ne_nil _ (lex_ne n)
      have a := h1 x hx
      have b := cod_lt D B x
      rw [lex_mem_len hx] at b
      refine ⟨x, hx, ?_⟩
      unfold frm
      omega
    · exact h3
  obtain ⟨x, hx, e⟩ := this
  exact List.ne_nil_of_mem (a := x) (List.mem_filter.mpr ⟨hx, by simp [e]⟩)
theorem frm_le {n D : Nat} {B : Nat → Nat} {l : List Nat} (h : l ∈ lex n) : frm n D B ≤ cod D B l := (fold_min (cod D B) (lex n) (2 ^ LN n - 1)).1 l h
theorem frm_lt (n D : Nat) (B : Nat → Nat) : frm n D B < 2 ^ LN n := by
  have h := (fold_min (cod D B) (lex n) (2 ^ LN n - 1)).2.1
  have p : 0 < 2 ^ LN n := Nat.pow_pos (by decide)
  unfold frm
  omega
theorem lex_len : ∀ n, n ≤ 6 → (lex n).length < 1000 := by decide +kernel
theorem byM_tb (n c v u : Nat) : (byM n c v).testBit u = (decide (u < n) && egb n c v u) := mask_tb _ _ _
theorem dkM_tb (n c v : Nat) : (dkM n c).testBit v = (decide (v < n) && dkb n c v) := mask_tb _ _ _
theorem byM_lt (n c v : Nat) : byM n c v < 2 ^ n := mask_lt _ _
theorem byM_sym (n c v j : Nat) (hv : v < n) (hj : j < n) : (byM n c v).testBit j = (byM n c j).testBit v := by
  rw [byM_tb, byM_tb, egb_comm]; simp [hv, hj]
/-- the fields of a Forms behind a search over the net of a code -/
def FmOk (n c : Nat) (st : Int32) (ab : Int32) (fo : Int64) (is le nn : Int32) (od se : Int64) (sl sy : Int32) (cl : Int64) (dk sn : Int32) (fans : Nat → Int64) (near : Nat → Int32) : Prop :=
  ab = nI (LN n) ∧ is = st ∧ le = nI (frm n (dkM n c) (byM n c)) ∧ nn = nI n ∧ ordOk od ∧ FS n st (frm n (dkM n c) (byM n c)) (ags n (dkM n c) (byM n c)) fo se sl sy ∧ Sk n c cl dk sn fans near
theorem f_begin {n c : Nat} (hn : n ≤ 6) (hc : c < 2 ^ LN n) {ab ib is it le nn sy : Int32} {cl : Int64} {dk sn : Int32} {fans : Nat → Int64} {near : Nat → Int32} {post} (K : ∀ cl dk fans near, Sk n c cl dk (nI n) fans near → post (nI (LN n)) 0 0 0 (nI (2 ^ LN n - 1)) (nI n) 0 cl dk (nI n) fans near) : F_X2_begin ab ib is it le nn sy cl dk sn fans near (nI n) (nI c) post := by
  unfold F_X2_begin
  have hL6 := LN_mono hn
  have h6 : LN 6 = 21 := rfl
  refine f_draw hn (Nat.lt_of_lt_of_le hc (Nat.pow_le_pow_right (by decide) (by omega))) ?_
  intro cl dk sn fans near hS
  obtain ⟨h1, h2, h3, h4⟩ := hS
  subst h3
  refine f_bits (by omega) ⟨by decide, by decide, by decide, ?_⟩
  have e : ((1 : Int32) <<< (nI (LN n) &&& 31)) - 1 = nI (2 ^ LN n - 1) := by
    have : (1 : Int32) <<< (nI (LN n) &&& 31) = nI (2 ^ LN n) := by
      show nI 1 <<< _ = _
      rw [ni_shl 1 (show LN n < 32 by omega), Nat.one_mul]
    rw [this]
    show _ - nI 1 = _
    rw [ni_sub (Nat.pow_pos (by decide))]
  rw [e]
  exact K cl dk fans near ⟨h1, h2, rfl, h4⟩
theorem sk_lanes {n c : Nat} {cl : Int64} {dk sn : Int32} {fans : Nat → Int64} {near : Nat → Int32} (h : Sk n c cl dk sn fans near) : cl = lN (lanes n (fun v => blk (dkM n c) (byM n c) v [])) := h.1
theorem f_search {n c : Nat} (hn : n ≤ 6) (st : Int32) {first order seen : Int64} {still sy : Int32} {cl : Int64} {dk sn : Int32} {fans : Nat → Int64} {near : Nat → Int32} {post} (ho : ordOk order) (hS : Sk n c cl dk sn fans near) (hsy : sy = 0)
    (K : ∀ first' order' seen' still' sym', ordOk order' → FS n st (frm n (dkM n c) (byM n c)) (ags n (dkM n c) (byM n c)) first' seen' still' sym' → post first' 0 (nI (frm n (dkM n c) (byM n c))) order' seen' still' sym') :
    F_X2_placeNext 10 (nI (LN n)) st 0 (nI n) fans first 0 (nI (2 ^ LN n - 1)) order seen still sy 0 0 0 cl post := by
  have hp : 0 < 2 ^ LN n := Nat.pow_pos (by decide)
  obtain ⟨m, hm, e⟩ := ho
  have h := place_ok (n := n) (D := dkM n c) (B := byM n c) (st := st) (fans := fans) hn (byM_sym n c) (fun v hv => (hS.2.2.2 v hv).2) (byM_lt n c) n 10 (by omega)
  have g := h [] 0 [] [] (2 ^ LN n - 1) first order seen still sy post (by simp) (fun i hi => absurd hi (Nat.not_lt_zero _)) (Nat.pow_pos (by decide)) (by rw [unc_0]; exact Nat.le_refl _) ⟨m, hm, e, fun i hi => absurd hi (Nat.not_lt_zero _)⟩ (sm_nil _ _) ⟨hsy, fun h => absurd rfl h⟩ (by rw [List.length_nil, Nat.zero_add]; exact lex_len n hn) (by omega) (fun _ => Nat.zero_le _)
  rw [sk_lanes hS]
  refine g ?_
  intro first' order' seen' still' sym' m' acc' hS' hF' _ ho'
  obtain ⟨e1, e2⟩ := sm_uni (lex_ne n) hS' (frm_sm n (dkM n c) (byM n c))
  subst e1 e2
  exact K _ _ _ _ _ (ordIs_ok ho') hF'
theorem f_leastOf {n c : Nat} (hn : n ≤ 6) (hc : c < 2 ^ LN n) {ab : Int32} {fo : Int64} {ib is it le nn : Int32} {od se : Int64} {sl sy : Int32} {cl : Int64} {dk sn : Int32} {fans : Nat → Int64} {near : Nat → Int32} (ho : ordOk od) {post : Int32 → Int32 → Int64 → Int32 → Int32 → Int32 → Int32 → Int32 → Int64 → Int64 → Int32 → Int32 → Int64 → Int32 → Int32 → (Nat → Int64) → (Nat → Int32) → Prop}
    (K : ∀ ab fo ib is it le nn od se sl sy cl dk sn fans near, FmOk n c 0 ab fo is le nn od se sl sy cl dk sn fans near → post (nI (frm n (dkM n c) (byM n c))) ab fo ib is it le nn od se sl sy cl dk sn fans near) :
    F_X2_leastOf ab fo ib is it le nn od se sl sy cl dk sn fans near (nI n) (nI c) post := by
  unfold F_X2_leastOf
  refine f_begin hn hc ?_
  intro cl dk fans near hS
  refine f_search hn 0 ho hS rfl ?_
  intro first' order' seen' still' sym' ho' hF'
  exact K _ _ _ _ _ _ _ _ _ _ _ _ _ _ _ _ ⟨rfl, rfl, rfl, rfl, ho', hF', hS⟩
theorem f_study {n c : Nat} (hn : n ≤ 6) (hc : c < 2 ^ LN n) {ab : Int32} {fo : Int64} {ib is it le nn : Int32} {od se : Int64} {sl sy : Int32} {cl : Int64} {dk sn : Int32} {fans : Nat → Int64} {near : Nat → Int32} (ho : ordOk od) {post : Int32 → Int64 → Int32 → Int32 → Int32 → Int32 → Int32 → Int64 → Int64 → Int32 → Int32 → Int64 → Int32 → Int32 → (Nat → Int64) → (Nat → Int32) → Prop}
    (K : ∀ ab fo ib is it le nn od se sl sy cl dk sn fans near, FmOk n c 1 ab fo is le nn od se sl sy cl dk sn fans near → post ab fo ib is it le nn od se sl sy cl dk sn fans near) :
    F_X2_study ab fo ib is it le nn od se sl sy cl dk sn fans near (nI n) (nI c) post := by
  unfold F_X2_study
  refine f_begin hn hc ?_
  intro cl dk fans near hS
  refine f_search hn 1 ho hS rfl ?_
  intro first' order' seen' still' sym' ho' hF'
  exact K _ _ _ _ _ _ _ _ _ _ _ _ _ _ _ _ ⟨rfl, rfl, rfl, rfl, ho', hF', hS⟩
