theorem lk_body {n D : Nat} {B : Nat → Nat} {dark nodes : Int32} {by' : Nat → Int32} (hn : n ≤ 6) (hG : RG n D B dark nodes by') {p : Nat} (hp : p < n) {post : Int32 → Int32 → Int32 → Int32 → (Nat → Int32) → (Nat → Int32) → Prop} {la sy : Int32} {first o : Nat → Int32} {l : List Nat} {Xs : List (List Nat)} {f : Nat} (ho : OrdA o l n) (step : F_X12_likesOf_50 dark nodes by' post (F_X12_likesOf_28 dark nodes by' post f) (nI p) (nI (lkF ((Xs ++ [l]).filter (fun l => cod D B l == frm n D B)) p)) (nI (frm n D B)) la sy first o) : F_X12_likesOf_28 dark nodes by' post (f + 1) (nI p) (nI (lkF (Xs.filter (fun l => cod D B l == frm n D B)) p)) (nI (frm n D B)) la sy first o := by
  unfold F_X12_likesOf_28
  have hc := cod_lt21 (D := D) (B := B) (l := l) hn (by rw [ho.1]; exact Nat.le_refl _)
  have hf : frm n D B < 2 ^ 31 := frm31 hn
  refine f_codeNow hn hG ho ?_
  rw [List.filter_append] at step
  by_cases e : cod D B l = frm n D B
  · refine br4 (by rw [e]) ⟨vp_in_nI (by omega) (by decide), ?_⟩
    have e2 : [l].filter (fun l => cod D B l == frm n D B) = [l] := by simp [e]
    rw [e2] at step
    have hl := (ho.2 p hp).2
    rw [nI_clamp (by omega), (ho.2 p hp).1, ni_1shl (by omega), ni_or]
    have e3 : lkF (Xs.filter (fun l => cod D B l == frm n D B) ++ [l]) p = lkF (Xs.filter (fun l => cod D B l == frm n D B)) p ||| 2 ^ l.getD p 0 := by simp [lkF, List.foldl_append]
    rw [e3] at step
    exact step
  · refine br3 (fun g => e (ni_inj (by omega) hf g)) ?_
    have e2 : [l].filter (fun l => cod D B l == frm n D B) = [] := by simp [e]
    rw [e2, List.append_nil] at step
    exact step
theorem lk_28 {n D : Nat} {B : Nat → Nat} {dark nodes : Int32} {by' : Nat → Int32} (hn : n ≤ 6) (h1 : 1 ≤ n) (hG : RG n D B dark nodes by') {p : Nat} (hp : p < n) {post : Int32 → Int32 → Int32 → Int32 → (Nat → Int32) → (Nat → Int32) → Prop} {la sy : Int32} {first : Nat → Int32} (K : ∀ order, post (nI (lkF (ags n D B) p)) (nI (frm n D B)) la sy first order) : ∀ (L : List (List Nat)) (l : List Nat) (Xs : List (List Nat)) (o : Nat → Int32), lex n = Xs ++ l :: L → chn n (l :: L) = true → OrdA o l n → F_X12_likesOf_28 dark nodes by' post (L.length + 1) (nI p) (nI (lkF (Xs.filter (fun l => cod D B l == frm n D B)) p)) (nI (frm n D B)) la sy first o := by
  intro L
  induction L with
  | nil =>
    intro l Xs o hlex hch ho
    refine lk_body hn hG hp ho ?_
    unfold F_X12_likesOf_50
    rw [← hlex, hG.2.1]
    refine f_nextOrder hn h1 ho (fun _ => ?_) (fun l' o' e _ => ?_)
    · exact ⟨fun a => absurd rfl a, fun _ => K _⟩
    · simp [chn] at hch
      rw [hch] at e
      simp at e
  | cons l2 L ih =>
    intro l Xs o hlex hch ho
    refine lk_body hn hG hp ho ?_
    unfold F_X12_likesOf_50
    have hG2 := hG.2.1
    subst hG2
    simp only [chn, Bool.and_eq_true, beq_iff_eq] at hch
    refine f_nextOrder hn h1 ho (fun e => ?_) (fun l' o' e ho' => ?_)
    · rw [hch.1] at e; simp at e
    · rw [hch.1] at e
      simp at e
      subst e
      exact ⟨fun _ => ih l2 (Xs ++ [l]) o' (by rw [hlex]; simp) hch.2 ho', fun a => absurd a (by decide)⟩
theorem f_likesOf {n D v : Nat} {B : Nat → Nat} {dark nodes : Int32} {by' : Nat → Int32} (hn : n ≤ 6) (h1 : 1 ≤ n) (hv : v < n) (hG : RG n D B dark nodes by') {fm la sy : Int32} {fo od : Nat → Int32} {post : Int32 → Int32 → Int32 → Int32 → (Nat → Int32) → (Nat → Int32) → Prop} (K : ∀ f l s o1 o2, post (nI (lkF (ags n D B) (posF ((ags n D B).headD []) v))) f l s o1 o2) : F_X12_likesOf dark nodes by' fm la sy fo od (nI v) post := by
  unfold F_X12_likesOf
  refine f_laysForm hn h1 hG (fun lasts sym first order hF => ?_)
  obtain ⟨_, _, hO⟩ := hF (ags_ne _ _ _)
  have hm : (ags n D B).headD [] ∈ ags n D B := by
    cases e : ags n D B with
    | nil => exact absurd e (ags_ne _ _ _)
    | cons a b => simp
  generalize (ags n D B).headD [] = h at hO hm K
  have hlx := (List.mem_filter.mp hm).1
  obtain ⟨p1, p2⟩ := find_at hn hlx hv
  have hp : posF h v = h.idxOf v := rfl
  rw [hp] at K
  refine ⟨h.idxOf v + 1, ?_⟩
  have main : ∀ j i, i + j = h.idxOf v → F_X12_likesOf_6 dark nodes by' post (j + 1) (nI v) (nI i) (nI (frm n D B)) lasts sym first order := by
    intro j
    induction j with
    | zero =>
      intro i hi
      have : i = h.idxOf v := by omega
      subst this
      unfold F_X12_likesOf_6
      refine ⟨vp_in_nI (by omega) (by decide), ?_⟩
      rw [nI_clamp (by omega), (hO.2 _ p1).1, p2]
      refine br1 rfl ?_
      rw [hG.2.1]
      refine f_beginsOrders hn (fun o' ho' => ?_)
      obtain ⟨L, hL⟩ := lex_cons n hn
      refine ⟨L.length + 1, ?_⟩
      have g := lk_28 (post := post) (la := lasts) (sy := sym) (first := first) hn h1 hG p1 (K _ _ _ _) L (List.range n) [] o' (by rw [hL]; rfl) (by rw [← hL]; exact chn_lex n hn) ho'
      rw [hG.2.1] at g
      exact g
    | succ j ih =>
      intro i hi
      unfold F_X12_likesOf_6
      refine ⟨vp_in_nI (by omega) (by decide), ?_⟩
      rw [nI_clamp (by omega), (hO.2 i (by omega)).1, nI_1]
      refine br2 (fun g => ?_) (ih (i + 1) (by omega))
      have hb := (hO.2 i (by omega)).2
      have e := ni_inj (by omega) (by omega) g
      have hlt : i < h.idxOf v := by omega
      have := List.not_of_lt_findIdx hlt
      have hil : i < h.length := by rw [hO.1]; omega
      rw [List.getD_eq_getElem?_getD, List.getElem?_eq_getElem hil] at e
      simp at e
      simp [e] at this
  exact main _ 0 (by omega)
