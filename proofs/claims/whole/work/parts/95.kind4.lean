/-! the reference reads a line -/
theorem m_readLine {Bt : Nat → Nat} {N : Nat} {tape w : Nat → Int32} (hM : TpM Bt N tape) {p : Nat} (hp : p ≤ N) {sz : Nat} {dk : Bool} {mo : Option Nat} {fr : Nat} {ev : Bool} {fo : Bool} {ul : Bool} {ps : List (Nat × Nat)} {ej : Bool} {ed : Option (Nat × Nat)} {le : Option Nat} {rl : Nat} {el : Nat} (hK : WK sz dk mo fr ev fo ul ps ej ed le rl el w) {pr : Int32} {post : Int32 → Int32 → Int32 → Int32 → (Nat → Int32) → Prop}
    (Kok : ∀ mo' fr' ev' fo' ul' ps' ej' ed' le' rl' el' p', rdLine Bt N dk (mo, fr, ev, fo, ul, ps, ej, ed, le, rl, el) p = .ok ((mo', fr', ev', fo', ul', ps', ej', ed', le', rl', el'), p') → p' ≤ N → ∀ bg pr w', WK sz dk mo' fr' ev' fo' ul' ps' ej' ed' le' rl' el' w' → post 1 bg pr (nI p') w')
    (Kerr : ∀ e, rdLine Bt N dk (mo, fr, ev, fo, ul, ps, ej, ed, le, rl, el) p = .error e → ∀ pr pos w', post 0 (nI e) pr pos w') : F_X12_readLine (nI N) tape (nI (skB Bt N p)) pr (nI (wdE Bt N p)) w post := by
  have hw := wd_le (Bt := Bt) hp
  have hn := nx_le (Bt := Bt) hw
  have h16 : w 16 = nI rl := hK.2.2.2.2.2.2.2.2.2.2.2.2.1
  have h1 := WK_16 hK
  unfold F_X12_readLine F_X12_readLine_60 F_X12_readLine_61 F_X12_readLine_127 F_X12_readLine_128 F_X12_readLine_183 F_X12_readLine_195
  simp only [c_0, c_1, c_2, c_3, c_4, c_5, c_6, c_7, c_8, c_9, c_10, c_11, c_12, c_13, c_14, c_15, c_16, c_17]
  rw [h16, nI_1]
  generalize upd w 16 (nI (rl + 1)) = w1 at *
  refine m_wd hM hp 2 (by decide) (by decide) (fun w2 => ?_) (fun w2 => ?_)
  · exact br2 (by decide) (m_readEnd hM hw hK (fun ej' ed' le' p' hr hp' bg w' hK' => ⟨by decide, Kok mo fr ev fo ul ps ej' ed' le' rl (el + 1) p' (by simp only [rdLine, w2, hr, if_true, if_false, Bool.false_eq_true]) hp' _ _ _ hK'⟩) (fun e hr pos w' => ⟨by decide, Kerr e (by simp only [rdLine, w2, hr, if_true, if_false, Bool.false_eq_true]) _ _ _⟩))
  refine br1 rfl ⟨v30 (j := 16) (by decide), v30 (j := 16) (by decide), m_wd hM hp 8 (by decide) (by decide) (fun w8 => ?_) (fun w8 => ?_)⟩
  · have w7 : isW Bt N 7 p = false := isW_no w8 (by decide)
    have h2 : w1 2 = oI mo := h1.2.2.2.1
    refine br2 (by decide) ⟨v30 (j := 2) (by decide), ?_⟩
    rw [h2]
    cases mo with
    | none => exact br4 rfl (m_readTo hM (j := 2) (lo := 0) (hi := 5) hw (by decide) (by decide) (by decide) (fun v en _ gv => br2 (by decide) ⟨by decide, Kok (some v) fr ev fo ul ps ej ed le (rl + 1) el _ (by simp only [rdLine, rdRule, w2, w7, w8, en, Option.isSome_none, if_true, if_false, Bool.false_eq_true]) hn _ _ _ (WK_2 (by omega) h1)⟩) (fun en pos w' => br1 rfl ⟨by decide, Kerr _ (by simp only [rdLine, rdRule, w2, w7, w8, en, Option.isSome_none, if_true, if_false, Bool.false_eq_true]) _ _ _⟩))
    | some v =>
      have hv := h1.1.2.1 v rfl
      exact br3 (fun g => (nm1 (by omega) g).elim) ⟨by decide, Kerr _ (by simp only [rdLine, rdRule, w2, w7, w8, Option.isSome_some, if_true, if_false, Bool.false_eq_true]) _ _ _⟩
  refine br1 rfl (m_wd hM hp 10 (by decide) (by decide) (fun w10 => ?_) (fun w10 => ?_))
  · have w7 : isW Bt N 7 p = false := isW_no w10 (by decide)
    have w9 : isW Bt N 9 p = false := isW_no w10 (by decide)
    exact br2 (by decide) (m_once (j := 4) (by decide) h1.2.2.2.2.2.1 (fun h => ⟨by decide, Kok mo fr true fo ul ps ej ed le (rl + 1) el _ (by simp only [rdLine, rdRule, w2, w7, w8, w9, w10, h, if_true, if_false, Bool.false_eq_true]) hw _ _ _ (WK_4 h1)⟩) (fun h => ⟨by decide, Kerr _ (by simp only [rdLine, rdRule, w2, w7, w8, w9, w10, h, if_true, if_false, Bool.false_eq_true]) _ _ _⟩))
  refine br1 rfl (m_wd hM hp 11 (by decide) (by decide) (fun w11 => ?_) (fun w11 => ?_))
  · have w7 : isW Bt N 7 p = false := isW_no w11 (by decide)
    have w9 : isW Bt N 9 p = false := isW_no w11 (by decide)
    exact br2 (by decide) (m_once (j := 5) (by decide) h1.2.2.2.2.2.2.1 (fun h => ⟨by decide, Kok mo fr ev true ul ps ej ed le (rl + 1) el _ (by simp only [rdLine, rdRule, w2, w7, w8, w9, w10, w11, h, if_true, if_false, Bool.false_eq_true]) hw _ _ _ (WK_5 h1)⟩) (fun h => ⟨by decide, Kerr _ (by simp only [rdLine, rdRule, w2, w7, w8, w9, w10, w11, h, if_true, if_false, Bool.false_eq_true]) _ _ _⟩))
  refine br1 rfl (m_wd hM hp 12 (by decide) (by decide) (fun w12 => ?_) (fun w12 => ?_))
  · have w7 : isW Bt N 7 p = false := isW_no w12 (by decide)
    have w9 : isW Bt N 9 p = false := isW_no w12 (by decide)
    have hd : w1 1 = nI dk.toNat := h1.2.2.1
    refine br2 (by decide) ⟨v30 (j := 1) (by decide), ?_⟩
    rw [hd]
    cases dk with
    | false => exact br3 (by decide) ⟨by decide, Kerr _ (by simp only [rdLine, rdRule, w2, w7, w8, w9, w10, w11, w12, if_true, if_false, Bool.false_eq_true]) _ _ _⟩
    | true => exact br4 rfl (m_once (j := 6) (by decide) h1.2.2.2.2.2.2.2.1 (fun h => br2 (by decide) ⟨by decide, Kok mo fr ev fo true ps ej ed le (rl + 1) el _ (by simp only [rdLine, rdRule, w2, w7, w8, w9, w10, w11, w12, h, if_true, if_false, Bool.false_eq_true]) hw _ _ _ (WK_6 h1)⟩) (fun h => br1 rfl ⟨by decide, Kerr _ (by simp only [rdLine, rdRule, w2, w7, w8, w9, w10, w11, w12, h, if_true, if_false, Bool.false_eq_true]) _ _ _⟩))
  refine br1 rfl (m_wd hM hp 7 (by decide) (by decide) (fun w7 => ?_) (fun w7 => ?_))
  · exact br2 (by decide) (m_readWithout hM hp h1 (fun ps' p' hr hp' bg pr w' hK' => ⟨by decide, Kok mo fr ev fo ul ps' ej ed le (rl + 1) el p' (by simp only [rdLine, w2, w7, hr, if_true, if_false, Bool.false_eq_true]) hp' _ _ _ hK'⟩) (fun e hr pr pos w' => ⟨by decide, Kerr e (by simp only [rdLine, w2, w7, hr, if_true, if_false, Bool.false_eq_true]) _ _ _⟩))
  refine br1 rfl (m_wd hM hp 9 (by decide) (by decide) (fun w9 => ?_) (fun w9 => ?_))
  · have h3 : w1 3 = nI fr := h1.2.2.2.2.1
    refine br3 (by decide) (m_num hM (lo := 3) (hi := 6) hw (by decide) (by decide) (fun v en g1 g2 => ⟨v30 (j := 3) (by decide), ?_⟩) (fun en pos => ⟨v30 (j := 3) (by decide), ?_⟩))
    · refine br3 (fun g => (nm1 (by omega) g).elim) ⟨v30 (j := 3) (by decide), br2 (fun g => (nm1 (by omega) g).elim) ⟨by decide, ?_⟩⟩
      rw [h3, ni_1shl (by omega), ni_or]
      exact Kok mo (fr ||| 2 ^ v) ev fo ul ps ej ed le (rl + 1) el _ (by simp only [rdLine, rdRule, w2, w7, w8, w9, en, if_true, if_false, Bool.false_eq_true]) hn _ _ _ (WK_3 h1)
    · exact br4 rfl ⟨v30 (j := 3) (by decide), br1 rfl ⟨by decide, Kerr _ (by simp only [rdLine, rdRule, w2, w7, w8, w9, en, if_true, if_false, Bool.false_eq_true]) _ _ _⟩⟩
  · exact br4 rfl ⟨by decide, Kerr _ (by simp only [rdLine, rdRule, w2, w7, w8, w9, w10, w11, w12, if_true, if_false, Bool.false_eq_true]) _ _ _⟩
theorem m_lines {Bt : Nat → Nat} {N : Nat} {tape : Nat → Int32} (hM : TpM Bt N tape) {sz : Nat} {dk : Bool} {post : Int32 → Int32 → Int32 → Int32 → (Nat → Int32) → Prop} : ∀ j x mo fr ev fo ul ps ej ed le rl el p pr bg w, x + j = 14 → p ≤ N → WK sz dk mo fr ev fo ul ps ej ed le rl el w →
    (∀ mo' fr' ev' fo' ul' ps' ej' ed' le' rl' el', rdLs Bt N dk j (mo, fr, ev, fo, ul, ps, ej, ed, le, rl, el) p = .ok (mo', fr', ev', fo', ul', ps', ej', ed', le', rl', el') → ∀ bg pr pos w', WK sz dk mo' fr' ev' fo' ul' ps' ej' ed' le' rl' el' w' → post 1 bg pr pos w') →
    (∀ e, rdLs Bt N dk j (mo, fr, ev, fo, ul, ps, ej, ed, le, rl, el) p = .error e → ∀ pr pos w', post 0 (nI e) pr pos w') → F_X12_readKind_57 (nI N) tape post (j + 1) (nI x) bg pr (nI (skB Bt N p)) w := by
  have h4 := hM.1
  intro j
  induction j with
  | zero =>
    intro x mo fr ev fo ul ps ej ed le rl el p pr bg w hx hp hK Kok Kerr
    have hq := sk_le (Bt := Bt) hp
    have hx : x = 14 := by omega
    subst hx
    unfold F_X12_readKind_57 F_X12_readKind_96
    by_cases h : skB Bt N p = N
    · exact br1 (nI_le (by omega) (by omega)) (Kok mo fr ev fo ul ps ej ed le rl el (by rw [rdLs, if_pos h]) _ _ _ _ hK)
    · refine br2 (nI_ge (by omega) (by omega)) (m_sign hM (c := 59) hq (sk_idem hp) (by decide) (fun s => ?_) (fun s => ?_))
      · have k := Kerr (skB Bt N (skB Bt N p + 1)) (by simp only [rdLs, h, s, if_true, if_false, Bool.false_eq_true])
        exact br3 (by decide) (m_letters hM (sgA_lt s) (br1 rfl ⟨by decide, k _ _ _⟩))
      · exact br4 rfl ⟨by decide, Kerr _ (by simp only [rdLs, h, s, if_true, if_false, Bool.false_eq_true]) _ _ _⟩
  | succ j ih =>
    intro x mo fr ev fo ul ps ej ed le rl el p pr bg w hx hp hK Kok Kerr
    have hq := sk_le (Bt := Bt) hp
    unfold F_X12_readKind_57 F_X12_readKind_96
    by_cases h : skB Bt N p = N
    · exact br1 (nI_le (by omega) (by omega)) (Kok mo fr ev fo ul ps ej ed le rl el (by rw [rdLs, if_pos h]) _ _ _ _ hK)
    · refine br2 (nI_ge (by omega) (by omega)) (m_sign hM (c := 59) hq (sk_idem hp) (by decide) (fun s => ?_) (fun s => ?_))
      · refine br3 (by decide) (m_letters hM (sgA_lt s) (br2 (fun g => absurd (ni_inj (b := 14) (by omega) (by decide) g) (by omega)) ?_))
        refine m_readLine hM (sgA_lt s) hK (fun mo' fr' ev' fo' ul' ps' ej' ed' le' rl' el' p' hr hp' bg pr w' hK' => ?_) (fun e hr pr pos w' => br4 rfl ⟨by decide, Kerr e (by simp only [rdLs, h, s, hr, if_true, if_false, Bool.false_eq_true]) _ _ _⟩)
        refine br3 (by decide) (m_blanks hM hp' ?_)
        rw [nI_1]
        refine ih (x + 1) mo' fr' ev' fo' ul' ps' ej' ed' le' rl' el' p' pr _ w' (by omega) hp' hK' (fun mo3 fr3 ev3 fo3 ul3 ps3 ej3 ed3 le3 rl3 el3 hr2 => Kok mo3 fr3 ev3 fo3 ul3 ps3 ej3 ed3 le3 rl3 el3 ?_) (fun e hr2 => Kerr e ?_)
        · simp only [rdLs, h, s, hr, if_true, if_false]; exact hr2
        · simp only [rdLs, h, s, hr, if_true, if_false]; exact hr2
      · exact br4 rfl ⟨by decide, Kerr _ (by simp only [rdLs, h, s, if_true, if_false, Bool.false_eq_true]) _ _ _⟩
theorem ls_dark {Bt : Nat → Nat} {N : Nat} {dk : Bool} {j p : Nat} {s : RS} (hp : p ≤ N) (h : isW Bt N 1 p = true) : rdLs Bt N dk j s p = .error (skB Bt N p) := by
  have hq := sk_le (Bt := Bt) hp
  obtain ⟨l1, l2⟩ := lt_le (Bt := Bt) hq
  unfold isW at h
  rw [Bool.and_eq_true, beq_iff_eq, List.all_eq_true] at h
  obtain ⟨g1, g2⟩ := h
  have z1 : eLen 1 = 4 := rfl
  have g2 := beq_iff_eq.mp (g2 0 (by rw [z1]; decide))
  rw [Nat.add_zero] at g2
  have g2 : Bt (skB Bt N p) = 100 := g2
  have hs : sgA Bt N 59 p = false := by
    unfold sgA inC
    rw [g2]
    simp
  have hne : ¬ skB Bt N p = N := by omega
  cases j with
  | zero => simp only [rdLs, hne, hs, if_false, Bool.false_eq_true]
  | succ j => simp only [rdLs, hne, hs, if_false, Bool.false_eq_true]
theorem fresh_WK {w : Nat → Int32} (h : ∀ i, i < 30 → w i = fresh i) : WK 1 false none 0 false false false [] false none none 0 0 w := by
  have u : ∀ i, i < 30 → ∀ v, fresh i = v → w i = v := fun i hi v e => (h i hi).trans e
  refine ⟨⟨by decide, fun v e => by simp at e, fun v e => by simp at e, fun v e => by simp at e⟩, u 0 (by decide) _ rfl, u 1 (by decide) _ rfl, u 2 (by decide) _ rfl, u 3 (by decide) _ rfl, u 4 (by decide) _ rfl, u 5 (by decide) _ rfl, u 6 (by decide) _ rfl, u 7 (by decide) _ rfl, u 12 (by decide) _ rfl, u 13 (by decide) _ rfl, u 15 (by decide) _ rfl, u 16 (by decide) _ rfl, u 17 (by decide) _ rfl, fun i hi => absurd hi (Nat.not_lt_zero _), fun x e => by simp at e, fun i a b => u i b 0 ?_⟩
  unfold fresh
  rw [if_neg (by omega), if_neg (by omega)]
theorem m_readKind {Bt : Nat → Nat} {N : Nat} {tape w : Nat → Int32} (hM : TpM Bt N tape) (hF : ∀ i, i < 30 → w i = fresh i) {bg pr : Int32} {post : Int32 → Int32 → Int32 → Int32 → (Nat → Int32) → Prop}
    (Kok : ∀ n dk mo fr ev fo ul ps ej ed le rl el, rdKind Bt N = .ok (n, dk, (mo, fr, ev, fo, ul, ps, ej, ed, le, rl, el)) → ∀ bg pr pos w', WK n dk mo fr ev fo ul ps ej ed le rl el w' → post 1 bg pr pos w')
    (Kerr : ∀ e, rdKind Bt N = .error e → ∀ pr pos w', post 0 (nI e) pr pos w') : F_X12_readKind (nI N) tape bg pr 0 w post := by
  have hw := wd_le (Bt := Bt) (Nat.zero_le N)
  have hn := nx_le (Bt := Bt) hw
  have h4 := hM.1
  have h0 := fresh_WK hF
  unfold F_X12_readKind F_X12_readKind_21 F_X12_readKind_51
  simp only [c_0, c_1, c_2, c_3, c_4, c_5, c_6, c_7, c_8, c_9, c_10, c_11, c_12, c_13, c_14, c_15, c_16, c_17]
  refine m_pword hM (p := 0) (Nat.zero_le N) 0 (by decide) (by decide) (fun w0 => ?_) (fun w0 => ?_)
  · refine br2 (by decide) (m_readTo hM (j := 0) (lo := 1) (hi := 6) hw (by decide) (by decide) (by decide) (fun n en g1 g2 => ?_) (fun en pos w' => br4 rfl ⟨by decide, Kerr _ (by simp only [rdKind, w0, en, if_true, if_false, Bool.false_eq_true]) _ _ _⟩))
    have h2 := WK_0 (n := n) h0
    refine br3 (by decide) ⟨v30 (j := 0) (by decide), ?_⟩
    rw [upd_in]
    generalize upd w 0 (nI n) = w1 at *
    by_cases c : n ≤ 5
    · refine br2 (nI_ge (b := 6) (by omega) (by decide)) (m_pword hM hn 1 (by decide) (by decide) (fun w1 => ?_) (fun w1 => ?_))
      · refine br2 (by decide) ⟨v30 (j := 1) (by decide), m_blanks hM (wd_le hn) ⟨15, m_lines hM 14 0 none 0 false false false [] false none none 0 0 _ _ _ _ rfl (wd_le hn) (WK_1 h2) (fun mo fr ev fo ul ps ej ed le rl el hr => Kok n true mo fr ev fo ul ps ej ed le rl el (by simp only [rdKind, w0, en, w1, c, rd0, hr, if_true, if_false, Bool.false_eq_true])) (fun e hr => Kerr e (by simp only [rdKind, w0, en, w1, c, rd0, hr, if_true, if_false, Bool.false_eq_true]))⟩⟩
      · have hq := sk_le (Bt := Bt) hn
        refine br1 rfl (m_blanks hM hq ⟨15, m_lines hM 14 0 none 0 false false false [] false none none 0 0 _ _ _ _ rfl hq h2 (fun mo fr ev fo ul ps ej ed le rl el hr => ?_) (fun e hr => ?_)⟩)
        · rw [rdLs_sk hn] at hr
          exact Kok n false mo fr ev fo ul ps ej ed le rl el (by simp only [rdKind, w0, en, w1, rd0, hr, if_true, if_false, Bool.false_eq_true])
        · rw [rdLs_sk hn] at hr
          exact Kerr e (by simp only [rdKind, w0, en, w1, rd0, hr, if_true, if_false, Bool.false_eq_true])
    · refine br1 (nI_le (a := 6) (by omega) (by omega)) (m_blanks hM hn ⟨15, m_lines hM 14 0 none 0 false false false [] false none none 0 0 _ _ _ _ rfl hn h2 (fun mo fr ev fo ul ps ej ed le rl el hr => ?_) (fun e hr => ?_)⟩)
      · cases w1 : isW Bt N 1 (nxP Bt N (wdE Bt N 0)) with
        | true =>
          rw [ls_dark hn w1] at hr
          simp at hr
        | false => exact Kok n false mo fr ev fo ul ps ej ed le rl el (by simp only [rdKind, w0, en, w1, rd0, hr, if_true, if_false, Bool.false_eq_true])
      · cases w1 : isW Bt N 1 (nxP Bt N (wdE Bt N 0)) with
        | true =>
          rw [ls_dark hn w1] at hr
          have hr := Except.error.inj hr
          subst hr
          exact Kerr _ (by simp only [rdKind, w0, en, w1, c, if_true, if_false, Bool.false_eq_true])
        | false => exact Kerr e (by simp only [rdKind, w0, en, w1, rd0, hr, if_true, if_false, Bool.false_eq_true])
  · exact br1 rfl ⟨by decide, Kerr _ (by simp only [rdKind, w0, if_true, if_false, Bool.false_eq_true]) _ _ _⟩
