/-! the line of a pattern -/
theorem x_sign {Bt : Nat → Nat} {N : Nat} {xb : Nat → Int32} (hX : TpX Bt N xb) {p0 p c : Nat} (h0 : p0 ≤ N) (e : skB Bt N p0 = skB Bt N p) (hc : c < 128) {bg : Int32} {post : Int32 → Int32 → Int32 → Prop} (K1 : sgA Bt N c p = true → post 1 (nI (skB Bt N p)) (nI (skB Bt N p + 1))) (K0 : sgA Bt N c p = false → post 0 (nI (skB Bt N p)) (nI (skB Bt N p))) : F_X8_takesSign (nI N) xb bg (nI p0) (nI c) post := by
  have es : sgA Bt N c p0 = sgA Bt N c p := by unfold sgA; rw [e]
  refine x_takesSign hX h0 hc (fun h => ?_) (fun h => ?_)
  · rw [e]; exact K1 (es.symm.trans h)
  · rw [e]; exact K0 (es.symm.trans h)
theorem x_go {Bt : Nat → Nat} {N : Nat} {xb : Nat → Int32} (hX : TpX Bt N xb) {p0 p : Nat} (h0 : p0 ≤ N) (e : skB Bt N p0 = skB Bt N p) {bg : Int32} {post : Int32 → Int32 → Int32 → Prop} (K1 : ¬ skB Bt N p = N → post 1 (nI (skB Bt N p)) (nI (skB Bt N p))) (K0 : skB Bt N p = N → post 0 (nI (skB Bt N p)) (nI (skB Bt N p))) : F_X8_goesOn (nI N) xb bg (nI p0) post := by
  refine x_goesOn hX h0 (fun h => ?_) (fun h => ?_)
  · rw [e] at h ⊢; exact K1 (by omega)
  · rw [e] at h ⊢; exact K0 h
theorem gd_app1 {α : Type} {x d : α} : ∀ (l : List α) (i : Nat), i < l.length → (l ++ [x]).getD i d = l.getD i d
  | [], i, h => absurd h (Nat.not_lt_zero _)
  | a :: l, 0, h => rfl
  | a :: l, i + 1, h => gd_app1 l i (Nat.lt_of_succ_lt_succ h)
theorem gd_app2 {α : Type} {x d : α} : ∀ l : List α, (l ++ [x]).getD l.length d = x
  | [] => rfl
  | a :: l => gd_app2 l
def PsB (ps : List (Nat × Nat)) : Prop := ps.length ≤ 2 ∧ ∀ x ∈ ps, 2 ≤ x.1 ∧ x.1 ≤ 4 ∧ x.2 < 2 ^ (x.1 * (x.1 - 1) / 2)
def PsX (ps : List (Nat × Nat)) (pc pn : Nat → Int32) : Prop := ∀ i, i < ps.length → ∃ c, pc i = nI c ∧ pn i = nI (ps.getD i (0, 0)).1 ∧ CodeIs (ps.getD i (0, 0)).1 0 (ps.getD i (0, 0)).2 c
def rdWo (Bt : Nat → Nat) (N : Nat) (ps : List (Nat × Nat)) (p : Nat) : Except Nat (List (Nat × Nat) × Nat) := if ps.length = 2 then .error (skB Bt N p) else match pNum Bt N 2 4 (wdE Bt N p) with
  | none => .error (skB Bt N (wdE Bt N p))
  | some n => match rdPs Bt N n (nxP Bt N (wdE Bt N p)) with
    | .error e => .error e
    | .ok (P, p') => .ok (ps ++ [(n, P)], p')
theorem x_readPattern {Bt : Nat → Nat} {N : Nat} {xb : Nat → Int32} (hX : TpX Bt N xb) {p : Nat} (hp : p ≤ N) {ps : List (Nat × Nat)} (hB : PsB ps) {pc pn : Nat → Int32} (hps : PsX ps pc pn) {post : Int32 → Int32 → Int32 → Int32 → (Nat → Int32) → (Nat → Int32) → Prop}
    (Kok : ∀ ps' p', rdWo Bt N ps p = .ok (ps', p') → p' ≤ N → PsB ps' → ∀ bg pc' pn', PsX ps' pc' pn' → post 1 bg (nI p') (nI ps'.length) pc' pn')
    (Kerr : ∀ e, rdWo Bt N ps p = .error e → ∀ pos a pc pn, post 0 (nI e) pos a pc pn) : F_X9_readPattern (nI N) xb (nI (skB Bt N p)) (nI (wdE Bt N p)) (nI ps.length) pc pn post := by
  have hw := wd_le (Bt := Bt) hp
  have hn := nx_le (Bt := Bt) hw
  have hl := hB.1
  unfold F_X9_readPattern F_X9_readPattern_42 F_X9_readEdges F_X6_hasRoomForPattern F_X6_hasRoomForPattern_13 F_X6_addPattern F_X6_addPattern_61
  by_cases c : ps.length = 2
  · exact br1 (nI_le (a := 2) (by omega) (by omega)) ⟨by decide, br4 rfl ⟨by decide, Kerr _ (by simp only [rdWo, c, if_true]) _ _ _ _⟩⟩
  · refine br2 (nI_ge (b := 2) (by omega) (by decide)) ⟨by decide, br3 (by decide) (x_num hX (lo := 2) (hi := 4) hw (by decide) (by decide) (fun n en g1 g2 => ?_) (fun en pos => ?_))⟩
    · have add : ∀ P cc p' bg, rdPs Bt N n (nxP Bt N (wdE Bt N p)) = .ok (P, p') → CodeIs n 0 P cc → (nI ps.length < 0 → post 1 bg (nI p') (nI ps.length) pc pn) ∧ (¬ nI ps.length < 0 → ((2 ≤ nI ps.length → post 1 bg (nI p') (nI ps.length) pc pn) ∧ (¬ 2 ≤ nI ps.length → ((2 ≤ nI ps.length → post 1 bg (nI p') (nI ps.length) pc pn) ∧ (¬ 2 ≤ nI ps.length → (vp_in (nI ps.length) 2 ∧ (vp_in (nI ps.length) 2 ∧ post 1 bg (nI p') (nI ps.length + 1) (upd pc (nI ps.length).toNatClampNeg (nI cc)) (upd pn (nI ps.length).toNatClampNeg (nI n))))))))) := by
        intro P cc p' bg hr hc
        have hlt := rdPs_lt (show n ≤ 6 by omega) (show 1 ≤ n by omega) hn hr
        refine br2 (nI_pos (by omega)) (br2 (nI_ge (b := 2) (by omega) (by decide)) (br2 (nI_ge (b := 2) (by omega) (by decide)) ⟨vp_in_nI (by omega) (by decide), vp_in_nI (by omega) (by decide), ?_⟩))
        rw [nI_clamp (by omega), nI_1]
        have h := Kok (ps ++ [(n, P)]) p' (by simp only [rdWo, c, en, hr, if_false]) hlt.2 ⟨by rw [List.length_append, List.length_singleton]; omega, fun x hx => ?_⟩ bg (upd pc ps.length (nI cc)) (upd pn ps.length (nI n)) (fun i hi => ?_)
        · rw [List.length_append, List.length_singleton] at h
          exact h
        · rcases List.mem_append.mp hx with hx | hx
          · exact hB.2 x hx
          · rw [List.mem_singleton.mp hx]
            exact ⟨g1, g2, hlt.1⟩
        · rw [List.length_append, List.length_singleton] at hi
          by_cases e : i = ps.length
          · subst e
            rw [gd_app2]
            exact ⟨cc, upd_in, upd_in, hc⟩
          · rw [gd_app1 _ _ (by omega), upd_out e, upd_out e]
            exact hps i (by omega)
      refine br3 (fun g => (nm1 (by omega) g).elim) (x_sign hX (c := 58) hn rfl (by decide) (fun s => ?_) (fun s => ?_))
      · refine br2 (by decide) ⟨16, x_readEdges hX (n := n) (by omega) (by omega) 16 0 _ 0 _ (by decide) (Nat.pow_pos (by decide)) (sgA_lt s) (code_0 n) (fun P' p' c' hr hc bg => ?_) (fun e hr pos => ?_)⟩
        · have h31 := code_31 (show n ≤ 6 by omega) hc
          exact br3 (fun g => (nm1 (by omega) g).elim) (add P' c' p' bg (by simp only [rdPs, s, if_true]; exact hr) hc)
        · exact br4 rfl ⟨by decide, Kerr e (by simp only [rdWo, rdPs, c, en, s, hr, if_true, if_false]) _ _ _ _⟩
      · exact br1 rfl (br3 (by decide) (add 0 0 _ _ (by simp only [rdPs, s, if_false, Bool.false_eq_true]) (code_0 n)))
    · exact br4 rfl ⟨by decide, Kerr _ (by simp only [rdWo, c, en, if_false]) _ _ _ _⟩
/-! one line -/
abbrev RS : Type := Option Nat × Nat × Bool × Bool × Bool × List (Nat × Nat) × Bool × Option (Nat × Nat) × Option Nat × Nat × Nat
def rdLine (Bt : Nat → Nat) (N : Nat) (dk : Bool) : RS → Nat → Except Nat (RS × Nat)
  | (mo, fr, ev, fo, ul, ps, ej, ed, le, rl, el), p => if isW Bt N 2 p = true then (match rdEnd Bt N ej ed le (wdE Bt N p) with
      | .error e => .error e
      | .ok (ej', ed', le', p') => .ok ((mo, fr, ev, fo, ul, ps, ej', ed', le', rl, el + 1), p'))
    else if isW Bt N 7 p = true then (match rdWo Bt N ps p with
      | .error e => .error e
      | .ok (ps', p') => .ok ((mo, fr, ev, fo, ul, ps', ej, ed, le, rl + 1, el), p'))
    else (match rdRule Bt N dk mo fr ev fo ul p with
      | .error e => .error e
      | .ok (mo', fr', ev', fo', ul', p') => .ok ((mo', fr', ev', fo', ul', ps, ej, ed, le, rl + 1, el), p'))
def RB (mo : Option Nat) (fr : Nat) (ps : List (Nat × Nat)) (ed : Option (Nat × Nat)) (le : Option Nat) : Prop := RuB mo fr ∧ PsB ps ∧ EdB ed le
theorem x_readLine {Bt : Nat → Nat} {N : Nat} {xb : Nat → Int32} (hX : TpX Bt N xb) {p : Nat} (hp : p ≤ N) {dk : Bool} {mo : Option Nat} {fr : Nat} {ev : Bool} {fo : Bool} {ul : Bool} {ps : List (Nat × Nat)} {ej : Bool} {ed : Option (Nat × Nat)} {le : Option Nat} {rl : Nat} {el : Nat} (hB : RB mo fr ps ed le) {pc pn : Nat → Int32} (hps : PsX ps pc pn) {bg : Int32} {post : Int32 → Int32 → Int32 → Int32 → Int32 → Int32 → Int32 → Int32 → Int32 → Int32 → Int32 → Int32 → Int32 → Int32 → (Nat → Int32) → (Nat → Int32) → Prop}
    (Kok : ∀ mo' fr' ev' fo' ul' ps' ej' ed' le' rl' el' p', rdLine Bt N dk (mo, fr, ev, fo, ul, ps, ej, ed, le, rl, el) p = .ok ((mo', fr', ev', fo', ul', ps', ej', ed', le', rl', el'), p') → p' ≤ N → RB mo' fr' ps' ed' le' → rl' + el' = rl + el + 1 → ∀ bg pc' pn', PsX ps' pc' pn' → post 1 bg (nI p') (nI (bcR fr' ev' fo')) (nI el') (nI ej'.toNat) (nI (feR ed')) (nI (le'.getD 0)) (nI (mo'.getD 5)) (nI (meR ed')) (nI ps'.length) (nI rl') (nI ul'.toNat) (nI (wd7 mo'.isSome ev' fo' ul' ej' ed'.isSome le'.isSome)) pc' pn')
    (Kerr : ∀ e, rdLine Bt N dk (mo, fr, ev, fo, ul, ps, ej, ed, le, rl, el) p = .error e → ∀ pos a0 a1 a2 a3 a4 a5 a6 a7 a8 a9 a10 pc pn, post 0 (nI e) pos a0 a1 a2 a3 a4 a5 a6 a7 a8 a9 a10 pc pn) : F_X9_readLine (nI N) xb (nI dk.toNat) bg (nI p) (nI (bcR fr ev fo)) (nI el) (nI ej.toNat) (nI (feR ed)) (nI (le.getD 0)) (nI (mo.getD 5)) (nI (meR ed)) (nI ps.length) (nI rl) (nI ul.toNat) (nI (wd7 mo.isSome ev fo ul ej ed.isSome le.isSome)) pc pn post := by
  obtain ⟨hR, hP, hE⟩ := hB
  have hq := sk_le (Bt := Bt) hp
  have hw := wd_le (Bt := Bt) hp
  unfold F_X9_readLine
  refine x_word hX hp rfl (by decide) (fun w2 => ?_) (fun w2 => ?_)
  · refine br2 (by decide) (x_readEnd hX hw hE (fun ej' ed' le' p' hr hp' hE' bg => ⟨by decide, ?_⟩) (fun e hr pos a b c d f => ⟨by decide, ?_⟩))
    · rw [nI_1]
      exact Kok mo fr ev fo ul ps ej' ed' le' rl (el + 1) p' (by simp only [rdLine, w2, hr, if_true, if_false, Bool.false_eq_true]) hp' ⟨hR, hP, hE'⟩ (by omega) _ _ _ hps
    · exact Kerr e (by simp only [rdLine, w2, hr, if_true, if_false, Bool.false_eq_true]) _ _ _ _ _ _ _ _ _ _ _ _ _ _
  · refine br1 rfl (x_word hX hq (sk_idem hp) (by decide) (fun w7 => ?_) (fun w7 => ?_))
    · refine br2 (by decide) (x_readPattern hX hp hP hps (fun ps' p' hr hp' hP' bg pc' pn' hps' => ⟨by decide, ?_⟩) (fun e hr pos a pc pn => ⟨by decide, ?_⟩))
      · rw [nI_1]
        exact Kok mo fr ev fo ul ps' ej ed le (rl + 1) el p' (by simp only [rdLine, w2, w7, hr, if_true, if_false, Bool.false_eq_true]) hp' ⟨hR, hP', hE⟩ (by omega) _ _ _ hps'
      · exact Kerr e (by simp only [rdLine, w2, w7, hr, if_true, if_false, Bool.false_eq_true]) _ _ _ _ _ _ _ _ _ _ _ _ _ _
    · refine br1 rfl (x_readRule hX hp hq (sk_idem hp) hR (fun mo' fr' ev' fo' ul' p' hr hp' hR' bg => ⟨by decide, ?_⟩) (fun e hr pos a b c d => ⟨by decide, ?_⟩))
      · rw [nI_1]
        exact Kok mo' fr' ev' fo' ul' ps ej ed le (rl + 1) el p' (by simp only [rdLine, w2, w7, hr, if_true, if_false, Bool.false_eq_true]) hp' ⟨hR', hP, hE⟩ (by omega) _ _ _ hps
      · exact Kerr e (by simp only [rdLine, w2, w7, hr, if_true, if_false, Bool.false_eq_true]) _ _ _ _ _ _ _ _ _ _ _ _ _ _
/-! all lines -/
def rdLs (Bt : Nat → Nat) (N : Nat) (dk : Bool) : Nat → RS → Nat → Except Nat RS
  | 0, s, p => if skB Bt N p = N then .ok s else if sgA Bt N 59 p = true then .error (skB Bt N (skB Bt N p + 1)) else .error (skB Bt N p)
  | j + 1, s, p => if skB Bt N p = N then .ok s else if sgA Bt N 59 p = true then (match rdLine Bt N dk s (skB Bt N p + 1) with
      | .error e => .error e
      | .ok (s', p') => rdLs Bt N dk j s' p') else .error (skB Bt N p)
theorem rdLs_sk {Bt : Nat → Nat} {N : Nat} {dk : Bool} {j : Nat} {s : RS} {p : Nat} (hp : p ≤ N) : rdLs Bt N dk j s (skB Bt N p) = rdLs Bt N dk j s p := by
  cases j with
  | zero => rw [rdLs, rdLs, sk_idem hp, sgA_sk hp]
  | succ j => rw [rdLs, rdLs, sk_idem hp, sgA_sk hp]
theorem x_lines {Bt : Nat → Nat} {N : Nat} {xb : Nat → Int32} (hX : TpX Bt N xb) {dk : Bool} {sz : Int32} {post : Int32 → Int32 → Int32 → Int32 → Int32 → Int32 → Int32 → Int32 → Int32 → Int32 → Int32 → Int32 → Int32 → Int32 → Int32 → Int32 → (Nat → Int32) → (Nat → Int32) → Prop} : ∀ j x mo fr ev fo ul ps ej ed le rl el p pc pn bg, x + j = 14 → rl + el = x → p ≤ N → RB mo fr ps ed le → PsX ps pc pn →
    (∀ mo' fr' ev' fo' ul' ps' ej' ed' le' rl' el', rdLs Bt N dk j (mo, fr, ev, fo, ul, ps, ej, ed, le, rl, el) p = .ok (mo', fr', ev', fo', ul', ps', ej', ed', le', rl', el') → RB mo' fr' ps' ed' le' → rl' + el' ≤ 14 → ∀ bg pos pc' pn', PsX ps' pc' pn' → post 1 bg pos (nI (bcR fr' ev' fo')) (nI el') (nI ej'.toNat) (nI (feR ed')) (nI dk.toNat) (nI (le'.getD 0)) (nI (mo'.getD 5)) (nI (meR ed')) (nI ps'.length) (nI rl') sz (nI ul'.toNat) (nI (wd7 mo'.isSome ev' fo' ul' ej' ed'.isSome le'.isSome)) pc' pn') →
    (∀ e, rdLs Bt N dk j (mo, fr, ev, fo, ul, ps, ej, ed, le, rl, el) p = .error e → ∀ pos a0 a1 a2 a3 a4 a5 a6 a7 a8 a9 a10 a11 a12 pc pn, post 0 (nI e) pos a0 a1 a2 a3 a4 a5 a6 a7 a8 a9 a10 a11 a12 pc pn) → F_X9_readKind_62 (nI N) xb post (j + 1) (nI x) bg (nI p) (nI (bcR fr ev fo)) (nI el) (nI ej.toNat) (nI (feR ed)) (nI dk.toNat) (nI (le.getD 0)) (nI (mo.getD 5)) (nI (meR ed)) (nI ps.length) (nI rl) sz (nI ul.toNat) (nI (wd7 mo.isSome ev fo ul ej ed.isSome le.isSome)) pc pn := by
  intro j
  induction j with
  | zero =>
    intro x mo fr ev fo ul ps ej ed le rl el p pc pn bg hx hl hp hB hps Kok Kerr
    have hq := sk_le (Bt := Bt) hp
    unfold F_X9_readKind_62 F_X9_readKind_100 F_X9_hasEnded F_X9_hasEnded_23
    refine br1 (nI_le (a := 14) (by omega) (by omega)) (x_go hX hp rfl (fun h => ?_) (fun h => ?_))
    · refine br3 (by decide) (x_sign hX (c := 59) hq (sk_idem hp) (by decide) (fun s => ?_) (fun s => ?_))
      · have k := Kerr (skB Bt N (skB Bt N p + 1)) (by simp only [rdLs, h, s, if_true, if_false, Bool.false_eq_true])
        exact br2 (by decide) (x_go hX (sgA_lt s) rfl (fun _ => ⟨by decide, by decide, k _ _ _ _ _ _ _ _ _ _ _ _ _ _ _ _⟩) (fun _ => ⟨by decide, by decide, k _ _ _ _ _ _ _ _ _ _ _ _ _ _ _ _⟩))
      · exact br1 rfl ⟨by decide, by decide, Kerr _ (by simp only [rdLs, h, s, if_true, if_false, Bool.false_eq_true]) _ _ _ _ _ _ _ _ _ _ _ _ _ _ _ _⟩
    · exact br4 rfl ⟨by decide, Kok mo fr ev fo ul ps ej ed le rl el (by rw [rdLs, if_pos h]) hB (by omega) _ _ _ _ hps⟩
  | succ j ih =>
    intro x mo fr ev fo ul ps ej ed le rl el p pc pn bg hx hl hp hB hps Kok Kerr
    have hq := sk_le (Bt := Bt) hp
    unfold F_X9_readKind_62 F_X9_readKind_100 F_X9_readKind_92 F_X9_hasEnded F_X9_hasEnded_23
    refine br2 (nI_ge (b := 14) (by omega) (by decide)) (x_go hX hp rfl (fun h => ?_) (fun h => ?_))
    · refine br2 (by decide) (x_sign hX (c := 59) hq (sk_idem hp) (by decide) (fun s => ?_) (fun s => ?_))
      · refine br2 (by decide) (x_readLine hX (sgA_lt s) hB hps (fun mo' fr' ev' fo' ul' ps' ej' ed' le' rl' el' p' hr hp' hB' hl' bg pc' pn' hps' => ?_) (fun e hr pos a0 a1 a2 a3 a4 a5 a6 a7 a8 a9 a10 pc pn => ?_))
        · refine br3 (by decide) ?_
          rw [nI_1]
          refine ih (x + 1) mo' fr' ev' fo' ul' ps' ej' ed' le' rl' el' p' pc' pn' bg (by omega) (by omega) hp' hB' hps' (fun mo3 fr3 ev3 fo3 ul3 ps3 ej3 ed3 le3 rl3 el3 hr2 => Kok mo3 fr3 ev3 fo3 ul3 ps3 ej3 ed3 le3 rl3 el3 ?_) (fun e hr2 => Kerr e ?_)
          · simp only [rdLs, h, s, hr, if_true, if_false]; exact hr2
          · simp only [rdLs, h, s, hr, if_true, if_false]; exact hr2
        · exact br4 rfl ⟨by decide, Kerr e (by simp only [rdLs, h, s, hr, if_true, if_false, Bool.false_eq_true]) _ _ _ _ _ _ _ _ _ _ _ _ _ _ _ _⟩
      · exact br1 rfl ⟨by decide, Kerr _ (by simp only [rdLs, h, s, if_true, if_false, Bool.false_eq_true]) _ _ _ _ _ _ _ _ _ _ _ _ _ _ _ _⟩
    · exact br1 rfl (x_go hX hq (sk_idem hp) (fun g => absurd h g) (fun _ => br4 rfl ⟨by decide, Kok mo fr ev fo ul ps ej ed le rl el (by rw [rdLs, if_pos h]) hB (by omega) _ _ _ _ hps⟩))
/-! a kind -/
def rd0 : RS := (none, 0, false, false, false, [], false, none, none, 0, 0)
def rdKind (Bt : Nat → Nat) (N : Nat) : Except Nat (Nat × Bool × RS) := if isW Bt N 0 0 = true then (match pNum Bt N 1 6 (wdE Bt N 0) with
    | none => .error (skB Bt N (wdE Bt N 0))
    | some n => if isW Bt N 1 (nxP Bt N (wdE Bt N 0)) = true then (if n ≤ 5 then (match rdLs Bt N true 14 rd0 (wdE Bt N (nxP Bt N (wdE Bt N 0))) with
        | .error e => .error e
        | .ok s => .ok (n, true, s)) else .error (skB Bt N (nxP Bt N (wdE Bt N 0))))
      else (match rdLs Bt N false 14 rd0 (nxP Bt N (wdE Bt N 0)) with
        | .error e => .error e
        | .ok s => .ok (n, false, s))) else .error (skB Bt N 0)
theorem RB0 : RB none 0 [] none none := ⟨⟨by decide, by decide, by decide⟩, ⟨by decide, fun x hx => absurd hx (by simp)⟩, ⟨fun x hx => by simp at hx, by decide⟩⟩
theorem x_readKind {Bt : Nat → Nat} {N : Nat} {xb : Nat → Int32} (hX : TpX Bt N xb) {a0 a1 a2 a3 a4 a5 a6 a7 a8 a9 a10 a11 a12 bg : Int32} {pc pn : Nat → Int32} {post : Int32 → Int32 → Int32 → Int32 → Int32 → Int32 → Int32 → Int32 → Int32 → Int32 → Int32 → Int32 → Int32 → Int32 → Int32 → Int32 → (Nat → Int32) → (Nat → Int32) → Prop}
    (Kok : ∀ n dk mo fr ev fo ul ps ej ed le rl el, rdKind Bt N = .ok (n, dk, (mo, fr, ev, fo, ul, ps, ej, ed, le, rl, el)) → 1 ≤ n → n ≤ (if dk then 5 else 6) → RB mo fr ps ed le → rl + el ≤ 14 → ∀ bg pos pc pn, PsX ps pc pn → post 1 bg pos (nI (bcR fr ev fo)) (nI el) (nI ej.toNat) (nI (feR ed)) (nI dk.toNat) (nI (le.getD 0)) (nI (mo.getD 5)) (nI (meR ed)) (nI ps.length) (nI rl) (nI n) (nI ul.toNat) (nI (wd7 mo.isSome ev fo ul ej ed.isSome le.isSome)) pc pn)
    (Kerr : ∀ e, rdKind Bt N = .error e → ∀ pos a0 a1 a2 a3 a4 a5 a6 a7 a8 a9 a10 a11 a12 pc pn, post 0 (nI e) pos a0 a1 a2 a3 a4 a5 a6 a7 a8 a9 a10 a11 a12 pc pn) : F_X9_readKind (nI N) xb bg 0 a0 a1 a2 a3 a4 a5 a6 a7 a8 a9 a10 a11 a12 pc pn post := by
  have hw := wd_le (Bt := Bt) (Nat.zero_le N)
  have hn := nx_le (Bt := Bt) hw
  unfold F_X9_readKind F_X9_readKind_60 F_X6_clear
  refine ⟨by decide, by decide, by decide, x_word hX (p0 := 0) (p := 0) (Nat.zero_le N) rfl (by decide) (fun w0 => ?_) (fun w0 => ?_)⟩
  · refine br3 (by decide) (x_num hX (lo := 1) (hi := 6) hw (by decide) (by decide) (fun n en g1 g2 => ?_) (fun en pos => ?_))
    · refine br3 (fun g => (nm1 (by omega) g).elim) (x_word hX hn rfl (by decide) (fun w1 => ?_) (fun w1 => ?_))
      · by_cases c : n ≤ 5
        · refine br2 (by decide) (br1 (nI_le (b := 5) c (by decide)) ⟨15, x_lines hX (dk := true) 14 0 none 0 false false false [] false none none 0 0 _ pc pn _ rfl rfl (wd_le hn) RB0 (fun i hi => absurd hi (Nat.not_lt_zero _)) (fun mo fr ev fo ul ps ej ed le rl el hr hB hl => Kok n true mo fr ev fo ul ps ej ed le rl el (by simp only [rdKind, w0, en, w1, c, rd0, hr, if_true, if_false, Bool.false_eq_true]) g1 c hB hl) (fun e hr => Kerr e (by simp only [rdKind, w0, en, w1, c, rd0, hr, if_true, if_false, Bool.false_eq_true]))⟩)
        · exact br2 (by decide) (br2 (nI_ge (a := 5) (by omega) (by omega)) ⟨by decide, Kerr _ (by simp only [rdKind, w0, en, w1, c, if_true, if_false, Bool.false_eq_true]) _ _ _ _ _ _ _ _ _ _ _ _ _ _ _ _⟩)
      · refine br1 rfl ⟨15, x_lines hX (dk := false) 14 0 none 0 false false false [] false none none 0 0 _ pc pn _ rfl rfl (sk_le hn) RB0 (fun i hi => absurd hi (Nat.not_lt_zero _)) (fun mo fr ev fo ul ps ej ed le rl el hr hB hl => ?_) (fun e hr => ?_)⟩
        · rw [rdLs_sk hn] at hr
          exact Kok n false mo fr ev fo ul ps ej ed le rl el (by simp only [rdKind, w0, en, w1, rd0, hr, if_true, if_false, Bool.false_eq_true]) g1 g2 hB hl
        · rw [rdLs_sk hn] at hr
          exact Kerr e (by simp only [rdKind, w0, en, w1, rd0, hr, if_true, if_false, Bool.false_eq_true])
    · exact br4 rfl ⟨by decide, Kerr _ (by simp only [rdKind, w0, en, if_true, if_false, Bool.false_eq_true]) _ _ _ _ _ _ _ _ _ _ _ _ _ _ _ _⟩
  · exact br4 rfl ⟨by decide, Kerr _ (by simp only [rdKind, w0, if_true, if_false, Bool.false_eq_true]) _ _ _ _ _ _ _ _ _ _ _ _ _ _ _ _⟩
