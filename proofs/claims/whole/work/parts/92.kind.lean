/-! kinds told: what is read -/
theorem is_none {α : Type} {o : Option α} (h : o.isSome = false) : o = none := by
  cases o with
  | none => rfl
  | some x => exact Bool.noConfusion h
theorem is_some {α : Type} {o : Option α} (h : o.isSome = true) : ∃ x, o = some x := by
  cases o with
  | none => exact Bool.noConfusion h
  | some x => exact ⟨x, rfl⟩
def wdE (Bt : Nat → Nat) (N p : Nat) : Nat := ltE Bt N (skB Bt N p)
theorem wd_le {Bt : Nat → Nat} {N : Nat} {p : Nat} (h : p ≤ N) : wdE Bt N p ≤ N := (lt_le (sk_le h)).2
def feR : Option (Nat × Nat) → Nat
  | none => 0
  | some x => x.1
def meR : Option (Nat × Nat) → Nat
  | none => 15
  | some x => x.2
def bcR (fr : Nat) (ev fo : Bool) : Nat := (fr ||| (if ev then 40 else 0)) ||| (if fo then 120 else 0)
def wd7 (a b c d e f g : Bool) : Nat := a.toNat + 2 * b.toNat + 4 * c.toNat + 8 * d.toNat + 16 * e.toNat + 32 * f.toNat + 64 * g.toNat
theorem wd7_1 : ∀ a b c d e f g, ((nI (wd7 a b c d e f g) &&& 1 = 0) ↔ a = false) ∧ (nI (wd7 a b c d e f g) ||| 1 = nI (wd7 true b c d e f g)) := by decide +kernel
theorem wd7_2 : ∀ a b c d e f g, ((nI (wd7 a b c d e f g) &&& 2 = 0) ↔ b = false) ∧ (nI (wd7 a b c d e f g) ||| 2 = nI (wd7 a true c d e f g)) := by decide +kernel
theorem wd7_4 : ∀ a b c d e f g, ((nI (wd7 a b c d e f g) &&& 4 = 0) ↔ c = false) ∧ (nI (wd7 a b c d e f g) ||| 4 = nI (wd7 a b true d e f g)) := by decide +kernel
theorem wd7_8 : ∀ a b c d e f g, ((nI (wd7 a b c d e f g) &&& 8 = 0) ↔ d = false) ∧ (nI (wd7 a b c d e f g) ||| 8 = nI (wd7 a b c true e f g)) := by decide +kernel
theorem wd7_16 : ∀ a b c d e f g, ((nI (wd7 a b c d e f g) &&& 16 = 0) ↔ e = false) ∧ (nI (wd7 a b c d e f g) ||| 16 = nI (wd7 a b c d true f g)) := by decide +kernel
theorem wd7_32 : ∀ a b c d e f g, ((nI (wd7 a b c d e f g) &&& 32 = 0) ↔ f = false) ∧ (nI (wd7 a b c d e f g) ||| 32 = nI (wd7 a b c d e true g)) := by decide +kernel
theorem wd7_64 : ∀ a b c d e f g, ((nI (wd7 a b c d e f g) &&& 64 = 0) ↔ g = false) ∧ (nI (wd7 a b c d e f g) ||| 64 = nI (wd7 a b c d e f true)) := by decide +kernel
theorem or_sh (a b c d : Nat) : ((a ||| b) ||| c) ||| d = ((a ||| d) ||| b) ||| c := by
  apply Nat.eq_of_testBit_eq
  intro i
  simp only [Nat.testBit_or]
  cases a.testBit i <;> cases b.testBit i <;> cases c.testBit i <;> cases d.testBit i <;> rfl
theorem bc_free (fr x : Nat) (ev fo : Bool) : bcR fr ev fo ||| x = bcR (fr ||| x) ev fo := or_sh _ _ _ _
theorem bc_even (fr : Nat) (fo : Bool) : bcR fr false fo ||| 40 = bcR fr true fo := by
  unfold bcR
  apply Nat.eq_of_testBit_eq
  intro i
  simp only [Nat.testBit_or, if_true, if_false, Bool.false_eq_true, Nat.zero_testBit]
  cases fr.testBit i <;> cases Nat.testBit 40 i <;> cases (if fo = true then 120 else 0 : Nat).testBit i <;> rfl
theorem bc_forest (fr : Nat) (ev : Bool) : bcR fr ev false ||| 120 = bcR fr ev true := by
  unfold bcR
  simp only [if_true, if_false, Bool.false_eq_true, Nat.or_zero]
theorem free_mod : ∀ f, f < 128 → f % 8 = 0 → ∀ v, v < 7 → 3 ≤ v → (f ||| 2 ^ v) < 128 ∧ (f ||| 2 ^ v) % 8 = 0 := by decide +kernel
theorem x_tells {w b w' : Int32} {a : Bool} (h : (w &&& b = 0 ↔ a = false) ∧ (w ||| b = w')) {post : Int32 → Int32 → Prop} (K1 : a = false → post 1 w') (K0 : a = true → post 0 w') : F_X6_tellsFirst w b post := by
  unfold F_X6_tellsFirst F_X6_tellsFirst_14
  rw [h.2]
  cases a with
  | false => exact br4 (h.1.mpr rfl) ⟨by decide, K1 rfl⟩
  | true => exact br3 (fun g => Bool.noConfusion (h.1.mp g)) ⟨by decide, K0 rfl⟩
/-! the looks, with their ends named -/
theorem x_word {Bt : Nat → Nat} {N : Nat} {xb : Nat → Int32} (hX : TpX Bt N xb) {p0 p s : Nat} (h0 : p0 ≤ N) (e : skB Bt N p0 = skB Bt N p) (hs : s < 58) {bg : Int32} {post : Int32 → Int32 → Int32 → Prop} (K1 : isW Bt N s p = true → post 1 (nI (skB Bt N p)) (nI (wdE Bt N p))) (K0 : isW Bt N s p = false → post 0 (nI (skB Bt N p)) (nI (skB Bt N p))) : F_X8_takesWord (nI N) xb bg (nI p0) s post := by
  have ew : isW Bt N s p0 = isW Bt N s p := by unfold isW; rw [e]
  refine x_takesWord hX h0 hs (fun h => ?_) (fun h => ?_)
  · rw [e]; exact K1 (ew.symm.trans h)
  · rw [e]; exact K0 (ew.symm.trans h)
theorem x_num {Bt : Nat → Nat} {N : Nat} {xb : Nat → Int32} (hX : TpX Bt N xb) {p lo hi : Nat} (hp : p ≤ N) (hlo : lo < 100) (hhi : hi < 100) {bg : Int32} {post : Int32 → Int32 → Int32 → Prop} (K1 : ∀ v, pNum Bt N lo hi p = some v → lo ≤ v → v ≤ hi → post (nI v) (nI (skB Bt N p)) (nI (nxP Bt N p))) (K0 : pNum Bt N lo hi p = none → ∀ pos, post (-1) (nI (skB Bt N p)) pos) : F_X8_takeNumber (nI N) xb bg (nI p) (nI lo) (nI hi) post := x_takeNumber hX hp hlo hhi (fun v e => K1 v e (pNum_some e).1 (pNum_some e).2) K0
theorem m_num {Bt : Nat → Nat} {N : Nat} {tape : Nat → Int32} (hM : TpM Bt N tape) {p lo hi : Nat} (hp : p ≤ N) (hlo : lo < 100) (hhi : hi < 100) {bg : Int32} {post : Int32 → Int32 → Int32 → Prop} (K1 : ∀ v, pNum Bt N lo hi p = some v → lo ≤ v → v ≤ hi → post (nI v) (nI (skB Bt N p)) (nI (nxP Bt N p))) (K0 : pNum Bt N lo hi p = none → ∀ pos, post (-1) (nI (skB Bt N p)) pos) : F_X12_number (nI N) tape bg (nI p) (nI lo) (nI hi) post := m_number hM hp hlo hhi (fun v e => K1 v e (pNum_some e).1 (pNum_some e).2) K0
theorem m_wd {Bt : Nat → Nat} {N : Nat} {tape : Nat → Int32} (hM : TpM Bt N tape) {p : Nat} (hp : p ≤ N) (t : Nat) {s : Nat} (hs : s < 58) (he : eBytes.getD s [] = eBytes.getD t []) {post : Int32 → Prop} (K1 : isW Bt N t p = true → post 1) (K0 : isW Bt N t p = false → post 0) : F_X12_isWord (nI (skB Bt N p)) (nI (wdE Bt N p)) tape s post := by
  refine m_isWord hM hp hs ?_
  rw [isW_same he]
  cases e : isW Bt N t p with
  | true => exact K1 e
  | false => exact K0 e
theorem m_pword {Bt : Nat → Nat} {N : Nat} {tape : Nat → Int32} (hM : TpM Bt N tape) {p : Nat} (hp : p ≤ N) (t : Nat) {s : Nat} (hs : s < 58) (he : eBytes.getD s [] = eBytes.getD t []) {bg : Int32} {post : Int32 → Int32 → Int32 → Prop} (K1 : isW Bt N t p = true → post 1 (nI (skB Bt N p)) (nI (wdE Bt N p))) (K0 : isW Bt N t p = false → post 0 (nI (skB Bt N p)) (nI (skB Bt N p))) : F_X12_passesWord (nI N) tape bg (nI p) s post := m_passesWord hM hp hs (fun h => K1 ((isW_same he).symm.trans h)) (fun h => K0 ((isW_same he).symm.trans h))
/-! the line of the ends -/
def EdB (ed : Option (Nat × Nat)) (le : Option Nat) : Prop := (∀ x, ed = some x → x.1 ≤ 15 ∧ x.2 ≤ 15) ∧ le.getD 0 ≤ 5
def rdEnd (Bt : Nat → Nat) (N : Nat) (ej : Bool) (ed : Option (Nat × Nat)) (le : Option Nat) (p : Nat) : Except Nat (Bool × Option (Nat × Nat) × Option Nat × Nat) :=
  if isW Bt N 3 p = true then (if ej = true then .error (skB Bt N p) else .ok (true, ed, le, wdE Bt N p))
  else if isW Bt N 4 p = true then (if ed.isSome = true then .error (skB Bt N p) else match pNum Bt N 0 15 (wdE Bt N p) with
    | none => .error (skB Bt N (wdE Bt N p))
    | some a => if isW Bt N 5 (nxP Bt N (wdE Bt N p)) = true then (match pNum Bt N a 15 (wdE Bt N (nxP Bt N (wdE Bt N p))) with
      | none => .error (skB Bt N (wdE Bt N (nxP Bt N (wdE Bt N p))))
      | some b => .ok (ej, some (a, b), le, nxP Bt N (wdE Bt N (nxP Bt N (wdE Bt N p))))) else .error (skB Bt N (nxP Bt N (wdE Bt N p))))
  else if isW Bt N 6 p = true then (if le.isSome = true then .error (skB Bt N p) else match pNum Bt N 0 5 (wdE Bt N p) with
    | none => .error (skB Bt N (wdE Bt N p))
    | some v => .ok (ej, ed, some v, nxP Bt N (wdE Bt N p)))
  else .error (skB Bt N p)
theorem x_readEnd {Bt : Nat → Nat} {N : Nat} {xb : Nat → Int32} (hX : TpX Bt N xb) {p : Nat} (hp : p ≤ N) {mb ev fo ul ej : Bool} {ed : Option (Nat × Nat)} {le : Option Nat} (hE : EdB ed le) {bg : Int32} {post : Int32 → Int32 → Int32 → Int32 → Int32 → Int32 → Int32 → Int32 → Prop}
    (Kok : ∀ ej' ed' le' p', rdEnd Bt N ej ed le p = .ok (ej', ed', le', p') → p' ≤ N → EdB ed' le' → ∀ bg, post 1 bg (nI p') (nI ej'.toNat) (nI (feR ed')) (nI (le'.getD 0)) (nI (meR ed')) (nI (wd7 mb ev fo ul ej' ed'.isSome le'.isSome)))
    (Kerr : ∀ e, rdEnd Bt N ej ed le p = .error e → ∀ pos a b c d f, post 0 (nI e) pos a b c d f) : F_X9_readEnd (nI N) xb bg (nI p) (nI ej.toNat) (nI (feR ed)) (nI (le.getD 0)) (nI (meR ed)) (nI (wd7 mb ev fo ul ej ed.isSome le.isSome)) post := by
  have hq := sk_le (Bt := Bt) hp
  have hw := wd_le (Bt := Bt) hp
  have hn := nx_le (Bt := Bt) hw
  unfold F_X9_readEnd F_X9_readEnd_51 F_X9_readEnd_52 F_X9_readEnd_82 F_X9_readEnd_98 F_X9_readBounds F_X9_readBounds_28 F_X9_readBounds_57
  refine x_word hX hp rfl (by decide) (fun w3 => ?_) (fun w3 => ?_)
  · refine br2 (by decide) (x_tells (wd7_16 _ _ _ _ _ _ _) (fun h => ⟨by decide, ?_⟩) (fun h => ⟨by decide, ?_⟩))
    · exact Kok true ed le _ (by simp only [rdEnd, w3, h, if_true, if_false, Bool.false_eq_true]) hw hE _
    · exact Kerr _ (by simp only [rdEnd, w3, h, if_true, if_false, Bool.false_eq_true]) _ _ _ _ _ _
  · refine br1 rfl (x_word hX hq (sk_idem hp) (by decide) (fun w4 => ?_) (fun w4 => ?_))
    · refine br2 (by decide) (x_tells (wd7_32 _ _ _ _ _ _ _) (fun h => ?_) (fun h => ?_))
      · have h2 := is_none h
        subst h2
        refine br2 (by decide) (x_num hX (lo := 0) (hi := 15) hw (by decide) (by decide) (fun a ea _ ga => ?_) (fun ea pos => ?_))
        · refine br2 (fun g => (nm1 (by omega) g).elim) (x_word hX hn rfl (by decide) (fun w5 => ?_) (fun w5 => ?_))
          · refine br3 (by decide) (x_num hX (lo := a) (hi := 15) (wd_le hn) (by omega) (by decide) (fun b eb _ gb => ?_) (fun eb pos => ?_))
            · exact br2 (fun g => (nm1 (by omega) g).elim) ⟨by decide, br2 (by decide) ⟨by decide, Kok ej (some (a, b)) le _ (by simp only [rdEnd, w3, w4, ea, w5, eb, Option.isSome_none, if_true, if_false, Bool.false_eq_true]) (nx_le (wd_le hn)) ⟨fun x ex => by rw [← Option.some.inj ex]; exact ⟨ga, gb⟩, hE.2⟩ _⟩⟩
            · exact br1 rfl ⟨by decide, br1 rfl ⟨by decide, Kerr _ (by simp only [rdEnd, w3, w4, ea, w5, eb, Option.isSome_none, if_true, if_false, Bool.false_eq_true]) _ _ _ _ _ _⟩⟩
          · exact br4 rfl ⟨by decide, br1 rfl ⟨by decide, Kerr _ (by simp only [rdEnd, w3, w4, ea, w5, Option.isSome_none, if_true, if_false, Bool.false_eq_true]) _ _ _ _ _ _⟩⟩
        · exact br1 rfl ⟨by decide, br1 rfl ⟨by decide, Kerr _ (by simp only [rdEnd, w3, w4, ea, Option.isSome_none, if_true, if_false, Bool.false_eq_true]) _ _ _ _ _ _⟩⟩
      · exact br1 rfl ⟨by decide, Kerr _ (by simp only [rdEnd, w3, w4, h, if_true, if_false, Bool.false_eq_true]) _ _ _ _ _ _⟩
    · refine br1 rfl (x_word hX hq (sk_idem hp) (by decide) (fun w6 => ?_) (fun w6 => ?_))
      · refine br2 (by decide) (x_tells (wd7_64 _ _ _ _ _ _ _) (fun h => ?_) (fun h => ?_))
        · have h2 := is_none h
          subst h2
          refine br2 (by decide) (x_num hX (lo := 0) (hi := 5) hw (by decide) (by decide) (fun v ea _ gv => ?_) (fun ea pos => ?_))
          · exact br2 (fun g => (nm1 (by omega) g).elim) ⟨by decide, Kok ej ed (some v) _ (by simp only [rdEnd, w3, w4, w6, ea, Option.isSome_none, if_true, if_false, Bool.false_eq_true]) hn ⟨hE.1, gv⟩ _⟩
          · exact br1 rfl ⟨by decide, Kerr _ (by simp only [rdEnd, w3, w4, w6, ea, Option.isSome_none, if_true, if_false, Bool.false_eq_true]) _ _ _ _ _ _⟩
        · exact br1 rfl (br1 rfl ⟨by decide, Kerr _ (by simp only [rdEnd, w3, w4, w6, h, if_true, if_false, Bool.false_eq_true]) _ _ _ _ _ _⟩)
      · exact br1 rfl ⟨by decide, Kerr _ (by simp only [rdEnd, w3, w4, w6, if_true, if_false, Bool.false_eq_true]) _ _ _ _ _ _⟩
/-! the line of a rule -/
def RuB (mo : Option Nat) (fr : Nat) : Prop := mo.getD 5 ≤ 5 ∧ fr < 128 ∧ fr % 8 = 0
def rdRule (Bt : Nat → Nat) (N : Nat) (dk : Bool) (mo : Option Nat) (fr : Nat) (ev fo ul : Bool) (p : Nat) : Except Nat (Option Nat × Nat × Bool × Bool × Bool × Nat) :=
  if isW Bt N 8 p = true then (if mo.isSome = true then .error (skB Bt N p) else match pNum Bt N 0 5 (wdE Bt N p) with
    | none => .error (skB Bt N (wdE Bt N p))
    | some v => .ok (some v, fr, ev, fo, ul, nxP Bt N (wdE Bt N p)))
  else if isW Bt N 9 p = true then (match pNum Bt N 3 6 (wdE Bt N p) with
    | none => .error (skB Bt N (wdE Bt N p))
    | some v => .ok (mo, fr ||| 2 ^ v, ev, fo, ul, nxP Bt N (wdE Bt N p)))
  else if isW Bt N 10 p = true then (if ev = true then .error (skB Bt N p) else .ok (mo, fr, true, fo, ul, wdE Bt N p))
  else if isW Bt N 11 p = true then (if fo = true then .error (skB Bt N p) else .ok (mo, fr, ev, true, ul, wdE Bt N p))
  else if isW Bt N 12 p = true then (if dk = true then (if ul = true then .error (skB Bt N p) else .ok (mo, fr, ev, fo, true, wdE Bt N p)) else .error (skB Bt N p))
  else .error (skB Bt N p)
theorem x_readRule {Bt : Nat → Nat} {N : Nat} {xb : Nat → Int32} (hX : TpX Bt N xb) {p p0 : Nat} (hp : p ≤ N) (h0 : p0 ≤ N) (e0 : skB Bt N p0 = skB Bt N p) {dk ev fo ul b5 b6 b7 : Bool} {mo : Option Nat} {fr : Nat} (hR : RuB mo fr) {bg : Int32} {post : Int32 → Int32 → Int32 → Int32 → Int32 → Int32 → Int32 → Prop}
    (Kok : ∀ mo' fr' ev' fo' ul' p', rdRule Bt N dk mo fr ev fo ul p = .ok (mo', fr', ev', fo', ul', p') → p' ≤ N → RuB mo' fr' → ∀ bg, post 1 bg (nI p') (nI (bcR fr' ev' fo')) (nI (mo'.getD 5)) (nI ul'.toNat) (nI (wd7 mo'.isSome ev' fo' ul' b5 b6 b7)))
    (Kerr : ∀ e, rdRule Bt N dk mo fr ev fo ul p = .error e → ∀ pos a b c d, post 0 (nI e) pos a b c d) : F_X9_readRule (nI N) xb (nI dk.toNat) bg (nI p0) (nI (bcR fr ev fo)) (nI (mo.getD 5)) (nI ul.toNat) (nI (wd7 mo.isSome ev fo ul b5 b6 b7)) post := by
  have hq := sk_le (Bt := Bt) hp
  have hw := wd_le (Bt := Bt) hp
  have hn := nx_le (Bt := Bt) hw
  unfold F_X9_readRule F_X9_readRule_28 F_X9_readRule_44 F_X9_readRule_79 F_X9_readRule_93 F_X9_readRule_180 F_X9_readRule_181
  refine x_word hX h0 e0 (by decide) (fun w8 => ?_) (fun w8 => ?_)
  · refine br2 (by decide) (x_tells (wd7_1 _ _ _ _ _ _ _) (fun h => ?_) (fun h => ?_))
    · have h2 := is_none h
      subst h2
      refine br2 (by decide) (x_num hX (lo := 0) (hi := 5) hw (by decide) (by decide) (fun v ea _ gv => ?_) (fun ea pos => ?_))
      · exact br2 (fun g => (nm1 (by omega) g).elim) ⟨by decide, Kok (some v) fr ev fo ul _ (by simp only [rdRule, w8, ea, Option.isSome_none, if_true, if_false, Bool.false_eq_true]) hn ⟨gv, hR.2⟩ _⟩
      · exact br1 rfl ⟨by decide, Kerr _ (by simp only [rdRule, w8, ea, Option.isSome_none, if_true, if_false, Bool.false_eq_true]) _ _ _ _ _⟩
    · exact br1 rfl (br1 rfl ⟨by decide, Kerr _ (by simp only [rdRule, w8, h, if_true, if_false, Bool.false_eq_true]) _ _ _ _ _⟩)
  · refine br1 rfl (x_word hX hq (sk_idem hp) (by decide) (fun w9 => ?_) (fun w9 => ?_))
    · refine br2 (by decide) (x_num hX (lo := 3) (hi := 6) hw (by decide) (by decide) (fun v ea gv1 gv => ?_) (fun ea pos => ?_))
      · refine br3 (fun g => (nm1 (by omega) g).elim) (br2 (fun g => (nm1 (by omega) g).elim) ⟨by decide, ?_⟩)
        rw [ni_1shl (by omega), ni_or, bc_free]
        exact Kok mo (fr ||| 2 ^ v) ev fo ul _ (by simp only [rdRule, w8, w9, ea, if_true, if_false, Bool.false_eq_true]) hn ⟨hR.1, free_mod fr hR.2.1 hR.2.2 v (by omega) gv1⟩ _
      · exact br4 rfl (br1 rfl ⟨by decide, Kerr _ (by simp only [rdRule, w8, w9, ea, if_true, if_false, Bool.false_eq_true]) _ _ _ _ _⟩)
    · refine br1 rfl (x_word hX hq (sk_idem hp) (by decide) (fun w10 => ?_) (fun w10 => ?_))
      · refine br2 (by decide) (x_tells (wd7_2 _ _ _ _ _ _ _) (fun h => ⟨by decide, ?_⟩) (fun h => ⟨by decide, ?_⟩))
        · subst h
          rw [show (40 : Int32) = nI 40 from rfl, ni_or, bc_even]
          exact Kok mo fr true fo ul _ (by simp only [rdRule, w8, w9, w10, if_true, if_false, Bool.false_eq_true]) hw hR _
        · exact Kerr _ (by simp only [rdRule, w8, w9, w10, h, if_true, if_false, Bool.false_eq_true]) _ _ _ _ _
      · refine br1 rfl (x_word hX hq (sk_idem hp) (by decide) (fun w11 => ?_) (fun w11 => ?_))
        · refine br2 (by decide) (x_tells (wd7_4 _ _ _ _ _ _ _) (fun h => ⟨by decide, ?_⟩) (fun h => ⟨by decide, ?_⟩))
          · subst h
            rw [show (120 : Int32) = nI 120 from rfl, ni_or, bc_forest]
            exact Kok mo fr ev true ul _ (by simp only [rdRule, w8, w9, w10, w11, if_true, if_false, Bool.false_eq_true]) hw hR _
          · exact Kerr _ (by simp only [rdRule, w8, w9, w10, w11, h, if_true, if_false, Bool.false_eq_true]) _ _ _ _ _
        · refine br1 rfl (x_word hX hq (sk_idem hp) (by decide) (fun w12 => ?_) (fun w12 => ?_))
          · cases dk with
            | false => exact br2 (by decide) (br1 rfl ⟨by decide, Kerr _ (by simp only [rdRule, w8, w9, w10, w11, w12, if_true, if_false, Bool.false_eq_true]) _ _ _ _ _⟩)
            | true =>
              refine br2 (by decide) (br2 (by decide) (x_tells (wd7_8 _ _ _ _ _ _ _) (fun h => ?_) (fun h => ?_)))
              · exact br2 (by decide) ⟨by decide, Kok mo fr ev fo true _ (by simp only [rdRule, w8, w9, w10, w11, w12, h, if_true, if_false, Bool.false_eq_true]) hw hR _⟩
              · exact br1 rfl ⟨by decide, Kerr _ (by simp only [rdRule, w8, w9, w10, w11, w12, h, if_true, if_false, Bool.false_eq_true]) _ _ _ _ _⟩
          · exact br1 rfl ⟨by decide, Kerr _ (by simp only [rdRule, w8, w9, w10, w11, w12, if_true, if_false, Bool.false_eq_true]) _ _ _ _ _⟩
