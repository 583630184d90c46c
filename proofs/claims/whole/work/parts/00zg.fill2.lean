/-! the class fills its levels: the loops -/
theorem cand_lt {k : KD} (hk : KOk k) {n p b : Nat} (h1 : 1 ≤ n) (h2 : n + 1 ≤ kSz k) (hp : p ∈ lvl k n) (hb : b < blN n (kDk k)) : p * 2 ^ (n + 1) + b < 2 ^ LN (n + 1) := by
  obtain ⟨_, hpc, _⟩ := lvl_mem hk hp
  have hpl := CT_lt h1 (show n ≤ (if kDk k then 5 else 6) by have := hk.2.1; omega) hpc
  have bl := blN_le n (kDk k)
  have e0 : 2 ^ (LN n + (n + 1)) = 2 ^ LN n * 2 ^ (n + 1) := Nat.pow_add _ _ _
  rw [LN_succ, e0]
  have : (p + 1) * 2 ^ (n + 1) ≤ 2 ^ LN n * 2 ^ (n + 1) := Nat.mul_le_mul_right _ hpl
  rw [Nat.add_mul] at this
  omega
theorem cand_CT {k : KD} (hk : KOk k) {n p b : Nat} (h1 : 1 ≤ n) (h2 : n + 1 ≤ kSz k) (hp : p ∈ lvl k n) (hb : b < blN n (kDk k)) (g : p * 2 ^ (n + 1) + b ≤ frm (n + 1) (dkM (n + 1) (p * 2 ^ (n + 1) + b)) (byM (n + 1) (p * 2 ^ (n + 1) + b))) : p * 2 ^ (n + 1) + b ∈ CT (n + 1) (kDk k) := by
  obtain ⟨_, hpc, _⟩ := lvl_mem hk hp
  have bl := blN_le n (kDk k)
  refine CT_all (by omega) (by have := hk.2.1; omega) (cand_lt hk h1 h2 hp hb) (fun hd => ?_) g
  have hd0 := (CT_facts h1 (show n ≤ (if kDk k then 5 else 6) by have := hk.2.1; omega) hpc).2.2.2.2.2.2.2.2.2.1 hd
  have pd : 0 < 2 ^ (n + 1) := Nat.pow_pos (by decide)
  have eq1 : (p * 2 ^ (n + 1) + b) / 2 ^ (n + 1) = p := by
    rw [Nat.mul_comm, Nat.mul_add_div pd, Nat.div_eq_of_lt (by omega)]; rfl
  apply Nat.eq_of_testBit_eq
  intro v
  rw [Nat.zero_testBit]
  by_cases hv : v < n
  · have := (pre_net (c := p * 2 ^ (n + 1) + b) hv).2
    rw [eq1, hd0, Nat.zero_testBit] at this
    exact this.symm
  · rw [dkM_tb]
    by_cases hv2 : v = n
    · subst hv2
      have hs := LN_succ v
      rw [decide_eq_true (show v < v + 1 by omega), Bool.true_and]
      unfold dkb
      rw [show LN (v + 1) - 1 - LN v = v by omega, Nat.mul_comm, Nat.testBit_two_pow_mul_add _ (show b < 2 ^ (v + 1) by omega), if_pos (by omega)]
      unfold blN at hb
      rw [hd] at hb
      exact Nat.testBit_lt_two_pow hb
    · rw [decide_eq_false (show ¬ v < n + 1 by omega)]; rfl
def XF (k : KD) (rbc rhd rmo rpa rsz rul : Int32) (rpc rpn : Nat → Int32) : Prop := rbc = nI (kBc k) ∧ rhd = nI (kDk k).toNat ∧ rmo = nI (kMo k) ∧ rpa = nI (kPs k).length ∧ rsz = nI (kSz k) ∧ rul = nI (kUl k).toNat ∧ ∀ i, i < (kPs k).length → rpc i = nI (frm ((kPs k).getD i (0, 0)).1 0 (pB ((kPs k).getD i (0, 0)).1 ((kPs k).getD i (0, 0)).2)) ∧ rpn i = nI ((kPs k).getD i (0, 0)).1
/-- what one block behind a code gives -/
def one (k : KD) (n p b : Nat) : List Nat := if decide (p * 2 ^ (n + 1) + b ≤ frm (n + 1) (dkM (n + 1) (p * 2 ^ (n + 1) + b)) (byM (n + 1) (p * 2 ^ (n + 1) + b))) && keeps k (n + 1) (p * 2 ^ (n + 1) + b) then [p * 2 ^ (n + 1) + b] else []
theorem fl_79 {k : KD} (hk : KOk k) {n : Nat} (h1 : 1 ≤ n) (h2 : n + 1 ≤ kSz k) {rbc rhd rmo rpa rsz rul : Int32} {rpc rpn : Nat → Int32} (hX : XF k rbc rhd rmo rpa rsz rul rpc rpn) {post : Int64 → Int32 → Int32 → (Nat → Int64) → (Nat → Int32) → Int32 → Int64 → Int32 → Int32 → Int32 → Int32 → Int32 → Int64 → Int64 → Int32 → Int32 → Int64 → Int32 → Int32 → (Nat → Int64) → (Nat → Int32) → Int32 → (Nat → Int32) → (Nat → Int32) → Prop} {K54 : Int32 → Int32 → Int32 → Int64 → Int32 → Int32 → (Nat → Int64) → (Nat → Int32) → Int32 → Int64 → Int32 → Int32 → Int32 → Int32 → Int32 → Int64 → Int64 → Int32 → Int32 → Int64 → Int32 → Int32 → (Nat → Int64) → (Nat → Int32) → Int32 → (Nat → Int32) → (Nat → Int32) → Prop} {firsts : Nat → Int32} (hF : FstUp k (n + 1) firsts) {i p : Nat} (hi : i < (lvl k n).length) (hp : (lvl k n).getD i 0 = p) {tot : List Nat} (hb : off k (n + 1) + tot.length ≤ 662)
    (K : ∀ kc kd kn kf kr ab fo ib is' it le nn od se sl sy cl dk' sn fans near codes, ordOk od → CodUp k (n + 1) tot codes → K54 (nI (if kDk k then 2 else 1)) (nI (n + 1)) (nI (i + 1)) kc kd kn kf kr ab fo ib is' it le nn od se sl sy cl dk' sn fans near (nI (off k (n + 1) + tot.length)) codes firsts) : ∀ (j b : Nat) (acc : List Nat) kc kd kn kf kr ab fo ib is' it le nn od se sl sy cl dk' sn fans near codes, b + j = blN n (kDk k) → ordOk od → CodUp k (n + 1) acc codes → acc ++ (List.range' b j).flatMap (one k n p) = tot → F_X3_fill_79 rbc rhd rmo rpa rsz rul rpc rpn post K54 (j + 1) (nI (if kDk k then 2 else 1)) (nI (n + 1)) (nI i) (nI b) kc kd kn kf kr ab fo ib is' it le nn od se sl sy cl dk' sn fans near (nI (off k (n + 1) + acc.length)) codes firsts := by
  obtain ⟨x1, x2, x3, x4, x5, x6, x7⟩ := hX
  subst x1 x2 x3 x4 x5 x6
  have hs := size_le hk
  have hpm : p ∈ lvl k n := by rw [← hp]; exact getD_mem hi
  have bl := blN_le n (kDk k)
  have p64 : 2 ^ (n + 1) ≤ 2 ^ 6 := Nat.pow_le_pow_right (by decide) (by omega)
  have eb : nI (if kDk k then 2 else 1) <<< ((nI (n + 1) - 1) &&& 31) = nI (blN n (kDk k)) := by
    have : nI (n + 1) - 1 = nI n := nI_pred n
    rw [this, ni_shl _ (by omega)]
    unfold blN
    cases kDk k with
    | true =>
      show nI (2 * 2 ^ n) = nI (2 ^ (n + 1))
      rw [Nat.pow_succ, Nat.mul_comm]
    | false =>
      show nI (1 * 2 ^ n) = nI (2 ^ n)
      rw [Nat.one_mul]
  intro j
  induction j with
  | zero =>
    intro b acc kc kd kn kf kr ab fo ib is' it le nn od se sl sy cl dk' sn fans near codes hb0 ho hC he
    unfold F_X3_fill_79
    rw [eb]
    have : acc = tot := by simpa using he
    subst this
    refine br1 (nI_le (by omega) (by omega)) ?_
    rw [nI_1]
    exact K _ _ _ _ _ _ _ _ _ _ _ _ _ _ _ _ _ _ _ _ _ _ ho hC
  | succ j ih =>
    intro b acc kc kd kn kf kr ab fo ib is' it le nn od se sl sy cl dk' sn fans near codes hb0 ho hC he
    have hclt := cand_lt hk h1 h2 hpm (show b < blN n (kDk k) by omega)
    have hoff := off_succ k h1
    have hm := off_mono k (a := n + 1) (b := 7) (by omega) (by omega)
    have h7 := off_7 k
    rw [List.range'_succ, List.flatMap_cons] at he
    unfold F_X3_fill_79 F_X3_fill_150
    rw [eb]
    have en : nI (n + 1) - 1 = nI n := nI_pred n
    rw [en]
    have hcode : codes (off k n + i) = nI p := by rw [← hp]; exact hC.1 n h1 (by omega) i hi
    refine br2 (nI_ge (by omega) (by omega)) (f_codeOfI hF h1 (by omega) (by omega) hcode (by omega) ?_)
    have ec : (nI p <<< (nI (n + 1) &&& 31)) ||| nI b = nI (p * 2 ^ (n + 1) + b) := by
      rw [ni_shl _ (by omega), ni_or, Nat.mul_comm, ← Nat.two_pow_add_eq_or_of_lt (show b < 2 ^ (n + 1) by omega)]
    rw [ec]
    have nxt : ∀ kc kd kn kf kr ab fo ib is' it le nn od se sl sy cl dk' sn fans near, ordOk od → (decide (p * 2 ^ (n + 1) + b ≤ frm (n + 1) (dkM (n + 1) (p * 2 ^ (n + 1) + b)) (byM (n + 1) (p * 2 ^ (n + 1) + b))) && keeps k (n + 1) (p * 2 ^ (n + 1) + b)) = false → F_X3_fill_79 (nI (kBc k)) (nI (kDk k).toNat) (nI (kMo k)) (nI (kPs k).length) (nI (kSz k)) (nI (kUl k).toNat) rpc rpn post K54 (j + 1) (nI (if kDk k then 2 else 1)) (nI (n + 1)) (nI i) (nI b + 1) kc kd kn kf kr ab fo ib is' it le nn od se sl sy cl dk' sn fans near (nI (off k (n + 1) + acc.length)) codes firsts := by
      intro kc kd kn kf kr ab fo ib is' it le nn od se sl sy cl dk' sn fans near ho e
      rw [nI_1]
      refine ih (b + 1) acc _ _ _ _ _ _ _ _ _ _ _ _ _ _ _ _ _ _ _ _ _ _ (by omega) ho hC ?_
      rw [← he]
      unfold one
      rw [e]
      simp
    refine f_isForm (by omega) (by omega) hclt ho (fun ab fo ib is' it le nn od se sl sy cl dk' sn fans near ho => ?_)
    by_cases g : p * 2 ^ (n + 1) + b ≤ frm (n + 1) (dkM (n + 1) (p * 2 ^ (n + 1) + b)) (byM (n + 1) (p * 2 ^ (n + 1) + b))
    · rw [if_pos g]
      have hCT := cand_CT hk h1 h2 hpm (show b < blN n (kDk k) by omega) g
      refine br2 (by decide) (f_shapeKept hk (by omega) h2 hCT (fun kc kd kn kf kr => ⟨fun g2 => ?_, fun g2 => ?_⟩))
      · rw [bnz] at g2
        exact nxt _ _ _ _ _ _ _ _ _ _ _ _ _ _ _ _ _ _ _ _ _ ho (by rw [keeps_shp, g2]; simp)
      · have g2 := bnn g2
        refine f_patternsKept hk (by omega) hclt x7 ho (fun ab fo ib is' it le nn od se sl sy cl dk' sn fans near ho => ⟨fun g3 => ?_, fun g3 => ?_⟩)
        · rw [bnz] at g3
          exact nxt _ _ _ _ _ _ _ _ _ _ _ _ _ _ _ _ _ _ _ _ _ ho (by rw [keeps_shp, g3]; simp)
        · have g3 := bnn g3
          have ek : (decide (p * 2 ^ (n + 1) + b ≤ frm (n + 1) (dkM (n + 1) (p * 2 ^ (n + 1) + b)) (byM (n + 1) (p * 2 ^ (n + 1) + b))) && keeps k (n + 1) (p * 2 ^ (n + 1) + b)) = true := by
            rw [keeps_shp, g2, g3, decide_eq_true g]; rfl
          have eo : one k n p b = [p * 2 ^ (n + 1) + b] := by unfold one; rw [if_pos ek]
          rw [eo] at he
          have hl : acc.length + 1 ≤ tot.length := by rw [← he]; simp
          refine f_add (by omega) hC (by omega) (fun codes hC => ?_)
          rw [nI_1]
          exact ih (b + 1) _ _ _ _ _ _ _ _ _ _ _ _ _ _ _ _ _ _ _ _ _ _ _ (by omega) ho hC (by rw [← he]; simp)
    · rw [if_neg g]
      exact br1 rfl (nxt _ _ _ _ _ _ _ _ _ _ _ _ _ _ _ _ _ _ _ _ _ ho (by rw [decide_eq_false g]; rfl))
theorem fl_54 {k : KD} (hk : KOk k) {n : Nat} (h1 : 1 ≤ n) (hn6 : n + 1 ≤ 6) {rbc rhd rmo rpa rsz rul : Int32} {rpc rpn : Nat → Int32} (hX : XF k rbc rhd rmo rpa rsz rul rpc rpn) {post : Int64 → Int32 → Int32 → (Nat → Int64) → (Nat → Int32) → Int32 → Int64 → Int32 → Int32 → Int32 → Int32 → Int32 → Int64 → Int64 → Int32 → Int32 → Int64 → Int32 → Int32 → (Nat → Int64) → (Nat → Int32) → Int32 → (Nat → Int32) → (Nat → Int32) → Prop} {K44 : Int32 → Int32 → Int64 → Int32 → Int32 → (Nat → Int64) → (Nat → Int32) → Int32 → Int64 → Int32 → Int32 → Int32 → Int32 → Int32 → Int64 → Int64 → Int32 → Int32 → Int64 → Int32 → Int32 → (Nat → Int64) → (Nat → Int32) → Int32 → (Nat → Int32) → (Nat → Int32) → Prop} {firsts : Nat → Int32} (hF : FstUp k (n + 1) firsts)
    (K : ∀ kc kd kn kf kr ab fo ib is' it le nn od se sl sy cl dk' sn fans near codes firsts, ordOk od → CodUp k (n + 2) [] codes → FstUp k (n + 2) firsts → K44 (nI (if kDk k then 2 else 1)) (nI (n + 2)) kc kd kn kf kr ab fo ib is' it le nn od se sl sy cl dk' sn fans near (nI (off k (n + 2))) codes firsts) : ∀ (j i : Nat) (acc : List Nat) kc kd kn kf kr ab fo ib is' it le nn od se sl sy cl dk' sn fans near codes, i + j = (lvl k n).length → ordOk od → CodUp k (n + 1) acc codes → (n + 1 ≤ kSz k → acc ++ tryL k n ((lvl k n).drop i) = lvl k (n + 1)) → (¬ n + 1 ≤ kSz k → acc = []) → F_X3_fill_54 rbc rhd rmo rpa rsz rul rpc rpn post K44 (j + 1) (nI (if kDk k then 2 else 1)) (nI (n + 1)) (nI i) kc kd kn kf kr ab fo ib is' it le nn od se sl sy cl dk' sn fans near (nI (off k (n + 1) + acc.length)) codes firsts := by
  have hs := size_le hk
  have fin : ∀ kc kd kn kf kr ab fo ib is' it le nn od se sl sy cl dk' sn fans near codes, ordOk od → CodUp k (n + 1) (lvl k (n + 1)) codes → F_X3_fill_162 rbc rhd rmo rpa rsz rul rpc rpn post K44 (nI (if kDk k then 2 else 1)) (nI (n + 1)) kc kd kn kf kr ab fo ib is' it le nn od se sl sy cl dk' sn fans near (nI (off k (n + 1) + (lvl k (n + 1)).length)) codes firsts := by
    intro kc kd kn kf kr ab fo ib is' it le nn od se sl sy cl dk' sn fans near codes ho hC
    unfold F_X3_fill_162
    have e := off_succ k (n := n + 1) (by omega)
    rw [← e, nI_1]
    refine f_setFirst (by omega) hF (fun firsts hF => K _ _ _ _ _ _ _ _ _ _ _ _ _ _ _ _ _ _ _ _ _ _ _ ho ⟨fun j a b i hi => ?_, fun i hi => absurd hi (Nat.not_lt_zero _)⟩ hF)
    by_cases e : j = n + 1
    · subst e; exact hC.2 i hi
    · exact hC.1 j a (by omega) i hi
  intro j
  induction j with
  | zero =>
    intro i acc kc kd kn kf kr ab fo ib is' it le nn od se sl sy cl dk' sn fans near codes hi ho hC he he2
    have hl := lvl_len k n (by omega)
    unfold F_X3_fill_54
    have en : nI (n + 1) - 1 = nI n := nI_pred n
    rw [en]
    refine f_amount hF h1 (by omega) (by omega) (br1 (nI_le (by omega) (by omega)) ?_)
    have : acc = lvl k (n + 1) := by
      by_cases g : n + 1 ≤ kSz k
      · have := he g
        rw [List.drop_eq_nil_of_le (by omega)] at this
        simpa [tryL] using this
      · rw [he2 g]; unfold lvl; rw [if_neg g]
    subst this
    exact fin _ _ _ _ _ _ _ _ _ _ _ _ _ _ _ _ _ _ _ _ _ _ ho hC
  | succ j ih =>
    intro i acc kc kd kn kf kr ab fo ib is' it le nn od se sl sy cl dk' sn fans near codes hi ho hC he he2
    have hl := lvl_len k n (by omega)
    unfold F_X3_fill_54
    have en : nI (n + 1) - 1 = nI n := nI_pred n
    rw [en]
    refine f_amount hF h1 (by omega) (by omega) (br2 (nI_ge (by omega) (by omega)) ?_)
    have esz := hX.2.2.2.2.1
    refine ⟨fun g => ?_, fun g => ⟨blN n (kDk k) + 1, ?_⟩⟩
    · rw [esz] at g
      have g := (nI_ltI (by omega) (by omega)).mp g
      have : acc = lvl k (n + 1) := by
        rw [he2 (by omega)]; unfold lvl; rw [if_neg (by omega)]
      subst this
      exact fin _ _ _ _ _ _ _ _ _ _ _ _ _ _ _ _ _ _ _ _ _ _ ho hC
    · rw [esz] at g
      have g : n + 1 ≤ kSz k := by
        have : ¬ kSz k < n + 1 := fun e => g (nI_lt e (by omega))
        omega
      have hee := he g
      have ed : (lvl k n).drop i = (lvl k n).getD i 0 :: (lvl k n).drop (i + 1) := by
        rw [List.getD_eq_getElem?_getD, List.getElem?_eq_getElem (show i < (lvl k n).length by omega)]
        exact List.drop_eq_getElem_cons (show i < (lvl k n).length by omega)
      have et : tryL k n ((lvl k n).drop i) = (List.range' 0 (blN n (kDk k))).flatMap (one k n ((lvl k n).getD i 0)) ++ tryL k n ((lvl k n).drop (i + 1)) := by
        rw [ed]
        unfold tryL
        rw [List.flatMap_cons, List.range_eq_range']
        rfl
      rw [et, ← List.append_assoc] at hee
      have hlen : off k (n + 1) + (acc ++ (List.range' 0 (blN n (kDk k))).flatMap (one k n ((lvl k n).getD i 0))).length ≤ 662 := by
        have e1 := off_succ k (n := n + 1) (by omega)
        have e2 := off_mono k (a := n + 2) (b := 7) (by omega) (by omega)
        have e3 := off_7 k
        have e4 : (acc ++ (List.range' 0 (blN n (kDk k))).flatMap (one k n ((lvl k n).getD i 0))).length ≤ (lvl k (n + 1)).length := by rw [← hee, List.length_append (as := acc ++ _)]; omega
        have e5 : off k (n + 2) = off k (n + 1) + (lvl k (n + 1)).length := e1
        omega
      refine fl_79 (tot := acc ++ (List.range' 0 (blN n (kDk k))).flatMap (one k n ((lvl k n).getD i 0))) hk h1 g hX hF (by omega) rfl hlen (fun kc kd kn kf kr ab fo ib is' it le nn od se sl sy cl dk' sn fans near codes ho hC => ?_) (blN n (kDk k)) 0 acc _ _ _ _ _ _ _ _ _ _ _ _ _ _ _ _ _ _ _ _ _ _ (by omega) ho hC rfl
      exact ih (i + 1) _ _ _ _ _ _ _ _ _ _ _ _ _ _ _ _ _ _ _ _ _ _ _ (by omega) ho hC (fun _ => hee) (fun e => absurd g e)
theorem keeps_1 {k : KD} (hk : KOk k) {c : Nat} (hc : c ≤ 1) : keeps k 1 c = true := by
  unfold keeps
  have h : ∀ c, c ≤ 1 → mxF (byM 1 c) 1 0 0 = 0 ∧ cirF 1 (byM 1 c) = 0 ∧ jocF (dkM 1 c) (byM 1 c) 1 0 = false := by decide +kernel
  obtain ⟨h1, h2, h3⟩ := h c hc
  rw [h1, h2, h3, Nat.zero_and]
  have hp : (kPs k).all (fun x => !hasP 1 (byM 1 c) x.1 x.2) = true := by
    rw [List.all_eq_true]
    intro x hx
    have := (hk.2.2.2.2.2.1 x hx).1
    obtain ⟨m, hm⟩ : ∃ m, x.1 = m + 2 := ⟨x.1 - 2, by omega⟩
    have e : lv 1 (m + 2) [] 0 = [] := by
      have e1 : ∀ p, lv 1 (m + 1) p 1 = [] := by
        intro p
        rw [lv]
        rfl
      rw [lv]
      show (if (0 : Nat).testBit 0 then [] else lv 1 (m + 1) ([] ++ [0]) (0 ||| 2 ^ 0)) ++ [] = []
      rw [List.append_nil, if_neg (by decide)]
      exact e1 _
    unfold hasP
    rw [hm, e]; rfl
  rw [hp]; simp
theorem lvl_1 {k : KD} (hk : KOk k) : lvl k 1 = if kDk k then [0, 1] else [0] := by
  unfold lvl
  rw [if_pos hk.1]
  cases kDk k with
  | true =>
    show List.filter _ (0 :: 1 :: []) = [0, 1]
    rw [List.filter_cons_of_pos (by simpa using keeps_1 hk (by omega)), List.filter_cons_of_pos (by simpa using keeps_1 hk (by omega))]; rfl
  | false =>
    show List.filter _ (0 :: []) = [0]
    rw [List.filter_cons_of_pos (by simpa using keeps_1 hk (by omega))]; rfl
theorem f_fill {k : KD} (hk : KOk k) {rbc rhd rmo rpa rsz rul : Int32} {rpc rpn : Nat → Int32} (hX : XF k rbc rhd rmo rpa rsz rul rpc rpn) {kc : Int64} {kd : Int32} {kn : Int32} {kf : (Nat → Int64)} {kr : (Nat → Int32)} {ab : Int32} {fo : Int64} {ib : Int32} {is' : Int32} {it : Int32} {le : Int32} {nn : Int32} {od : Int64} {se : Int64} {sl : Int32} {sy : Int32} {cl : Int64} {dk' : Int32} {sn : Int32} {fans : (Nat → Int64)} {near : (Nat → Int32)} (ho : ordOk od) {total : Int32} {codes firsts : Nat → Int32} (hf1 : firsts 1 = 0) {post : Int64 → Int32 → Int32 → (Nat → Int64) → (Nat → Int32) → Int32 → Int64 → Int32 → Int32 → Int32 → Int32 → Int32 → Int64 → Int64 → Int32 → Int32 → Int64 → Int32 → Int32 → (Nat → Int64) → (Nat → Int32) → Int32 → (Nat → Int32) → (Nat → Int32) → Prop} (K : ∀ kc kd kn kf kr ab fo ib is' it le nn od se sl sy cl dk' sn fans near total codes firsts, ordOk od → LvX k total codes firsts → post kc kd kn kf kr ab fo ib is' it le nn od se sl sy cl dk' sn fans near total codes firsts) : F_X3_fill rbc rhd rmo rpa rsz rul rpc rpn kc kd kn kf kr ab fo ib is' it le nn od se sl sy cl dk' sn fans near total codes firsts post := by
  have hs := size_le hk
  have h44 : ∀ j n kc kd kn kf kr ab fo ib is' it le nn od se sl sy cl dk' sn fans near codes firsts, n + j = 6 → 1 ≤ n → ordOk od → CodUp k (n + 1) [] codes → FstUp k (n + 1) firsts → F_X3_fill_44 rbc rhd rmo rpa rsz rul rpc rpn post (j + 1) (nI (if kDk k then 2 else 1)) (nI (n + 1)) kc kd kn kf kr ab fo ib is' it le nn od se sl sy cl dk' sn fans near (nI (off k (n + 1))) codes firsts := by
    intro j
    induction j with
    | zero =>
      intro n kc kd kn kf kr ab fo ib is' it le nn od se sl sy cl dk' sn fans near codes firsts hn h1 ho hC hF
      have : n = 6 := by omega
      subst this
      unfold F_X3_fill_44
      exact br1 (by decide) (K _ _ _ _ _ _ _ _ _ _ _ _ _ _ _ _ _ _ _ _ _ _ _ _ ho ⟨rfl, hF, hC⟩)
    | succ j ih =>
      intro n kc kd kn kf kr ab fo ib is' it le nn od se sl sy cl dk' sn fans near codes firsts hn h1 ho hC hF
      unfold F_X3_fill_44
      refine br2 (nI_nlt (a := 6) (b := n + 1) (by omega) (by decide)) ⟨(lvl k n).length + 1, ?_⟩
      refine fl_54 hk h1 (by omega) hX hF (fun kc kd kn kf kr ab fo ib is' it le nn od se sl sy cl dk' sn fans near codes firsts ho hC hF => ih (n + 1) _ _ _ _ _ _ _ _ _ _ _ _ _ _ _ _ _ _ _ _ _ _ _ (by omega) (by omega) ho hC hF) (lvl k n).length 0 [] _ _ _ _ _ _ _ _ _ _ _ _ _ _ _ _ _ _ _ _ _ _ (by omega) ho hC (fun g => ?_) (fun _ => rfl)
      rw [List.nil_append, List.drop_zero]
      exact try_eq hk h1 g
  have hl1 := lvl_1 hk
  have ex2 := hX.2.1
  have f0 : FstUp k 1 firsts := by
    intro n a b
    have : n = 1 := by omega
    subst this
    rw [hf1]; rfl
  have r22 : ∀ codes, CodUp k 1 (lvl k 1) codes → F_X3_fill_22 rbc rhd rmo rpa rsz rul rpc rpn post kc kd kn kf kr ab fo ib is' it le nn od se sl sy cl dk' sn fans near (nI (off k 1 + (lvl k 1).length)) codes firsts := by
    intro codes hC
    unfold F_X3_fill_22 F_X3_fill_39
    have e : off k 1 + (lvl k 1).length = off k 2 := rfl
    have hC2 : CodUp k 2 [] codes := by
      refine ⟨fun j a b i hi => ?_, fun i hi => absurd hi (Nat.not_lt_zero _)⟩
      have : j = 1 := by omega
      subst this
      exact hC.2 i hi
    rw [e]
    refine f_setFirst (n := 1) (by omega) f0 (fun firsts hF => ?_)
    rw [ex2]
    refine ⟨fun g => ⟨6, ?_⟩, fun g => ⟨6, ?_⟩⟩
    · have := h44 5 1 kc kd kn kf kr ab fo ib is' it le nn od se sl sy cl dk' sn fans near codes firsts (by omega) (by omega) ho hC2 hF
      rw [bnz] at g
      rw [g] at this
      rw [ex2, g] at this
      rw [g]
      exact this
    · have := h44 5 1 kc kd kn kf kr ab fo ib is' it le nn od se sl sy cl dk' sn fans near codes firsts (by omega) (by omega) ho hC2 hF
      have g := bnn g
      rw [g] at this
      rw [ex2, g] at this
      rw [g]
      exact this
  unfold F_X3_fill
  have c0 : CodUp k 1 [] codes := ⟨fun j a b => by omega, fun i hi => absurd hi (Nat.not_lt_zero _)⟩
  refine f_add (k := k) (n := 1) (acc := []) (x := 0) (by omega) c0 (show (0 : Nat) < 662 by decide) (fun codes hC => ?_)
  rw [ex2]
  refine ⟨fun g => ?_, fun g => ?_⟩
  · rw [bnz] at g
    have r := r22
    rw [hl1, g] at r
    have := r codes hC
    rw [ex2, g] at this
    rw [g]
    exact this
  · have g := bnn g
    have r := r22
    rw [hl1, g] at r
    refine f_add (k := k) (n := 1) (acc := [0]) (x := 1) (by omega) hC (show (1 : Nat) < 662 by decide) (fun codes hC => ?_)
    have := r codes hC
    rw [ex2, g] at this
    rw [g]
    exact this
