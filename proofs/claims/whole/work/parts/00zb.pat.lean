/-! nets that are told to be barred: the class's way and the reference's -/
def pB (m P v : Nat) : Nat := maskOf (fun u => decide (u ≠ v) && P.testBit (max u v * (max u v - 1) / 2 + min u v)) m
theorem pB_tb (m P v u : Nat) : (pB m P v).testBit u = (decide (u < m) && (decide (u ≠ v) && P.testBit (max u v * (max u v - 1) / 2 + min u v))) := mask_tb _ _ _
theorem gb_pB (m P : Nat) : GB m (pB m P) := by
  refine ⟨fun u v hu hv => ?_, fun u hu => ?_, fun u _ => mask_lt _ _⟩
  · rw [pB_tb, pB_tb, decide_eq_true hu, decide_eq_true hv, Nat.max_comm, Nat.min_comm]
    congr 2
    exact decide_eq_decide.mpr ⟨fun h e => h e.symm, fun h e => h e.symm⟩
  · rw [pB_tb]; simp
theorem tup1 : ∀ n, n ≤ 6 → ∀ m, m ≤ 4 → (lv n m [] 0).all (fun t => decide (t.foldl (fun a x => a ||| 2 ^ x) 0 < 2 ^ n) && (popc (t.foldl (fun a x => a ||| 2 ^ x) 0) n == m && (lex m).any (fun l => l.map (fun i => (nds (t.foldl (fun a x => a ||| 2 ^ x) 0) n).getD i 0) == t))) = true := by decide +kernel
theorem tup2 : ∀ n, n ≤ 6 → ∀ m, m ≤ 4 → (List.range (2 ^ n)).all (fun s => popc s n != m || (lex m).all (fun l => (lv n m [] 0).contains (l.map (fun i => (nds s n).getD i 0)))) = true := by decide +kernel
theorem ipI_iff {B : Nat → Nat} {P : Nat} {t : List Nat} {a : Nat} : ∀ j b is, ipI B P t a j b is = true ↔ (is = true ∧ ∀ i, b ≤ i → i < b + j → (B (t.getD a 0)).testBit (t.getD i 0) = P.testBit (a * (a - 1) / 2 + i))
  | 0, b, is => by rw [ipI]; exact ⟨fun h => ⟨h, fun i h1 h2 => by omega⟩, fun h => h.1⟩
  | j + 1, b, is => by
    rw [ipI, ipI_iff j, Bool.and_eq_true, beq_iff_eq]
    constructor
    · rintro ⟨⟨h1, h2⟩, h3⟩
      refine ⟨h1, fun i hi hj => ?_⟩
      rcases Nat.lt_or_ge b i with g | g
      · exact h3 i g (by omega)
      · have : i = b := by omega
        subst this; exact h2
    · rintro ⟨h1, h2⟩
      exact ⟨⟨h1, h2 b (Nat.le_refl _) (by omega)⟩, fun i hi hj => h2 i (by omega) (by omega)⟩
theorem ipO_iff {B : Nat → Nat} {P : Nat} {t : List Nat} : ∀ j a is, ipO B P t j a is = true ↔ (is = true ∧ ∀ v, a ≤ v → v < a + j → ∀ i, i < v → (B (t.getD v 0)).testBit (t.getD i 0) = P.testBit (v * (v - 1) / 2 + i))
  | 0, a, is => by rw [ipO]; exact ⟨fun h => ⟨h, fun i h1 h2 => by omega⟩, fun h => h.1⟩
  | j + 1, a, is => by
    rw [ipO, ipO_iff j, ipI_iff]
    constructor
    · rintro ⟨⟨h1, h2⟩, h3⟩
      refine ⟨h1, fun v hv hj i hi => ?_⟩
      rcases Nat.lt_or_ge a v with g | g
      · exact h3 v g (by omega) i hi
      · have : v = a := by omega
        subst this; exact h2 i (Nat.zero_le _) (by omega)
    · rintro ⟨h1, h2⟩
      exact ⟨⟨h1, fun i _ hi => h2 a (Nat.le_refl _) (by omega) i (by omega)⟩, fun v hv hj i hi => h2 v (by omega) (by omega) i hi⟩
theorem isP_iff {B : Nat → Nat} {P : Nat} {t : List Nat} : isP B P t = true ↔ ∀ v, v < t.length → ∀ i, i < v → (B (t.getD v 0)).testBit (t.getD i 0) = P.testBit (v * (v - 1) / 2 + i) := by
  unfold isP
  rw [ipO_iff]
  exact ⟨fun h v hv i hi => h.2 v (Nat.zero_le _) (by omega) i hi, fun h => ⟨rfl, fun v _ hv i hi => h v (by omega) i hi⟩⟩
theorem isP_map {B B2 : Nat → Nat} {P : Nat} {f : Nat → Nat} {l : List Nat} (h : ∀ v ∈ l, ∀ u ∈ l, (B2 v).testBit u = (B (f v)).testBit (f u)) : isP B P (l.map f) = isP B2 P l := by
  have e : ∀ i, i < l.length → (l.map f).getD i 0 = f (l.getD i 0) := by
    intro i hi
    rw [List.getD_eq_getElem?_getD, List.getD_eq_getElem?_getD, List.getElem?_map, List.getElem?_eq_getElem hi]; rfl
  rw [Bool.eq_iff_iff, isP_iff, isP_iff, List.length_map]
  constructor
  · intro g v hv i hi
    rw [h _ (getD_mem hv) _ (getD_mem (by omega)), ← e v hv, ← e i (by omega)]
    exact g v hv i hi
  · intro g v hv i hi
    rw [e v hv, e i (by omega), ← h _ (getD_mem hv) _ (getD_mem (by omega))]
    exact g v hv i hi
theorem pB_like {m Q P : Nat} (hm : m ≤ 6) : frm m 0 (pB m Q) = frm m 0 (pB m P) ↔ ∃ l ∈ lex m, isP (pB m Q) P l = true := by
  have h := frm_iso (k := m) (D := 0) (E := 0) hm (gb_pB m Q) (gb_pB m P) (p := List.range m) (q := List.range m) (by simp) (by simp) (fun x hx => List.mem_range.mp hx) (fun x hx => List.mem_range.mp hx)
  rw [(frm_cod (gb_pB m Q) (Nat.pow_pos (by decide))).1, (frm_cod (gb_pB m P) (Nat.pow_pos (by decide))).1] at h
  rw [h]
  have idm : ∀ l ∈ lex m, l.map (fun i => (List.range m).getD i 0) = l := by
    intro l hl
    have : ∀ v ∈ l, (List.range m).getD v 0 = v := fun v hv => range_getD (lex_mem hl v hv)
    rw [List.map_congr_left this, List.map_id']
  have pb : ∀ v i, v < m → i < v → (pB m P v).testBit i = P.testBit (v * (v - 1) / 2 + i) := by
    intro v i hv hi
    rw [pB_tb, decide_eq_true (show i < m by omega), decide_eq_true (show i ≠ v by omega), show max i v = v by omega, show min i v = i by omega]
    rfl
  constructor
  · rintro ⟨l, hl, e⟩
    refine ⟨l, hl, ?_⟩
    rw [idm l hl] at e
    have hll := lex_mem_len hl
    obtain ⟨_, g2⟩ := cod_eq_net (by simp [hll]) e
    rw [isP_iff]
    intro v hv i hi
    rw [g2 v i hi hv, range_getD (by omega), range_getD (by omega), pb v i (by omega) hi]
  · rintro ⟨l, hl, e⟩
    refine ⟨l, hl, ?_⟩
    rw [isP_iff] at e
    have hll := lex_mem_len hl
    have := net_cod_eq (D := 0) (E := 0) (gb_pB m Q) (gb_pB m P) (p := l) (q := List.range m) (by simp [hll]) (lex_mem hl) (fun x hx => List.mem_range.mp hx) (fun i hi => by simp) (fun i j hj hi => by rw [e i hi j hj, range_getD (by omega), range_getD (by omega), pb i j (by omega) hj]) (l := List.range m) (fun x hx => by rw [hll]; exact List.mem_range.mp hx)
    rw [range_map_getD hll] at this
    rw [idm l hl, this, range_map_getD (by simp)]
def hiT (t : Nat) : Nat := if t = 0 then 1 else if t < 3 then 2 else 3
/-- the net of some nodes, as a told one -/
def qF (B : Nat → Nat) (q : List Nat) (m : Nat) : Nat := maskOf (fun t => (B (q.getD (hiT t) 0)).testBit (q.getD (t - hiT t * (hiT t - 1) / 2) 0)) (m * (m - 1) / 2)
theorem qF_tb {B : Nat → Nat} {q : List Nat} {m a b : Nat} (hm : m ≤ 4) (hb : b < a) (ha : a < m) : (qF B q m).testBit (a * (a - 1) / 2 + b) = (B (q.getD a 0)).testBit (q.getD b 0) := by
  unfold qF
  rw [mask_tb]
  have t1 : ∀ m, m ≤ 4 → ∀ a, a < m → ∀ b, b < a → a * (a - 1) / 2 + b < m * (m - 1) / 2 ∧ hiT (a * (a - 1) / 2 + b) = a ∧ a * (a - 1) / 2 + b - a * (a - 1) / 2 = b := by decide
  obtain ⟨h1, h2, h3⟩ := t1 m hm a ha b hb
  rw [decide_eq_true h1, Bool.true_and, h2, h3]
theorem qF_lt (B : Nat → Nat) (q : List Nat) (m : Nat) : qF B q m < 2 ^ (m * (m - 1) / 2) := mask_lt _ _
theorem pB_qF {n : Nat} {B : Nat → Nat} (hB : GB n B) {q : List Nat} {m : Nat} (hm : m ≤ 4) (hl : q.length = m) (hq : ∀ x ∈ q, x < n) {v u : Nat} (hv : v < m) (hu : u < m) : (pB m (qF B q m) v).testBit u = (B (q.getD v 0)).testBit (q.getD u 0) := by
  subst hl
  rw [pB_tb, decide_eq_true hu, Bool.true_and]
  have qn : ∀ i, i < q.length → q.getD i 0 < n := fun i hi => hq _ (getD_mem hi)
  rcases Nat.lt_trichotomy u v with h | h | h
  · rw [decide_eq_true (show u ≠ v by omega), Bool.true_and, show max u v = v by omega, show min u v = u by omega, qF_tb hm h hv]
  · subst h
    rw [hB.2.1 _ (qn u hu)]; simp
  · rw [decide_eq_true (show u ≠ v by omega), Bool.true_and, show max u v = u by omega, show min u v = v by omega, qF_tb hm h hu]
    exact hB.1 _ _ (qn u hu) (qn v hv)
/-- some nodes of a net: the least code of what they make is that of the told net just if they can be laid on it -/
theorem part_like {n : Nat} {B : Nat → Nat} (hB : GB n B) {q : List Nat} {m P : Nat} (hm : m ≤ 4) (hm2 : 2 ≤ m) (hl : q.length = m) (hq : ∀ x ∈ q, x < n) (hP : P < 2 ^ (m * (m - 1) / 2)) : frm m (dkM m (cod 0 B q)) (byM m (cod 0 B q)) = frm m 0 (pB m P) ↔ ∃ l ∈ lex m, isP B P (l.map (fun i => q.getD i 0)) = true := by
  have e1 : frm m (dkM m (cod 0 B q)) (byM m (cod 0 B q)) = frm m 0 (pB m (qF B q m)) := by
    refine (frm_congr (fun l hlm => ?_)).1
    rw [cod_net hB hl hq (lex_mem hlm)]
    exact (cod_map (fun v _ => by simp) (fun v hv u hu => pB_qF hB hm hl hq (lex_mem hlm v hv) (lex_mem hlm u hu))).symm
  rw [e1, pB_like (by omega)]
  constructor
  · rintro ⟨l, hlm, h⟩
    exact ⟨l, hlm, by rw [isP_map (fun v hv u hu => pB_qF hB hm hl hq (lex_mem hlm v hv) (lex_mem hlm u hu))]; exact h⟩
  · rintro ⟨l, hlm, h⟩
    exact ⟨l, hlm, by rw [isP_map (fun v hv u hu => pB_qF hB hm hl hq (lex_mem hlm v hv) (lex_mem hlm u hu))] at h; exact h⟩
theorem hasP_iff {n : Nat} {B : Nat → Nat} (hB : GB n B) (hn : n ≤ 6) {m P : Nat} (hm : m ≤ 4) (hm2 : 2 ≤ m) (hP : P < 2 ^ (m * (m - 1) / 2)) : hasP n B m P = true ↔ ∃ s, s < 2 ^ n ∧ popc s 24 = m ∧ frm m (dkM m (cod 0 B (nds s n))) (byM m (cod 0 B (nds s n))) = frm m 0 (pB m P) := by
  have pn : ∀ s, s < 2 ^ n → popc s 24 = popc s n := by
    intro s hs
    have := popc_big hs (24 - n)
    rw [show n + (24 - n) = 24 by omega] at this
    exact this
  unfold hasP
  rw [List.any_eq_true]
  constructor
  · rintro ⟨t, ht, h⟩
    have := List.all_eq_true.mp (tup1 n hn m hm) t ht
    simp only [Bool.and_eq_true, decide_eq_true_eq, beq_iff_eq, List.any_eq_true] at this
    obtain ⟨h1, h2, l, hl, h3⟩ := this
    refine ⟨_, h1, by rw [pn _ h1]; exact h2, ?_⟩
    rw [part_like hB hm hm2 (by rw [nds_len]; exact h2) (fun x hx => nds_mem hx) hP]
    exact ⟨l, hl, by rw [h3]; exact h⟩
  · rintro ⟨s, hs, h2, h⟩
    rw [pn s hs] at h2
    rw [part_like hB hm hm2 (by rw [nds_len]; exact h2) (fun x hx => nds_mem hx) hP] at h
    obtain ⟨l, hl, h⟩ := h
    have := List.all_eq_true.mp (tup2 n hn m hm) s (List.mem_range.mpr hs)
    rw [h2] at this
    simp only [bne_self_eq_false, Bool.false_or, List.all_eq_true, List.contains_iff_mem] at this
    exact ⟨_, this l hl, h⟩
/-! the class: how many sets of nodes are like a net -/
def lkS (n c m fm s : Nat) : Bool := popc s 24 == m && frm m (dkM m (cod (dkM n c) (byM n c) (nds s n))) (byM m (cod (dkM n c) (byM n c) (nds s n))) == fm
def plC (n c m fm : Nat) : Nat → Nat
  | 0 => 0
  | s + 1 => plC n c m fm s + (if lkS n c m fm s then 1 else 0)
theorem plC_le (n c m fm : Nat) : ∀ s, plC n c m fm s ≤ s
  | 0 => Nat.le_refl _
  | s + 1 => by have := plC_le n c m fm s; rw [plC]; split <;> omega
theorem plC_pos {n c m fm : Nat} : ∀ {s}, 0 < plC n c m fm s ↔ ∃ i, i < s ∧ lkS n c m fm i = true
  | 0 => by simp [plC]
  | s + 1 => by
    rw [plC]
    by_cases e : lkS n c m fm s = true
    · rw [if_pos e]
      exact ⟨fun _ => ⟨s, by omega, e⟩, fun _ => by omega⟩
    · rw [if_neg e, Nat.add_zero, plC_pos]
      constructor
      · rintro ⟨i, h1, h2⟩; exact ⟨i, by omega, h2⟩
      · rintro ⟨i, h1, h2⟩
        refine ⟨i, ?_, h2⟩
        rcases Nat.lt_succ_iff_lt_or_eq.mp h1 with g | rfl
        · exact g
        · exact absurd h2 e
theorem f_partsLike {n c m fm : Nat} (hn : n ≤ 6) (hc : c < 2 ^ LN n) (hm : m ≤ 6) (hf : fm < 2 ^ 21) {ab : Int32} {fo : Int64} {ib : Int32} {is' : Int32} {it : Int32} {le : Int32} {nn : Int32} {od : Int64} {se : Int64} {sl : Int32} {sy : Int32} {cl : Int64} {dk' : Int32} {sn : Int32} {fans : (Nat → Int64)} {near : (Nat → Int32)} (ho : ordOk od) {post : Int32 → Int32 → Int64 → Int32 → Int32 → Int32 → Int32 → Int32 → Int64 → Int64 → Int32 → Int32 → Int64 → Int32 → Int32 → (Nat → Int64) → (Nat → Int32) → Prop}
    (K : ∀ ab fo ib is' it le nn od se sl sy cl dk' sn fans near, ordOk od → post (nI (plC n c m fm (2 ^ n))) ab fo ib is' it le nn od se sl sy cl dk' sn fans near) : F_X2_partsLike ab fo ib is' it le nn od se sl sy cl dk' sn fans near (nI n) (nI c) (nI m) (nI fm) post := by
  unfold F_X2_partsLike
  refine ⟨2 ^ n + 1, ?_⟩
  have hL6 := LN_mono hn
  have h6 : LN 6 = 21 := rfl
  have hc21 : c < 2 ^ 21 := Nat.lt_of_lt_of_le hc (Nat.pow_le_pow_right (by decide) (by omega))
  have p64 : 2 ^ n ≤ 2 ^ 6 := Nat.pow_le_pow_right (by decide) hn
  have main : ∀ j s ab fo ib is' it le nn od se sl sy cl dk' sn fans near, s + j = 2 ^ n → ordOk od → F_X2_partsLike_6 post (j + 1) (nI n) (nI c) (nI m) (nI fm) (nI (plC n c m fm s)) (nI s) ab fo ib is' it le nn od se sl sy cl dk' sn fans near := by
    intro j
    induction j with
    | zero =>
      intro s ab fo ib is' it le nn od se sl sy cl dk' sn fans near hs ho
      have : s = 2 ^ n := by omega
      subst this
      unfold F_X2_partsLike_6
      rw [ni_1shl (by omega)]
      exact br1 (Int32.le_refl _) (K _ _ _ _ _ _ _ _ _ _ _ _ _ _ _ _ ho)
    | succ j ih =>
      intro s ab fo ib is' it le nn od se sl sy cl dk' sn fans near hs ho
      have hsn : s < 2 ^ n := by omega
      have pl := plC_le n c m fm s
      unfold F_X2_partsLike_6 F_X2_partsLike_50 F_X2_partsLike_72
      rw [ni_1shl (by omega)]
      have pp := popc_le s 24
      have nxt : ∀ ab fo ib is' it le nn od se sl sy cl dk' sn fans near, ordOk od → lkS n c m fm s = false → F_X2_partsLike_6 post (j + 1) (nI n) (nI c) (nI m) (nI fm) (nI (plC n c m fm s)) (nI s + 1) ab fo ib is' it le nn od se sl sy cl dk' sn fans near := by
        intro ab fo ib is' it le nn od se sl sy cl dk' sn fans near ho e
        have := ih (s + 1) ab fo ib is' it le nn od se sl sy cl dk' sn fans near (by omega) ho
        rw [plC, e] at this
        rw [nI_1]
        exact this
      refine br2 (nI_ge (by omega) (by omega)) (f_bitCount (by omega) ⟨fun g => ?_, fun g => ?_⟩)
      · refine nxt _ _ _ _ _ _ _ _ _ _ _ _ _ _ _ _ ho ?_
        unfold lkS
        have : popc s 24 ≠ m := fun e => g (by rw [e])
        simp [this]
      · have g : popc s 24 = m := ni_inj (by omega) (by omega) g
        have gl : (nds s n).length = m := by
          rw [nds_len, ← g]
          have := popc_big hsn (24 - n)
          rw [show n + (24 - n) = 24 by omega] at this
          exact this.symm
        have hpl := cod_lt (dkM n c) (byM n c) (nds s n)
        rw [gl] at hpl
        have hLm := LN_mono hm
        have hp21 : cod (dkM n c) (byM n c) (nds s n) < 2 ^ 21 := Nat.lt_of_lt_of_le hpl (Nat.pow_le_pow_right (by decide) (by omega))
        have pc1 := popc_le (cod (dkM n c) (byM n c) (nds s n)) 24
        have pc2 := popc_le fm 24
        refine f_part hn (by omega) (by omega) (f_bitCount (by omega) (f_bitCount (by omega) ⟨fun g2 => ?_, fun g2 => ?_⟩))
        · refine br1 rfl ?_
          refine nxt _ _ _ _ _ _ _ _ _ _ _ _ _ _ _ _ ho ?_
          unfold lkS
          have : ¬ frm m (dkM m (cod (dkM n c) (byM n c) (nds s n))) (byM m (cod (dkM n c) (byM n c) (nds s n))) = fm := by
            intro e
            have := popc_form hm hpl
            rw [e] at this
            exact g2 (by rw [this])
          simp [this]
        · refine br2 (by decide) (f_leastOf hm hpl ho ?_)
          intro ab fo ib is' it le nn od se sl sy cl dk' sn fans near hF
          have hfr := frm_lt m (dkM m (cod (dkM n c) (byM n c) (nds s n))) (byM m (cod (dkM n c) (byM n c) (nds s n)))
          have hfr21 := Nat.lt_of_lt_of_le hfr (Nat.pow_le_pow_right (show 0 < 2 by decide) (show LN m ≤ 21 by omega))
          refine ⟨fun g3 => ?_, fun g3 => ?_⟩
          · refine nxt _ _ _ _ _ _ _ _ _ _ _ _ _ _ _ _ hF.2.2.2.2.1 ?_
            unfold lkS
            have : ¬ frm m (dkM m (cod (dkM n c) (byM n c) (nds s n))) (byM m (cod (dkM n c) (byM n c) (nds s n))) = fm := fun e => g3 (by rw [e])
            simp [this]
          · have g3 := ni_inj (by omega) (by omega) g3
            have e : lkS n c m fm s = true := by unfold lkS; simp [g, g3]
            have := ih (s + 1) ab fo ib is' it le nn od se sl sy cl dk' sn fans near (by omega) hF.2.2.2.2.1
            rw [plC, e, if_pos rfl] at this
            dsimp only
            rw [nI_1, nI_1]
            exact this
  exact main (2 ^ n) 0 _ _ _ _ _ _ _ _ _ _ _ _ _ _ _ _ (by omega) ho
