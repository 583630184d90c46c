/-! all orders; two nets have the same least code just if one is the other one in some order -/
theorem lv_mem {n : Nat} : ∀ (r p : List Nat) (u : Nat), r.Nodup → (∀ x ∈ r, x < n ∧ u.testBit x = false) → p ++ r ∈ lv n r.length p u
  | [], p, u, _, _ => by simp [lv]
  | v :: r, p, u, hd, h => by
    obtain ⟨h1, h2⟩ := h v (by simp)
    rw [List.length_cons, lv, List.mem_flatMap]
    refine ⟨v, List.mem_range.mpr h1, ?_⟩
    rw [if_neg (by rw [h2]; decide)]
    have := lv_mem (n := n) r (p ++ [v]) (u ||| 2 ^ v) (List.nodup_cons.mp hd).2 (fun x hx => by
      obtain ⟨a, b⟩ := h x (by simp [hx])
      refine ⟨a, ?_⟩
      rw [tb_or_pow, b]
      have : v ≠ x := fun e => (List.nodup_cons.mp hd).1 (by rw [e]; exact hx)
      simp [this])
    simpa using this
theorem lex_of {n : Nat} {l : List Nat} (h1 : l.length = n) (h2 : l.Nodup) (h3 : ∀ x ∈ l, x < n) : l ∈ lex n := by
  have := lv_mem (n := n) l [] 0 h2 (fun x hx => ⟨h3 x hx, by simp⟩)
  rw [h1] at this
  show l ∈ lv n n [] 0
  simpa using this
theorem range_map_getD {l : List Nat} {n : Nat} (h : l.length = n) : (List.range n).map (fun i => l.getD i 0) = l := by
  apply List.ext_getElem
  · simp [h]
  · intro i h1 h2
    rw [List.getElem_map, List.getElem_range, List.getD_eq_getElem?_getD, List.getElem?_eq_getElem h2]; rfl
theorem nodup_map {l : List Nat} {f : Nat → Nat} (hd : l.Nodup) (h : ∀ x ∈ l, ∀ y ∈ l, f x = f y → x = y) : (l.map f).Nodup := by
  induction l with
  | nil => simp
  | cons a l ih =>
    rw [List.map_cons, List.nodup_cons]
    rw [List.nodup_cons] at hd
    refine ⟨fun g => ?_, ih hd.2 (fun x hx y hy => h x (by simp [hx]) y (by simp [hy]))⟩
    obtain ⟨x, hx, e⟩ := List.mem_map.mp g
    have := h x (by simp [hx]) a (by simp) e
    rw [this] at hx
    exact hd.1 hx
theorem getD_inj {l : List Nat} (hd : l.Nodup) {i j : Nat} (hi : i < l.length) (hj : j < l.length) (e : l.getD i 0 = l.getD j 0) : i = j := by
  rw [List.getD_eq_getElem?_getD, List.getElem?_eq_getElem hi, List.getD_eq_getElem?_getD, List.getElem?_eq_getElem hj] at e
  exact (List.getElem_inj hd).mp e
/-- where a node stands in an order -/
theorem find_at {n : Nat} (hn : n ≤ 6) {l : List Nat} (hl : l ∈ lex n) {v : Nat} (hv : v < n) : l.idxOf v < n ∧ l.getD (l.idxOf v) 0 = v := by
  have hm : v ∈ l := by
    have := (lex_perm n hn l hl).mem_iff (a := v)
    exact this.mpr (List.mem_range.mpr hv)
  have h1 : l.idxOf v < l.length := List.idxOf_lt_length_of_mem hm
  have hl' := lex_mem_len hl
  refine ⟨by omega, ?_⟩
  rw [List.getD_eq_getElem?_getD, List.getElem?_eq_getElem h1]
  exact List.getElem_idxOf h1
/-- one order behind another one -/
theorem lex_comp {n : Nat} (hn : n ≤ 6) {l q : List Nat} (hl : l ∈ lex n) (hq : q ∈ lex n) : l.map (fun i => q.getD i 0) ∈ lex n := by
  refine lex_of (by rw [List.length_map]; exact lex_mem_len hl) ?_ ?_
  · refine nodup_map (lex_nodup n hn l hl) (fun x hx y hy e => ?_)
    have hx := lex_mem hl x hx
    have hy := lex_mem hl y hy
    have := lex_mem_len hq
    exact getD_inj (lex_nodup n hn q hq) (by omega) (by omega) e
  · intro x hx
    obtain ⟨i, hi, rfl⟩ := List.mem_map.mp hx
    have := lex_mem hl i hi
    have h2 := lex_mem_len hq
    exact lex_mem hq _ (getD_mem (by omega))
theorem lex_inv {n : Nat} (hn : n ≤ 6) {q : List Nat} (hq : q ∈ lex n) : (List.range n).map (fun v => q.idxOf v) ∈ lex n := by
  refine lex_of (by simp) ?_ ?_
  · refine nodup_map List.nodup_range (fun x hx y hy e => ?_)
    have h1 := find_at hn hq (List.mem_range.mp hx)
    have h2 := find_at hn hq (List.mem_range.mp hy)
    rw [← h1.2, ← h2.2, e]
  · intro x hx
    obtain ⟨i, hi, rfl⟩ := List.mem_map.mp hx
    exact (find_at hn hq (List.mem_range.mp hi)).1
theorem map_at {n : Nat} {f : Nat → Nat} {i : Nat} (hi : i < n) : ((List.range n).map f).getD i 0 = f i := by
  rw [List.getD_eq_getElem?_getD, List.getElem?_map, List.getElem?_range hi]; rfl
/-- equal codes are equal nets, node by node -/
theorem cod_eq_net {D E : Nat} {B A : Nat → Nat} {p q : List Nat} (hl : p.length = q.length) (h : cod D B p = cod E A q) : (∀ i, i < p.length → D.testBit (p.getD i 0) = E.testBit (q.getD i 0)) ∧ ∀ i j, j < i → i < p.length → (B (p.getD i 0)).testBit (p.getD j 0) = (A (q.getD i 0)).testBit (q.getD j 0) := by
  obtain ⟨a1, a2⟩ := cod_tb D B p
  obtain ⟨b1, b2⟩ := cod_tb E A q
  rw [← hl] at b1 b2
  refine ⟨fun i hi => ?_, fun i j hj hi => ?_⟩
  · rw [← a1 i hi, ← b1 i hi, h]
  · rw [← a2 i j hj hi, ← b2 i j hj hi, h]
theorem net_cod_eq {n m D E : Nat} {B A : Nat → Nat} (hB : GB n B) (hA : GB m A) {p q : List Nat} (hl : p.length = q.length) (hp : ∀ x ∈ p, x < n) (hq : ∀ x ∈ q, x < m) (h1 : ∀ i, i < p.length → D.testBit (p.getD i 0) = E.testBit (q.getD i 0)) (h2 : ∀ i j, j < i → i < p.length → (B (p.getD i 0)).testBit (p.getD j 0) = (A (q.getD i 0)).testBit (q.getD j 0)) {l : List Nat} (hll : ∀ x ∈ l, x < p.length) : cod D B (l.map (fun i => p.getD i 0)) = cod E A (l.map (fun i => q.getD i 0)) := by
  have pn : ∀ i, i < p.length → p.getD i 0 < n := fun i hi => hp _ (getD_mem hi)
  have qn : ∀ i, i < p.length → q.getD i 0 < m := fun i hi => hq _ (getD_mem (by omega))
  have g : ∀ v u, v < p.length → u < p.length → (B (p.getD v 0)).testBit (p.getD u 0) = (A (q.getD v 0)).testBit (q.getD u 0) := by
    intro v u hv hu
    rcases Nat.lt_trichotomy u v with h | h | h
    · exact h2 v u h hv
    · subst h; rw [hB.2.1 _ (pn u hu), hA.2.1 _ (qn u hu)]
    · rw [hB.1 _ _ (pn v hv) (pn u hu), hA.1 _ _ (qn v hv) (qn u hu)]
      exact h2 u v h hu
  rw [← cod_map (D := D) (D2 := maskOf (fun i => D.testBit (p.getD i 0)) p.length) (B := B) (B2 := fun i => maskOf (fun j => (B (p.getD i 0)).testBit (p.getD j 0)) p.length) (f := fun i => p.getD i 0) (l := l), ← cod_map (D := E) (D2 := maskOf (fun i => D.testBit (p.getD i 0)) p.length) (B := A) (B2 := fun i => maskOf (fun j => (B (p.getD i 0)).testBit (p.getD j 0)) p.length) (f := fun i => q.getD i 0) (l := l)]
  · intro v hv
    rw [mask_tb, decide_eq_true (hll v hv), Bool.true_and]
    exact h1 v (hll v hv)
  · intro v hv u hu
    show (maskOf _ _).testBit u = _
    rw [mask_tb, decide_eq_true (hll u hu), Bool.true_and]
    exact g v u (hll v hv) (hll u hu)
  · intro v hv
    rw [mask_tb, decide_eq_true (hll v hv), Bool.true_and]
  · intro v hv u hu
    show (maskOf _ _).testBit u = _
    rw [mask_tb, decide_eq_true (hll u hu), Bool.true_and]
theorem frm_at {n D : Nat} {B : Nat → Nat} : ∃ l ∈ lex n, cod D B l = frm n D B := by
  rcases frm_sm n D B with ⟨a, _⟩ | ⟨_, a, b, _⟩
  · exact absurd a (lex_ne n)
  · obtain ⟨x, hx⟩ := List.exists_mem_of_ne_nil _ a
    rw [b, List.mem_filter] at hx
    have e := hx.2
    simp at e
    exact ⟨x, hx.1, e⟩
/-- two lists of nodes, of two nets: the same code in some orders of theirs just if the same least code -/
theorem frm_iso {n m k D E : Nat} {B A : Nat → Nat} (hk : k ≤ 6) (hB : GB n B) (hA : GB m A) {p q : List Nat} (hpl : p.length = k) (hql : q.length = k) (hp : ∀ x ∈ p, x < n) (hq : ∀ x ∈ q, x < m) : frm k (dkM k (cod D B p)) (byM k (cod D B p)) = frm k (dkM k (cod E A q)) (byM k (cod E A q)) ↔ ∃ l ∈ lex k, cod D B (l.map (fun i => p.getD i 0)) = cod E A q := by
  constructor
  · intro h
    obtain ⟨x, hx, ex⟩ := frm_at (n := k) (D := dkM k (cod D B p)) (B := byM k (cod D B p))
    obtain ⟨y, hy, ey⟩ := frm_at (n := k) (D := dkM k (cod E A q)) (B := byM k (cod E A q))
    rw [cod_net hB hpl hp (lex_mem hx)] at ex
    rw [cod_net hA hql hq (lex_mem hy)] at ey
    have e : cod D B (x.map (fun i => p.getD i 0)) = cod E A (y.map (fun i => q.getD i 0)) := by rw [ex, ey, h]
    have hxl := lex_mem_len hx
    have hyl := lex_mem_len hy
    obtain ⟨g1, g2⟩ := cod_eq_net (by simp [hxl, hyl]) e
    have mp : ∀ z ∈ x.map (fun i => p.getD i 0), z < n := by
      intro z hz
      obtain ⟨i, hi, rfl⟩ := List.mem_map.mp hz
      exact hp _ (getD_mem (by have := lex_mem hx i hi; omega))
    have mq : ∀ z ∈ y.map (fun i => q.getD i 0), z < m := by
      intro z hz
      obtain ⟨i, hi, rfl⟩ := List.mem_map.mp hz
      exact hq _ (getD_mem (by have := lex_mem hy i hi; omega))
    have hinv := lex_inv hk hy
    have key := net_cod_eq hB hA (by simp [hxl, hyl]) mp mq g1 g2 (l := (List.range k).map (fun v => y.idxOf v)) (fun z hz => by rw [List.length_map, hxl]; exact lex_mem hinv z hz)
    have atx : ∀ i, i < k → (x.map (fun i => p.getD i 0)).getD i 0 = p.getD (x.getD i 0) 0 := by
      intro i hi
      rw [List.getD_eq_getElem?_getD, List.getElem?_map, List.getElem?_eq_getElem (show i < x.length by omega), List.getD_eq_getElem?_getD (l := x), List.getElem?_eq_getElem (show i < x.length by omega)]; rfl
    have aty : ∀ i, i < k → (y.map (fun i => q.getD i 0)).getD i 0 = q.getD (y.getD i 0) 0 := by
      intro i hi
      rw [List.getD_eq_getElem?_getD, List.getElem?_map, List.getElem?_eq_getElem (show i < y.length by omega), List.getD_eq_getElem?_getD (l := y), List.getElem?_eq_getElem (show i < y.length by omega)]; rfl
    refine ⟨((List.range k).map (fun v => y.idxOf v)).map (fun i => x.getD i 0), lex_comp hk hinv hx, ?_⟩
    have e1 : ((List.range k).map (fun v => y.idxOf v)).map (fun i => (x.map (fun i => p.getD i 0)).getD i 0) = (((List.range k).map (fun v => y.idxOf v)).map (fun i => x.getD i 0)).map (fun i => p.getD i 0) := by
      generalize (List.range k).map (fun v => y.idxOf v) = z at hinv
      rw [List.map_map]
      apply List.map_congr_left
      intro i hi
      exact atx i (lex_mem hinv i hi)
    have e2 : ((List.range k).map (fun v => y.idxOf v)).map (fun i => (y.map (fun i => q.getD i 0)).getD i 0) = q := by
      rw [List.map_map]
      have : ∀ v ∈ List.range k, ((fun i => (y.map (fun i => q.getD i 0)).getD i 0) ∘ fun v => y.idxOf v) v = q.getD v 0 := by
        intro v hv
        have hv := List.mem_range.mp hv
        obtain ⟨f1, f2⟩ := find_at hk hy hv
        show (y.map (fun i => q.getD i 0)).getD (y.idxOf v) 0 = q.getD v 0
        rw [aty _ f1, f2]
      rw [List.map_congr_left this, range_map_getD hql]
    rw [← e1, key, e2]
  · rintro ⟨l, hl, e⟩
    have hll := lex_mem_len hl
    obtain ⟨g1, g2⟩ := cod_eq_net (by simp [hll, hql]) e
    have ml : ∀ z ∈ l.map (fun i => p.getD i 0), z < n := by
      intro z hz
      obtain ⟨i, hi, rfl⟩ := List.mem_map.mp hz
      exact hp _ (getD_mem (by have := lex_mem hl i hi; omega))
    have atl : ∀ i, i < k → (l.map (fun i => p.getD i 0)).getD i 0 = p.getD (l.getD i 0) 0 := by
      intro i hi
      rw [List.getD_eq_getElem?_getD, List.getElem?_map, List.getElem?_eq_getElem (show i < l.length by omega), List.getD_eq_getElem?_getD (l := l), List.getElem?_eq_getElem (show i < l.length by omega)]; rfl
    have key : ∀ x ∈ lex k, cod D B ((x.map (fun i => l.getD i 0)).map (fun i => p.getD i 0)) = cod E A (x.map (fun i => q.getD i 0)) := by
      intro x hx
      have := net_cod_eq hB hA (by simp [hll, hql]) ml hq g1 g2 (l := x) (fun z hz => by rw [List.length_map, hll]; exact lex_mem hx z hz)
      rw [← this, List.map_map]
      congr 1
      apply List.map_congr_left
      intro i hi
      exact (atl i (lex_mem hx i hi)).symm
    obtain ⟨x, hx, ex⟩ := frm_at (n := k) (D := dkM k (cod D B p)) (B := byM k (cod D B p))
    obtain ⟨y, hy, ey⟩ := frm_at (n := k) (D := dkM k (cod E A q)) (B := byM k (cod E A q))
    have le1 : frm k (dkM k (cod D B p)) (byM k (cod D B p)) ≤ frm k (dkM k (cod E A q)) (byM k (cod E A q)) := by
      rw [← ey, cod_net hA hql hq (lex_mem hy), ← key y hy, ← cod_net hB hpl hp (lex_mem (lex_comp hk hy hl))]
      exact frm_le (lex_comp hk hy hl)
    have le2 : frm k (dkM k (cod E A q)) (byM k (cod E A q)) ≤ frm k (dkM k (cod D B p)) (byM k (cod D B p)) := by
      have hinv := lex_inv hk hl
      have hz := lex_comp hk hx hinv
      have e3 : (x.map (fun i => ((List.range k).map (fun v => l.idxOf v)).getD i 0)).map (fun i => l.getD i 0) = x := by
        rw [List.map_map]
        have : ∀ v ∈ x, ((fun i => l.getD i 0) ∘ fun i => ((List.range k).map (fun v => l.idxOf v)).getD i 0) v = v := by
          intro v hv
          have hv := lex_mem hx v hv
          show l.getD (((List.range k).map (fun v => l.idxOf v)).getD v 0) 0 = v
          rw [map_at hv]
          exact (find_at hk hl hv).2
        rw [List.map_congr_left this, List.map_id']
      rw [← ex, cod_net hB hpl hp (lex_mem hx)]
      have k2 := key _ hz
      rw [e3] at k2
      rw [k2, ← cod_net hA hql hq (lex_mem hz)]
      exact frm_le hz
    omega
