/-! the tape: end -/
theorem j_end {len taped thrown p1 : Int32} {K : Int32 → Int32 → Int32 → Prop} (e : len = taped) (h0 : 0 ≤ len.toInt) (k : ∀ n : Int32, 0 ≤ n.toInt → n.toInt ≤ len.toInt → K n n 0) : F_X11_end len p1 (fun r1 l1 => F_X12_end taped thrown p1 (fun r2 t2 th2 => (r1 = r2 → K l1 t2 th2) ∧ (¬ r1 = r2 → False))) := by
  subst e
  unfold F_X11_end F_X12_end F_X11_end_15 F_X12_end_17
  refine ⟨fun a => ⟨rfl, ⟨fun _ => ⟨rfl, fun _ => k _ h0 (Int.le_refl _), fun h => absurd rfl h⟩, fun b => absurd a b⟩⟩, fun a => ⟨fun b => ⟨fun c => absurd c a, fun _ => ⟨fun _ => ⟨fun _ => k _ ?_ (Int32.le_iff_toInt_le.mp b), fun h => absurd rfl h⟩, fun c => absurd b c⟩⟩, fun b => ⟨rfl, ⟨fun c => absurd c a, fun _ => ⟨fun c => absurd c b, fun _ => ⟨rfl, fun _ => k _ h0 (Int.le_refl _), fun h => absurd rfl h⟩⟩⟩⟩⟩⟩
  have : ¬ p1.toInt < (0 : Int32).toInt := fun h => a (Int32.lt_iff_toInt_lt.mpr h)
  have z : (0 : Int32).toInt = 0 := by decide
  omega
