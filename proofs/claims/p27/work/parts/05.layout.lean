/-! the layout of the world, decided; reads and writes of it -/
set_option maxRecDepth 100000 in
theorem gK_all : ((List.range gN).all fun q => (gFl (gK q)).all fun o => match o with
  | none => true
  | some (t, δ) => gK (q + δ) == t && Nat.ble (q + δ) 925) = true := by decide +kernel
set_option maxRecDepth 100000 in
theorem gK_allA : ((List.range gN).all fun q => !(Nat.ble 8 (gK q) && Nat.ble (gK q) 10) || ((List.range (gEl (gK q)).2.2.2).all fun j => gK (q + (gEl (gK q)).2.1 + (gEl (gK q)).2.2.1 * j) == (gEl (gK q)).1 && Nat.ble (q + (gEl (gK q)).2.1 + (gEl (gK q)).2.2.1 * j) 925)) = true := by decide +kernel
theorem gK_fld {q b t δ : Nat} (hq : q < gN) (h : (gFl (gK q))[b]? = some (some (t, δ))) : gK (q + δ) = t ∧ q + δ < gN := by
  have h1 := List.all_eq_true.mp gK_all q (List.mem_range.mpr hq)
  have h2 := List.all_eq_true.mp h1 _ (List.mem_of_getElem? h)
  simp only [Bool.and_eq_true, beq_iff_eq, Nat.ble_eq] at h2
  exact ⟨h2.1, Nat.lt_succ_of_le h2.2⟩
theorem gK_elm {q j : Nat} (hq : q < gN) (h8 : 8 ≤ gK q) (h10 : gK q < 11) (hj : j < (gEl (gK q)).2.2.2) : gK (q + (gEl (gK q)).2.1 + (gEl (gK q)).2.2.1 * j) = (gEl (gK q)).1 ∧ q + (gEl (gK q)).2.1 + (gEl (gK q)).2.2.1 * j < gN := by
  have h1 := List.all_eq_true.mp gK_allA q (List.mem_range.mpr hq)
  have a1 : Nat.ble 8 (gK q) = true := Nat.ble_eq.mpr h8
  have a2 : Nat.ble (gK q) 10 = true := Nat.ble_eq.mpr (by omega)
  rw [a1, a2] at h1
  simp only [Bool.and_self, Bool.not_true, Bool.false_or] at h1
  have h2 := List.all_eq_true.mp h1 j (List.mem_range.mpr hj)
  simp only [Bool.and_eq_true, beq_iff_eq, Nat.ble_eq] at h2
  exact ⟨h2.1, Nat.lt_succ_of_le h2.2⟩
theorem gFl_ro {a b t δ : Nat} (h : (gFl a)[b]? = some (some (t, δ))) : gRO t = false := by
  have hall : ∀ o ∈ gFl a, ∀ t δ, o = some (t, δ) → gRO t = false := by
    unfold gFl
    split <;> intro o ho t δ e <;> subst e <;> simp at ho <;> (try (rcases ho with ho | ho | ho | ho | ho | ho | ho | ho | ho)) <;> (try (rcases ho with ho | ho | ho | ho | ho | ho)) <;> (try (rcases ho with ho | ho | ho | ho | ho)) <;> (try (rcases ho with ho | ho | ho)) <;> (try cases ho) <;> (try rfl) <;> (try (obtain ⟨rfl, rfl⟩ := ho; rfl))
  exact hall _ (List.mem_of_getElem? h) t δ rfl
