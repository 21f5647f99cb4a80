/-! the model: settle, clearText, append -/
def f_X7_clearText : gF := fun av M post => match av with
  | [.inr (.inl (7, p))] => p = 926 ∧ ∃ σ, moR M σ ∧ mQ M (oClr σ) post
  | _ => False
theorem lk_X7_clearText (l : Launch) : gLinks l RX7 0 [] pX7_clearText := And.intro gf_RX7_31 (And.intro gf_RX7_145 (And.intro gf_RX7_145 (trivial)))
theorem ok_X7_clearText (l : Launch) : gOK l yX7_clearText cX7_clearText 2 (some .int) 0 0 0 (gTn f_X7_clearText) := by
  refine gM_of (by decide +kernel) pX7_clearText_ok (lk_X7_clearText l) ?_
  intro SL SX K P av M run h
  unfold f_X7_clearText at h
  split at h
  · obtain ⟨rfl, σ, hσ0, h⟩ := h
    refine ⟨⟨by simp [gC1], Nat.le_of_ble_eq_true rfl⟩, ?_⟩
    have hσ := hσ0.th
    have f0 := gFm.up M (q := 926) 0 0 (Nat.le_refl _)
    unfold oClr at h
    obtain ⟨h1, ⟨a1, a2, a3⟩, b1, b2, b3⟩ := hσ
    have b0 : gUp M 926 0 0 926 6 = nI σ.2.2.2 := b2
    refine run [] 1000 _ _ _ _ _ _ rfl ?_
    conv => whnf
    rw [b0]
    refine ⟨rfl, h _ ⟨?_, ⟨a1, ?_, fun i S hi => ?_⟩, Nat.zero_le _, gUp_same _ _ _ _, fun k hk => absurd hk (Nat.not_lt_zero k)⟩ (f0.tr (gFm.up _ _ _ (Nat.le_refl _)))⟩
    · rw [gUp_row (by decide)]; exact h1
    · rw [gUp_ne (Or.inr (by decide))]; exact a2
    · rw [gUp_row (by decide)]; exact a3 i S hi
  · exact h.elim
