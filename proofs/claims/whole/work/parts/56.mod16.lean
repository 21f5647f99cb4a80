/-! the model: settle, clearText, append -/
def f_X7_clearText : gF := fun av M post => match av with
  | [.inr (.inl (7, p))] => p = 926 ∧ ∃ σ, moR M σ ∧ mQ M (oClr σ) post
  | _ => False
theorem lk_X7_clearText (l : Launch) : gLinks l RX7 0 [] pX7_clearText := And.intro gf_RX7_31 (And.intro gf_RX7_145 (And.intro gf_RX7_145 (trivial)))
theorem ok_X7_clearText (l : Launch) : gOK l yX7_clearText cX7_clearText 2 (some .int) 0 0 0 (gTn f_X7_clearText) := by
  refine gM_of (by decide +kernel) pX7_clearText_ok (lk_X7_clearText l) ?_
  intro SL SX K P av M run h
  unfold f_X7_clearText at h
  split at h
  · obtain ⟨rfl, σ, hσ0, h⟩ := h
    refine ⟨⟨by simp [gC1], Nat.le_of_ble_eq_true rfl⟩, ?_⟩
    have hσ := hσ0.th
    have f0 := gFm.up M (q := 926) 0 0 (Nat.le_refl _)
    unfold oClr at h
    obtain ⟨h1, ⟨a1, a2, a3⟩, b1, b2, b3⟩ := hσ
    have b0 : gUp M 926 0 0 926 6 = nI σ.2.2.2 := b2
    refine run [] 1000 _ _ _ _ _ _ rfl ?_
    conv => whnf
    rw [b0]
    refine ⟨rfl, h _ ⟨?_, ⟨a1, ?_, fun i S hi => ?_⟩, Nat.zero_le _, gUp_same _ _ _ _, fun k hk => absurd hk (Nat.not_lt_zero k)⟩ (f0.tr (gFm.up _ _ _ (Nat.le_refl _)))⟩
    · rw [gUp_row (by decide)]; exact h1
    · rw [gUp_ne (Or.inr (by decide))]; exact a2
    · rw [gUp_row (by decide)]; exact a3 i S hi
  · exact h.elim
def f_X7_append : gF := fun av M post => match av with
  | [.inr (.inl (7, p)), .inl c] => p = 926 ∧ ∃ σ, moR M σ ∧ mQ M (oApp σ c) post
  | _ => False
theorem lk_X7_append (l : Launch) : gLinks l RX7 1 [(gTn f_X7_in, 0, 0, 99)] pX7_append := And.intro gf_RX7_31 (And.intro ⟨gTn f_X7_in, 99, yX7_in, cX7_in, 3, (some .boolean), 0, rfl, yi_yX7_in, ok_X7_in l, by decide, Or.inl ml_RX7_38, sm_yX7_in⟩ (And.intro kc_RX7_71 (And.intro gf_RX7_145 (And.intro kc_RX7_72 (And.intro gf_RX7_19 (And.intro gf_RX7_145 (And.intro gf_RX7_145 (And.intro gf_RX7_145 (And.intro gf_RX7_145 (trivial))))))))))
theorem ok_X7_append (l : Launch) : gOK l yX7_append cX7_append 2 (some .int) 1 0 0 (gTn f_X7_append) := by
  refine gM_of (by decide +kernel) pX7_append_ok (lk_X7_append l) ?_
  intro SL SX K P av M run h
  unfold f_X7_append at h
  split at h
  · rename_i p c
    obtain ⟨rfl, σ, hσ0, h⟩ := h
    refine ⟨⟨by simp [gC1], Nat.le_of_ble_eq_true rfl⟩, ?_⟩
    have hσ := hσ0.th
    have f0 := gFm.up M (q := 926) 0 0 (Nat.le_refl _)
    unfold oApp at h
    have hσ' := hσ
    obtain ⟨h1, ⟨a1, a2, a3⟩, b1, b2, b3⟩ := hσ'
    have b0 : gUp M 926 0 0 926 6 = nI σ.2.2.2 := b2
    have en : (nI σ.2.2.2).toNatClampNeg = σ.2.2.2 := nI_clamp (by omega)
    refine run [] 1000 _ _ _ _ _ _ rfl ?_
    conv => whnf
    refine ⟨rfl, rfl, ?_⟩
    conv => whnf
    by_cases hc : 1 ≤ c ∧ c ≤ 255
    · rw [if_pos hc]
      rw [if_neg (fun a => a hc)] at h
      refine ⟨fun h2 => ?_, fun h2 => ?_⟩
      · conv => whnf
        rw [b0]
        refine ⟨fun h3 => ?_, fun h3 => ?_⟩
        · have hlt : σ.2.2.2 < 140 := by
            rcases Nat.lt_or_ge σ.2.2.2 140 with a | a
            · exact a
            · exact absurd (show nI σ.2.2.2 = 140 by rw [show σ.2.2.2 = 140 by omega]; rfl) h3
          rw [if_neg (by omega)] at h
          conv => whnf
          rw [b0]
          refine ⟨vp_in_nI (by omega) (by decide), ?_⟩
          conv => whnf
          rw [en]
          have e6 : gUp (gUp M 926 0 0) (926 + 4) σ.2.2.2 c 926 6 = nI σ.2.2.2 := (congrFun (gUp_row (by decide)) 6).trans b0
          rw [e6, nI_1]
          have h9 := h (gUp (gUp (gUp M 926 0 0) 930 σ.2.2.2 c) 926 6 (nI (σ.2.2.2 + 1))) ⟨?_, ⟨a1, ?_, fun i S hi => ?_⟩, by show σ.2.2.2 + 1 ≤ 140; omega, gUp_same _ _ _ _, fun k hk => ?_⟩ ((f0.tr (gFm.up _ _ _ (by decide))).tr (gFm.up _ _ _ (Nat.le_refl _)))
          · refine ⟨rfl, ?_⟩
            rw [gUp_same]
            exact h9
          · rw [gUp_row (by decide), gUp_row (by decide)]; exact h1
          · rw [gUp_ne (Or.inr (by decide)), gUp_row (by decide)]; exact a2
          · rw [gUp_row (by decide), gUp_row (by decide)]; exact a3 i S hi
          · have hk : k < σ.2.2.2 + 1 := hk
            rw [gUp_row (by decide)]
            show gUp (gUp M 926 0 0) 930 σ.2.2.2 c 930 k = if k = σ.2.2.2 then c else σ.2.2.1 k
            by_cases a : k = σ.2.2.2
            · subst a
              rw [if_pos rfl]
              exact gUp_same _ _ _ _
            · rw [if_neg a, gUp_ne (Or.inr a)]
              exact b3 k (by omega)
        · conv => whnf
          have hge : 140 ≤ σ.2.2.2 := Nat.le_of_eq ((nI_eq (b := 140) (by omega) (by decide)).mp h3).symm
          exact ⟨rfl, h.no hσ f0 (if_pos hge)⟩
      · exact absurd h2 (by decide)
    · rw [if_neg hc]
      refine ⟨fun h2 => ?_, fun h2 => ?_⟩
      · exact absurd rfl h2
      · conv => whnf
        exact ⟨rfl, h.no hσ f0 (if_pos hc)⟩
  · exact h.elim
