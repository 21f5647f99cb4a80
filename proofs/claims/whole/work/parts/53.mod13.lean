/-! the model: what is summed over all blocks -/
def f_X7_allLayers : gF := fun av M post => match av with
  | [.inr (.inl (7, p))] => p = 926 ∧ ∃ C : Cru, (∀ i, i < 10 → mcR (M 927) (26 * i) (C i)) ∧ post (some (.inl (aLay C))) M
  | _ => False
theorem lk_X7_allLayers (l : Launch) : gLinks l RX7 1 [(gTn f_X7_of, 0, 0, 7)] pX7_allLayers := And.intro ⟨gTn f_X7_of, 7, yX7_of, cX7_of, 3, (some .int), 0, _, rfl, by decide, yi_yX7_of, ok_X7_of l, by decide, by decide, rfl, rfl, ml_RX7_50, im_yX7_of, se_yX7_of⟩ (trivial)
theorem ok_X7_allLayers (l : Launch) : gOK l yX7_allLayers cX7_allLayers 3 (some .int) 1 0 0 (gTn f_X7_allLayers) := by
  refine gM_of (by decide +kernel) pX7_allLayers_ok (lk_X7_allLayers l) ?_
  intro SL SX K P av M run h
  unfold f_X7_allLayers at h
  split at h
  · obtain ⟨rfl, C, hC, h⟩ := h
    refine ⟨⟨by simp [gC1], Nat.le_of_ble_eq_true rfl⟩, ?_⟩
    refine run [4] 1000 _ _ _ _ _ _ rfl ?_
    conv => whnf
    refine upto (n := 10) (A := fun k => K 4 [some (.inr (.inl (7, 926))), some (.inl (cSum (fun c => nI c.1.length) C k)), some (.inl (nI k))] [] M gB0) ?_ (fun k hk ih => ?_) 0 (Nat.zero_le _)
    · refine run [4] 1000 _ _ _ _ _ _ rfl ?_
      conv => whnf
      refine ⟨fun h1 => ?_, fun h1 => ?_⟩
      · conv => whnf
        exact ⟨rfl, h⟩
      · exact absurd (nI_le (Nat.le_refl 10) (by decide)) h1
    · refine run [4] 1000 _ _ _ _ _ _ rfl ?_
      conv => whnf
      refine ⟨fun h1 => ?_, fun h1 => ?_⟩
      · exact absurd h1 (nI_ge hk (by decide))
      · conv => whnf
        refine ⟨rfl, rfl, rfl, k, 0, hk, by decide, rfl, rfl, ?_⟩
        rw [show M 927 (26 * k + 0) = nI (C k).1.length from (hC k hk).2.1]
        conv => whnf
        rw [nI_1]
        exact ih
  · exact h.elim
def f_X7_allWeights : gF := fun av M post => match av with
  | [.inr (.inl (7, p))] => p = 926 ∧ ∃ C : Cru, (∀ i, i < 10 → mcR (M 927) (26 * i) (C i)) ∧ post (some (.inl (aWt C))) M
  | _ => False
theorem lk_X7_allWeights (l : Launch) : gLinks l RX7 3 [(gTn f_X7_weight, 0, 0, 7)] pX7_allWeights := And.intro ⟨gTn f_X7_weight, 7, yX7_weight, cX7_weight, 4, (some .int), 2, _, rfl, by decide, yi_yX7_weight, ok_X7_weight l, by decide, by decide, rfl, rfl, ml_RX7_56, im_yX7_weight, se_yX7_weight⟩ (trivial)
theorem ok_X7_allWeights (l : Launch) : gOK l yX7_allWeights cX7_allWeights 3 (some .int) 3 0 0 (gTn f_X7_allWeights) := by
  refine gM_of (by decide +kernel) pX7_allWeights_ok (lk_X7_allWeights l) ?_
  intro SL SX K P av M run h
  unfold f_X7_allWeights at h
  split at h
  · obtain ⟨rfl, C, hC, h⟩ := h
    refine ⟨⟨by simp [gC1], Nat.le_of_ble_eq_true rfl⟩, ?_⟩
    refine run [4] 1000 _ _ _ _ _ _ rfl ?_
    conv => whnf
    refine upto (n := 10) (A := fun k => K 4 [some (.inr (.inl (7, 926))), some (.inl (cSum (fun c => lwt c.1) C k)), some (.inl (nI k))] [] M gB0) ?_ (fun k hk ih => ?_) 0 (Nat.zero_le _)
    · refine run [4] 1000 _ _ _ _ _ _ rfl ?_
      conv => whnf
      refine ⟨fun h1 => ?_, fun h1 => ?_⟩
      · conv => whnf
        exact ⟨rfl, h⟩
      · exact absurd (nI_le (Nat.le_refl 10) (by decide)) h1
    · refine run [4] 1000 _ _ _ _ _ _ rfl ?_
      conv => whnf
      refine ⟨fun h1 => ?_, fun h1 => ?_⟩
      · exact absurd h1 (nI_ge hk (by decide))
      · conv => whnf
        refine ⟨rfl, rfl, rfl, k, _, hk, rfl, hC k hk, ?_⟩
        conv => whnf
        rw [nI_1]
        exact ih
  · exact h.elim
