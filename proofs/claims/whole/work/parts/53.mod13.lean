/-! the model: what is summed over all blocks -/
def f_X7_allLayers : gF := fun av M post => match av with
  | [.inr (.inl (7, p))] => p = 926 ∧ ∃ C : Cru, (∀ i, i < 10 → mcR (M 927) (26 * i) (C i)) ∧ post (some (.inl (aLay C))) M
  | _ => False
theorem lk_X7_allLayers (l : Launch) : gLinks l RX7 1 [(gTn f_X7_of, 0, 0, 7)] pX7_allLayers := And.intro ⟨gTn f_X7_of, 7, yX7_of, cX7_of, 3, (some .int), 0, _, rfl, by decide, yi_yX7_of, ok_X7_of l, by decide, by decide, rfl, rfl, ml_RX7_50, im_yX7_of, se_yX7_of⟩ (trivial)
theorem ok_X7_allLayers (l : Launch) : gOK l yX7_allLayers cX7_allLayers 3 (some .int) 1 0 0 (gTn f_X7_allLayers) := by
  refine gM_of (by decide +kernel) pX7_allLayers_ok (lk_X7_allLayers l) ?_
  intro SL SX K P av M run h
  unfold f_X7_allLayers at h
  split at h
  · obtain ⟨rfl, C, hC, h⟩ := h
    refine ⟨⟨by simp [gC1], Nat.le_of_ble_eq_true rfl⟩, ?_⟩
    refine run [4] 1000 _ _ _ _ _ _ rfl ?_
    conv => whnf
    refine upto (n := 10) (A := fun k => K 4 [some (.inr (.inl (7, 926))), some (.inl (cSum (fun c => nI c.1.length) C k)), some (.inl (nI k))] [] M gB0) ?_ (fun k hk ih => ?_) 0 (Nat.zero_le _)
    · refine run [4] 1000 _ _ _ _ _ _ rfl ?_
      conv => whnf
      refine ⟨fun h1 => ?_, fun h1 => ?_⟩
      · conv => whnf
        exact ⟨rfl, h⟩
      · exact absurd (nI_le (Nat.le_refl 10) (by decide)) h1
    · refine run [4] 1000 _ _ _ _ _ _ rfl ?_
      conv => whnf
      refine ⟨fun h1 => ?_, fun h1 => ?_⟩
      · exact absurd h1 (nI_ge hk (by decide))
      · conv => whnf
        refine ⟨rfl, rfl, rfl, k, 0, hk, by decide, rfl, rfl, ?_⟩
        rw [show M 927 (26 * k + 0) = nI (C k).1.length from (hC k hk).2.1]
        conv => whnf
        rw [nI_1]
        exact ih
  · exact h.elim
def f_X7_allWeights : gF := fun av M post => match av with
  | [.inr (.inl (7, p))] => p = 926 ∧ ∃ C : Cru, (∀ i, i < 10 → mcR (M 927) (26 * i) (C i)) ∧ post (some (.inl (aWt C))) M
  | _ => False
theorem lk_X7_allWeights (l : Launch) : gLinks l RX7 3 [(gTn f_X7_weight, 0, 0, 7)] pX7_allWeights := And.intro ⟨gTn f_X7_weight, 7, yX7_weight, cX7_weight, 4, (some .int), 2, _, rfl, by decide, yi_yX7_weight, ok_X7_weight l, by decide, by decide, rfl, rfl, ml_RX7_56, im_yX7_weight, se_yX7_weight⟩ (trivial)
theorem ok_X7_allWeights (l : Launch) : gOK l yX7_allWeights cX7_allWeights 3 (some .int) 3 0 0 (gTn f_X7_allWeights) := by
  refine gM_of (by decide +kernel) pX7_allWeights_ok (lk_X7_allWeights l) ?_
  intro SL SX K P av M run h
  unfold f_X7_allWeights at h
  split at h
  · obtain ⟨rfl, C, hC, h⟩ := h
    refine ⟨⟨by simp [gC1], Nat.le_of_ble_eq_true rfl⟩, ?_⟩
    refine run [4] 1000 _ _ _ _ _ _ rfl ?_
    conv => whnf
    refine upto (n := 10) (A := fun k => K 4 [some (.inr (.inl (7, 926))), some (.inl (cSum (fun c => lwt c.1) C k)), some (.inl (nI k))] [] M gB0) ?_ (fun k hk ih => ?_) 0 (Nat.zero_le _)
    · refine run [4] 1000 _ _ _ _ _ _ rfl ?_
      conv => whnf
      refine ⟨fun h1 => ?_, fun h1 => ?_⟩
      · conv => whnf
        exact ⟨rfl, h⟩
      · exact absurd (nI_le (Nat.le_refl 10) (by decide)) h1
    · refine run [4] 1000 _ _ _ _ _ _ rfl ?_
      conv => whnf
      refine ⟨fun h1 => ?_, fun h1 => ?_⟩
      · exact absurd h1 (nI_ge hk (by decide))
      · conv => whnf
        refine ⟨rfl, rfl, rfl, k, _, hk, rfl, hC k hk, ?_⟩
        conv => whnf
        rw [nI_1]
        exact ih
  · exact h.elim
def f_X7_filled : gF := fun av M post => match av with
  | [.inr (.inl (7, p))] => p = 926 ∧ ∃ C : Cru, (∀ i, i < 10 → mcR (M 927) (26 * i) (C i)) ∧ post (some (.inl (cSum (fun c => if c.1.length = 0 then 0 else 1) C 10))) M
  | _ => False
theorem lk_X7_filled (l : Launch) : gLinks l RX7 1 [(gTn f_X7_of, 0, 0, 7)] pX7_filled := And.intro ⟨gTn f_X7_of, 7, yX7_of, cX7_of, 3, (some .int), 0, _, rfl, by decide, yi_yX7_of, ok_X7_of l, by decide, by decide, rfl, rfl, ml_RX7_50, im_yX7_of, se_yX7_of⟩ (trivial)
theorem ok_X7_filled (l : Launch) : gOK l yX7_filled cX7_filled 3 (some .int) 1 0 0 (gTn f_X7_filled) := by
  refine gM_of (by decide +kernel) pX7_filled_ok (lk_X7_filled l) ?_
  intro SL SX K P av M run h
  unfold f_X7_filled at h
  split at h
  · obtain ⟨rfl, C, hC, h⟩ := h
    refine ⟨⟨by simp [gC1], Nat.le_of_ble_eq_true rfl⟩, ?_⟩
    refine run [4] 1000 _ _ _ _ _ _ rfl ?_
    conv => whnf
    refine upto (n := 10) (A := fun k => K 4 [some (.inr (.inl (7, 926))), some (.inl (cSum (fun c => if c.1.length = 0 then 0 else 1) C k)), some (.inl (nI k))] [] M gB0) ?_ (fun k hk ih => ?_) 0 (Nat.zero_le _)
    · refine run [4] 1000 _ _ _ _ _ _ rfl ?_
      conv => whnf
      refine ⟨fun h1 => ?_, fun h1 => ?_⟩
      · conv => whnf
        exact ⟨rfl, h⟩
      · exact absurd (nI_le (Nat.le_refl 10) (by decide)) h1
    · have h8 := (hC k hk).1
      rw [cSum] at ih
      refine run [4] 1000 _ _ _ _ _ _ rfl ?_
      conv => whnf
      refine ⟨fun h1 => ?_, fun h1 => ?_⟩
      · exact absurd h1 (nI_ge hk (by decide))
      · conv => whnf
        refine ⟨rfl, rfl, rfl, k, 0, hk, by decide, rfl, rfl, ?_⟩
        rw [show M 927 (26 * k + 0) = nI (C k).1.length from (hC k hk).2.1]
        conv => whnf
        refine ⟨fun h2 => ?_, fun h2 => ?_⟩
        · conv => whnf
          have e : (C k).1.length = 0 := Decidable.byContradiction fun q => nI_ge (a := 0) (Nat.pos_of_ne_zero q) (by omega) h2
          rw [if_pos e] at ih
          rw [nI_1]
          exact ih
        · conv => whnf
          have e : ¬ (C k).1.length = 0 := fun q => h2 (by rw [q]; decide)
          rw [if_neg e] at ih
          rw [nI_1]
          exact ih
  · exact h.elim
def f_X7_icyMany : gF := fun av M post => match av with
  | [.inr (.inl (7, p))] => p = 926 ∧ ∃ C : Cru, (∀ i, i < 10 → mcR (M 927) (26 * i) (C i)) ∧ post (some (.inl (cSum (fun c => if icy c.1 = true then 1 else 0) C 10))) M
  | _ => False
theorem lk_X7_icyMany (l : Launch) : gLinks l RX7 3 [(gTn f_X7_isIcy, 0, 0, 7)] pX7_icyMany := And.intro ⟨gTn f_X7_isIcy, 7, yX7_isIcy, cX7_isIcy, 2, (some .boolean), 2, _, rfl, by decide, yi_yX7_isIcy, ok_X7_isIcy l, by decide, by decide, rfl, rfl, ml_RX7_92, im_yX7_isIcy, se_yX7_isIcy⟩ (trivial)
theorem ok_X7_icyMany (l : Launch) : gOK l yX7_icyMany cX7_icyMany 3 (some .int) 3 0 0 (gTn f_X7_icyMany) := by
  refine gM_of (by decide +kernel) pX7_icyMany_ok (lk_X7_icyMany l) ?_
  intro SL SX K P av M run h
  unfold f_X7_icyMany at h
  split at h
  · obtain ⟨rfl, C, hC, h⟩ := h
    refine ⟨⟨by simp [gC1], Nat.le_of_ble_eq_true rfl⟩, ?_⟩
    refine run [4] 1000 _ _ _ _ _ _ rfl ?_
    conv => whnf
    refine upto (n := 10) (A := fun k => K 4 [some (.inr (.inl (7, 926))), some (.inl (cSum (fun c => if icy c.1 = true then 1 else 0) C k)), some (.inl (nI k))] [] M gB0) ?_ (fun k hk ih => ?_) 0 (Nat.zero_le _)
    · refine run [4] 1000 _ _ _ _ _ _ rfl ?_
      conv => whnf
      refine ⟨fun h1 => ?_, fun h1 => ?_⟩
      · conv => whnf
        exact ⟨rfl, h⟩
      · exact absurd (nI_le (Nat.le_refl 10) (by decide)) h1
    · rw [cSum] at ih
      refine run [4] 1000 _ _ _ _ _ _ rfl ?_
      conv => whnf
      refine ⟨fun h1 => ?_, fun h1 => ?_⟩
      · exact absurd h1 (nI_ge hk (by decide))
      · conv => whnf
        refine ⟨rfl, rfl, rfl, k, _, hk, rfl, hC k hk, ?_⟩
        conv => whnf
        by_cases hi : icy (C k).1 = true
        · rw [if_pos hi] at ih ⊢
          refine ⟨fun h2 => ?_, fun h2 => ?_⟩
          · exact absurd h2 (by decide)
          · conv => whnf
            rw [nI_1]
            exact ih
        · rw [if_neg hi] at ih ⊢
          refine ⟨fun h2 => ?_, fun h2 => ?_⟩
          · conv => whnf
            rw [nI_1]
            exact ih
          · exact absurd rfl h2
  · exact h.elim
def f_X7_unbalanced : gF := fun av M post => match av with
  | [.inr (.inl (7, p))] => p = 926 ∧ ∃ C : Cru, (∀ i, i < 10 → mcR (M 927) (26 * i) (C i)) ∧ post (some (.inl (cSum (fun c => if c.2 = lbal c.1 then 0 else 1) C 10))) M
  | _ => False
theorem lk_X7_unbalanced (l : Launch) : gLinks l RX7 4 [(gTn f_X7_of, 0, 0, 7), (gTn f_X7_balance, 0, 0, 7)] pX7_unbalanced := And.intro ⟨gTn f_X7_of, 7, yX7_of, cX7_of, 3, (some .int), 0, _, rfl, by decide, yi_yX7_of, ok_X7_of l, by decide, by decide, rfl, rfl, ml_RX7_50, im_yX7_of, se_yX7_of⟩ (And.intro ⟨gTn f_X7_balance, 7, yX7_balance, cX7_balance, 2, (some .int), 3, _, rfl, by decide, yi_yX7_balance, ok_X7_balance l, by decide, by decide, rfl, rfl, ml_RX7_86, im_yX7_balance, se_yX7_balance⟩ (trivial))
theorem ok_X7_unbalanced (l : Launch) : gOK l yX7_unbalanced cX7_unbalanced 3 (some .int) 4 0 0 (gTn f_X7_unbalanced) := by
  refine gM_of (by decide +kernel) pX7_unbalanced_ok (lk_X7_unbalanced l) ?_
  intro SL SX K P av M run h
  unfold f_X7_unbalanced at h
  split at h
  · obtain ⟨rfl, C, hC, h⟩ := h
    refine ⟨⟨by simp [gC1], Nat.le_of_ble_eq_true rfl⟩, ?_⟩
    refine run [4] 1000 _ _ _ _ _ _ rfl ?_
    conv => whnf
    refine upto (n := 10) (A := fun k => K 4 [some (.inr (.inl (7, 926))), some (.inl (cSum (fun c => if c.2 = lbal c.1 then 0 else 1) C k)), some (.inl (nI k))] [] M gB0) ?_ (fun k hk ih => ?_) 0 (Nat.zero_le _)
    · refine run [4] 1000 _ _ _ _ _ _ rfl ?_
      conv => whnf
      refine ⟨fun h1 => ?_, fun h1 => ?_⟩
      · conv => whnf
        exact ⟨rfl, h⟩
      · exact absurd (nI_le (Nat.le_refl 10) (by decide)) h1
    · rw [cSum] at ih
      refine run [4] 1000 _ _ _ _ _ _ rfl ?_
      conv => whnf
      refine ⟨fun h1 => ?_, fun h1 => ?_⟩
      · exact absurd h1 (nI_ge hk (by decide))
      · conv => whnf
        refine ⟨rfl, rfl, rfl, k, 1, hk, by decide, rfl, rfl, ?_⟩
        rw [show M 927 (26 * k + 1) = (C k).2 from (hC k hk).2.2.1]
        conv => whnf
        refine ⟨rfl, rfl, rfl, k, _, hk, rfl, hC k hk, ?_⟩
        conv => whnf
        refine ⟨fun h2 => ?_, fun h2 => ?_⟩
        · conv => whnf
          rw [if_pos h2] at ih
          rw [nI_1]
          exact ih
        · conv => whnf
          rw [if_neg h2] at ih
          rw [nI_1]
          exact ih
  · exact h.elim
def f_X7_highest : gF := fun av M post => match av with
  | [.inr (.inl (7, p))] => p = 926 ∧ ∃ C : Cru, (∀ i, i < 10 → mcR (M 927) (26 * i) (C i)) ∧ post (some (.inl (nI (cHi C 9)))) M
  | _ => False
theorem lk_X7_highest (l : Launch) : gLinks l RX7 3 [(gTn f_X7_top, 0, 0, 7)] pX7_highest := And.intro ⟨gTn f_X7_top, 7, yX7_top, cX7_top, 2, (some .int), 2, _, rfl, by decide, yi_yX7_top, ok_X7_top l, by decide, by decide, rfl, rfl, ml_RX7_102, im_yX7_top, se_yX7_top⟩ (And.intro ⟨gTn f_X7_top, 7, yX7_top, cX7_top, 2, (some .int), 2, _, rfl, by decide, yi_yX7_top, ok_X7_top l, by decide, by decide, rfl, rfl, ml_RX7_102, im_yX7_top, se_yX7_top⟩ (trivial))
theorem ok_X7_highest (l : Launch) : gOK l yX7_highest cX7_highest 3 (some .int) 3 0 0 (gTn f_X7_highest) := by
  refine gM_of (by decide +kernel) pX7_highest_ok (lk_X7_highest l) ?_
  intro SL SX K P av M run h
  unfold f_X7_highest at h
  split at h
  · obtain ⟨rfl, C, hC, h⟩ := h
    refine ⟨⟨by simp [gC1], Nat.le_of_ble_eq_true rfl⟩, ?_⟩
    refine run [4] 1000 _ _ _ _ _ _ rfl ?_
    conv => whnf
    refine upto (n := 9) (A := fun k => K 4 [some (.inr (.inl (7, 926))), some (.inl (nI (cHi C k))), some (.inl (nI (k + 1)))] [] M gB0) ?_ (fun k hk ih => ?_) 0 (Nat.zero_le _)
    · refine run [4] 1000 _ _ _ _ _ _ rfl ?_
      conv => whnf
      refine ⟨fun h1 => ?_, fun h1 => ?_⟩
      · conv => whnf
        exact ⟨rfl, h⟩
      · exact absurd (show (10 : Int32) ≤ nI 10 from nI_le (Nat.le_refl 10) (by decide)) h1
    · have hl := cHi_le C k
      rw [cHi] at ih
      refine run [4] 1000 _ _ _ _ _ _ rfl ?_
      conv => whnf
      refine ⟨fun h1 => ?_, fun h1 => ?_⟩
      · exact absurd h1 (nI_ge (b := 10) (by omega) (by decide))
      · conv => whnf
        refine ⟨rfl, rfl, rfl, k + 1, _, by omega, rfl, hC (k + 1) (by omega), ?_⟩
        conv => whnf
        refine ⟨rfl, rfl, rfl, cHi C k, _, by omega, rfl, hC (cHi C k) (by omega), ?_⟩
        conv => whnf
        refine ⟨fun h2 => ?_, fun h2 => ?_⟩
        · conv => whnf
          rw [if_neg (Int32.not_lt.mpr h2)] at ih
          rw [nI_1]
          exact ih
        · conv => whnf
          rw [if_pos (Int32.not_le.mp h2)] at ih
          rw [nI_1]
          exact ih
  · exact h.elim
