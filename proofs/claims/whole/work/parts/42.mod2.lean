/-! the model: sums over a column -/
theorem at_0 (n : Nat) : nI n + 0 = nI n := nI_add n 0
theorem add_0 (x : Int32) : x + 0 = x := Int32.add_zero x
def f_X7_kindOf : gF := fun av M post => match av with
  | [.inr (.inl (7, p)), .inl b, .inl k] => p = 926 ∧ ∃ i j, i < 10 ∧ j < 8 ∧ b = nI i ∧ k = nI j ∧ post (some (.inl (M 927 (26 * i + 2 + 3 * j)))) M
  | _ => False
theorem lk_X7_kindOf (l : Launch) : gLinks l RX7 1 [(gTn f_X7_at, 0, 0, 99)] pX7_kindOf := And.intro gf_RX7_7 (And.intro ⟨gTn f_X7_at, 99, yX7_at, cX7_at, 2, (some .int), 0, rfl, yi_yX7_at, ok_X7_at l, by decide, Or.inl ml_RX7_42, sm_yX7_at⟩ (trivial))
theorem ok_X7_kindOf (l : Launch) : gOK l yX7_kindOf cX7_kindOf 3 (some .int) 1 0 0 (gTn f_X7_kindOf) := by
  refine gM_of (by decide +kernel) pX7_kindOf_ok (lk_X7_kindOf l) ?_
  intro SL SX K P av M run h
  unfold f_X7_kindOf at h
  split at h
  · obtain ⟨rfl, i, j, hi, hj, rfl, rfl, h⟩ := h
    refine ⟨⟨by simp [gC1], Nat.le_of_ble_eq_true rfl⟩, ?_⟩
    refine run [] 1000 _ _ _ _ _ _ rfl ?_
    conv => whnf
    refine ⟨rfl, rfl, i, j, rfl, rfl, ?_⟩
    conv => whnf
    rw [at_0]
    refine ⟨vp_in_nI (by omega) (by decide), ?_⟩
    conv => whnf
    rw [nI_clamp (by omega)]
    exact ⟨rfl, h⟩
  · exact h.elim
def f_X7_weightOf : gF := fun av M post => match av with
  | [.inr (.inl (7, p)), .inl b, .inl k] => p = 926 ∧ ∃ i j, i < 10 ∧ j < 8 ∧ b = nI i ∧ k = nI j ∧ post (some (.inl (M 927 (26 * i + 2 + 3 * j + 1) * M 927 (26 * i + 2 + 3 * j + 2)))) M
  | _ => False
theorem lk_X7_weightOf (l : Launch) : gLinks l RX7 1 [(gTn f_X7_at, 0, 0, 99)] pX7_weightOf := And.intro gf_RX7_7 (And.intro ⟨gTn f_X7_at, 99, yX7_at, cX7_at, 2, (some .int), 0, rfl, yi_yX7_at, ok_X7_at l, by decide, Or.inl ml_RX7_42, sm_yX7_at⟩ (And.intro gf_RX7_7 (And.intro ⟨gTn f_X7_at, 99, yX7_at, cX7_at, 2, (some .int), 0, rfl, yi_yX7_at, ok_X7_at l, by decide, Or.inl ml_RX7_42, sm_yX7_at⟩ (trivial))))
theorem ok_X7_weightOf (l : Launch) : gOK l yX7_weightOf cX7_weightOf 3 (some .int) 1 0 0 (gTn f_X7_weightOf) := by
  refine gM_of (by decide +kernel) pX7_weightOf_ok (lk_X7_weightOf l) ?_
  intro SL SX K P av M run h
  unfold f_X7_weightOf at h
  split at h
  · obtain ⟨rfl, i, j, hi, hj, rfl, rfl, h⟩ := h
    refine ⟨⟨by simp [gC1], Nat.le_of_ble_eq_true rfl⟩, ?_⟩
    refine run [] 1000 _ _ _ _ _ _ rfl ?_
    conv => whnf
    refine ⟨rfl, rfl, i, j, rfl, rfl, ?_⟩
    conv => whnf
    rw [nI_1]
    refine ⟨vp_in_nI (by omega) (by decide), ?_⟩
    conv => whnf
    refine ⟨rfl, rfl, i, j, rfl, rfl, ?_⟩
    conv => whnf
    rw [show nI (26 * i + 2 + 3 * j) + 2 = nI (26 * i + 2 + 3 * j + 2) from nI_add _ 2]
    refine ⟨vp_in_nI (by omega) (by decide), ?_⟩
    conv => whnf
    rw [nI_clamp (by omega), nI_clamp (by omega)]
    exact ⟨rfl, h⟩
  · exact h.elim
def f_X7_weight : gF := fun av M post => match av with
  | [.inr (.inl (7, p)), .inl b] => p = 926 ∧ ∃ i c, i < 10 ∧ b = nI i ∧ mcR (M 927) (26 * i) c ∧ post (some (.inl (lwt c.1))) M
  | _ => False
theorem lk_X7_weight (l : Launch) : gLinks l RX7 2 [(gTn f_X7_of, 0, 0, 7), (gTn f_X7_weightOf, 0, 0, 7)] pX7_weight := And.intro ⟨gTn f_X7_of, 7, yX7_of, cX7_of, 3, (some .int), 0, _, rfl, by decide, yi_yX7_of, ok_X7_of l, by decide, by decide, rfl, rfl, ml_RX7_50, im_yX7_of, se_yX7_of⟩ (And.intro ⟨gTn f_X7_weightOf, 7, yX7_weightOf, cX7_weightOf, 3, (some .int), 1, _, rfl, by decide, yi_yX7_weightOf, ok_X7_weightOf l, by decide, by decide, rfl, rfl, ml_RX7_53, im_yX7_weightOf, se_yX7_weightOf⟩ (trivial))
theorem ok_X7_weight (l : Launch) : gOK l yX7_weight cX7_weight 4 (some .int) 2 0 0 (gTn f_X7_weight) := by
  refine gM_of (by decide +kernel) pX7_weight_ok (lk_X7_weight l) ?_
  intro SL SX K P av M run h
  unfold f_X7_weight at h
  split at h
  · obtain ⟨rfl, i, c, hi, rfl, hc, h⟩ := h
    refine ⟨⟨by simp [gC1], Nat.le_of_ble_eq_true rfl⟩, ?_⟩
    have hk8 := hc.1
    refine run [4] 1000 _ _ _ _ _ _ rfl ?_
    conv => whnf
    refine upto (n := c.1.length) (A := fun k => K 4 [some (.inr (.inl (7, 926))), some (.inl (nI i)), some (.inl (lwt (c.1.take k))), some (.inl (nI k))] [] M gB0) ?_ (fun k hkl ih => ?_) 0 (Nat.zero_le _)
    · refine run [4] 1000 _ _ _ _ _ _ rfl ?_
      conv => whnf
      refine ⟨rfl, rfl, rfl, i, 0, hi, by decide, rfl, rfl, ?_⟩
      rw [show M 927 (26 * i + 0) = nI c.1.length from hc.2.1]
      conv => whnf
      refine ⟨fun h1 => ?_, fun h1 => ?_⟩
      · conv => whnf
        rw [List.take_length]
        exact ⟨rfl, h⟩
      · exact absurd (nI_le (Nat.le_refl _) (nI_lt8 hk8)) h1
    · rw [← nI_1, lwt, foldl_take _ _ (List.getElem?_eq_getElem hkl)] at ih
      refine run [4] 1000 _ _ _ _ _ _ rfl ?_
      conv => whnf
      refine ⟨rfl, rfl, rfl, i, 0, hi, by decide, rfl, rfl, ?_⟩
      rw [show M 927 (26 * i + 0) = nI c.1.length from hc.2.1]
      conv => whnf
      refine ⟨fun h1 => ?_, fun h1 => ?_⟩
      · exact absurd h1 (nI_ge hkl (nI_lt8 hk8))
      · conv => whnf
        refine ⟨rfl, rfl, rfl, i, k, hi, by omega, rfl, rfl, ?_⟩
        rw [(hc.lay hkl).2.1, (hc.lay hkl).2.2]
        conv => whnf
        exact ih
  · exact h.elim
def f_X7_thick : gF := fun av M post => match av with
  | [.inr (.inl (7, p)), .inl b] => p = 926 ∧ ∃ i c, i < 10 ∧ b = nI i ∧ mcR (M 927) (26 * i) c ∧ post (some (.inl (lth c.1))) M
  | _ => False
theorem lk_X7_thick (l : Launch) : gLinks l RX7 1 [(gTn f_X7_of, 0, 0, 7), (gTn f_X7_at, 0, 0, 99)] pX7_thick := And.intro ⟨gTn f_X7_of, 7, yX7_of, cX7_of, 3, (some .int), 0, _, rfl, by decide, yi_yX7_of, ok_X7_of l, by decide, by decide, rfl, rfl, ml_RX7_50, im_yX7_of, se_yX7_of⟩ (And.intro gf_RX7_7 (And.intro ⟨gTn f_X7_at, 99, yX7_at, cX7_at, 2, (some .int), 0, rfl, yi_yX7_at, ok_X7_at l, by decide, Or.inl ml_RX7_42, sm_yX7_at⟩ (trivial)))
theorem ok_X7_thick (l : Launch) : gOK l yX7_thick cX7_thick 4 (some .int) 1 0 0 (gTn f_X7_thick) := by
  refine gM_of (by decide +kernel) pX7_thick_ok (lk_X7_thick l) ?_
  intro SL SX K P av M run h
  unfold f_X7_thick at h
  split at h
  · obtain ⟨rfl, i, c, hi, rfl, hc, h⟩ := h
    refine ⟨⟨by simp [gC1], Nat.le_of_ble_eq_true rfl⟩, ?_⟩
    have hk8 := hc.1
    refine run [4] 1000 _ _ _ _ _ _ rfl ?_
    conv => whnf
    refine upto (n := c.1.length) (A := fun k => K 4 [some (.inr (.inl (7, 926))), some (.inl (nI i)), some (.inl (lth (c.1.take k))), some (.inl (nI k))] [] M gB0) ?_ (fun k hkl ih => ?_) 0 (Nat.zero_le _)
    · refine run [4] 1000 _ _ _ _ _ _ rfl ?_
      conv => whnf
      refine ⟨rfl, rfl, rfl, i, 0, hi, by decide, rfl, rfl, ?_⟩
      rw [show M 927 (26 * i + 0) = nI c.1.length from hc.2.1]
      conv => whnf
      refine ⟨fun h1 => ?_, fun h1 => ?_⟩
      · conv => whnf
        rw [List.take_length]
        exact ⟨rfl, h⟩
      · exact absurd (nI_le (Nat.le_refl _) (nI_lt8 hk8)) h1
    · rw [← nI_1, lth, foldl_take _ _ (List.getElem?_eq_getElem hkl)] at ih
      refine run [4] 1000 _ _ _ _ _ _ rfl ?_
      conv => whnf
      refine ⟨rfl, rfl, rfl, i, 0, hi, by decide, rfl, rfl, ?_⟩
      rw [show M 927 (26 * i + 0) = nI c.1.length from hc.2.1]
      conv => whnf
      refine ⟨fun h1 => ?_, fun h1 => ?_⟩
      · exact absurd h1 (nI_ge hkl (nI_lt8 hk8))
      · conv => whnf
        refine ⟨rfl, rfl, i, k, rfl, rfl, ?_⟩
        conv => whnf
        rw [show nI (26 * i + 2 + 3 * k) + 2 = nI (26 * i + 2 + 3 * k + 2) from nI_add _ 2]
        refine ⟨vp_in_nI (by omega) (by decide), ?_⟩
        conv => whnf
        rw [nI_clamp (by omega), (hc.lay hkl).2.2]
        exact ih
  · exact h.elim
def f_X7_balance : gF := fun av M post => match av with
  | [.inr (.inl (7, p)), .inl b] => p = 926 ∧ ∃ i c, i < 10 ∧ b = nI i ∧ mcR (M 927) (26 * i) c ∧ post (some (.inl (lbal c.1))) M
  | _ => False
theorem lk_X7_balance (l : Launch) : gLinks l RX7 3 [(gTn f_X7_weight, 0, 0, 7)] pX7_balance := And.intro ⟨gTn f_X7_weight, 7, yX7_weight, cX7_weight, 4, (some .int), 2, _, rfl, by decide, yi_yX7_weight, ok_X7_weight l, by decide, by decide, rfl, rfl, ml_RX7_56, im_yX7_weight, se_yX7_weight⟩ (trivial)
theorem ok_X7_balance (l : Launch) : gOK l yX7_balance cX7_balance 2 (some .int) 3 0 0 (gTn f_X7_balance) := by
  refine gM_of (by decide +kernel) pX7_balance_ok (lk_X7_balance l) ?_
  intro SL SX K P av M run h
  unfold f_X7_balance at h
  split at h
  · obtain ⟨rfl, i, c, hi, rfl, hc, h⟩ := h
    refine ⟨⟨by simp [gC1], Nat.le_of_ble_eq_true rfl⟩, ?_⟩
    refine run [] 1000 _ _ _ _ _ _ rfl ?_
    conv => whnf
    refine ⟨rfl, rfl, rfl, i, c, hi, rfl, hc, ?_⟩
    conv => whnf
    refine ⟨by decide, ?_⟩
    conv => whnf
    exact ⟨rfl, h⟩
  · exact h.elim
def f_X7_top : gF := fun av M post => match av with
  | [.inr (.inl (7, p)), .inl b] => p = 926 ∧ ∃ i c, i < 10 ∧ b = nI i ∧ mcR (M 927) (26 * i) c ∧ post (some (.inl (ltop c))) M
  | _ => False
theorem lk_X7_top (l : Launch) : gLinks l RX7 2 [(gTn f_X7_thick, 0, 0, 7), (gTn f_X7_of, 0, 0, 7)] pX7_top := And.intro ⟨gTn f_X7_thick, 7, yX7_thick, cX7_thick, 4, (some .int), 1, _, rfl, by decide, yi_yX7_thick, ok_X7_thick l, by decide, by decide, rfl, rfl, ml_RX7_60, im_yX7_thick, se_yX7_thick⟩ (And.intro ⟨gTn f_X7_of, 7, yX7_of, cX7_of, 3, (some .int), 0, _, rfl, by decide, yi_yX7_of, ok_X7_of l, by decide, by decide, rfl, rfl, ml_RX7_50, im_yX7_of, se_yX7_of⟩ (trivial))
theorem ok_X7_top (l : Launch) : gOK l yX7_top cX7_top 2 (some .int) 2 0 0 (gTn f_X7_top) := by
  refine gM_of (by decide +kernel) pX7_top_ok (lk_X7_top l) ?_
  intro SL SX K P av M run h
  unfold f_X7_top at h
  split at h
  · obtain ⟨rfl, i, c, hi, rfl, hc, h⟩ := h
    refine ⟨⟨by simp [gC1], Nat.le_of_ble_eq_true rfl⟩, ?_⟩
    refine run [] 1000 _ _ _ _ _ _ rfl ?_
    conv => whnf
    refine ⟨rfl, rfl, rfl, i, c, hi, rfl, hc, ?_⟩
    conv => whnf
    refine ⟨rfl, rfl, rfl, i, 1, hi, by decide, rfl, rfl, ?_⟩
    rw [show M 927 (26 * i + 1) = c.2 from hc.2.2.1]
    conv => whnf
    exact ⟨rfl, h⟩
  · exact h.elim
