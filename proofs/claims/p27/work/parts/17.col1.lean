/-! Column: what is read of it -/
def f_X6_isWithin : gF := fun av M post => match av with
  | [.inl v, .inl lo, .inl hi] => post (some (.inl (if lo ≤ v ∧ v ≤ hi then 1 else 0))) M
  | _ => False
theorem lk_X6_isWithin (l : Launch) : gLinks l RX6 0 [] pX6_isWithin := trivial
theorem ok_X6_isWithin (l : Launch) : gOK l yX6_isWithin cX6_isWithin 3 (some .boolean) 0 0 0 (gTn f_X6_isWithin) := by
  refine gM_of (by decide +kernel) pX6_isWithin_ok (lk_X6_isWithin l) ?_
  intro SL SX K P av M run h
  unfold f_X6_isWithin at h
  split at h
  · rename_i v lo hi
    refine ⟨⟨by simp [gC1], Nat.le_of_ble_eq_true rfl⟩, ?_⟩
    refine run [] 1000 _ _ _ _ _ _ rfl ?_
    conv => whnf
    refine ⟨fun h1 => ?_, fun h1 => ?_⟩
    · conv => whnf
      exact ⟨rfl, Or.inl rfl, by rw [if_neg (fun q => Int32.not_lt.mpr q.1 h1)] at h; exact h⟩
    · conv => whnf
      refine ⟨fun h2 => ?_, fun h2 => ?_⟩
      · conv => whnf
        exact ⟨rfl, Or.inl rfl, by rw [if_neg (fun q => Int32.not_lt.mpr q.2 h2)] at h; exact h⟩
      · conv => whnf
        exact ⟨rfl, Or.inr rfl, by rw [if_pos ⟨Int32.not_lt.mp h1, Int32.not_lt.mp h2⟩] at h; exact h⟩
  · exact h.elim
def f_X0_weightOf : gF := fun av M post => match av with
  | [.inr (.inl (0, p)), .inl v] => ∃ k, k < 8 ∧ v = nI k ∧ post (some (.inl (M (p + 2) k * M (p + 3) k))) M
  | _ => False
theorem lk_X0_weightOf (l : Launch) : gLinks l RX0 0 [] pX0_weightOf := And.intro gf_RX0_15 (And.intro gf_RX0_18 (trivial))
theorem ok_X0_weightOf (l : Launch) : gOK l yX0_weightOf cX0_weightOf 2 (some .int) 0 0 0 (gTn f_X0_weightOf) := by
  refine gM_of (by decide +kernel) pX0_weightOf_ok (lk_X0_weightOf l) ?_
  intro SL SX K P av M run h
  unfold f_X0_weightOf at h
  split at h
  · obtain ⟨k, hk, rfl, h⟩ := h
    refine ⟨⟨by simp [gC1], Nat.le_of_ble_eq_true rfl⟩, ?_⟩
    refine run [] 1000 _ _ _ _ _ _ rfl ?_
    conv => whnf
    refine ⟨vp_in_nI hk (by decide), ?_⟩
    conv => whnf
    refine ⟨vp_in_nI hk (by decide), ?_⟩
    conv => whnf
    rw [nI_clamp (nI_lt8 (by omega))]
    exact ⟨rfl, h⟩
  · exact h.elim
def f_X0_weight : gF := fun av M post => match av with
  | [.inr (.inl (0, p))] => ∃ c, colR M p c ∧ post (some (.inl (lwt c.1))) M
  | _ => False
theorem lk_X0_weight (l : Launch) : gLinks l RX0 1 [(gTn f_X0_weightOf, 0, 0, 0)] pX0_weight := And.intro gf_RX0_27 (And.intro ⟨gTn f_X0_weightOf, 0, yX0_weightOf, cX0_weightOf, 2, (some .int), 0, _, rfl, by decide, yi_yX0_weightOf, ok_X0_weightOf l, by decide, by decide, rfl, rfl, ml_RX0_38, im_yX0_weightOf, se_yX0_weightOf⟩ (trivial))
theorem ok_X0_weight (l : Launch) : gOK l yX0_weight cX0_weight 3 (some .int) 1 0 0 (gTn f_X0_weight) := by
  refine gM_of (by decide +kernel) pX0_weight_ok (lk_X0_weight l) ?_
  intro SL SX K P av M run h
  unfold f_X0_weight at h
  split at h
  · rename_i p
    obtain ⟨c, hc, h⟩ := h
    refine ⟨⟨by simp [gC1], Nat.le_of_ble_eq_true rfl⟩, ?_⟩
    have loop : ∀ n k, k + n = c.1.length → K 4 [some (.inr (.inl (0, p))), some (.inl (lwt (c.1.take k))), some (.inl (nI k))] [] M gB0 := by
      intro n
      induction n with
      | zero =>
        intro k hk
        refine run [4] 1000 _ _ _ _ _ _ rfl ?_
        conv => whnf
        rw [hc.2.1]
        refine ⟨fun h1 => ?_, fun h1 => ?_⟩
        · conv => whnf
          refine ⟨rfl, ?_⟩
          have e : k = c.1.length := by omega
          subst e
          rw [List.take_length]
          exact h
        · exact absurd (nI_le (by omega) (nI_lt8 (by have := hc.1; omega))) h1
      | succ n ih =>
        intro k hk
        have hk8 := hc.1
        have hkl : k < c.1.length := by omega
        refine run [4] 1000 _ _ _ _ _ _ rfl ?_
        conv => whnf
        rw [hc.2.1]
        refine ⟨fun h1 => ?_, fun h1 => ?_⟩
        · exact absurd h1 (nI_ge hkl (nI_lt8 hk8))
        · conv => whnf
          refine ⟨rfl, rfl, k, by omega, rfl, ?_⟩
          conv => whnf
          have h2 := ih (k + 1) (by omega)
          rw [← nI_1, lwt, foldl_take _ _ (List.getElem?_eq_getElem hkl)] at h2
          rw [(hc.lay hkl).2.1, (hc.lay hkl).2.2]
          exact h2
    refine run [4] 1000 _ _ _ _ _ _ rfl ?_
    conv => whnf
    exact loop c.1.length 0 (by omega)
  · exact h.elim
