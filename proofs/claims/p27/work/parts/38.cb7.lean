/-! CrustBlocks: looking -/
def f_X6_bareTop : gF := fun av M post => match av with
  | [.inr (.inl (6, p)), .inl b] => p = 0 ∧ ∃ σ, clR M σ ∧ post (some (.inl (oBare σ b))) M
  | _ => False
def f_X6_valley : gF := fun av M post => match av with
  | [.inr (.inl (6, p)), .inl b] => p = 0 ∧ ∃ σ, clR M σ ∧ post (some (.inl (oVal σ b))) M
  | _ => False
theorem lk_X6_valley (l : Launch) : gLinks l RX6 3 [(gTn f_X6_isBlock, 0, 0, 99), (gTn f_X1_lowerNeighbor, 0, 0, 1)] pX6_valley := And.intro ⟨gTn f_X6_isBlock, 99, yX6_isBlock, cX6_isBlock, 1, (some .boolean), 1, rfl, yi_yX6_isBlock, ok_X6_isBlock l, by decide, Or.inl ml_RX6_40, sm_yX6_isBlock⟩ (And.intro kc_RX6_51 (And.intro gf_RX6_10 (And.intro gf_RX6_52 (And.intro ⟨gTn f_X1_lowerNeighbor, 1, yX1_lowerNeighbor, cX1_lowerNeighbor, 4, (some .int), 2, _, rfl, by decide, yi_yX1_lowerNeighbor, ok_X1_lowerNeighbor l, by decide, by decide, rfl, rfl, ml_RX6_223, im_yX1_lowerNeighbor, se_yX1_lowerNeighbor⟩ (trivial)))))
theorem ok_X6_valley (l : Launch) : gOK l yX6_valley cX6_valley 2 (some .int) 3 0 0 (gTn f_X6_valley) := by
  refine gM_of (by decide +kernel) pX6_valley_ok (lk_X6_valley l) ?_
  intro SL SX K P av M run h
  unfold f_X6_valley at h
  split at h
  · rename_i p b
    obtain ⟨rfl, σ, hσ, h⟩ := h
    refine ⟨⟨by simp [gC1], Nat.le_of_ble_eq_true rfl⟩, ?_⟩
    unfold oVal at h
    refine run [] 1000 _ _ _ _ _ _ rfl ?_
    conv => whnf
    refine ⟨rfl, rfl, ?_⟩
    conv => whnf
    by_cases hb : 0 ≤ b ∧ b ≤ 9
    · rw [if_pos hb]
      rw [if_pos hb] at h
      obtain ⟨j, hj, rfl⟩ := nI_bd (n := 9) (by decide) hb.1 hb.2
      have e : (nI j).toNatClampNeg = j := nI_clamp (by omega)
      have hc := hσ.1.1 j (by omega)
      rw [e] at h
      refine ⟨fun h1 => ?_, fun h1 => ?_⟩
      · conv => whnf
        refine ⟨rfl, rfl, _, j, hσ.1.1, by omega, rfl, ?_⟩
        conv => whnf
        exact ⟨rfl, h⟩
      · exact absurd h1 (by decide)
    · rw [if_neg hb]
      rw [if_neg hb] at h
      refine ⟨fun h1 => ?_, fun h1 => ?_⟩
      · exact absurd rfl h1
      · conv => whnf
        exact ⟨rfl, h⟩
  · exact h.elim
def f_X6_why : gF := fun av M post => match av with
  | [.inr (.inl (6, p)), .inl b] => p = 0 ∧ ∃ σ, clR M σ ∧ post (some (.inl (oWhy σ b))) M
  | _ => False
theorem lk_X6_why (l : Launch) : gLinks l RX6 4 [(gTn f_X6_isBlock, 0, 0, 99), (gTn f_X1_reason, 0, 0, 1)] pX6_why := And.intro ⟨gTn f_X6_isBlock, 99, yX6_isBlock, cX6_isBlock, 1, (some .boolean), 1, rfl, yi_yX6_isBlock, ok_X6_isBlock l, by decide, Or.inl ml_RX6_40, sm_yX6_isBlock⟩ (And.intro kc_RX6_51 (And.intro gf_RX6_10 (And.intro gf_RX6_52 (And.intro gf_RX6_10 (And.intro gf_RX6_123 (And.intro ⟨gTn f_X1_reason, 1, yX1_reason, cX1_reason, 4, (some .int), 3, _, rfl, by decide, yi_yX1_reason, ok_X1_reason l, by decide, by decide, rfl, rfl, ml_RX6_219, im_yX1_reason, se_yX1_reason⟩ (trivial)))))))
theorem ok_X6_why (l : Launch) : gOK l yX6_why cX6_why 2 (some .int) 4 0 0 (gTn f_X6_why) := by
  refine gM_of (by decide +kernel) pX6_why_ok (lk_X6_why l) ?_
  intro SL SX K P av M run h
  unfold f_X6_why at h
  split at h
  · rename_i p b
    obtain ⟨rfl, σ, hσ, h⟩ := h
    refine ⟨⟨by simp [gC1], Nat.le_of_ble_eq_true rfl⟩, ?_⟩
    unfold oWhy at h
    refine run [] 1000 _ _ _ _ _ _ rfl ?_
    conv => whnf
    refine ⟨rfl, rfl, ?_⟩
    conv => whnf
    by_cases hb : 0 ≤ b ∧ b ≤ 9
    · rw [if_pos hb]
      rw [if_pos hb] at h
      obtain ⟨j, hj, rfl⟩ := nI_bd (n := 9) (by decide) hb.1 hb.2
      have e : (nI j).toNatClampNeg = j := nI_clamp (by omega)
      have hc := hσ.1.1 j (by omega)
      rw [e] at h
      refine ⟨fun h1 => ?_, fun h1 => ?_⟩
      · conv => whnf
        refine ⟨vp_in_nI (n := 3) (by decide) (by decide), ?_⟩
        conv => whnf
        rw [show M (0 + 1 + 45) (Int32.toNatClampNeg 3) = σ.1.2.2.2.1 3 from hσ.1.2.2.2.1 3 (by decide)]
        refine ⟨rfl, rfl, _, j, hσ.1.1, by omega, rfl, ?_⟩
        conv => whnf
        exact ⟨rfl, h⟩
      · exact absurd h1 (by decide)
    · rw [if_neg hb]
      rw [if_neg hb] at h
      refine ⟨fun h1 => ?_, fun h1 => ?_⟩
      · exact absurd rfl h1
      · conv => whnf
        exact ⟨rfl, h⟩
  · exact h.elim
def f_X6_density : gF := fun av M post => match av with
  | [.inr (.inl (6, p)), .inl b, .inl x] => p = 0 ∧ ∃ σ, clR M σ ∧ post (some (.inl (oDens σ b x))) M
  | _ => False
theorem lk_X6_density (l : Launch) : gLinks l RX6 2 [(gTn f_X6_isBlock, 0, 0, 99), (gTn f_X6_isWithin, 0, 0, 99), (gTn f_X0_densityAt, 0, 0, 0)] pX6_density := And.intro ⟨gTn f_X6_isBlock, 99, yX6_isBlock, cX6_isBlock, 1, (some .boolean), 1, rfl, yi_yX6_isBlock, ok_X6_isBlock l, by decide, Or.inl ml_RX6_40, sm_yX6_isBlock⟩ (And.intro kc_RX6_211 (And.intro kc_RX6_212 (And.intro ⟨gTn f_X6_isWithin, 99, yX6_isWithin, cX6_isWithin, 3, (some .boolean), 0, rfl, yi_yX6_isWithin, ok_X6_isWithin l, by decide, Or.inl ml_RX6_47, sm_yX6_isWithin⟩ (And.intro kc_RX6_51 (And.intro gf_RX6_10 (And.intro gf_RX6_52 (And.intro gf_RX6_56 (And.intro ⟨gTn f_X0_densityAt, 0, yX0_densityAt, cX0_densityAt, 4, (some .int), 0, _, rfl, by decide, yi_yX0_densityAt, ok_X0_densityAt l, by decide, by decide, rfl, rfl, ml_RX6_213, im_yX0_densityAt, se_yX0_densityAt⟩ (trivial)))))))))
theorem ok_X6_density (l : Launch) : gOK l yX6_density cX6_density 3 (some .int) 2 0 0 (gTn f_X6_density) := by
  refine gM_of (by decide +kernel) pX6_density_ok (lk_X6_density l) ?_
  intro SL SX K P av M run h
  unfold f_X6_density at h
  split at h
  · rename_i p b x
    obtain ⟨rfl, σ, hσ, h⟩ := h
    refine ⟨⟨by simp [gC1], Nat.le_of_ble_eq_true rfl⟩, ?_⟩
    unfold oDens at h
    have bad : ¬ ((0 ≤ b ∧ b ≤ 9) ∧ -99999 ≤ x ∧ x ≤ 99999) → ∀ ls, K 18 ls [] M gB0 := by
      intro hb ls
      rw [if_neg hb] at h
      refine run [] 1000 _ _ _ _ _ _ rfl ?_
      conv => whnf
      exact ⟨rfl, h⟩
    refine run [18] 1000 _ _ _ _ _ _ rfl ?_
    conv => whnf
    refine ⟨rfl, rfl, ?_⟩
    conv => whnf
    by_cases hb : 0 ≤ b ∧ b ≤ 9
    · rw [if_pos hb]
      refine ⟨fun h1 => ?_, fun h1 => ?_⟩
      · exact absurd h1 (by decide)
      · conv => whnf
        refine ⟨rfl, rfl, ?_⟩
        conv => whnf
        by_cases hx : -99999 ≤ x ∧ x ≤ 99999
        · rw [if_pos hx]
          rw [if_pos ⟨hb, hx⟩] at h
          obtain ⟨j, hj, rfl⟩ := nI_bd (n := 9) (by decide) hb.1 hb.2
          have e : (nI j).toNatClampNeg = j := nI_clamp (by omega)
          have hc := hσ.1.1 j (by omega)
          rw [e] at h
          refine ⟨fun h2 => ?_, fun h2 => ?_⟩
          · conv => whnf
            refine ⟨⟨vp_in_nI (N := 10) (by omega) (by decide), rfl⟩, ?_⟩
            conv => whnf
            rw [e]
            refine ⟨rfl, rfl, _, hc, ?_⟩
            conv => whnf
            exact ⟨rfl, h⟩
          · exact absurd h2 (by decide)
        · rw [if_neg hx]
          refine ⟨fun h2 => ?_, fun h2 => ?_⟩
          · exact absurd rfl h2
          · conv => whnf
            exact bad (fun a => hx a.2) _
    · rw [if_neg hb]
      refine ⟨fun h1 => ?_, fun h1 => ?_⟩
      · conv => whnf
        exact bad (fun a => hb a.1) _
      · exact absurd rfl h1
  · exact h.elim
def f_X6_pressure : gF := fun av M post => match av with
  | [.inr (.inl (6, p)), .inl b, .inl x] => p = 0 ∧ ∃ σ, clR M σ ∧ post (some (.inl (oPres σ b x))) M
  | _ => False
theorem lk_X6_pressure (l : Launch) : gLinks l RX6 3 [(gTn f_X6_isBlock, 0, 0, 99), (gTn f_X6_isWithin, 0, 0, 99), (gTn f_X0_pressureAt, 0, 0, 0)] pX6_pressure := And.intro ⟨gTn f_X6_isBlock, 99, yX6_isBlock, cX6_isBlock, 1, (some .boolean), 1, rfl, yi_yX6_isBlock, ok_X6_isBlock l, by decide, Or.inl ml_RX6_40, sm_yX6_isBlock⟩ (And.intro kc_RX6_212 (And.intro ⟨gTn f_X6_isWithin, 99, yX6_isWithin, cX6_isWithin, 3, (some .boolean), 0, rfl, yi_yX6_isWithin, ok_X6_isWithin l, by decide, Or.inl ml_RX6_47, sm_yX6_isWithin⟩ (And.intro kc_RX6_51 (And.intro gf_RX6_10 (And.intro gf_RX6_52 (And.intro gf_RX6_56 (And.intro ⟨gTn f_X0_pressureAt, 0, yX0_pressureAt, cX0_pressureAt, 5, (some .int), 2, _, rfl, by decide, yi_yX0_pressureAt, ok_X0_pressureAt l, by decide, by decide, rfl, rfl, ml_RX6_216, im_yX0_pressureAt, se_yX0_pressureAt⟩ (trivial))))))))
theorem ok_X6_pressure (l : Launch) : gOK l yX6_pressure cX6_pressure 3 (some .int) 3 0 0 (gTn f_X6_pressure) := by
  refine gM_of (by decide +kernel) pX6_pressure_ok (lk_X6_pressure l) ?_
  intro SL SX K P av M run h
  unfold f_X6_pressure at h
  split at h
  · rename_i p b x
    obtain ⟨rfl, σ, hσ, h⟩ := h
    refine ⟨⟨by simp [gC1], Nat.le_of_ble_eq_true rfl⟩, ?_⟩
    unfold oPres at h
    have bad : ¬ ((0 ≤ b ∧ b ≤ 9) ∧ 0 ≤ x ∧ x ≤ 99999) → ∀ ls, K 17 ls [] M gB0 := by
      intro hb ls
      rw [if_neg hb] at h
      refine run [] 1000 _ _ _ _ _ _ rfl ?_
      conv => whnf
      exact ⟨rfl, h⟩
    refine run [17] 1000 _ _ _ _ _ _ rfl ?_
    conv => whnf
    refine ⟨rfl, rfl, ?_⟩
    conv => whnf
    by_cases hb : 0 ≤ b ∧ b ≤ 9
    · rw [if_pos hb]
      refine ⟨fun h1 => ?_, fun h1 => ?_⟩
      · exact absurd h1 (by decide)
      · conv => whnf
        refine ⟨rfl, rfl, ?_⟩
        conv => whnf
        by_cases hx : 0 ≤ x ∧ x ≤ 99999
        · rw [if_pos hx]
          rw [if_pos ⟨hb, hx⟩] at h
          obtain ⟨j, hj, rfl⟩ := nI_bd (n := 9) (by decide) hb.1 hb.2
          have e : (nI j).toNatClampNeg = j := nI_clamp (by omega)
          have hc := hσ.1.1 j (by omega)
          rw [e] at h
          refine ⟨fun h2 => ?_, fun h2 => ?_⟩
          · conv => whnf
            refine ⟨⟨vp_in_nI (N := 10) (by omega) (by decide), rfl⟩, ?_⟩
            conv => whnf
            rw [e]
            refine ⟨rfl, rfl, _, hc, ?_⟩
            conv => whnf
            exact ⟨rfl, h⟩
          · exact absurd h2 (by decide)
        · rw [if_neg hx]
          refine ⟨fun h2 => ?_, fun h2 => ?_⟩
          · exact absurd rfl h2
          · conv => whnf
            exact bad (fun a => hx a.2) _
    · rw [if_neg hb]
      refine ⟨fun h1 => ?_, fun h1 => ?_⟩
      · conv => whnf
        exact bad (fun a => hb a.1) _
      · exact absurd rfl h1
  · exact h.elim
