/-! CrustBlocks: count, block, layer, account -/
def f_X6_count : gF := fun av M post => match av with
  | [.inr (.inl (6, p)), .inl x] => p = 0 ∧ ∃ σ, clR M σ ∧ post (some (.inl (oCount σ x))) M
  | _ => False
theorem lk_X6_count (l : Launch) : gLinks l RX6 4 [(gTn f_X1_allLayers, 0, 0, 1), (gTn f_X1_withLayers, 0, 0, 1), (gTn f_X1_withIceOnTop, 0, 0, 1), (gTn f_X1_unbalanced, 0, 0, 1), (gTn f_X1_highest, 0, 0, 1), (gTn f_X3_filledPlaces, 0, 0, 3)] pX6_count := And.intro gf_RX6_10 (And.intro gf_RX6_126 (And.intro gf_RX6_10 (And.intro gf_RX6_123 (And.intro gf_RX6_10 (And.intro gf_RX6_123 (And.intro gf_RX6_10 (And.intro gf_RX6_123 (And.intro gf_RX6_10 (And.intro gf_RX6_123 (And.intro gf_RX6_10 (And.intro gf_RX6_123 (And.intro gf_RX6_10 (And.intro gf_RX6_52 (And.intro ⟨gTn f_X1_allLayers, 1, yX1_allLayers, cX1_allLayers, 3, (some .int), 0, _, rfl, by decide, yi_yX1_allLayers, ok_X1_allLayers l, by decide, by decide, rfl, rfl, ml_RX6_101, im_yX1_allLayers, se_yX1_allLayers⟩ (And.intro gf_RX6_10 (And.intro gf_RX6_52 (And.intro ⟨gTn f_X1_withLayers, 1, yX1_withLayers, cX1_withLayers, 3, (some .int), 0, _, rfl, by decide, yi_yX1_withLayers, ok_X1_withLayers l, by decide, by decide, rfl, rfl, ml_RX6_171, im_yX1_withLayers, se_yX1_withLayers⟩ (And.intro gf_RX6_10 (And.intro gf_RX6_52 (And.intro ⟨gTn f_X1_withIceOnTop, 1, yX1_withIceOnTop, cX1_withIceOnTop, 3, (some .int), 1, _, rfl, by decide, yi_yX1_withIceOnTop, ok_X1_withIceOnTop l, by decide, by decide, rfl, rfl, ml_RX6_174, im_yX1_withIceOnTop, se_yX1_withIceOnTop⟩ (And.intro gf_RX6_10 (And.intro gf_RX6_52 (And.intro ⟨gTn f_X1_unbalanced, 1, yX1_unbalanced, cX1_unbalanced, 3, (some .int), 3, _, rfl, by decide, yi_yX1_unbalanced, ok_X1_unbalanced l, by decide, by decide, rfl, rfl, ml_RX6_111, im_yX1_unbalanced, se_yX1_unbalanced⟩ (And.intro gf_RX6_10 (And.intro gf_RX6_52 (And.intro ⟨gTn f_X1_highest, 1, yX1_highest, cX1_highest, 3, (some .int), 2, _, rfl, by decide, yi_yX1_highest, ok_X1_highest l, by decide, by decide, rfl, rfl, ml_RX6_177, im_yX1_highest, se_yX1_highest⟩ (And.intro gf_RX6_10 (And.intro ⟨gTn f_X3_filledPlaces, 3, yX3_filledPlaces, cX3_filledPlaces, 3, (some .int), 0, _, rfl, by decide, yi_yX3_filledPlaces, ok_X3_filledPlaces l, by decide, by decide, rfl, rfl, ml_RX6_180, im_yX3_filledPlaces, se_yX3_filledPlaces⟩ (And.intro gf_RX6_22 (And.intro gf_RX6_147 (And.intro gf_RX6_29 (And.intro gf_RX6_151 (And.intro kc_RX6_51 (trivial))))))))))))))))))))))))))))))))))
theorem ok_X6_count (l : Launch) : gOK l yX6_count cX6_count 2 (some .int) 4 0 0 (gTn f_X6_count) := by
  refine gM_of (by decide +kernel) pX6_count_ok (lk_X6_count l) ?_
  intro SL SX K P av M run h
  unfold f_X6_count at h
  split at h
  · rename_i p x
    obtain ⟨rfl, σ, hσ, h⟩ := h
    refine ⟨⟨by simp [gC1], Nat.le_of_ble_eq_true rfl⟩, ?_⟩
    have hm : M (0 + 263) 2 = nI σ.2.1.length := hσ.2.1.2.choose_spec.2.2.1
    refine run [] 1000 _ _ _ _ _ _ rfl ?_
    conv => whnf
    refine ⟨⟨fun h1 => ?_, fun h1 => ?_, fun h1 => ?_, fun h1 => ?_, fun h1 => ?_, fun h1 => ?_, fun h1 => ?_, fun h1 => ?_, fun h1 => ?_, fun h1 => ?_, fun h1 => ?_, fun h1 => ?_, fun h1 => ?_, fun h1 => ?_, trivial⟩, fun h1 => ?_⟩
    · have h1 : x = 0 := h1
      subst h1
      have h : P (some (.inl (σ.1.2.2.2.2.2))) M := h
      conv => whnf
      rw [show M (0 + 1) 5 = σ.1.2.2.2.2.2 from hσ.1.2.2.2.2.2]
      exact ⟨rfl, h⟩
    · have h1 : x = 1 := h1
      subst h1
      have h : P (some (.inl (σ.1.2.2.2.1 0))) M := h
      conv => whnf
      refine ⟨vp_in_nI (n := 0) (by decide) (by decide), ?_⟩
      conv => whnf
      rw [show M (0 + 1 + 45) (Int32.toNatClampNeg 0) = σ.1.2.2.2.1 0 from hσ.1.2.2.2.1 0 (by decide)]
      exact ⟨rfl, h⟩
    · have h1 : x = 2 := h1
      subst h1
      have h : P (some (.inl (σ.1.2.2.2.1 1))) M := h
      conv => whnf
      refine ⟨vp_in_nI (n := 1) (by decide) (by decide), ?_⟩
      conv => whnf
      rw [show M (0 + 1 + 45) (Int32.toNatClampNeg 1) = σ.1.2.2.2.1 1 from hσ.1.2.2.2.1 1 (by decide)]
      exact ⟨rfl, h⟩
    · have h1 : x = 3 := h1
      subst h1
      have h : P (some (.inl (σ.1.2.2.2.1 2))) M := h
      conv => whnf
      refine ⟨vp_in_nI (n := 2) (by decide) (by decide), ?_⟩
      conv => whnf
      rw [show M (0 + 1 + 45) (Int32.toNatClampNeg 2) = σ.1.2.2.2.1 2 from hσ.1.2.2.2.1 2 (by decide)]
      exact ⟨rfl, h⟩
    · have h1 : x = 4 := h1
      subst h1
      have h : P (some (.inl (σ.1.2.2.2.1 3))) M := h
      conv => whnf
      refine ⟨vp_in_nI (n := 3) (by decide) (by decide), ?_⟩
      conv => whnf
      rw [show M (0 + 1 + 45) (Int32.toNatClampNeg 3) = σ.1.2.2.2.1 3 from hσ.1.2.2.2.1 3 (by decide)]
      exact ⟨rfl, h⟩
    · have h1 : x = 5 := h1
      subst h1
      have h : P (some (.inl (σ.1.2.2.2.1 4))) M := h
      conv => whnf
      refine ⟨vp_in_nI (n := 4) (by decide) (by decide), ?_⟩
      conv => whnf
      rw [show M (0 + 1 + 45) (Int32.toNatClampNeg 4) = σ.1.2.2.2.1 4 from hσ.1.2.2.2.1 4 (by decide)]
      exact ⟨rfl, h⟩
    · have h1 : x = 6 := h1
      subst h1
      have h : P (some (.inl (aLay σ.1.1))) M := h
      conv => whnf
      refine ⟨rfl, rfl, _, hσ.1.1, ?_⟩
      conv => whnf
      exact ⟨rfl, h⟩
    · have h1 : x = 7 := h1
      subst h1
      have h : P (some (.inl (cSum (fun c => if c.1.length = 0 then 0 else 1) σ.1.1 10))) M := h
      conv => whnf
      refine ⟨rfl, rfl, _, hσ.1.1, ?_⟩
      conv => whnf
      exact ⟨rfl, h⟩
    · have h1 : x = 8 := h1
      subst h1
      have h : P (some (.inl (cSum (fun c => if icy c.1 = true then 1 else 0) σ.1.1 10))) M := h
      conv => whnf
      refine ⟨rfl, rfl, _, hσ.1.1, ?_⟩
      conv => whnf
      exact ⟨rfl, h⟩
    · have h1 : x = 9 := h1
      subst h1
      have h : P (some (.inl (cSum (fun c => if c.2 = lbal c.1 then 0 else 1) σ.1.1 10))) M := h
      conv => whnf
      refine ⟨rfl, rfl, _, hσ.1.1, ?_⟩
      conv => whnf
      exact ⟨rfl, h⟩
    · have h1 : x = 10 := h1
      subst h1
      have h : P (some (.inl (nI (cHi σ.1.1 9)))) M := h
      conv => whnf
      refine ⟨rfl, rfl, _, hσ.1.1, ?_⟩
      conv => whnf
      exact ⟨rfl, h⟩
    · have h1 : x = 11 := h1
      subst h1
      have h : P (some (.inl (0 + σ.1.2.2.1 0 + σ.1.2.2.1 1))) M := h
      conv => whnf
      refine ⟨rfl, rfl, _, hσ.1, ?_⟩
      conv => whnf
      exact ⟨rfl, h⟩
    · have h1 : x = 12 := h1
      subst h1
      have h : P (some (.inl (nI σ.2.1.length))) M := h
      conv => whnf
      rw [hm]
      exact ⟨rfl, h⟩
    · have h1 : x = 13 := h1
      subst h1
      have h : P (some (.inl (nI σ.2.2.2))) M := h
      conv => whnf
      rw [show M (0 + 920) 1 = nI σ.2.2.2 from hσ.2.2.1.2.2]
      exact ⟨rfl, h⟩
    · have ne : ∀ c : Int32, (0 ≤ c.toInt ∧ c.toInt ≤ 13) → ¬ x = c := fun c hc q => by subst q; omega
      rw [oCount, if_neg (ne 0 (by decide)), if_neg (ne 1 (by decide)), if_neg (ne 2 (by decide)), if_neg (ne 3 (by decide)), if_neg (ne 4 (by decide)), if_neg (ne 5 (by decide)), if_neg (ne 6 (by decide)), if_neg (ne 7 (by decide)), if_neg (ne 8 (by decide)), if_neg (ne 9 (by decide)), if_neg (ne 10 (by decide)), if_neg (ne 11 (by decide)), if_neg (ne 12 (by decide)), if_neg (ne 13 (by decide))] at h
      conv => whnf
      exact ⟨rfl, h⟩
  · exact h.elim
def f_X6_block : gF := fun av M post => match av with
  | [.inr (.inl (6, p)), .inl b, .inl x] => p = 0 ∧ ∃ σ, clR M σ ∧ post (some (.inl (oBlock σ b x))) M
  | _ => False
theorem lk_X6_block (l : Launch) : gLinks l RX6 3 [(gTn f_X6_isBlock, 0, 0, 99), (gTn f_X0_weight, 0, 0, 0), (gTn f_X0_balance, 0, 0, 0), (gTn f_X0_top, 0, 0, 0), (gTn f_X0_allThicknesses, 0, 0, 0), (gTn f_X0_iceThickness, 0, 0, 0)] pX6_block := And.intro ⟨gTn f_X6_isBlock, 99, yX6_isBlock, cX6_isBlock, 1, (some .boolean), 1, rfl, yi_yX6_isBlock, ok_X6_isBlock l, by decide, Or.inl ml_RX6_40, sm_yX6_isBlock⟩ (And.intro kc_RX6_51 (And.intro gf_RX6_10 (And.intro gf_RX6_52 (And.intro gf_RX6_56 (And.intro gf_RX6_62 (And.intro ⟨gTn f_X0_weight, 0, yX0_weight, cX0_weight, 3, (some .int), 1, _, rfl, by decide, yi_yX0_weight, ok_X0_weight l, by decide, by decide, rfl, rfl, ml_RX6_183, im_yX0_weight, se_yX0_weight⟩ (And.intro ⟨gTn f_X0_balance, 0, yX0_balance, cX0_balance, 1, (some .int), 2, _, rfl, by decide, yi_yX0_balance, ok_X0_balance l, by decide, by decide, rfl, rfl, ml_RX6_186, im_yX0_balance, se_yX0_balance⟩ (And.intro gf_RX6_189 (And.intro ⟨gTn f_X0_top, 0, yX0_top, cX0_top, 1, (some .int), 1, _, rfl, by decide, yi_yX0_top, ok_X0_top l, by decide, by decide, rfl, rfl, ml_RX6_192, im_yX0_top, se_yX0_top⟩ (And.intro ⟨gTn f_X0_allThicknesses, 0, yX0_allThicknesses, cX0_allThicknesses, 3, (some .int), 0, _, rfl, by decide, yi_yX0_allThicknesses, ok_X0_allThicknesses l, by decide, by decide, rfl, rfl, ml_RX6_195, im_yX0_allThicknesses, se_yX0_allThicknesses⟩ (And.intro ⟨gTn f_X0_iceThickness, 0, yX0_iceThickness, cX0_iceThickness, 3, (some .int), 0, _, rfl, by decide, yi_yX0_iceThickness, ok_X0_iceThickness l, by decide, by decide, rfl, rfl, ml_RX6_198, im_yX0_iceThickness, se_yX0_iceThickness⟩ (And.intro kc_RX6_51 (trivial)))))))))))))
theorem ok_X6_block (l : Launch) : gOK l yX6_block cX6_block 4 (some .int) 3 0 0 (gTn f_X6_block) := by
  refine gM_of (by decide +kernel) pX6_block_ok (lk_X6_block l) ?_
  intro SL SX K P av M run h
  unfold f_X6_block at h
  split at h
  · rename_i p b x
    obtain ⟨rfl, σ, hσ, h⟩ := h
    refine ⟨⟨by simp [gC1], Nat.le_of_ble_eq_true rfl⟩, ?_⟩
    unfold oBlock at h
    refine run [] 1000 _ _ _ _ _ _ rfl ?_
    conv => whnf
    refine ⟨rfl, rfl, ?_⟩
    conv => whnf
    by_cases hb : 0 ≤ b ∧ b ≤ 9
    · rw [if_pos hb]
      rw [if_pos hb] at h
      obtain ⟨j, hj, rfl⟩ := nI_bd (n := 9) (by decide) hb.1 hb.2
      have e : (nI j).toNatClampNeg = j := nI_clamp (by omega)
      have hc := hσ.1.1 j (by omega)
      rw [e] at h
      refine ⟨fun h1 => ?_, fun h1 => ?_⟩
      · conv => whnf
        refine ⟨⟨vp_in_nI (N := 10) (by omega) (by decide), rfl⟩, ?_⟩
        conv => whnf
        rw [e]
        refine ⟨⟨fun h1 => ?_, fun h1 => ?_, fun h1 => ?_, fun h1 => ?_, fun h1 => ?_, fun h1 => ?_, fun h1 => ?_, trivial⟩, fun h1 => ?_⟩
        · have h1 : x = 0 := h1
          subst h1
          have h : P (some (.inl (nI (σ.1.1 j).1.length))) M := h
          conv => whnf
          rw [show M (0 + 1 + 1 + 1 + (gEl 8).2.1 + (gEl 8).2.2.1 * j) 3 = nI (σ.1.1 j).1.length from hc.2.1]
          exact ⟨rfl, h⟩
        · have h1 : x = 1 := h1
          subst h1
          have h : P (some (.inl (lwt (σ.1.1 j).1))) M := h
          conv => whnf
          refine ⟨rfl, rfl, _, hc, ?_⟩
          conv => whnf
          exact ⟨rfl, h⟩
        · have h1 : x = 2 := h1
          subst h1
          have h : P (some (.inl (lbal (σ.1.1 j).1))) M := h
          conv => whnf
          refine ⟨rfl, rfl, _, hc, ?_⟩
          conv => whnf
          exact ⟨rfl, h⟩
        · have h1 : x = 3 := h1
          subst h1
          have h : P (some (.inl ((σ.1.1 j).2))) M := h
          conv => whnf
          rw [show M (0 + 1 + 1 + 1 + (gEl 8).2.1 + (gEl 8).2.2.1 * j) 4 = (σ.1.1 j).2 from hc.2.2.1]
          exact ⟨rfl, h⟩
        · have h1 : x = 4 := h1
          subst h1
          have h : P (some (.inl (ltop (σ.1.1 j)))) M := h
          conv => whnf
          refine ⟨rfl, rfl, _, hc, ?_⟩
          conv => whnf
          exact ⟨rfl, h⟩
        · have h1 : x = 5 := h1
          subst h1
          have h : P (some (.inl (lth (σ.1.1 j).1))) M := h
          conv => whnf
          refine ⟨rfl, rfl, _, hc, ?_⟩
          conv => whnf
          exact ⟨rfl, h⟩
        · have h1 : x = 6 := h1
          subst h1
          have h : P (some (.inl (lic (σ.1.1 j).1 * 9))) M := h
          conv => whnf
          refine ⟨rfl, rfl, _, hc, ?_⟩
          conv => whnf
          exact ⟨rfl, h⟩
        · have ne : ∀ c : Int32, (0 ≤ c.toInt ∧ c.toInt ≤ 6) → ¬ x = c := fun c hc q => by subst q; omega
          rw [colQ, if_neg (ne 0 (by decide)), if_neg (ne 1 (by decide)), if_neg (ne 2 (by decide)), if_neg (ne 3 (by decide)), if_neg (ne 4 (by decide)), if_neg (ne 5 (by decide)), if_neg (ne 6 (by decide))] at h
          conv => whnf
          exact ⟨rfl, h⟩
      · exact absurd h1 (by decide)
    · rw [if_neg hb]
      rw [if_neg hb] at h
      refine ⟨fun h1 => ?_, fun h1 => ?_⟩
      · exact absurd rfl h1
      · conv => whnf
        exact ⟨rfl, h⟩
  · exact h.elim
def f_X6_layer : gF := fun av M post => match av with
  | [.inr (.inl (6, p)), .inl b, .inl l, .inl x] => p = 0 ∧ ∃ σ, clR M σ ∧ post (some (.inl (oLayer σ b l x))) M
  | _ => False
theorem lk_X6_layer (l : Launch) : gLinks l RX6 3 [(gTn f_X6_isBlock, 0, 0, 99), (gTn f_X6_isWithin, 0, 0, 99), (gTn f_X0_hasLayer, 0, 0, 0), (gTn f_X0_upperSide, 0, 0, 0)] pX6_layer := And.intro ⟨gTn f_X6_isBlock, 99, yX6_isBlock, cX6_isBlock, 1, (some .boolean), 1, rfl, yi_yX6_isBlock, ok_X6_isBlock l, by decide, Or.inl ml_RX6_40, sm_yX6_isBlock⟩ (And.intro ⟨gTn f_X6_isWithin, 99, yX6_isWithin, cX6_isWithin, 3, (some .boolean), 0, rfl, yi_yX6_isWithin, ok_X6_isWithin l, by decide, Or.inl ml_RX6_47, sm_yX6_isWithin⟩ (And.intro kc_RX6_51 (And.intro gf_RX6_10 (And.intro gf_RX6_52 (And.intro gf_RX6_56 (And.intro ⟨gTn f_X0_hasLayer, 0, yX0_hasLayer, cX0_hasLayer, 2, (some .boolean), 1, _, rfl, by decide, yi_yX0_hasLayer, ok_X0_hasLayer l, by decide, by decide, rfl, rfl, ml_RX6_87, im_yX0_hasLayer, se_yX0_hasLayer⟩ (And.intro kc_RX6_201 (And.intro gf_RX6_202 (And.intro gf_RX6_205 (And.intro gf_RX6_90 (And.intro ⟨gTn f_X0_upperSide, 0, yX0_upperSide, cX0_upperSide, 4, (some .int), 2, _, rfl, by decide, yi_yX0_upperSide, ok_X0_upperSide l, by decide, by decide, rfl, rfl, ml_RX6_208, im_yX0_upperSide, se_yX0_upperSide⟩ (trivial))))))))))))
theorem ok_X6_layer (l : Launch) : gOK l yX6_layer cX6_layer 5 (some .int) 3 0 0 (gTn f_X6_layer) := by
  refine gM_of (by decide +kernel) pX6_layer_ok (lk_X6_layer l) ?_
  intro SL SX K P av M run h
  unfold f_X6_layer at h
  split at h
  · rename_i p b l x
    obtain ⟨rfl, σ, hσ, h⟩ := h
    refine ⟨⟨by simp [gC1], Nat.le_of_ble_eq_true rfl⟩, ?_⟩
    unfold oLayer at h
    have bad20 : ¬ ((0 ≤ b ∧ b ≤ 9) ∧ 0 ≤ l ∧ 0 ≤ x ∧ x ≤ 3) → ∀ ls, K 20 ls [] M gB0 := by
      intro hb ls
      rw [if_neg hb] at h
      refine run [] 1000 _ _ _ _ _ _ rfl ?_
      conv => whnf
      exact ⟨rfl, h⟩
    refine run [20] 1000 _ _ _ _ _ _ rfl ?_
    conv => whnf
    refine ⟨rfl, rfl, ?_⟩
    conv => whnf
    by_cases hb : 0 ≤ b ∧ b ≤ 9
    · rw [if_pos hb]
      refine ⟨fun h1 => ?_, fun h1 => ?_⟩
      · exact absurd h1 (by decide)
      · conv => whnf
        refine ⟨fun h2 => ?_, fun h2 => ?_⟩
        · conv => whnf
          exact bad20 (fun a => Int32.not_lt.mpr a.2.1 h2) _
        · conv => whnf
          have hl0 : 0 ≤ l := Int32.not_lt.mp h2
          refine ⟨rfl, rfl, ?_⟩
          conv => whnf
          by_cases hx : 0 ≤ x ∧ x ≤ 3
          · rw [if_pos hx]
            rw [if_pos ⟨hb, hl0, hx⟩] at h
            obtain ⟨j, hj, rfl⟩ := nI_bd (n := 9) (by decide) hb.1 hb.2
            have e : (nI j).toNatClampNeg = j := nI_clamp (by omega)
            have hc := hσ.1.1 j (by omega)
            have h8 := hc.1
            obtain ⟨i, hi, rfl⟩ := nI_of0 hl0
            have e2 : (nI i).toNatClampNeg = i := nI_clamp hi
            rw [e, e2] at h
            refine ⟨fun h3 => ?_, fun h3 => ?_⟩
            · conv => whnf
              refine ⟨⟨vp_in_nI (N := 10) (by omega) (by decide), rfl⟩, ?_⟩
              conv => whnf
              rw [e]
              refine ⟨rfl, rfl, _, hc, ?_⟩
              rw [nI_toInt hi]
              conv => whnf
              by_cases hlt : i < (σ.1.1 j).1.length
              · rw [if_pos ⟨by omega, by omega⟩]
                rw [List.getElem?_eq_getElem hlt] at h
                dsimp only at h
                have y := hc.lay hlt
                refine ⟨fun h4 => ?_, fun h4 => ?_⟩
                · conv => whnf
                  refine ⟨⟨fun h1 => ?_, fun h1 => ?_, fun h1 => ?_, trivial⟩, fun h1 => ?_⟩
                  · have h1 : x = 0 := h1
                    subst h1
                    have h : P (some (.inl ((σ.1.1 j).1[i].1))) M := h
                    conv => whnf
                    refine ⟨vp_in_nI (by omega) (by decide), ?_⟩
                    conv => whnf
                    rw [e2, show M (0 + 1 + 1 + 1 + (gEl 8).2.1 + (gEl 8).2.2.1 * j + 1) i = (σ.1.1 j).1[i].1 from y.1]
                    exact ⟨rfl, h⟩
                  · have h1 : x = 1 := h1
                    subst h1
                    have h : P (some (.inl ((σ.1.1 j).1[i].2.1))) M := h
                    conv => whnf
                    refine ⟨vp_in_nI (by omega) (by decide), ?_⟩
                    conv => whnf
                    rw [e2, show M (0 + 1 + 1 + 1 + (gEl 8).2.1 + (gEl 8).2.2.1 * j + 2) i = (σ.1.1 j).1[i].2.1 from y.2.1]
                    exact ⟨rfl, h⟩
                  · have h1 : x = 2 := h1
                    subst h1
                    have h : P (some (.inl ((σ.1.1 j).1[i].2.2))) M := h
                    conv => whnf
                    refine ⟨vp_in_nI (by omega) (by decide), ?_⟩
                    conv => whnf
                    rw [e2, show M (0 + 1 + 1 + 1 + (gEl 8).2.1 + (gEl 8).2.2.1 * j + 3) i = (σ.1.1 j).1[i].2.2 from y.2.2]
                    exact ⟨rfl, h⟩
                  · have ne : ∀ c : Int32, (0 ≤ c.toInt ∧ c.toInt ≤ 2) → ¬ x = c := fun c hc q => by subst q; omega
                    rw [if_neg (ne 0 (by decide)), if_neg (ne 1 (by decide)), if_neg (ne 2 (by decide))] at h
                    conv => whnf
                    refine ⟨rfl, rfl, _, i, hc, by omega, rfl, ?_⟩
                    conv => whnf
                    exact ⟨rfl, h⟩
                · exact absurd h4 (by decide)
              · rw [if_neg (fun a => hlt (by omega))]
                rw [List.getElem?_eq_none (by omega)] at h
                refine ⟨fun h4 => ?_, fun h4 => ?_⟩
                · exact absurd rfl h4
                · conv => whnf
                  exact ⟨rfl, h⟩
            · exact absurd h3 (by decide)
          · rw [if_neg hx]
            refine ⟨fun h3 => ?_, fun h3 => ?_⟩
            · exact absurd rfl h3
            · conv => whnf
              exact bad20 (fun a => hx a.2.2) _
    · rw [if_neg hb]
      refine ⟨fun h1 => ?_, fun h1 => ?_⟩
      · conv => whnf
        exact bad20 (fun a => hb a.1) _
      · exact absurd rfl h1
  · exact h.elim
def f_X6_account : gF := fun av M post => match av with
  | [.inr (.inl (6, p)), .inl x] => p = 0 ∧ ∃ σ, clR M σ ∧ post (some (.inl (oAcc σ x))) M
  | _ => False
theorem lk_X6_account (l : Launch) : gLinks l RX6 3 [(gTn f_X6_isWithin, 0, 0, 99), (gTn f_X1_allWeights, 0, 0, 1)] pX6_account := And.intro ⟨gTn f_X6_isWithin, 99, yX6_isWithin, cX6_isWithin, 3, (some .boolean), 0, rfl, yi_yX6_isWithin, ok_X6_isWithin l, by decide, Or.inl ml_RX6_47, sm_yX6_isWithin⟩ (And.intro kc_RX6_51 (And.intro gf_RX6_10 (And.intro gf_RX6_52 (And.intro ⟨gTn f_X1_allWeights, 1, yX1_allWeights, cX1_allWeights, 3, (some .int), 2, _, rfl, by decide, yi_yX1_allWeights, ok_X1_allWeights l, by decide, by decide, rfl, rfl, ml_RX6_105, im_yX1_allWeights, se_yX1_allWeights⟩ (And.intro gf_RX6_10 (And.intro gf_RX6_84 (And.intro gf_RX6_10 (And.intro gf_RX6_84 (And.intro gf_RX6_10 (And.intro gf_RX6_84 (trivial)))))))))))
theorem ok_X6_account (l : Launch) : gOK l yX6_account cX6_account 2 (some .int) 3 0 0 (gTn f_X6_account) := by
  refine gM_of (by decide +kernel) pX6_account_ok (lk_X6_account l) ?_
  intro SL SX K P av M run h
  unfold f_X6_account at h
  split at h
  · rename_i p x
    obtain ⟨rfl, σ, hσ, h⟩ := h
    refine ⟨⟨by simp [gC1], Nat.le_of_ble_eq_true rfl⟩, ?_⟩
    unfold oAcc at h
    refine run [] 1000 _ _ _ _ _ _ rfl ?_
    conv => whnf
    refine ⟨rfl, rfl, ?_⟩
    conv => whnf
    by_cases hx : 0 ≤ x ∧ x ≤ 7
    · rw [if_pos hx]
      rw [if_pos hx] at h
      refine ⟨fun h1 => ?_, fun h1 => ?_⟩
      · conv => whnf
        refine ⟨fun h2 => ?_, fun h2 => ?_⟩
        · conv => whnf
          have h2 : ¬ x = 7 := h2
          rw [if_neg h2] at h
          refine ⟨fun h3 => ?_, fun h3 => ?_⟩
          · conv => whnf
            have h3 : ¬ x = 6 := h3
            rw [if_neg h3] at h
            obtain ⟨j, hj, rfl⟩ := nI_bd (n := 7) (by decide) hx.1 hx.2
            have j7 : ¬ j = 7 := fun q => h2 (by rw [q]; rfl)
            have j6 : ¬ j = 6 := fun q => h3 (by rw [q]; rfl)
            have e : (nI j).toNatClampNeg = j := nI_clamp (by omega)
            rw [e] at h
            refine ⟨vp_in_nI (by omega) (by decide), ?_⟩
            conv => whnf
            rw [e, show M (0 + 1 + 46) j = σ.1.2.2.2.2.1 j from hσ.1.2.2.2.2.1 j (by omega)]
            exact ⟨rfl, h⟩
          · conv => whnf
            have h3 : x = 6 := h3
            rw [if_pos h3] at h
            refine ⟨vp_in_nI (n := 4) (by decide) (by decide), ?_⟩
            conv => whnf
            refine ⟨vp_in_nI (n := 5) (by decide) (by decide), ?_⟩
            conv => whnf
            rw [show M (0 + 1 + 46) (Int32.toNatClampNeg 4) = σ.1.2.2.2.2.1 4 from hσ.1.2.2.2.2.1 4 (by decide), show M (0 + 1 + 46) (Int32.toNatClampNeg 5) = σ.1.2.2.2.2.1 5 from hσ.1.2.2.2.2.1 5 (by decide)]
            exact ⟨rfl, h⟩
        · conv => whnf
          have h2 : x = 7 := h2
          rw [if_pos h2] at h
          refine ⟨rfl, rfl, _, hσ.1.1, ?_⟩
          conv => whnf
          exact ⟨rfl, h⟩
      · exact absurd h1 (by decide)
    · rw [if_neg hx]
      rw [if_neg hx] at h
      refine ⟨fun h1 => ?_, fun h1 => ?_⟩
      · exact absurd rfl h1
      · conv => whnf
        exact ⟨rfl, h⟩
  · exact h.elim
