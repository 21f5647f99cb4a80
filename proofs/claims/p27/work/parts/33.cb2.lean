/-! CrustBlocks: removeLayer, strip, settle, set -/
theorem nI_of0 {v : Int32} (h : 0 ≤ v) : ∃ j, j < 2 ^ 31 ∧ v = nI j := nI_of (Int32.not_lt.mpr h)
def f_X6_removeLayer : gF := fun av M post => match av with
  | [.inr (.inl (6, p)), .inl b, .inl l] => p = 0 ∧ ∃ σ, clR M σ ∧ cQ M (oRem σ b l) post
  | _ => False
theorem lk_X6_removeLayer (l : Launch) : gLinks l RX6 5 [(gTn f_X6_isBlock, 0, 0, 99), (gTn f_X0_hasLayer, 0, 0, 0), (gTn f_X2_keep, 0, 0, 2), (gTn f_X0_weightOf, 0, 0, 0), (gTn f_X0_delete, 0, 0, 0)] pX6_removeLayer := And.intro ⟨gTn f_X6_isBlock, 99, yX6_isBlock, cX6_isBlock, 1, (some .boolean), 1, rfl, yi_yX6_isBlock, ok_X6_isBlock l, by decide, Or.inl ml_RX6_40, sm_yX6_isBlock⟩ (And.intro gf_RX6_10 (And.intro gf_RX6_52 (And.intro gf_RX6_56 (And.intro ⟨gTn f_X0_hasLayer, 0, yX0_hasLayer, cX0_hasLayer, 2, (some .boolean), 1, _, rfl, by decide, yi_yX0_hasLayer, ok_X0_hasLayer l, by decide, by decide, rfl, rfl, ml_RX6_87, im_yX0_hasLayer, se_yX0_hasLayer⟩ (And.intro kc_RX6_51 (And.intro gf_RX6_22 (And.intro gf_RX6_10 (And.intro ⟨gTn f_X2_keep, 2, yX2_keep, cX2_keep, 2, none, 4, _, rfl, by decide, yi_yX2_keep, ok_X2_keep l, by decide, by decide, rfl, rfl, ml_RX6_76, im_yX2_keep, se_yX2_keep⟩ (And.intro gf_RX6_10 (And.intro gf_RX6_52 (And.intro gf_RX6_56 (And.intro gf_RX6_90 (And.intro gf_RX6_10 (And.intro gf_RX6_84 (And.intro ⟨gTn f_X0_weightOf, 0, yX0_weightOf, cX0_weightOf, 2, (some .int), 0, _, rfl, by decide, yi_yX0_weightOf, ok_X0_weightOf l, by decide, by decide, rfl, rfl, ml_RX6_93, im_yX0_weightOf, se_yX0_weightOf⟩ (And.intro ⟨gTn f_X0_delete, 0, yX0_delete, cX0_delete, 3, none, 2, _, rfl, by decide, yi_yX0_delete, ok_X0_delete l, by decide, by decide, rfl, rfl, ml_RX6_97, im_yX0_delete, se_yX0_delete⟩ (trivial)))))))))))))))))
theorem ok_X6_removeLayer (l : Launch) : gOK l yX6_removeLayer cX6_removeLayer 5 (some .int) 5 0 0 (gTn f_X6_removeLayer) := by
  refine gM_of (by decide +kernel) pX6_removeLayer_ok (lk_X6_removeLayer l) ?_
  intro SL SX K P av M run h
  unfold f_X6_removeLayer at h
  split at h
  · rename_i p b l
    obtain ⟨rfl, σ, hσ, h⟩ := h
    refine ⟨⟨by simp [gC1], Nat.le_of_ble_eq_true rfl⟩, ?_⟩
    have bad26 : (oRem σ b l = (-100000001, σ)) → ∀ ls, K 26 ls [] M gB0 := by
      intro hb ls
      refine run [] 1000 _ _ _ _ _ _ rfl ?_
      conv => whnf
      exact ⟨rfl, h.no hσ hb⟩
    refine run [26, 29] 1000 _ _ _ _ _ _ rfl ?_
    conv => whnf
    refine ⟨rfl, rfl, ?_⟩
    conv => whnf
    by_cases hb : 0 ≤ b ∧ b ≤ 9
    · rw [if_pos hb]
      refine ⟨fun h1 => ?_, fun h1 => ?_⟩
      · exact absurd h1 (by decide)
      · conv => whnf
        obtain ⟨j, hj, rfl⟩ := nI_bd (n := 9) (by decide) hb.1 hb.2
        have e : (nI j).toNatClampNeg = j := nI_clamp (by omega)
        have hS := hσ.1
        have hc := hS.1 j (by omega)
        have h8 := hc.1
        unfold oRem at h bad26
        rw [e] at h bad26
        refine ⟨⟨vp_in_nI (N := 10) (by omega) (by decide), rfl⟩, ?_⟩
        conv => whnf
        rw [e]
        refine ⟨rfl, rfl, _, hc, ?_⟩
        conv => whnf
        by_cases hl : 0 ≤ l.toInt ∧ l.toInt < (σ.1.1 j).1.length
        · rw [if_pos hl]
          have hl0 : 0 ≤ l := Int32.le_iff_toInt_le.mpr hl.1
          refine ⟨fun h2 => ?_, fun h2 => ?_⟩
          · conv => whnf
            refine run [] 1000 _ _ _ _ _ _ rfl ?_
            conv => whnf
            obtain ⟨i, hi, rfl⟩ := nI_of0 hl0
            have e2 : (nI i).toNatClampNeg = i := nI_clamp hi
            rw [nI_toInt hi] at hl
            have hlt : i < (σ.1.1 j).1.length := by omega
            rw [if_pos ⟨hb, hl0⟩, e2, List.getElem?_eq_getElem hlt] at h
            dsimp only at h
            refine ⟨rfl, rfl, _, _, hσ.2.1, hS, by omega, fun M1 g1 g2 => ?_⟩
            have k1 := hσ.act g1 g2
            have c1 : colR M1 (1 + 1 + 1 + 1 + 4 * j) (σ.1.1 j) := k1.1.1 j (by omega)
            have y1 := c1.lay hlt
            conv => whnf
            refine ⟨⟨vp_in_nI (N := 10) (by omega) (by decide), rfl⟩, ?_⟩
            conv => whnf
            refine ⟨vp_in_nI (n := i) (by omega) (by decide), ?_⟩
            conv => whnf
            refine ⟨vp_in_nI (n := 1) (by decide) (by decide), ?_⟩
            conv => whnf
            rw [e]
            refine ⟨rfl, rfl, i, by omega, rfl, ?_⟩
            conv => whnf
            rw [e2]
            have ey : M1 (0 + 1 + 1 + 1 + (gEl 8).2.1 + (gEl 8).2.2.1 * j + 2) i * M1 (0 + 1 + 1 + 1 + (gEl 8).2.1 + (gEl 8).2.2.1 * j + 3) i = (σ.1.1 j).1[i].2.1 * (σ.1.1 j).1[i].2.2 := by
              rw [show M1 (0 + 1 + 1 + 1 + (gEl 8).2.1 + (gEl 8).2.2.1 * j + 2) i = (σ.1.1 j).1[i].2.1 from y1.2.1, show M1 (0 + 1 + 1 + 1 + (gEl 8).2.1 + (gEl 8).2.2.1 * j + 3) i = (σ.1.1 j).1[i].2.2 from y1.2.2]
            rw [ey]
            refine ⟨vp_in_nI (n := 1) (by decide) (by decide), ?_⟩
            conv => whnf
            have s2 := k1.1.acc (k := 1) (by decide) ((σ.1.1 j).1[i].2.1 * (σ.1.1 j).1[i].2.2)
            refine ⟨rfl, rfl, _, i, s2.1 j (by omega), hlt, rfl, fun M3 g3 g4 => ?_⟩
            have g4 : gFr (gUp M1 (1 + 46) 1 (M1 (1 + 46) 1 + (σ.1.1 j).1[i].2.1 * (σ.1.1 j).1[i].2.2)) M3 (1 + 1 + 1 + 1 + 4 * j) := g4
            have s3 := s2.col (b := j) (by omega) g3 g4
            have f3 : gFn M1 M3 1 131 := (gFn.up (p := 1) (n := 131) (q := 1 + 46) (k := 1) (by omega) (by omega)).tr (g4.fn (by omega) (by omega))
            have k3 := k1.st s3 f3
            have h9 := h _ k3 ((g2.mono (by omega) (by omega)).tr (f3.mono (by omega) (by omega)))
            rw [← y1.2.2] at h9
            conv => whnf
            exact ⟨rfl, h9⟩
          · exact absurd h2 (by decide)
        · rw [if_neg hl]
          refine ⟨fun h2 => ?_, fun h2 => ?_⟩
          · exact absurd rfl h2
          · conv => whnf
            refine bad26 ?_ _
            by_cases hl0 : 0 ≤ l
            · obtain ⟨i, hi, rfl⟩ := nI_of0 hl0
              have e2 : (nI i).toNatClampNeg = i := nI_clamp hi
              rw [nI_toInt hi] at hl
              rw [if_pos ⟨hb, hl0⟩, e2, List.getElem?_eq_none (by omega)]
            · exact if_neg (fun a => hl0 a.2)
    · rw [if_neg hb]
      refine ⟨fun h1 => ?_, fun h1 => ?_⟩
      · conv => whnf
        exact bad26 (if_neg (fun a => hb a.1)) _
      · exact absurd rfl h1
  · exact h.elim
def cUp (C : Cru) (f : Col → Col) (k : Nat) : Cru := fun b => if b < k then f (C b) else C b
theorem cUp_0 (C : Cru) (f : Col → Col) : cUp C f 0 = C := by
  funext b
  exact if_neg (Nat.not_lt_zero b)
theorem cUp_step (C : Cru) (f : Col → Col) (k : Nat) : cSet (cUp C f k) k (f (C k)) = cUp C f (k + 1) := by
  funext b
  unfold cSet cUp
  by_cases h : b = k
  · subst h
    rw [if_pos rfl, if_pos (by omega)]
  · rw [if_neg h]
    by_cases h2 : b < k
    · rw [if_pos h2, if_pos (by omega)]
    · rw [if_neg h2, if_neg (by omega)]
theorem cUp_at (C : Cru) (f : Col → Col) (k : Nat) : cUp C f k k = C k := if_neg (Nat.lt_irrefl k)
theorem stR.up {M : gM} {p : Nat} {S : St} {f : Col → Col} (h : stR M p (cUp S.1 f 10, S.2)) : stR M p (stMap S f) := by
  refine ⟨fun i hi => ?_, h.2⟩
  have := h.1 i hi
  unfold cUp at this
  dsimp only at this
  rw [if_pos hi] at this
  exact this
def f_X6_strip : gF := fun av M post => match av with
  | [.inr (.inl (6, p)), .inl k] => p = 0 ∧ ∃ σ, clR M σ ∧ cQ M (oStrip σ k) post
  | _ => False
theorem lk_X6_strip (l : Launch) : gLinks l RX6 5 [(gTn f_X6_isKind, 0, 0, 99), (gTn f_X2_keep, 0, 0, 2), (gTn f_X1_allLayers, 0, 0, 1), (gTn f_X1_allWeights, 0, 0, 1), (gTn f_X0_deleteKind, 0, 0, 0)] pX6_strip := And.intro ⟨gTn f_X6_isKind, 99, yX6_isKind, cX6_isKind, 1, (some .boolean), 1, rfl, yi_yX6_isKind, ok_X6_isKind l, by decide, Or.inl ml_RX6_44, sm_yX6_isKind⟩ (And.intro kc_RX6_51 (And.intro gf_RX6_22 (And.intro gf_RX6_10 (And.intro ⟨gTn f_X2_keep, 2, yX2_keep, cX2_keep, 2, none, 4, _, rfl, by decide, yi_yX2_keep, ok_X2_keep l, by decide, by decide, rfl, rfl, ml_RX6_76, im_yX2_keep, se_yX2_keep⟩ (And.intro gf_RX6_10 (And.intro gf_RX6_52 (And.intro ⟨gTn f_X1_allLayers, 1, yX1_allLayers, cX1_allLayers, 3, (some .int), 0, _, rfl, by decide, yi_yX1_allLayers, ok_X1_allLayers l, by decide, by decide, rfl, rfl, ml_RX6_101, im_yX1_allLayers, se_yX1_allLayers⟩ (And.intro gf_RX6_10 (And.intro gf_RX6_52 (And.intro ⟨gTn f_X1_allWeights, 1, yX1_allWeights, cX1_allWeights, 3, (some .int), 2, _, rfl, by decide, yi_yX1_allWeights, ok_X1_allWeights l, by decide, by decide, rfl, rfl, ml_RX6_105, im_yX1_allWeights, se_yX1_allWeights⟩ (And.intro gf_RX6_10 (And.intro gf_RX6_52 (And.intro gf_RX6_56 (And.intro ⟨gTn f_X0_deleteKind, 0, yX0_deleteKind, cX0_deleteKind, 3, none, 3, _, rfl, by decide, yi_yX0_deleteKind, ok_X0_deleteKind l, by decide, by decide, rfl, rfl, ml_RX6_108, im_yX0_deleteKind, se_yX0_deleteKind⟩ (And.intro gf_RX6_10 (And.intro gf_RX6_84 (And.intro gf_RX6_10 (And.intro gf_RX6_52 (And.intro ⟨gTn f_X1_allWeights, 1, yX1_allWeights, cX1_allWeights, 3, (some .int), 2, _, rfl, by decide, yi_yX1_allWeights, ok_X1_allWeights l, by decide, by decide, rfl, rfl, ml_RX6_105, im_yX1_allWeights, se_yX1_allWeights⟩ (And.intro gf_RX6_10 (And.intro gf_RX6_52 (And.intro ⟨gTn f_X1_allLayers, 1, yX1_allLayers, cX1_allLayers, 3, (some .int), 0, _, rfl, by decide, yi_yX1_allLayers, ok_X1_allLayers l, by decide, by decide, rfl, rfl, ml_RX6_101, im_yX1_allLayers, se_yX1_allLayers⟩ (trivial)))))))))))))))))))))))
theorem ok_X6_strip (l : Launch) : gOK l yX6_strip cX6_strip 5 (some .int) 5 0 0 (gTn f_X6_strip) := by
  refine gM_of (by decide +kernel) pX6_strip_ok (lk_X6_strip l) ?_
  intro SL SX K P av M run h
  unfold f_X6_strip at h
  split at h
  · rename_i p k
    obtain ⟨rfl, σ, hσ, h⟩ := h
    refine ⟨⟨by simp [gC1], Nat.le_of_ble_eq_true rfl⟩, ?_⟩
    unfold oStrip at h
    refine run [46] 1000 _ _ _ _ _ _ rfl ?_
    conv => whnf
    refine ⟨rfl, rfl, ?_⟩
    conv => whnf
    by_cases hk : 0 ≤ k ∧ k ≤ 2
    · rw [if_pos hk]
      rw [if_pos hk] at h
      refine ⟨fun h1 => ?_, fun h1 => ?_⟩
      · conv => whnf
        refine ⟨rfl, rfl, _, _, hσ.2.1, hσ.1, by omega, fun M1 g1 g2 => ?_⟩
        have k1 := hσ.act g1 g2
        conv => whnf
        refine ⟨rfl, rfl, _, k1.1.1, ?_⟩
        conv => whnf
        refine ⟨rfl, rfl, _, k1.1.1, ?_⟩
        conv => whnf
        refine upto (n := 10) (A := fun i => ∀ M', stR M' 1 (cUp σ.1.1 (fun c => (lDk k c.1, c.2)) i, σ.1.2) → gFn M1 M' 1 131 → K 46 [some (.inr (.inl (6, 0))), some (.inl k), some (.inl (aLay σ.1.1)), some (.inl (aWt σ.1.1)), some (.inl (nI i))] [] M' gB0) ?_ (fun i hi ih => ?_) 0 (Nat.zero_le _) M1 (by rw [cUp_0]; exact k1.1) (gFn.rf _ _ _)
        · intro M' h2 h3
          have h2 := h2.up
          refine run [46] 1000 _ _ _ _ _ _ rfl ?_
          conv => whnf
          refine ⟨fun h4 => ?_, fun h4 => ?_⟩
          · conv => whnf
            refine ⟨vp_in_nI (n := 1) (by decide) (by decide), ?_⟩
            conv => whnf
            refine ⟨rfl, rfl, _, h2.1, ?_⟩
            conv => whnf
            refine ⟨vp_in_nI (n := 1) (by decide) (by decide), ?_⟩
            conv => whnf
            have s2 := h2.acc (k := 1) (by decide) (aWt σ.1.1 - aWt (sStrip σ.1 k).1)
            refine ⟨rfl, rfl, _, s2.1, ?_⟩
            conv => whnf
            have f3 := h3.tr (gFn.up (M := M') (p := 1) (n := 131) (q := 1 + 46) (k := 1) (x := M' (1 + 46) 1 + (aWt σ.1.1 - aWt (sStrip σ.1 k).1)) (by omega) (by omega))
            exact ⟨rfl, h _ (k1.st s2 f3) ((g2.mono (by omega) (by omega)).tr (f3.mono (by omega) (by omega)))⟩
          · exact absurd (nI_le (Nat.le_refl 10) (by decide)) h4
        · intro M' h2 h3
          have e : (nI i).toNatClampNeg = i := nI_clamp (by omega)
          have c2 : colR M' (1 + 1 + 1 + 1 + 4 * i) (σ.1.1 i) := by
            have := h2.1 i hi
            dsimp only at this
            rw [cUp_at] at this
            exact this
          refine run [46] 1000 _ _ _ _ _ _ rfl ?_
          conv => whnf
          refine ⟨fun h4 => ?_, fun h4 => ?_⟩
          · exact absurd h4 (nI_ge hi (by decide))
          · conv => whnf
            refine ⟨⟨vp_in_nI (N := 10) (by omega) (by decide), rfl⟩, ?_⟩
            conv => whnf
            rw [e]
            refine ⟨rfl, rfl, _, c2, fun M2 g3 g4 => ?_⟩
            have g4 : gFr M' M2 (1 + 1 + 1 + 1 + 4 * i) := g4
            have s3 := h2.col (b := i) hi g3 g4
            unfold stCol at s3
            conv => whnf
            rw [nI_1]
            refine ih M2 ?_ (h3.tr (g4.fn (by omega) (by omega)))
            rw [← cUp_step]
            exact s3
      · exact absurd h1 (by decide)
    · rw [if_neg hk]
      rw [if_neg hk] at h
      refine ⟨fun h1 => ?_, fun h1 => ?_⟩
      · exact absurd rfl h1
      · conv => whnf
        exact ⟨rfl, h.no hσ rfl⟩
  · exact h.elim
