/-! CrustBlocks: take, restore, undo -/
theorem stR.cru {M M' : gM} {p : Nat} {S : St} {C : Cru} (h : stR M p S) (hC : crR M' (p + 1) C) (f : gFn M M' (p + 1 + 2) 40) : stR M' p (C, S.2) := by
  obtain ⟨h1, h2, h3, h4, h5, h6⟩ := h
  refine ⟨hC, fun j hj => (h2 j hj).fn f (by omega), fun i hi => ?_, fun i hi => ?_, fun i hi => ?_, ?_⟩
  · rw [f (p + 44) (by omega)]; exact h3 i hi
  · rw [f (p + 45) (by omega)]; exact h4 i hi
  · rw [f (p + 46) (by omega)]; exact h5 i hi
  · rw [f p (by omega)]; exact h6
theorem stR.snap {M M' : gM} {p j : Nat} {S : St} (h : stR M p S) (hj : j < 2) (hC : crR M' (p + 43 + 4 + 42 * j) S.1) (f : gFn M M' (p + 43 + 4 + 42 * j + 2) 40) : stR (gUp M' (p + 44) j 1) p (stSnap S j) := by
  obtain ⟨h1, h2, h3, h4, h5, h6⟩ := h
  have f2 : gFn M' (gUp M' (p + 44) j 1) (p + 44) 1 := gFn.up (Nat.le_refl _) (by omega)
  refine ⟨(h1.fn f (by omega)).fn f2 (by omega), fun i hi => ?_, fun i hi => ?_, fun i hi => ?_, fun i hi => ?_, ?_⟩
  · show crR _ _ (if i = j then S.1 else S.2.1 i)
    by_cases e : i = j
    · subst e
      rw [if_pos rfl]
      exact hC.fn f2 (by omega)
    · rw [if_neg e]
      exact ((h2 i hi).fn f (by omega)).fn f2 (by omega)
  · show gUp M' (p + 44) j 1 (p + 44) i = if i = j then 1 else _
    by_cases e : i = j
    · subst e
      rw [if_pos rfl]
      exact gUp_same _ _ _ _
    · rw [if_neg e, gUp_ne (Or.inr e), f (p + 44) (by omega)]
      exact h3 i hi
  · rw [f2 (p + 45) (by omega), f (p + 45) (by omega)]; exact h4 i hi
  · rw [f2 (p + 46) (by omega), f (p + 46) (by omega)]; exact h5 i hi
  · rw [f2 p (by omega), f p (by omega)]; exact h6
def f_X6_take : gF := fun av M post => match av with
  | [.inr (.inl (6, p)), .inl n] => p = 0 ∧ ∃ σ, clR M σ ∧ cQ M (oTake σ n) post
  | _ => False
theorem lk_X6_take (l : Launch) : gLinks l RX6 5 [(gTn f_X6_isPlace, 0, 0, 99), (gTn f_X2_keep, 0, 0, 2), (gTn f_X1_copyFrom, 0, 0, 1), (gTn f_X1_allLayers, 0, 0, 1)] pX6_take := And.intro ⟨gTn f_X6_isPlace, 99, yX6_isPlace, cX6_isPlace, 1, (some .boolean), 1, rfl, yi_yX6_isPlace, ok_X6_isPlace l, by decide, Or.inl ml_RX6_132, sm_yX6_isPlace⟩ (And.intro kc_RX6_51 (And.intro gf_RX6_22 (And.intro gf_RX6_10 (And.intro ⟨gTn f_X2_keep, 2, yX2_keep, cX2_keep, 2, none, 4, _, rfl, by decide, yi_yX2_keep, ok_X2_keep l, by decide, by decide, rfl, rfl, ml_RX6_76, im_yX2_keep, se_yX2_keep⟩ (And.intro gf_RX6_10 (And.intro gf_RX6_135 (And.intro gf_RX6_10 (And.intro gf_RX6_52 (And.intro ⟨gTn f_X1_copyFrom, 1, yX1_copyFrom, cX1_copyFrom, 3, none, 2, _, rfl, by decide, yi_yX1_copyFrom, ok_X1_copyFrom l, by decide, by decide, rfl, rfl, ml_RX6_139, im_yX1_copyFrom, se_yX1_copyFrom⟩ (And.intro gf_RX6_10 (And.intro gf_RX6_143 (And.intro gf_RX6_10 (And.intro gf_RX6_52 (And.intro ⟨gTn f_X1_allLayers, 1, yX1_allLayers, cX1_allLayers, 3, (some .int), 0, _, rfl, by decide, yi_yX1_allLayers, ok_X1_allLayers l, by decide, by decide, rfl, rfl, ml_RX6_101, im_yX1_allLayers, se_yX1_allLayers⟩ (trivial)))))))))))))))
theorem ok_X6_take (l : Launch) : gOK l yX6_take cX6_take 2 (some .int) 5 0 0 (gTn f_X6_take) := by
  refine gM_of (by decide +kernel) pX6_take_ok (lk_X6_take l) ?_
  intro SL SX K P av M run h
  unfold f_X6_take at h
  split at h
  · rename_i p n
    obtain ⟨rfl, σ, hσ, h⟩ := h
    refine ⟨⟨by simp [gC1], Nat.le_of_ble_eq_true rfl⟩, ?_⟩
    unfold oTake at h
    refine run [] 1000 _ _ _ _ _ _ rfl ?_
    conv => whnf
    refine ⟨rfl, rfl, ?_⟩
    conv => whnf
    by_cases hn : 0 ≤ n ∧ n ≤ 1
    · rw [if_pos hn]
      rw [if_pos hn] at h
      obtain ⟨j, hj, rfl⟩ := nI_bd (n := 1) (by decide) hn.1 hn.2
      have e : (nI j).toNatClampNeg = j := nI_clamp (by omega)
      rw [e] at h
      refine ⟨fun h1 => ?_, fun h1 => ?_⟩
      · conv => whnf
        refine ⟨rfl, rfl, _, _, hσ.2.1, hσ.1, by omega, fun M1 g1 g2 => ?_⟩
        have k1 := hσ.act g1 g2
        conv => whnf
        refine ⟨⟨vp_in_nI (N := 2) (by omega) (by decide), rfl⟩, ?_⟩
        conv => whnf
        rw [e]
        refine ⟨rfl, rfl, _, k1.1.1, by show 0 + 1 + 1 + 42 ≤ 0 + 1 + 43 + 4 + 42 * j ∨ _; omega, fun M2 g3 g4 => ?_⟩
        have g3 : crR M2 (1 + 43 + 4 + 42 * j) σ.1.1 := g3
        have g4 : gFn M1 M2 (1 + 43 + 4 + 42 * j + 2) 40 := g4
        have s3 := k1.1.snap (j := j) (by omega) g3 g4
        have f3 : gFn M1 (gUp M2 (1 + 44) j 1) 1 131 := (g4.mono (by omega) (by omega)).tr (gFn.up (p := 1) (n := 131) (q := 1 + 44) (by omega) (by omega))
        conv => whnf
        refine ⟨vp_in_nI (by omega) (by decide), ?_⟩
        conv => whnf
        rw [e]
        refine ⟨rfl, rfl, _, s3.1, ?_⟩
        conv => whnf
        exact ⟨rfl, h _ (k1.st s3 f3) ((g2.mono (by omega) (by omega)).tr (f3.mono (by omega) (by omega)))⟩
      · exact absurd h1 (by decide)
    · rw [if_neg hn]
      rw [if_neg hn] at h
      refine ⟨fun h1 => ?_, fun h1 => ?_⟩
      · exact absurd rfl h1
      · conv => whnf
        exact ⟨rfl, h.no hσ rfl⟩
  · exact h.elim
def f_X6_restore : gF := fun av M post => match av with
  | [.inr (.inl (6, p)), .inl n] => p = 0 ∧ ∃ σ, clR M σ ∧ cQ M (oRest σ n) post
  | _ => False
theorem lk_X6_restore (l : Launch) : gLinks l RX6 5 [(gTn f_X6_isPlace, 0, 0, 99), (gTn f_X2_keep, 0, 0, 2), (gTn f_X1_allWeights, 0, 0, 1), (gTn f_X1_copyFrom, 0, 0, 1), (gTn f_X1_allLayers, 0, 0, 1)] pX6_restore := And.intro ⟨gTn f_X6_isPlace, 99, yX6_isPlace, cX6_isPlace, 1, (some .boolean), 1, rfl, yi_yX6_isPlace, ok_X6_isPlace l, by decide, Or.inl ml_RX6_132, sm_yX6_isPlace⟩ (And.intro kc_RX6_51 (And.intro gf_RX6_10 (And.intro gf_RX6_143 (And.intro kc_RX6_146 (And.intro gf_RX6_22 (And.intro gf_RX6_10 (And.intro ⟨gTn f_X2_keep, 2, yX2_keep, cX2_keep, 2, none, 4, _, rfl, by decide, yi_yX2_keep, ok_X2_keep l, by decide, by decide, rfl, rfl, ml_RX6_76, im_yX2_keep, se_yX2_keep⟩ (And.intro gf_RX6_10 (And.intro gf_RX6_84 (And.intro gf_RX6_10 (And.intro gf_RX6_52 (And.intro ⟨gTn f_X1_allWeights, 1, yX1_allWeights, cX1_allWeights, 3, (some .int), 2, _, rfl, by decide, yi_yX1_allWeights, ok_X1_allWeights l, by decide, by decide, rfl, rfl, ml_RX6_105, im_yX1_allWeights, se_yX1_allWeights⟩ (And.intro gf_RX6_10 (And.intro gf_RX6_52 (And.intro gf_RX6_10 (And.intro gf_RX6_135 (And.intro ⟨gTn f_X1_copyFrom, 1, yX1_copyFrom, cX1_copyFrom, 3, none, 2, _, rfl, by decide, yi_yX1_copyFrom, ok_X1_copyFrom l, by decide, by decide, rfl, rfl, ml_RX6_139, im_yX1_copyFrom, se_yX1_copyFrom⟩ (And.intro gf_RX6_10 (And.intro gf_RX6_84 (And.intro gf_RX6_10 (And.intro gf_RX6_52 (And.intro ⟨gTn f_X1_allWeights, 1, yX1_allWeights, cX1_allWeights, 3, (some .int), 2, _, rfl, by decide, yi_yX1_allWeights, ok_X1_allWeights l, by decide, by decide, rfl, rfl, ml_RX6_105, im_yX1_allWeights, se_yX1_allWeights⟩ (And.intro gf_RX6_10 (And.intro gf_RX6_52 (And.intro ⟨gTn f_X1_allLayers, 1, yX1_allLayers, cX1_allLayers, 3, (some .int), 0, _, rfl, by decide, yi_yX1_allLayers, ok_X1_allLayers l, by decide, by decide, rfl, rfl, ml_RX6_101, im_yX1_allLayers, se_yX1_allLayers⟩ (trivial))))))))))))))))))))))))))
theorem ok_X6_restore (l : Launch) : gOK l yX6_restore cX6_restore 2 (some .int) 5 0 0 (gTn f_X6_restore) := by
  refine gM_of (by decide +kernel) pX6_restore_ok (lk_X6_restore l) ?_
  intro SL SX K P av M run h
  unfold f_X6_restore at h
  split at h
  · rename_i p n
    obtain ⟨rfl, σ, hσ, h⟩ := h
    refine ⟨⟨by simp [gC1], Nat.le_of_ble_eq_true rfl⟩, ?_⟩
    unfold oRest at h
    refine run [] 1000 _ _ _ _ _ _ rfl ?_
    conv => whnf
    refine ⟨rfl, rfl, ?_⟩
    conv => whnf
    by_cases hn : 0 ≤ n ∧ n ≤ 1
    · rw [if_pos hn]
      rw [if_pos hn] at h
      obtain ⟨j, hj, rfl⟩ := nI_bd (n := 1) (by decide) hn.1 hn.2
      have e : (nI j).toNatClampNeg = j := nI_clamp (by omega)
      rw [e] at h
      refine ⟨fun h1 => ?_, fun h1 => ?_⟩
      · conv => whnf
        refine ⟨vp_in_nI (by omega) (by decide), ?_⟩
        conv => whnf
        rw [e, show M (0 + 1 + 44) j = σ.1.2.2.1 j from hσ.1.2.2.1 j (by omega)]
        refine ⟨fun h2 => ?_, fun h2 => ?_⟩
        · conv => whnf
          rw [if_neg h2] at h
          refine ⟨rfl, rfl, _, _, hσ.2.1, hσ.1, by omega, fun M1 g1 g2 => ?_⟩
          have k1 := hσ.act g1 g2
          conv => whnf
          refine ⟨vp_in_nI (n := 1) (by decide) (by decide), ?_⟩
          conv => whnf
          refine ⟨rfl, rfl, _, k1.1.1, ?_⟩
          conv => whnf
          refine ⟨vp_in_nI (n := 1) (by decide) (by decide), ?_⟩
          have s2 := k1.1.acc (k := 1) (by decide) (aWt σ.1.1)
          conv => whnf
          refine ⟨⟨vp_in_nI (N := 2) (by omega) (by decide), rfl⟩, ?_⟩
          conv => whnf
          rw [e]
          refine ⟨rfl, rfl, _, s2.2.1 j (by omega), by show 0 + 1 + 43 + 4 + 42 * j + 42 ≤ 0 + 1 + 1 ∨ 0 + 1 + 1 + 42 ≤ 0 + 1 + 43 + 4 + 42 * j; omega, fun M2 g3 g4 => ?_⟩
          have g4 : gFn (gUp M1 (1 + 46) 1 (M1 (1 + 46) 1 + aWt σ.1.1)) M2 (1 + 1 + 2) 40 := g4
          have s3 := s2.cru g3 g4
          conv => whnf
          refine ⟨vp_in_nI (n := 0) (by decide) (by decide), ?_⟩
          conv => whnf
          refine ⟨rfl, rfl, _, s3.1, ?_⟩
          conv => whnf
          refine ⟨vp_in_nI (n := 0) (by decide) (by decide), ?_⟩
          conv => whnf
          have s4 := s3.acc (k := 0) (by decide) (aWt (σ.1.2.1 j))
          have f3 : gFn M1 (gUp M2 (1 + 46) 0 (M2 (1 + 46) 0 + aWt (σ.1.2.1 j))) 1 131 := ((gFn.up (p := 1) (n := 131) (q := 1 + 46) (by omega) (by omega)).tr (g4.mono (by omega) (by omega))).tr (gFn.up (p := 1) (n := 131) (q := 1 + 46) (by omega) (by omega))
          refine ⟨rfl, rfl, _, s4.1, ?_⟩
          conv => whnf
          exact ⟨rfl, h _ (k1.st s4 f3) ((g2.mono (by omega) (by omega)).tr (f3.mono (by omega) (by omega)))⟩
        · conv => whnf
          rw [if_pos h2] at h
          exact ⟨rfl, h.no hσ rfl⟩
      · exact absurd h1 (by decide)
    · rw [if_neg hn]
      rw [if_neg hn] at h
      refine ⟨fun h1 => ?_, fun h1 => ?_⟩
      · exact absurd rfl h1
      · conv => whnf
        exact ⟨rfl, h.no hσ rfl⟩
  · exact h.elim
