/-! CrustBlocks: stepsToBalance, topIn, uneven -/
def f_X6_stepsToBalance : gF := fun av M post => match av with
  | [.inr (.inl (6, p)), .inl b] => p = 0 ∧ ∃ σ, clR M σ ∧ (¬ (0 ≤ b ∧ b ≤ 9) → post (some (.inl (-100000001))) M) ∧ (0 ≤ b ∧ b ≤ 9 → ∃ N, N ≤ 1000000 ∧ itF (lbal (σ.1.1 b.toNatClampNeg).1) (σ.1.2.2.2.1 4) (σ.1.1 b.toNatClampNeg).2 N = lbal (σ.1.1 b.toNatClampNeg).1 ∧ (∀ i, i < N → ¬ itF (lbal (σ.1.1 b.toNatClampNeg).1) (σ.1.2.2.2.1 4) (σ.1.1 b.toNatClampNeg).2 i = lbal (σ.1.1 b.toNatClampNeg).1) ∧ post (some (.inl (nI N))) M)
  | _ => False
theorem lk_X6_stepsToBalance (l : Launch) : gLinks l RX6 4 [(gTn f_X6_isBlock, 0, 0, 99), (gTn f_X0_stepsOfFloating, 0, 0, 0)] pX6_stepsToBalance := And.intro ⟨gTn f_X6_isBlock, 99, yX6_isBlock, cX6_isBlock, 1, (some .boolean), 1, rfl, yi_yX6_isBlock, ok_X6_isBlock l, by decide, Or.inl ml_RX6_40, sm_yX6_isBlock⟩ (And.intro kc_RX6_51 (And.intro gf_RX6_10 (And.intro gf_RX6_52 (And.intro gf_RX6_56 (And.intro gf_RX6_10 (And.intro gf_RX6_123 (And.intro ⟨gTn f_X0_stepsOfFloating, 0, yX0_stepsOfFloating, cX0_stepsOfFloating, 5, (some .int), 3, _, rfl, by decide, yi_yX0_stepsOfFloating, ok_X0_stepsOfFloating l, by decide, by decide, rfl, rfl, ml_RX6_226, im_yX0_stepsOfFloating, se_yX0_stepsOfFloating⟩ (trivial))))))))
theorem ok_X6_stepsToBalance (l : Launch) : gOK l yX6_stepsToBalance cX6_stepsToBalance 2 (some .int) 4 0 0 (gTn f_X6_stepsToBalance) := by
  refine gM_of (by decide +kernel) pX6_stepsToBalance_ok (lk_X6_stepsToBalance l) ?_
  intro SL SX K P av M run h
  unfold f_X6_stepsToBalance at h
  split at h
  · rename_i p b
    obtain ⟨rfl, σ, hσ, h0, h⟩ := h
    refine ⟨⟨by simp [gC1], Nat.le_of_ble_eq_true rfl⟩, ?_⟩
    refine run [] 1000 _ _ _ _ _ _ rfl ?_
    conv => whnf
    refine ⟨rfl, rfl, ?_⟩
    conv => whnf
    by_cases hb : 0 ≤ b ∧ b ≤ 9
    · rw [if_pos hb]
      obtain ⟨N, n1, n2, n3, h7⟩ := h hb
      obtain ⟨j, hj, rfl⟩ := nI_bd (n := 9) (by decide) hb.1 hb.2
      have e : (nI j).toNatClampNeg = j := nI_clamp (by omega)
      have hc := hσ.1.1 j (by omega)
      rw [e] at n2 n3
      refine ⟨fun h1 => ?_, fun h1 => ?_⟩
      · conv => whnf
        refine ⟨⟨vp_in_nI (N := 10) (by omega) (by decide), rfl⟩, ?_⟩
        conv => whnf
        rw [e]
        refine ⟨vp_in_nI (n := 4) (by decide) (by decide), ?_⟩
        conv => whnf
        rw [show M (0 + 1 + 45) (Int32.toNatClampNeg 4) = σ.1.2.2.2.1 4 from hσ.1.2.2.2.1 4 (by decide)]
        refine ⟨rfl, rfl, _, N, hc, n1, n2, n3, ?_⟩
        conv => whnf
        exact ⟨rfl, h7⟩
      · exact absurd h1 (by decide)
    · rw [if_neg hb]
      refine ⟨fun h1 => ?_, fun h1 => ?_⟩
      · exact absurd rfl h1
      · conv => whnf
        exact ⟨rfl, h0 hb⟩
  · exact h.elim
def f_X6_topIn : gF := fun av M post => match av with
  | [.inr (.inl (6, p)), .inl b, .inl n] => p = 0 ∧ ∃ σ, clR M σ ∧ cQ M (oTopIn σ b n, σ) post
  | _ => False
theorem lk_X6_topIn (l : Launch) : gLinks l RX6 6 [(gTn f_X6_isBlock, 0, 0, 99), (gTn f_X6_isWithin, 0, 0, 99), (gTn f_X3_copyFrom, 0, 0, 3), (gTn f_X4_makeStep, 0, 0, 4), (gTn f_X0_top, 0, 0, 0)] pX6_topIn := And.intro ⟨gTn f_X6_isBlock, 99, yX6_isBlock, cX6_isBlock, 1, (some .boolean), 1, rfl, yi_yX6_isBlock, ok_X6_isBlock l, by decide, Or.inl ml_RX6_40, sm_yX6_isBlock⟩ (And.intro ⟨gTn f_X6_isWithin, 99, yX6_isWithin, cX6_isWithin, 3, (some .boolean), 0, rfl, yi_yX6_isWithin, ok_X6_isWithin l, by decide, Or.inl ml_RX6_47, sm_yX6_isWithin⟩ (And.intro kc_RX6_51 (And.intro gf_RX6_16 (And.intro gf_RX6_10 (And.intro ⟨gTn f_X3_copyFrom, 3, yX3_copyFrom, cX3_copyFrom, 3, none, 3, _, rfl, by decide, yi_yX3_copyFrom, ok_X3_copyFrom l, by decide, by decide, rfl, rfl, ml_RX6_157, im_yX3_copyFrom, se_yX3_copyFrom⟩ (And.intro gf_RX6_36 (And.intro gf_RX6_16 (And.intro ⟨gTn f_X4_makeStep, 4, yX4_makeStep, cX4_makeStep, 3, none, 5, _, rfl, by decide, yi_yX4_makeStep, ok_X4_makeStep l, by decide, by decide, rfl, rfl, ml_RX6_129, im_yX4_makeStep, se_yX4_makeStep⟩ (And.intro gf_RX6_16 (And.intro gf_RX6_52 (And.intro gf_RX6_56 (And.intro ⟨gTn f_X0_top, 0, yX0_top, cX0_top, 1, (some .int), 1, _, rfl, by decide, yi_yX0_top, ok_X0_top l, by decide, by decide, rfl, rfl, ml_RX6_192, im_yX0_top, se_yX0_top⟩ (trivial)))))))))))))
theorem ok_X6_topIn (l : Launch) : gOK l yX6_topIn cX6_topIn 4 (some .int) 6 0 0 (gTn f_X6_topIn) := by
  refine gM_of (by decide +kernel) pX6_topIn_ok (lk_X6_topIn l) ?_
  intro SL SX K P av M run h
  unfold f_X6_topIn at h
  split at h
  · rename_i p b n
    obtain ⟨rfl, σ, hσ, h⟩ := h
    refine ⟨⟨by simp [gC1], Nat.le_of_ble_eq_true rfl⟩, ?_⟩
    unfold oTopIn at h
    have bad17 : ¬ ((0 ≤ b ∧ b ≤ 9) ∧ 0 ≤ n ∧ n ≤ 100) → ∀ ls, K 17 ls [] M gB0 := by
      intro hb ls
      rw [if_neg hb] at h
      refine run [] 1000 _ _ _ _ _ _ rfl ?_
      conv => whnf
      exact ⟨rfl, h.no hσ rfl⟩
    refine run [17, 33] 1000 _ _ _ _ _ _ rfl ?_
    conv => whnf
    refine ⟨rfl, rfl, ?_⟩
    conv => whnf
    by_cases hb : 0 ≤ b ∧ b ≤ 9
    · rw [if_pos hb]
      refine ⟨fun h1 => ?_, fun h1 => ?_⟩
      · exact absurd h1 (by decide)
      · conv => whnf
        refine ⟨rfl, rfl, ?_⟩
        conv => whnf
        by_cases hn : 0 ≤ n ∧ n ≤ 100
        · rw [if_pos hn]
          rw [if_pos ⟨hb, hn⟩] at h
          obtain ⟨j, hj, rfl⟩ := nI_bd (n := 9) (by decide) hb.1 hb.2
          have e : (nI j).toNatClampNeg = j := nI_clamp (by omega)
          obtain ⟨m, hm, rfl⟩ := nI_bd (n := 100) (by decide) hn.1 hn.2
          have e2 : (nI m).toNatClampNeg = m := nI_clamp (by omega)
          rw [e, e2] at h
          refine ⟨fun h2 => ?_, fun h2 => ?_⟩
          · conv => whnf
            refine ⟨rfl, rfl, σ.1, hσ.1, by omega, fun M1 g1 g2 => ?_⟩
            have f1 : gFn M M1 132 131 := g2
            conv => whnf
            refine upto (n := m) (A := fun i => ∀ M', stR M' 132 (sStepN σ.1 i) → gF2 M1 M' 922 4 132 → K 33 [some (.inr (.inl (6, 0))), some (.inl (nI j)), some (.inl (nI m)), some (.inl (nI i))] [] M' gB0) ?_ (fun i hi ih => ?_) 0 (Nat.zero_le _) M1 g1 (gF2.rf _ _ _ _)
            · intro M' h3 h4
              refine run [33] 1000 _ _ _ _ _ _ rfl ?_
              conv => whnf
              refine ⟨fun h5 => ?_, fun h5 => ?_⟩
              · conv => whnf
                refine ⟨⟨vp_in_nI (N := 10) (by omega) (by decide), rfl⟩, ?_⟩
                conv => whnf
                rw [e]
                refine ⟨rfl, rfl, _, h3.1 j (by omega), ?_⟩
                conv => whnf
                refine ⟨rfl, h M' (hσ.kept (fun r a b => ?_) (fun r a b => ?_)) (fun r a => ?_)⟩
                · rw [h4 r (by omega) (by omega), f1 r (by omega)]
                · rw [h4 r (by omega) (by omega), f1 r (by omega)]
                · rw [h4 r (by omega) (by omega), f1 r (by omega)]
              · exact absurd (nI_le (Nat.le_refl m) (by omega)) h5
            · intro M' h3 h4
              refine run [33] 1000 _ _ _ _ _ _ rfl ?_
              conv => whnf
              refine ⟨fun h5 => ?_, fun h5 => ?_⟩
              · exact absurd h5 (nI_ge hi (by omega))
              · conv => whnf
                refine ⟨rfl, rfl, _, h3, by omega, fun M2 g3 g4 => ?_⟩
                conv => whnf
                rw [nI_1]
                exact ih M2 g3 (h4.tr g4)
          · exact absurd h2 (by decide)
        · rw [if_neg hn]
          refine ⟨fun h2 => ?_, fun h2 => ?_⟩
          · exact absurd rfl h2
          · conv => whnf
            exact bad17 (fun a => hn a.2) _
    · rw [if_neg hb]
      refine ⟨fun h1 => ?_, fun h1 => ?_⟩
      · conv => whnf
        exact bad17 (fun a => hb a.1) _
      · exact absurd rfl h1
  · exact h.elim
theorem cGr_le (C : Cru) (d : Int32) : ∀ n, cGr C d n ≤ n
  | 0 => Nat.le_refl 0
  | n + 1 => by
    unfold cGr
    have := cGr_le C d n
    split <;> omega
theorem cLs_le (C : Cru) (d : Int32) : ∀ n, cLs C d n ≤ n
  | 0 => Nat.le_refl 0
  | n + 1 => by
    unfold cLs
    have := cLs_le C d n
    split <;> omega
def f_X6_uneven : gF := fun av M post => match av with
  | [.inr (.inl (6, p)), .inl d, .inl x] => p = 0 ∧ ∃ σ, clR M σ ∧ post (some (.inl (oUnev σ d x))) M
  | _ => False
theorem lk_X6_uneven (l : Launch) : gLinks l RX6 3 [(gTn f_X6_isWithin, 0, 0, 99), (gTn f_X0_pressureAt, 0, 0, 0)] pX6_uneven := And.intro kc_RX6_212 (And.intro ⟨gTn f_X6_isWithin, 99, yX6_isWithin, cX6_isWithin, 3, (some .boolean), 0, rfl, yi_yX6_isWithin, ok_X6_isWithin l, by decide, Or.inl ml_RX6_47, sm_yX6_isWithin⟩ (And.intro ⟨gTn f_X6_isWithin, 99, yX6_isWithin, cX6_isWithin, 3, (some .boolean), 0, rfl, yi_yX6_isWithin, ok_X6_isWithin l, by decide, Or.inl ml_RX6_47, sm_yX6_isWithin⟩ (And.intro kc_RX6_51 (And.intro gf_RX6_10 (And.intro gf_RX6_52 (And.intro gf_RX6_56 (And.intro ⟨gTn f_X0_pressureAt, 0, yX0_pressureAt, cX0_pressureAt, 5, (some .int), 2, _, rfl, by decide, yi_yX0_pressureAt, ok_X0_pressureAt l, by decide, by decide, rfl, rfl, ml_RX6_216, im_yX0_pressureAt, se_yX0_pressureAt⟩ (And.intro ⟨gTn f_X0_pressureAt, 0, yX0_pressureAt, cX0_pressureAt, 5, (some .int), 2, _, rfl, by decide, yi_yX0_pressureAt, ok_X0_pressureAt l, by decide, by decide, rfl, rfl, ml_RX6_216, im_yX0_pressureAt, se_yX0_pressureAt⟩ (And.intro ⟨gTn f_X0_pressureAt, 0, yX0_pressureAt, cX0_pressureAt, 5, (some .int), 2, _, rfl, by decide, yi_yX0_pressureAt, ok_X0_pressureAt l, by decide, by decide, rfl, rfl, ml_RX6_216, im_yX0_pressureAt, se_yX0_pressureAt⟩ (And.intro ⟨gTn f_X0_pressureAt, 0, yX0_pressureAt, cX0_pressureAt, 5, (some .int), 2, _, rfl, by decide, yi_yX0_pressureAt, ok_X0_pressureAt l, by decide, by decide, rfl, rfl, ml_RX6_216, im_yX0_pressureAt, se_yX0_pressureAt⟩ (And.intro ⟨gTn f_X0_pressureAt, 0, yX0_pressureAt, cX0_pressureAt, 5, (some .int), 2, _, rfl, by decide, yi_yX0_pressureAt, ok_X0_pressureAt l, by decide, by decide, rfl, rfl, ml_RX6_216, im_yX0_pressureAt, se_yX0_pressureAt⟩ (trivial))))))))))))
theorem ok_X6_uneven (l : Launch) : gOK l yX6_uneven cX6_uneven 8 (some .int) 3 0 0 (gTn f_X6_uneven) := by
  refine gM_of (by decide +kernel) pX6_uneven_ok (lk_X6_uneven l) ?_
  intro SL SX K P av M run h
  unfold f_X6_uneven at h
  split at h
  · rename_i p d x
    obtain ⟨rfl, σ, hσ, h⟩ := h
    refine ⟨⟨by simp [gC1], Nat.le_of_ble_eq_true rfl⟩, ?_⟩
    unfold oUnev at h
    have bad19 : ¬ ((0 ≤ d ∧ d ≤ 99999) ∧ 0 ≤ x ∧ x ≤ 2) → ∀ ls, K 19 ls [] M gB0 := by
      intro hb ls
      rw [if_neg hb] at h
      refine run [] 1000 _ _ _ _ _ _ rfl ?_
      conv => whnf
      exact ⟨rfl, h⟩
    refine run [19, 42] 1000 _ _ _ _ _ _ rfl ?_
    conv => whnf
    refine ⟨rfl, rfl, ?_⟩
    conv => whnf
    by_cases hd : 0 ≤ d ∧ d ≤ 99999
    · rw [if_pos hd]
      refine ⟨fun h1 => ?_, fun h1 => ?_⟩
      · exact absurd h1 (by decide)
      · conv => whnf
        refine ⟨rfl, rfl, ?_⟩
        conv => whnf
        by_cases hx : 0 ≤ x ∧ x ≤ 2
        · rw [if_pos hx]
          rw [if_pos ⟨hd, hx⟩] at h
          refine ⟨fun h2 => ?_, fun h2 => ?_⟩
          · conv => whnf
            refine upto (n := 9) (A := fun i => ∀ z, K 42 [some (.inr (.inl (6, 0))), some (.inl d), some (.inl x), some (.inr (.inl (8, 3))), some (.inl (nI (cGr σ.1.1 d i))), some (.inl (nI (cLs σ.1.1 d i))), some (.inl (nI (i + 1))), z] [] M gB0) ?_ (fun i hi ih => ?_) 0 (Nat.zero_le _) none
            · intro z
              have hg := cGr_le σ.1.1 d 9
              have hl := cLs_le σ.1.1 d 9
              have eg : (nI (cGr σ.1.1 d 9)).toNatClampNeg = cGr σ.1.1 d 9 := nI_clamp (by omega)
              have el : (nI (cLs σ.1.1 d 9)).toNatClampNeg = cLs σ.1.1 d 9 := nI_clamp (by omega)
              refine run [42] 1000 _ _ _ _ _ _ rfl ?_
              conv => whnf
              refine ⟨fun h3 => ?_, fun h3 => ?_⟩
              · conv => whnf
                refine ⟨fun h4 => ?_, fun h4 => ⟨fun h5 => ?_, fun h5 => ?_⟩⟩
                · conv => whnf
                  have h4 : x = 0 := h4
                  rw [if_pos h4] at h
                  refine ⟨⟨vp_in_nI (N := 10) (by omega) (by decide), rfl⟩, ?_⟩
                  conv => whnf
                  rw [eg]
                  refine ⟨rfl, rfl, _, hσ.1.1 (cGr σ.1.1 d 9) (by omega), ?_⟩
                  conv => whnf
                  refine ⟨⟨vp_in_nI (N := 10) (by omega) (by decide), rfl⟩, ?_⟩
                  conv => whnf
                  rw [el]
                  refine ⟨rfl, rfl, _, hσ.1.1 (cLs σ.1.1 d 9) (by omega), ?_⟩
                  conv => whnf
                  exact ⟨rfl, h⟩
                · conv => whnf
                  have h4 : ¬ x = 0 := h4
                  have h5 : x = 1 := h5
                  rw [if_neg h4, if_pos h5] at h
                  exact ⟨rfl, h⟩
                · conv => whnf
                  have h4 : ¬ x = 0 := h4
                  have h5 : ¬ x = 1 := h5
                  rw [if_neg h4, if_neg h5] at h
                  exact ⟨rfl, h⟩
              · exact absurd (show (10 : Int32) ≤ nI 10 from nI_le (Nat.le_refl 10) (by decide)) h3
            · intro z
              have hg := cGr_le σ.1.1 d i
              have hl := cLs_le σ.1.1 d i
              have ei : (nI (i + 1)).toNatClampNeg = i + 1 := nI_clamp (by omega)
              have eg : (nI (cGr σ.1.1 d i)).toNatClampNeg = cGr σ.1.1 d i := nI_clamp (by omega)
              have el : (nI (cLs σ.1.1 d i)).toNatClampNeg = cLs σ.1.1 d i := nI_clamp (by omega)
              refine run [42, 76, 93] 1000 _ _ _ _ _ _ rfl ?_
              conv => whnf
              refine ⟨fun h3 => ?_, fun h3 => ?_⟩
              · exact absurd h3 (nI_ge (b := 10) (by omega) (by decide))
              · conv => whnf
                refine ⟨⟨vp_in_nI (N := 10) (by omega) (by decide), rfl⟩, ?_⟩
                conv => whnf
                rw [ei]
                refine ⟨rfl, rfl, _, hσ.1.1 (i + 1) (by omega), ?_⟩
                conv => whnf
                refine ⟨⟨vp_in_nI (N := 10) (by omega) (by decide), rfl⟩, ?_⟩
                conv => whnf
                rw [eg]
                refine ⟨rfl, rfl, _, hσ.1.1 (cGr σ.1.1 d i) (by omega), ?_⟩
                conv => whnf
                have low : K 76 [some (.inr (.inl (6, 0))), some (.inl d), some (.inl x), some (.inr (.inl (8, 3))), some (.inl (nI (cGr σ.1.1 d (i + 1)))), some (.inl (nI (cLs σ.1.1 d i))), some (.inl (nI (i + 1))), some (.inl (lpr (σ.1.1 (i + 1)) d))] [] M gB0 := by
                  have last : ∀ k, k = cLs σ.1.1 d (i + 1) → K 93 [some (.inr (.inl (6, 0))), some (.inl d), some (.inl x), some (.inr (.inl (8, 3))), some (.inl (nI (cGr σ.1.1 d (i + 1)))), some (.inl (nI k)), some (.inl (nI (i + 1))), some (.inl (lpr (σ.1.1 (i + 1)) d))] [] M gB0 := by
                    intro k hk
                    refine run [42] 1000 _ _ _ _ _ _ rfl ?_
                    conv => whnf
                    rw [nI_1, hk]
                    exact ih _
                  refine run [93] 1000 _ _ _ _ _ _ rfl ?_
                  conv => whnf
                  refine ⟨⟨vp_in_nI (N := 10) (by omega) (by decide), rfl⟩, ?_⟩
                  conv => whnf
                  rw [el]
                  refine ⟨rfl, rfl, _, hσ.1.1 (cLs σ.1.1 d i) (by omega), ?_⟩
                  conv => whnf
                  refine ⟨fun h4 => ?_, fun h4 => ?_⟩
                  · conv => whnf
                    refine last _ ?_
                    rw [cLs, if_neg (Int32.not_lt.mpr h4)]
                  · conv => whnf
                    refine last _ ?_
                    rw [cLs, if_pos (Int32.not_le.mp h4)]
                refine ⟨fun h4 => ?_, fun h4 => ?_⟩
                · conv => whnf
                  rw [cGr, if_neg (Int32.not_lt.mpr h4)] at low
                  exact low
                · conv => whnf
                  rw [cGr, if_pos (Int32.not_le.mp h4)] at low
                  exact low
          · exact absurd h2 (by decide)
        · rw [if_neg hx]
          refine ⟨fun h2 => ?_, fun h2 => ?_⟩
          · exact absurd rfl h2
          · conv => whnf
            exact bad19 (fun a => hx a.2) _
    · rw [if_neg hd]
      refine ⟨fun h1 => ?_, fun h1 => ?_⟩
      · conv => whnf
        exact bad19 (fun a => hd a.1) _
      · exact absurd rfl h1
  · exact h.elim
