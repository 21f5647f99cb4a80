/-! the model: restore -/
def mRs (s : Nat → Int32) (j k : Nat) : Nat → Int32 := fun z => if z < k then s (274 + 261 * j + z) else s z
theorem mRs_0 (s : Nat → Int32) (j : Nat) : mRs s j 0 = s := by
  funext z
  exact if_neg (Nat.not_lt_zero z)
theorem mRs_step (s : Nat → Int32) (j k : Nat) (hk : k < 260) : (fun z => if z = k then mRs s j k (274 + 261 * j + k) else mRs s j k z) = mRs s j (k + 1) := by
  have e : mRs s j k (274 + 261 * j + k) = s (274 + 261 * j + k) := if_neg (by omega)
  rw [e]
  funext z
  unfold mRs
  by_cases h1 : z = k
  · subst h1
    rw [if_pos rfl, if_pos (by omega)]
  · rw [if_neg h1]
    by_cases h2 : z < k
    · rw [if_pos h2, if_pos (by omega)]
    · rw [if_neg h2, if_neg (by omega)]
theorem mRs_R {s : Nat → Int32} {S : St} {j : Nat} (h : msR s S) (hj : j < 2) : msR (mRs s j 260) (S.2.1 j, S.2) := by
  obtain ⟨h1, h2, h3, h4, h5, h6, h7⟩ := h
  have out : ∀ z, 260 ≤ z → mRs s j 260 z = s z := fun z hz => if_neg (by omega)
  refine ⟨fun b hb => (h2 j hj b hb).kept fun i hi => ?_, fun i hi b hb => (h2 i hi b hb).kept fun i hi => out _ (by omega), fun i hi => (out _ (by omega)).trans (h3 i hi), fun k hk => (out _ (by omega)).trans (h4 k hk), fun k hk => (out _ (by omega)).trans (h5 k hk), (out _ (by omega)).trans h6, (out _ (by omega)).trans h7⟩
  refine (if_pos (by omega)).trans ?_
  congr 1
  omega
def f_X7_restore : gF := fun av M post => match av with
  | [.inr (.inl (7, p)), .inl v] => p = 926 ∧ ∃ σ, moR M σ ∧ mQ M (oRest σ v) post
  | _ => False
theorem lk_X7_restore (l : Launch) : gLinks l RX7 4 [(gTn f_X7_in, 0, 0, 99), (gTn f_X7_act, 0, 0, 7), (gTn f_X7_allWeights, 0, 0, 7), (gTn f_X7_allLayers, 0, 0, 7)] pX7_restore := And.intro gf_RX7_31 (And.intro ⟨gTn f_X7_in, 99, yX7_in, cX7_in, 3, (some .boolean), 0, rfl, yi_yX7_in, ok_X7_in l, by decide, Or.inl ml_RX7_38, sm_yX7_in⟩ (And.intro kc_RX7_71 (And.intro gf_RX7_7 (And.intro kc_RX7_141 (And.intro ⟨gTn f_X7_act, 7, yX7_act, cX7_act, 2, none, 0, _, rfl, by decide, yi_yX7_act, ok_X7_act l, by decide, by decide, rfl, rfl, ml_RX7_73, im_yX7_act, se_yX7_act⟩ (And.intro gf_RX7_7 (And.intro ⟨gTn f_X7_allWeights, 7, yX7_allWeights, cX7_allWeights, 3, (some .int), 3, _, rfl, by decide, yi_yX7_allWeights, ok_X7_allWeights l, by decide, by decide, rfl, rfl, ml_RX7_142, im_yX7_allWeights, se_yX7_allWeights⟩ (And.intro gf_RX7_7 (And.intro gf_RX7_7 (And.intro gf_RX7_7 (And.intro ⟨gTn f_X7_allWeights, 7, yX7_allWeights, cX7_allWeights, 3, (some .int), 3, _, rfl, by decide, yi_yX7_allWeights, ok_X7_allWeights l, by decide, by decide, rfl, rfl, ml_RX7_142, im_yX7_allWeights, se_yX7_allWeights⟩ (And.intro ⟨gTn f_X7_allLayers, 7, yX7_allLayers, cX7_allLayers, 3, (some .int), 1, _, rfl, by decide, yi_yX7_allLayers, ok_X7_allLayers l, by decide, by decide, rfl, rfl, ml_RX7_137, im_yX7_allLayers, se_yX7_allLayers⟩ (trivial)))))))))))))
theorem ok_X7_restore (l : Launch) : gOK l yX7_restore cX7_restore 4 (some .int) 4 0 0 (gTn f_X7_restore) := by
  refine gM_of (by decide +kernel) pX7_restore_ok (lk_X7_restore l) ?_
  intro SL SX K P av M run h
  unfold f_X7_restore at h
  split at h
  · rename_i p v
    obtain ⟨rfl, σ, hσ0, h⟩ := h
    refine ⟨⟨by simp [gC1], Nat.le_of_ble_eq_true rfl⟩, ?_⟩
    have hσ := hσ0.th
    have f0 := gFm.up M (q := 926) 0 0 (Nat.le_refl _)
    unfold oRest at h
    refine run [60] 1000 _ _ _ _ _ _ rfl ?_
    conv => whnf
    refine ⟨rfl, rfl, ?_⟩
    conv => whnf
    by_cases hn : 0 ≤ v ∧ v ≤ 1
    · rw [if_pos hn]
      rw [if_pos hn] at h
      obtain ⟨j, hj, rfl⟩ := nI_bd (n := 1) (by decide) hn.1 hn.2
      have e : (nI j).toNatClampNeg = j := nI_clamp (by omega)
      rw [e] at h
      refine ⟨fun h1 => ?_, fun h1 => ?_⟩
      · conv => whnf
        rw [at_pl]
        refine ⟨vp_in_nI (by omega) (by decide), ?_⟩
        conv => whnf
        rw [nI_clamp (by omega), show gUp M 926 0 0 (926 + 1) (273 + 261 * j) = σ.1.2.2.1 j from hσ.1.2.2.1 j (by omega)]
        refine ⟨fun h2 => ?_, fun h2 => ?_⟩
        · conv => whnf
          rw [if_neg h2] at h
          refine ⟨rfl, rfl, rfl, _, _, hσ.2.1, hσ.1, fun M1 g1 g2 => ?_⟩
          have k1 := hσ.act g1 g2
          conv => whnf
          refine ⟨vp_in_nI (n := 267) (by decide) (by decide), ?_⟩
          conv => whnf
          refine ⟨rfl, rfl, rfl, _, k1.1.1, ?_⟩
          conv => whnf
          refine ⟨vp_in_nI (n := 267) (by decide) (by decide), ?_⟩
          conv => whnf
          have s2 := k1.1.accM (k := 1) (by decide) (aWt σ.1.1)
          have fu : ∀ r, r ≠ 927 → gUp M1 927 (266 + 1) (M1 927 (266 + 1) + aWt σ.1.1) r = M1 r := fun r a => gUp_row a
          generalize hM2 : gUp M1 927 (266 + 1) (M1 927 (266 + 1) + aWt σ.1.1) = M2 at s2 fu
          have q := upto (n := 260) (A := fun k => K 60 [some (.inr (.inl (7, 926))), some (.inl (nI j)), some (.inl (nI (273 + 261 * j))), some (.inl (nI k))] [] (gRw M2 927 (mRs (M2 927) j k)) gB0) (by
            refine run [60] 1000 _ _ _ _ _ _ rfl ?_
            conv => whnf
            refine ⟨fun h3 => ?_, fun h3 => ?_⟩
            · conv => whnf
              have s3 : msR (gRw M2 927 (mRs (M2 927) j 260) 927) (σ.1.2.1 j, (stAcc σ.1 1 (aWt σ.1.1)).2) := by
                rw [gRw_at]
                exact mRs_R s2 (by omega)
              have s4 := s3.accM (k := 0) (by decide) (aWt (σ.1.2.1 j))
              refine ⟨vp_in_nI (n := 266) (by decide) (by decide), ?_⟩
              conv => whnf
              refine ⟨rfl, rfl, rfl, _, s3.1, ?_⟩
              conv => whnf
              refine ⟨vp_in_nI (n := 266) (by decide) (by decide), ?_⟩
              conv => whnf
              refine ⟨rfl, rfl, rfl, _, s4.1, ?_⟩
              conv => whnf
              exact ⟨rfl, h _ (k1.st s4 (fun r a => (gUp_row a).trans ((if_neg a).trans (fu r a)))) ((f0.tr g2.fm).tr (fun r a => (gUp_row (by omega)).trans ((if_neg (by omega)).trans (fu r (by omega)))))⟩
            · exact absurd (nI_le (Nat.le_refl 260) (by decide)) h3) (fun k hk ih => by
            refine run [60] 1000 _ _ _ _ _ _ rfl ?_
            conv => whnf
            refine ⟨fun h3 => ?_, fun h3 => ?_⟩
            · exact absurd h3 (nI_ge hk (by decide))
            · conv => whnf
              rw [show nI (273 + 261 * j) + 1 + nI k = nI (274 + 261 * j + k) from by rw [nI_1, nI_add]; congr 1; omega]
              refine ⟨vp_in_nI (by omega) (by decide), ?_⟩
              conv => whnf
              refine ⟨vp_in_nI (by omega) (by decide), ?_⟩
              conv => whnf
              rw [nI_clamp (by omega), nI_clamp (by omega), nI_1, gUp_Rw, gRw_at, mRs_step _ _ _ hk]
              exact ih) 0 (Nat.zero_le _)
          rw [mRs_0, gRw_id, ← hM2] at q
          exact q
        · conv => whnf
          rw [if_pos h2] at h
          exact ⟨rfl, h.no hσ f0 rfl⟩
      · exact absurd h1 (by decide)
    · rw [if_neg hn]
      rw [if_neg hn] at h
      refine ⟨fun h1 => ?_, fun h1 => ?_⟩
      · exact absurd rfl h1
      · conv => whnf
        exact ⟨rfl, h.no hσ f0 rfl⟩
  · exact h.elim
