/-! the model: stepsToBalance, topIn -/
def mItF (b r d : Int32) : Nat → Int32
  | 0 => d
  | n + 1 => mFld (mItF b r d n) b r
def f_X7_stepsToBalance : gF := fun av M post => match av with
  | [.inr (.inl (7, p)), .inl b] => p = 926 ∧ ∃ σ, moR M σ ∧ (¬ (0 ≤ b ∧ b ≤ 9) → mQ M (-100000001, σ) post) ∧ (0 ≤ b ∧ b ≤ 9 → ∃ N, N ≤ 1000000 ∧ mItF (lbal (σ.1.1 b.toNatClampNeg).1) (σ.1.2.2.2.1 4) (σ.1.1 b.toNatClampNeg).2 N = lbal (σ.1.1 b.toNatClampNeg).1 ∧ (∀ i, i < N → ¬ mItF (lbal (σ.1.1 b.toNatClampNeg).1) (σ.1.2.2.2.1 4) (σ.1.1 b.toNatClampNeg).2 i = lbal (σ.1.1 b.toNatClampNeg).1) ∧ mQ M (nI N, σ) post)
  | _ => False
theorem lk_X7_stepsToBalance (l : Launch) : gLinks l RX7 5 [(gTn f_X7_isBlock, 0, 0, 99), (gTn f_X7_of, 0, 0, 7), (gTn f_X7_balance, 0, 0, 7), (gTn f_X7_floats, 0, 0, 7)] pX7_stepsToBalance := And.intro gf_RX7_31 (And.intro ⟨gTn f_X7_isBlock, 99, yX7_isBlock, cX7_isBlock, 1, (some .boolean), 1, rfl, yi_yX7_isBlock, ok_X7_isBlock l, by decide, Or.inl ml_RX7_46, sm_yX7_isBlock⟩ (And.intro kc_RX7_71 (And.intro ⟨gTn f_X7_of, 7, yX7_of, cX7_of, 3, (some .int), 0, _, rfl, by decide, yi_yX7_of, ok_X7_of l, by decide, by decide, rfl, rfl, ml_RX7_50, im_yX7_of, se_yX7_of⟩ (And.intro ⟨gTn f_X7_of, 7, yX7_of, cX7_of, 3, (some .int), 0, _, rfl, by decide, yi_yX7_of, ok_X7_of l, by decide, by decide, rfl, rfl, ml_RX7_50, im_yX7_of, se_yX7_of⟩ (And.intro ⟨gTn f_X7_balance, 7, yX7_balance, cX7_balance, 2, (some .int), 3, _, rfl, by decide, yi_yX7_balance, ok_X7_balance l, by decide, by decide, rfl, rfl, ml_RX7_86, im_yX7_balance, se_yX7_balance⟩ (And.intro ⟨gTn f_X7_floats, 7, yX7_floats, cX7_floats, 4, none, 4, _, rfl, by decide, yi_yX7_floats, ok_X7_floats l, by decide, by decide, rfl, rfl, ml_RX7_131, im_yX7_floats, se_yX7_floats⟩ (And.intro gf_RX7_7 (trivial))))))))
theorem ok_X7_stepsToBalance (l : Launch) : gOK l yX7_stepsToBalance cX7_stepsToBalance 4 (some .int) 5 0 0 (gTn f_X7_stepsToBalance) := by
  refine gM_of (by decide +kernel) pX7_stepsToBalance_ok (lk_X7_stepsToBalance l) ?_
  intro SL SX K P av M run h
  unfold f_X7_stepsToBalance at h
  split at h
  · rename_i p b
    obtain ⟨rfl, σ, hσ0, h0, h⟩ := h
    refine ⟨⟨by simp [gC1], Nat.le_of_ble_eq_true rfl⟩, ?_⟩
    have hσ := hσ0.th
    have f0 := gFm.up M (q := 926) 0 0 (Nat.le_refl _)
    refine run [24] 1000 _ _ _ _ _ _ rfl ?_
    conv => whnf
    refine ⟨rfl, rfl, ?_⟩
    conv => whnf
    by_cases hb : 0 ≤ b ∧ b ≤ 9
    · rw [if_pos hb]
      obtain ⟨N, hN, hend, hne, h5⟩ := h hb
      obtain ⟨j, hj, rfl⟩ := nI_bd (n := 9) (by decide) hb.1 hb.2
      have e : (nI j).toNatClampNeg = j := nI_clamp (by omega)
      rw [e] at hend hne
      have hc := hσ.1.1 j (by omega)
      have hP : P (some (.inl (nI N))) (gUp M 926 0 0) := h5 _ hσ f0
      have hr : gUp M 926 0 0 927 264 = σ.1.2.2.2.1 4 := hσ.1.2.2.2.1 4 (by decide)
      generalize gUp M 926 0 0 = M1 at hc hP hr ⊢
      generalize σ.1.1 j = c at hc hend hne
      generalize σ.1.2.2.2.1 4 = r at hr hend hne
      have hb1 : M1 927 (26 * j + 1) = c.2 := hc.2.2.1
      refine ⟨fun h1 => ?_, fun h1 => ?_⟩
      · conv => whnf
        refine ⟨rfl, rfl, rfl, j, 1, by omega, by decide, rfl, rfl, ?_⟩
        rw [hb1]
        conv => whnf
        have q := upto (n := N) (A := fun i => K 24 [some (.inr (.inl (7, 926))), some (.inl (nI j)), some (.inl c.2), some (.inl (nI i))] [] (gUp M1 927 (26 * j + 1) (mItF (lbal c.1) r c.2 i)) gB0) (by
          have c2 := hc.base (mItF (lbal c.1) r c.2 N)
          rw [hend] at c2 ⊢
          refine run [24] 1000 _ _ _ _ _ _ rfl ?_
          conv => whnf
          refine ⟨rfl, rfl, rfl, j, 1, by omega, by decide, rfl, rfl, ?_⟩
          rw [show gUp M1 927 (26 * j + 1) (lbal c.1) 927 (26 * j + 1) = lbal c.1 from gUp_same _ _ _ _]
          conv => whnf
          refine ⟨rfl, rfl, rfl, j, _, by omega, rfl, c2, ?_⟩
          conv => whnf
          refine ⟨fun h2 => ?_, fun h2 => ?_⟩
          · conv => whnf
            rw [show (26 : Int32) * nI j + 1 = nI (26 * j + 1) from of_at j 1]
            refine ⟨vp_in_nI (by omega) (by decide), ?_⟩
            conv => whnf
            rw [nI_clamp (by omega), gUp_up, gUp_id hb1]
            exact ⟨rfl, hP⟩
          · exact absurd rfl h2) (fun i hi ih => by
          have c2 := hc.base (mItF (lbal c.1) r c.2 i)
          refine run [24] 1000 _ _ _ _ _ _ rfl ?_
          conv => whnf
          refine ⟨rfl, rfl, rfl, j, 1, by omega, by decide, rfl, rfl, ?_⟩
          rw [show gUp M1 927 (26 * j + 1) (mItF (lbal c.1) r c.2 i) 927 (26 * j + 1) = mItF (lbal c.1) r c.2 i from gUp_same _ _ _ _]
          conv => whnf
          refine ⟨rfl, rfl, rfl, j, _, by omega, rfl, c2, ?_⟩
          conv => whnf
          refine ⟨fun h2 => ?_, fun h2 => ?_⟩
          · exact absurd h2 (hne i hi)
          · conv => whnf
            refine ⟨rfl, rfl, rfl, j, _, by omega, rfl, c2, ?_⟩
            rw [show gUp M1 927 (26 * j + 1) (mItF (lbal c.1) r c.2 i) 927 264 = r from (gUp_ne (Or.inr (by omega))).trans hr]
            conv => whnf
            rw [gUp_up, nI_1]
            exact ih) 0 (Nat.zero_le _)
        rw [show mItF (lbal c.1) r c.2 0 = c.2 from rfl, gUp_id hb1] at q
        exact q
      · exact absurd h1 (by decide)
    · rw [if_neg hb]
      refine ⟨fun h1 => ?_, fun h1 => ?_⟩
      · exact absurd rfl h1
      · conv => whnf
        exact ⟨rfl, h0 hb _ hσ f0⟩
  · exact h.elim
def f_X7_topIn : gF := fun av M post => match av with
  | [.inr (.inl (7, p)), .inl b, .inl n] => p = 926 ∧ ∃ σ, moR M σ ∧ (0 ≤ n ∧ n ≤ 100 → mOk σ.1 n.toNatClampNeg) ∧ mQ M (oTopIn σ b n, σ) post
  | _ => False
theorem lk_X7_topIn (l : Launch) : gLinks l RX7 7 [(gTn f_X7_isBlock, 0, 0, 99), (gTn f_X7_in, 0, 0, 99), (gTn f_X7_hold, 0, 0, 7), (gTn f_X7_step, 0, 0, 7), (gTn f_X7_top, 0, 0, 7), (gTn f_X7_release, 0, 0, 7)] pX7_topIn := And.intro gf_RX7_31 (And.intro ⟨gTn f_X7_isBlock, 99, yX7_isBlock, cX7_isBlock, 1, (some .boolean), 1, rfl, yi_yX7_isBlock, ok_X7_isBlock l, by decide, Or.inl ml_RX7_46, sm_yX7_isBlock⟩ (And.intro ⟨gTn f_X7_in, 99, yX7_in, cX7_in, 3, (some .boolean), 0, rfl, yi_yX7_in, ok_X7_in l, by decide, Or.inl ml_RX7_38, sm_yX7_in⟩ (And.intro kc_RX7_71 (And.intro ⟨gTn f_X7_hold, 7, yX7_hold, cX7_hold, 2, none, 0, _, rfl, by decide, yi_yX7_hold, ok_X7_hold l, by decide, by decide, rfl, rfl, ml_RX7_170, im_yX7_hold, se_yX7_hold⟩ (And.intro ⟨gTn f_X7_step, 7, yX7_step, cX7_step, 2, none, 6, _, rfl, by decide, yi_yX7_step, ok_X7_step l, by decide, by decide, rfl, rfl, ml_RX7_134, im_yX7_step, se_yX7_step⟩ (And.intro ⟨gTn f_X7_top, 7, yX7_top, cX7_top, 2, (some .int), 2, _, rfl, by decide, yi_yX7_top, ok_X7_top l, by decide, by decide, rfl, rfl, ml_RX7_102, im_yX7_top, se_yX7_top⟩ (And.intro ⟨gTn f_X7_release, 7, yX7_release, cX7_release, 2, none, 0, _, rfl, by decide, yi_yX7_release, ok_X7_release l, by decide, by decide, rfl, rfl, ml_RX7_207, im_yX7_release, se_yX7_release⟩ (trivial))))))))
theorem ok_X7_topIn (l : Launch) : gOK l yX7_topIn cX7_topIn 4 (some .int) 7 0 0 (gTn f_X7_topIn) := by
  refine gM_of (by decide +kernel) pX7_topIn_ok (lk_X7_topIn l) ?_
  intro SL SX K P av M run h
  unfold f_X7_topIn at h
  split at h
  · rename_i p b n
    obtain ⟨rfl, σ, hσ0, hok, h⟩ := h
    refine ⟨⟨by simp [gC1], Nat.le_of_ble_eq_true rfl⟩, ?_⟩
    have hσ := hσ0.th
    have f0 := gFm.up M (q := 926) 0 0 (Nat.le_refl _)
    unfold oTopIn at h
    have bad : ¬ ((0 ≤ b ∧ b ≤ 9) ∧ 0 ≤ n ∧ n ≤ 100) → ∀ ls, K 22 ls [] (gUp M 926 0 0) gB0 := by
      intro hb ls
      rw [if_neg hb] at h
      refine run [] 1000 _ _ _ _ _ _ rfl ?_
      conv => whnf
      exact ⟨rfl, h _ hσ f0⟩
    refine run [22, 31] 1000 _ _ _ _ _ _ rfl ?_
    conv => whnf
    refine ⟨rfl, rfl, ?_⟩
    conv => whnf
    by_cases hb : 0 ≤ b ∧ b ≤ 9
    · rw [if_pos hb]
      refine ⟨fun h1 => ?_, fun h1 => ?_⟩
      · exact absurd h1 (by decide)
      · conv => whnf
        refine ⟨rfl, rfl, ?_⟩
        conv => whnf
        by_cases hn : 0 ≤ n ∧ n ≤ 100
        · rw [if_pos hn]
          rw [if_pos ⟨hb, hn⟩] at h
          obtain ⟨ok1, ok2⟩ := hok hn
          obtain ⟨j, hj, rfl⟩ := nI_bd (n := 9) (by decide) hb.1 hb.2
          obtain ⟨m, hm, rfl⟩ := nI_bd (n := 100) (by decide) hn.1 hn.2
          have e : (nI j).toNatClampNeg = j := nI_clamp (by omega)
          have e2 : (nI m).toNatClampNeg = m := nI_clamp (by omega)
          rw [e, e2] at h
          rw [e2] at ok1 ok2
          refine ⟨fun h2 => ?_, fun h2 => ?_⟩
          · conv => whnf
            refine ⟨rfl, rfl, rfl, ?_⟩
            conv => whnf
            have s0 : msR (gCy (gUp M 926 0 0) 928 927 795 927) σ.1 := by
              rw [gCy_row (by decide)]
              exact hσ.1
            refine upto (n := m) (A := fun i => ∀ M', msR (M' 927) (mStepN σ.1 i) → gFe (gCy (gUp M 926 0 0) 928 927 795) M' → K 31 [some (.inr (.inl (7, 926))), some (.inl (nI j)), some (.inl (nI m)), some (.inl (nI i))] [] M' gB0) ?_ (fun i hi ih => ?_) 0 (Nat.zero_le _) _ s0 (fun _ _ _ => rfl)
            · intro M' h3 h4
              rw [ok2] at h3
              refine run [31] 1000 _ _ _ _ _ _ rfl ?_
              conv => whnf
              refine ⟨fun h5 => ?_, fun h5 => ?_⟩
              · conv => whnf
                refine ⟨rfl, rfl, rfl, j, _, by omega, rfl, h3.1 j (by omega), ?_⟩
                rw [show ltop ((stAdd (sStepN σ.1 m) (nI m)).1 j) = ltop ((sStepN σ.1 m).1 j) from rfl]
                conv => whnf
                refine ⟨rfl, rfl, rfl, ?_⟩
                conv => whnf
                have r : ∀ r, r ≠ 927 → r ≠ 928 → (r < 931 ∨ 933 < r) → gCy M' 927 928 795 r = gUp M 926 0 0 r := fun r a1 a2 a3 => by
                  rw [gCy_row a1, h4 r a1 a3, gCy_row a2]
                have z1 : msR (gCy M' 927 928 795 927) σ.1 := hσ.1.kept fun k hk => by
                  rw [gCy_in hk, h4 928 (by decide) (by decide), gCy_in hk]
                refine ⟨rfl, h _ ⟨z1, hσ.2.1.kept (by rw [r 926 (by decide) (by decide) (by decide)]) (r 929 (by decide) (by decide) (by decide)), hσ.2.2.1, ?_, fun k hk => ?_⟩ (fun q a => ?_)⟩
                · rw [r 926 (by decide) (by decide) (by decide)]; exact hσ.2.2.2.1
                · rw [r 930 (by decide) (by decide) (by decide)]; exact hσ.2.2.2.2 k hk
                · rw [r q (by omega) (by omega) (by omega)]; exact f0 q a
              · exact absurd (nI_le (Nat.le_refl m) (by omega)) h5
            · intro M' h3 h4
              refine run [31] 1000 _ _ _ _ _ _ rfl ?_
              conv => whnf
              refine ⟨fun h5 => ?_, fun h5 => ?_⟩
              · exact absurd h5 (nI_ge hi (by omega))
              · conv => whnf
                refine ⟨rfl, rfl, rfl, _, h3, ok1 i hi, fun M2 g3 g4 => ?_⟩
                conv => whnf
                rw [nI_1]
                exact ih M2 g3 (h4.tr g4)
          · exact absurd h2 (by decide)
        · rw [if_neg hn]
          refine ⟨fun h2 => ?_, fun h2 => ?_⟩
          · exact absurd rfl h2
          · conv => whnf
            exact bad (fun a => hn a.2) _
    · rw [if_neg hb]
      refine ⟨fun h1 => ?_, fun h1 => ?_⟩
      · conv => whnf
        exact bad (fun a => hb a.1) _
      · exact absurd rfl h1
  · exact h.elim
