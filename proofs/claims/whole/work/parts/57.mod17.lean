/-! the model: settle -/
theorem msR.up {s : Nat → Int32} {S : St} {f : Col → Col} (h : msR s (cUp S.1 f 10, S.2)) : msR s (stMap S f) := by
  refine ⟨fun i hi => ?_, h.2⟩
  have := h.1 i hi
  unfold cUp at this
  dsimp only at this
  rw [if_pos hi] at this
  exact this
def f_X7_settle : gF := fun av M post => match av with
  | [.inr (.inl (7, p))] => p = 926 ∧ ∃ σ, moR M σ ∧ mQ M (oSettle σ) post
  | _ => False
theorem lk_X7_settle (l : Launch) : gLinks l RX7 4 [(gTn f_X7_act, 0, 0, 7), (gTn f_X7_balance, 0, 0, 7), (gTn f_X7_of, 0, 0, 7)] pX7_settle := And.intro gf_RX7_31 (And.intro ⟨gTn f_X7_act, 7, yX7_act, cX7_act, 2, none, 0, _, rfl, by decide, yi_yX7_act, ok_X7_act l, by decide, by decide, rfl, rfl, ml_RX7_73, im_yX7_act, se_yX7_act⟩ (And.intro ⟨gTn f_X7_balance, 7, yX7_balance, cX7_balance, 2, (some .int), 3, _, rfl, by decide, yi_yX7_balance, ok_X7_balance l, by decide, by decide, rfl, rfl, ml_RX7_86, im_yX7_balance, se_yX7_balance⟩ (And.intro ⟨gTn f_X7_of, 7, yX7_of, cX7_of, 3, (some .int), 0, _, rfl, by decide, yi_yX7_of, ok_X7_of l, by decide, by decide, rfl, rfl, ml_RX7_50, im_yX7_of, se_yX7_of⟩ (And.intro gf_RX7_7 (trivial)))))
theorem ok_X7_settle (l : Launch) : gOK l yX7_settle cX7_settle 4 (some .int) 4 0 0 (gTn f_X7_settle) := by
  refine gM_of (by decide +kernel) pX7_settle_ok (lk_X7_settle l) ?_
  intro SL SX K P av M run h
  unfold f_X7_settle at h
  split at h
  · obtain ⟨rfl, σ, hσ0, h⟩ := h
    refine ⟨⟨by simp [gC1], Nat.le_of_ble_eq_true rfl⟩, ?_⟩
    have hσ := hσ0.th
    have f0 := gFm.up M (q := 926) 0 0 (Nat.le_refl _)
    unfold oSettle at h
    refine run [13] 1000 _ _ _ _ _ _ rfl ?_
    conv => whnf
    refine ⟨rfl, rfl, rfl, _, _, hσ.2.1, hσ.1, fun M1 g1 g2 => ?_⟩
    have k1 := hσ.act g1 g2
    conv => whnf
    refine upto (n := 10) (A := fun k => ∀ M' u, msR (M' 927) (cUp σ.1.1 (fun c => (c.1, lbal c.1)) k, σ.1.2) → (∀ r, r ≠ 927 → M' r = M1 r) → K 13 [some (.inr (.inl (7, 926))), some (.inl (cSum (fun c => if c.2 = lbal c.1 then 0 else 1) σ.1.1 k)), some (.inl (nI k)), u] [] M' gB0) ?_ (fun k hk ih => ?_) 0 (Nat.zero_le _) M1 none (by rw [cUp_0]; exact k1.1) (fun _ _ => rfl)
    · intro M' u h2 h3
      refine run [13] 1000 _ _ _ _ _ _ rfl ?_
      conv => whnf
      refine ⟨fun h4 => ?_, fun h4 => ?_⟩
      · conv => whnf
        exact ⟨rfl, h M' (k1.st h2.up h3) ((f0.tr g2.fm).tr (fun r a => h3 r (by omega)))⟩
      · exact absurd (nI_le (Nat.le_refl 10) (by decide)) h4
    · intro M' u h2 h3
      have c2 : mcR (M' 927) (26 * k) (σ.1.1 k) := by
        have := h2.1 k hk
        dsimp only at this
        rw [cUp_at] at this
        exact this
      have done : ∀ v : Int32, v = cSum (fun c => if c.2 = lbal c.1 then 0 else 1) σ.1.1 (k + 1) → K 13 [some (.inr (.inl (7, 926))), some (.inl v), some (.inl (nI (k + 1))), some (.inl (lbal (σ.1.1 k).1))] [] (gUp M' 927 (26 * k + 1) (lbal (σ.1.1 k).1)) gB0 := by
        intro v hv
        subst hv
        refine ih _ _ ?_ (fun r a => (gUp_row a).trans (h3 r a))
        have s3 := h2.colM (b := k) hk (c2.base (lbal (σ.1.1 k).1)) (gFs.up M' _ (by omega) (by omega))
        unfold stCol at s3
        rw [← cUp_step]
        exact s3
      refine run [13] 1000 _ _ _ _ _ _ rfl ?_
      conv => whnf
      refine ⟨fun h4 => ?_, fun h4 => ?_⟩
      · exact absurd h4 (nI_ge hk (by decide))
      · conv => whnf
        refine ⟨rfl, rfl, rfl, k, _, hk, rfl, c2, ?_⟩
        conv => whnf
        refine ⟨rfl, rfl, rfl, k, 1, hk, by decide, rfl, rfl, ?_⟩
        rw [show M' 927 (26 * k + 1) = (σ.1.1 k).2 from c2.2.2.1]
        conv => whnf
        refine ⟨fun h5 => ?_, fun h5 => ?_⟩
        · conv => whnf
          rw [show (26 : Int32) * nI k + 1 = nI (26 * k + 1) from of_at k 1]
          refine ⟨vp_in_nI (by omega) (by decide), ?_⟩
          conv => whnf
          rw [nI_clamp (by omega), nI_1]
          exact done _ (by rw [cSum, if_pos h5])
        · conv => whnf
          rw [show (26 : Int32) * nI k + 1 = nI (26 * k + 1) from of_at k 1]
          refine ⟨vp_in_nI (by omega) (by decide), ?_⟩
          conv => whnf
          rw [nI_clamp (by omega), nI_1]
          exact done _ (by rw [cSum, if_neg h5])
  · exact h.elim
