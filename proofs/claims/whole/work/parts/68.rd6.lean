/-! the model: load -/
theorem mg_end {t : Nat → Int32} {n p : Nat} (h : chOk t n) : mg t n p < 0 ↔ sg t n p = 0 := by
  unfold mg sg
  by_cases q : p < n
  · rw [if_pos q, if_pos q]
    obtain ⟨-, b⟩ := h p q
    have b : 1 ≤ (t p).toInt := Int32.le_iff_toInt_le.mp b
    constructor
    · intro a
      have a : (t p).toInt < 0 := Int32.lt_iff_toInt_lt.mp a
      omega
    · intro a
      rw [a] at b
      exact absurd b (by decide)
  · rw [if_neg q, if_neg q]
    decide
theorem sg_end {t : Nat → Int32} {n p : Nat} (h : chOk t n) (h0 : sg t n p = 0) : ¬ p < n := fun q => by
  unfold sg at h0
  rw [if_pos q] at h0
  obtain ⟨-, b⟩ := h p q
  rw [h0] at b
  exact absurd b (by decide)
def f_X7_load : gF := fun av M post => match av with
  | [.inr (.inl (7, p))] => p = 926 ∧ ∃ σ, moR M σ ∧ chOk σ.2.2.1 σ.2.2.2 ∧ mQ M (oLoad σ) post
  | _ => False
theorem lk_X7_load (l : Launch) : gLinks l RX7 5 [(gTn f_X7_hold, 0, 0, 7), (gTn f_X7_here, 0, 0, 7), (gTn f_X7_readsItem, 0, 0, 7), (gTn f_X7_exchange, 0, 0, 7), (gTn f_X7_act, 0, 0, 7)] pX7_load := And.intro gf_RX7_31 (And.intro ⟨gTn f_X7_hold, 7, yX7_hold, cX7_hold, 2, none, 0, _, rfl, by decide, yi_yX7_hold, ok_X7_hold l, by decide, by decide, rfl, rfl, ml_RX7_170, im_yX7_hold, se_yX7_hold⟩ (And.intro gf_RX7_148 (And.intro ⟨gTn f_X7_here, 7, yX7_here, cX7_here, 1, (some .int), 0, _, rfl, by decide, yi_yX7_here, ok_X7_here l, by decide, by decide, rfl, rfl, ml_RX7_151, im_yX7_here, se_yX7_here⟩ (And.intro ⟨gTn f_X7_readsItem, 7, yX7_readsItem, cX7_readsItem, 3, (some .boolean), 4, _, rfl, by decide, yi_yX7_readsItem, ok_X7_readsItem l, by decide, by decide, rfl, rfl, ml_RX7_173, im_yX7_readsItem, se_yX7_readsItem⟩ (And.intro ⟨gTn f_X7_exchange, 7, yX7_exchange, cX7_exchange, 3, none, 0, _, rfl, by decide, yi_yX7_exchange, ok_X7_exchange l, by decide, by decide, rfl, rfl, ml_RX7_177, im_yX7_exchange, se_yX7_exchange⟩ (And.intro kc_RX7_180 (And.intro gf_RX7_148 (And.intro ⟨gTn f_X7_act, 7, yX7_act, cX7_act, 2, none, 0, _, rfl, by decide, yi_yX7_act, ok_X7_act l, by decide, by decide, rfl, rfl, ml_RX7_73, im_yX7_act, se_yX7_act⟩ (And.intro ⟨gTn f_X7_exchange, 7, yX7_exchange, cX7_exchange, 3, none, 0, _, rfl, by decide, yi_yX7_exchange, ok_X7_exchange l, by decide, by decide, rfl, rfl, ml_RX7_177, im_yX7_exchange, se_yX7_exchange⟩ (And.intro gf_RX7_145 (trivial)))))))))))
theorem ok_X7_load (l : Launch) : gOK l yX7_load cX7_load 3 (some .int) 5 0 0 (gTn f_X7_load) := by
  refine gM_of (by decide +kernel) pX7_load_ok (lk_X7_load l) ?_
  intro SL SX K P av M run h
  unfold f_X7_load at h
  split at h
  · obtain ⟨rfl, σ, hσ0, hch, h⟩ := h
    refine ⟨⟨by simp [gC1], Nat.le_of_ble_eq_true rfl⟩, ?_⟩
    have hσ := hσ0.th
    have f0 := gFm.up M (q := 926) 0 0 (Nat.le_refl _)
    unfold oLoad at h
    generalize gUp M 926 0 0 = Ma at hσ f0
    obtain ⟨hS, hh, hn, ht6, ht⟩ := hσ
    have hx0 : mxR (gUp (gCy Ma 928 927 795) 926 10 0) σ.2.2.1 σ.2.2.2 0 := by
      refine ⟨hn, Nat.zero_le _, fun k hk => ?_, ?_, gUp_same _ _ _ _⟩
      · rw [gUp_row (by decide), gCy_row (by decide)]; exact ht k hk
      · rw [gUp_ne (Or.inr (by decide)), gCy_row (by decide)]; exact ht6
    have hS0 : msR (gUp (gCy Ma 928 927 795) 926 10 0 927) σ.1 := by
      rw [gUp_row (by decide), gCy_row (by decide)]
      exact hS
    have ha0 : msR (gUp (gCy Ma 928 927 795) 926 10 0 928) σ.1 := by
      rw [gUp_row (by decide)]
      exact hS.kept fun k hk => gCy_in hk
    have hh0 : mhR (gUp (gCy Ma 928 927 795) 926 10 0) σ.2.1 := by
      refine ⟨hh.1, ?_, fun i S hi => ?_⟩
      · rw [gUp_ne (Or.inr (by decide)), gCy_row (by decide)]; exact hh.2.1
      · rw [gUp_row (by decide), gCy_row (by decide)]; exact hh.2.2 i S hi
    have r0 : gFm Ma (gUp (gCy Ma 928 927 795) 926 10 0) := fun r a => by
      rw [gUp_row (by omega), gCy_row (by omega)]
    sorry
  · exact h.elim
