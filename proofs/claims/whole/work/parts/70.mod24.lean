/-! the model: looking -/
theorem oBlock_no (σ : Wd) {b x : Int32} (h : ¬ ((0 ≤ b ∧ b ≤ 9) ∧ 0 ≤ x ∧ x ≤ 6)) : oBlock σ b x = -100000001 := by
  unfold oBlock
  by_cases hb : 0 ≤ b ∧ b ≤ 9
  · rw [if_pos hb]
    have hx : ¬ (0 ≤ x ∧ x ≤ 6) := fun a => h ⟨hb, a⟩
    have ne : ∀ c : Int32, (0 ≤ c ∧ c ≤ 6) → ¬ x = c := fun c hc q => hx (q ▸ hc)
    unfold colQ
    rw [if_neg (ne 0 (by decide)), if_neg (ne 1 (by decide)), if_neg (ne 2 (by decide)), if_neg (ne 3 (by decide)), if_neg (ne 4 (by decide)), if_neg (ne 5 (by decide)), if_neg (ne 6 (by decide))]
  · rw [if_neg hb]
/-- the model's pressure -/
def mPrN (c : Col) (d : Int32) : Nat → Int32
  | 0 => if d ≤ c.2 then 0 else 33 * (d - c.2)
  | k + 1 => match c.1[k]? with
    | none => mPrN c d k
    | some x => mPrN c d k + x.2.1 * (if (if x.2.2 < d + lup c k then x.2.2 else d + lup c k) < 0 then 0 else (if x.2.2 < d + lup c k then x.2.2 else d + lup c k))
def mPr (c : Col) (d : Int32) : Int32 := mPrN c d c.1.length
theorem mPrN_step {c : Col} {d : Int32} {k : Nat} (hk : k < c.1.length) : mPrN c d (k + 1) = mPrN c d k + c.1[k].2.1 * (if (if c.1[k].2.2 < d + lup c k then c.1[k].2.2 else d + lup c k) < 0 then 0 else (if c.1[k].2.2 < d + lup c k then c.1[k].2.2 else d + lup c k)) := by
  rw [mPrN, List.getElem?_eq_getElem hk]
def f_X7_pressureOf : gF := fun av M post => match av with
  | [.inr (.inl (7, p)), .inl b, .inl d] => p = 926 ∧ ∃ i c, i < 10 ∧ b = nI i ∧ mcR (M 927) (26 * i) c ∧ post (some (.inl (mPr c d))) M
  | _ => False
theorem lk_X7_pressureOf (l : Launch) : gLinks l RX7 4 [(gTn f_X7_of, 0, 0, 7), (gTn f_X7_at, 0, 0, 99), (gTn f_X7_upper, 0, 0, 7), (gTn f_X7_less, 0, 0, 99), (gTn f_X7_more, 0, 0, 99)] pX7_pressureOf := And.intro ⟨gTn f_X7_of, 7, yX7_of, cX7_of, 3, (some .int), 0, _, rfl, by decide, yi_yX7_of, ok_X7_of l, by decide, by decide, rfl, rfl, ml_RX7_50, im_yX7_of, se_yX7_of⟩ (And.intro ⟨gTn f_X7_of, 7, yX7_of, cX7_of, 3, (some .int), 0, _, rfl, by decide, yi_yX7_of, ok_X7_of l, by decide, by decide, rfl, rfl, ml_RX7_50, im_yX7_of, se_yX7_of⟩ (And.intro ⟨gTn f_X7_of, 7, yX7_of, cX7_of, 3, (some .int), 0, _, rfl, by decide, yi_yX7_of, ok_X7_of l, by decide, by decide, rfl, rfl, ml_RX7_50, im_yX7_of, se_yX7_of⟩ (And.intro gf_RX7_7 (And.intro ⟨gTn f_X7_at, 99, yX7_at, cX7_at, 2, (some .int), 0, rfl, yi_yX7_at, ok_X7_at l, by decide, Or.inl ml_RX7_42, sm_yX7_at⟩ (And.intro ⟨gTn f_X7_upper, 7, yX7_upper, cX7_upper, 5, (some .int), 3, _, rfl, by decide, yi_yX7_upper, ok_X7_upper l, by decide, by decide, rfl, rfl, ml_RX7_196, im_yX7_upper, se_yX7_upper⟩ (And.intro ⟨gTn f_X7_less, 99, yX7_less, cX7_less, 2, (some .int), 0, rfl, yi_yX7_less, ok_X7_less l, by decide, Or.inl ml_RX7_99, sm_yX7_less⟩ (And.intro gf_RX7_7 (And.intro ⟨gTn f_X7_at, 99, yX7_at, cX7_at, 2, (some .int), 0, rfl, yi_yX7_at, ok_X7_at l, by decide, Or.inl ml_RX7_42, sm_yX7_at⟩ (And.intro ⟨gTn f_X7_more, 99, yX7_more, cX7_more, 2, (some .int), 0, rfl, yi_yX7_more, ok_X7_more l, by decide, Or.inl ml_RX7_113, sm_yX7_more⟩ (trivial))))))))))
theorem ok_X7_pressureOf (l : Launch) : gOK l yX7_pressureOf cX7_pressureOf 6 (some .int) 4 0 0 (gTn f_X7_pressureOf) := by
  refine gM_of (by decide +kernel) pX7_pressureOf_ok (lk_X7_pressureOf l) ?_
  intro SL SX K P av M run h
  unfold f_X7_pressureOf at h
  split at h
  · rename_i p b d
    obtain ⟨rfl, i, c, hi, rfl, hc, h⟩ := h
    refine ⟨⟨by simp [gC1], Nat.le_of_ble_eq_true rfl⟩, ?_⟩
    have hk8 := hc.1
    have loop : ∀ u, K 29 [some (.inr (.inl (7, 926))), some (.inl (nI i)), some (.inl d), some (.inl (mPrN c d 0)), some (.inl (nI 0)), u] [] M gB0 := by
      intro u
      refine upto (n := c.1.length) (A := fun k => ∀ u, K 29 [some (.inr (.inl (7, 926))), some (.inl (nI i)), some (.inl d), some (.inl (mPrN c d k)), some (.inl (nI k)), u] [] M gB0) ?_ (fun k hkl ih => ?_) 0 (Nat.zero_le _) u
      · intro u
        refine run [29] 1000 _ _ _ _ _ _ rfl ?_
        conv => whnf
        refine ⟨rfl, rfl, rfl, i, 0, hi, by decide, rfl, rfl, ?_⟩
        rw [show M 927 (26 * i + 0) = nI c.1.length from hc.2.1]
        conv => whnf
        refine ⟨fun h1 => ?_, fun h1 => ?_⟩
        · conv => whnf
          exact ⟨rfl, h⟩
        · exact absurd (nI_le (Nat.le_refl _) (nI_lt8 hk8)) h1
      · intro u
        rw [mPrN_step hkl] at ih
        refine run [29] 1000 _ _ _ _ _ _ rfl ?_
        conv => whnf
        refine ⟨rfl, rfl, rfl, i, 0, hi, by decide, rfl, rfl, ?_⟩
        rw [show M 927 (26 * i + 0) = nI c.1.length from hc.2.1]
        conv => whnf
        refine ⟨fun h1 => ?_, fun h1 => ?_⟩
        · exact absurd h1 (nI_ge hkl (nI_lt8 hk8))
        · conv => whnf
          refine ⟨rfl, rfl, i, k, rfl, rfl, ?_⟩
          conv => whnf
          rw [show nI (26 * i + 2 + 3 * k) + 2 = nI (26 * i + 2 + 3 * k + 2) from nI_add _ 2]
          refine ⟨vp_in_nI (by omega) (by decide), ?_⟩
          conv => whnf
          refine ⟨rfl, rfl, rfl, i, k, _, hi, rfl, rfl, hc, by omega, ?_⟩
          conv => whnf
          rw [nI_clamp (by omega), (hc.lay hkl).2.2]
          refine ⟨rfl, rfl, ?_⟩
          conv => whnf
          refine ⟨rfl, rfl, i, k, rfl, rfl, ?_⟩
          conv => whnf
          rw [show nI (26 * i + 2 + 3 * k) + 1 = nI (26 * i + 2 + 3 * k + 1) from nI_add _ 1]
          refine ⟨vp_in_nI (by omega) (by decide), ?_⟩
          conv => whnf
          refine ⟨rfl, rfl, ?_⟩
          conv => whnf
          rw [nI_clamp (by omega), (hc.lay hkl).2.1, nI_1]
          exact ih _
    have hb : M 927 (26 * i + 1) = c.2 := hc.2.2.1
    refine run [29] 1000 _ _ _ _ _ _ rfl ?_
    conv => whnf
    refine ⟨rfl, rfl, rfl, i, 1, hi, by decide, rfl, rfl, ?_⟩
    rw [hb]
    conv => whnf
    refine ⟨fun h1 => ?_, fun h1 => ?_⟩
    · conv => whnf
      have := loop none
      rw [mPrN, if_pos h1] at this
      exact this
    · conv => whnf
      refine ⟨rfl, rfl, rfl, i, 1, hi, by decide, rfl, rfl, ?_⟩
      rw [hb]
      conv => whnf
      have := loop none
      rw [mPrN, if_neg h1] at this
      exact this
  · exact h.elim
def f_X7_valley : gF := fun av M post => match av with
  | [.inr (.inl (7, p)), .inl b] => p = 926 ∧ ∃ σ, moR M σ ∧ mQ M (oVal σ b, σ) post
  | _ => False
theorem lk_X7_valley (l : Launch) : gLinks l RX7 4 [(gTn f_X7_isBlock, 0, 0, 99), (gTn f_X7_valleyOf, 0, 0, 7)] pX7_valley := And.intro gf_RX7_31 (And.intro ⟨gTn f_X7_isBlock, 99, yX7_isBlock, cX7_isBlock, 1, (some .boolean), 1, rfl, yi_yX7_isBlock, ok_X7_isBlock l, by decide, Or.inl ml_RX7_46, sm_yX7_isBlock⟩ (And.intro ⟨gTn f_X7_valleyOf, 7, yX7_valleyOf, cX7_valleyOf, 5, (some .int), 3, _, rfl, by decide, yi_yX7_valleyOf, ok_X7_valleyOf l, by decide, by decide, rfl, rfl, ml_RX7_116, im_yX7_valleyOf, se_yX7_valleyOf⟩ (And.intro kc_RX7_71 (trivial))))
theorem ok_X7_valley (l : Launch) : gOK l yX7_valley cX7_valley 2 (some .int) 4 0 0 (gTn f_X7_valley) := by
  refine gM_of (by decide +kernel) pX7_valley_ok (lk_X7_valley l) ?_
  intro SL SX K P av M run h
  unfold f_X7_valley at h
  split at h
  · rename_i p b
    obtain ⟨rfl, σ, hσ0, h⟩ := h
    refine ⟨⟨by simp [gC1], Nat.le_of_ble_eq_true rfl⟩, ?_⟩
    have hσ := hσ0.th
    replace h : P (some (.inl (oVal σ b))) (gUp M 926 0 0) := h _ hσ (gFm.up M (q := 926) 0 0 (Nat.le_refl _))
    unfold oVal at h
    refine run [] 1000 _ _ _ _ _ _ rfl ?_
    conv => whnf
    refine ⟨rfl, rfl, ?_⟩
    conv => whnf
    by_cases hb : 0 ≤ b ∧ b ≤ 9
    · rw [if_pos hb]
      rw [if_pos hb] at h
      obtain ⟨j, hj, rfl⟩ := nI_bd (n := 9) (by decide) hb.1 hb.2
      have e : (nI j).toNatClampNeg = j := nI_clamp (by omega)
      have hc := hσ.1.1 j (by omega)
      rw [e] at h
      refine ⟨fun h1 => ?_, fun h1 => ?_⟩
      · exact absurd h1 (by decide)
      · conv => whnf
        refine ⟨rfl, rfl, rfl, _, j, hσ.1.1, by omega, rfl, ?_⟩
        conv => whnf
        exact ⟨rfl, h⟩
    · rw [if_neg hb]
      rw [if_neg hb] at h
      refine ⟨fun h1 => ?_, fun h1 => ?_⟩
      · conv => whnf
        exact ⟨rfl, h⟩
      · exact absurd rfl h1
  · exact h.elim
def f_X7_bareTop : gF := fun av M post => match av with
  | [.inr (.inl (7, p)), .inl b] => p = 926 ∧ ∃ σ, moR M σ ∧ (∀ j, j < 10 → licw (σ.1.1 j).1 = lic (σ.1.1 j).1 * 9) ∧ mQ M (oBare σ b, σ) post
  | _ => False
theorem lk_X7_bareTop (l : Launch) : gLinks l RX7 3 [(gTn f_X7_isBlock, 0, 0, 99), (gTn f_X7_thick, 0, 0, 7), (gTn f_X7_iceThick, 0, 0, 7), (gTn f_X7_weight, 0, 0, 7), (gTn f_X7_iceWeight, 0, 0, 7)] pX7_bareTop := And.intro gf_RX7_31 (And.intro ⟨gTn f_X7_isBlock, 99, yX7_isBlock, cX7_isBlock, 1, (some .boolean), 1, rfl, yi_yX7_isBlock, ok_X7_isBlock l, by decide, Or.inl ml_RX7_46, sm_yX7_isBlock⟩ (And.intro ⟨gTn f_X7_thick, 7, yX7_thick, cX7_thick, 4, (some .int), 1, _, rfl, by decide, yi_yX7_thick, ok_X7_thick l, by decide, by decide, rfl, rfl, ml_RX7_60, im_yX7_thick, se_yX7_thick⟩ (And.intro ⟨gTn f_X7_iceThick, 7, yX7_iceThick, cX7_iceThick, 4, (some .int), 2, _, rfl, by decide, yi_yX7_iceThick, ok_X7_iceThick l, by decide, by decide, rfl, rfl, ml_RX7_204, im_yX7_iceThick, se_yX7_iceThick⟩ (And.intro ⟨gTn f_X7_weight, 7, yX7_weight, cX7_weight, 4, (some .int), 2, _, rfl, by decide, yi_yX7_weight, ok_X7_weight l, by decide, by decide, rfl, rfl, ml_RX7_56, im_yX7_weight, se_yX7_weight⟩ (And.intro ⟨gTn f_X7_iceWeight, 7, yX7_iceWeight, cX7_iceWeight, 4, (some .int), 2, _, rfl, by decide, yi_yX7_iceWeight, ok_X7_iceWeight l, by decide, by decide, rfl, rfl, ml_RX7_193, im_yX7_iceWeight, se_yX7_iceWeight⟩ (And.intro kc_RX7_71 (trivial)))))))
theorem ok_X7_bareTop (l : Launch) : gOK l yX7_bareTop cX7_bareTop 2 (some .int) 3 0 0 (gTn f_X7_bareTop) := by
  refine gM_of (by decide +kernel) pX7_bareTop_ok (lk_X7_bareTop l) ?_
  intro SL SX K P av M run h
  unfold f_X7_bareTop at h
  split at h
  · rename_i p b
    obtain ⟨rfl, σ, hσ0, hyp, h⟩ := h
    refine ⟨⟨by simp [gC1], Nat.le_of_ble_eq_true rfl⟩, ?_⟩
    have hσ := hσ0.th
    replace h : P (some (.inl (oBare σ b))) (gUp M 926 0 0) := h _ hσ (gFm.up M (q := 926) 0 0 (Nat.le_refl _))
    unfold oBare at h
    refine run [] 1000 _ _ _ _ _ _ rfl ?_
    conv => whnf
    refine ⟨rfl, rfl, ?_⟩
    conv => whnf
    by_cases hb : 0 ≤ b ∧ b ≤ 9
    · rw [if_pos hb]
      rw [if_pos hb] at h
      obtain ⟨j, hj, rfl⟩ := nI_bd (n := 9) (by decide) hb.1 hb.2
      have e : (nI j).toNatClampNeg = j := nI_clamp (by omega)
      have hc := hσ.1.1 j (by omega)
      rw [e] at h
      refine ⟨fun h1 => ?_, fun h1 => ?_⟩
      · exact absurd h1 (by decide)
      · conv => whnf
        unfold lbare at h
        rw [← hyp j (by omega)] at h
        refine ⟨rfl, rfl, rfl, j, _, by omega, rfl, hc, ?_⟩
        conv => whnf
        refine ⟨rfl, rfl, rfl, j, _, by omega, rfl, hc, ?_⟩
        conv => whnf
        refine ⟨rfl, rfl, rfl, j, _, by omega, rfl, hc, ?_⟩
        conv => whnf
        refine ⟨rfl, rfl, rfl, j, _, by omega, rfl, hc, ?_⟩
        conv => whnf
        refine ⟨by decide, ?_⟩
        conv => whnf
        exact ⟨rfl, h⟩
    · rw [if_neg hb]
      rw [if_neg hb] at h
      refine ⟨fun h1 => ?_, fun h1 => ?_⟩
      · conv => whnf
        exact ⟨rfl, h⟩
      · exact absurd rfl h1
  · exact h.elim
def f_X7_why : gF := fun av M post => match av with
  | [.inr (.inl (7, p)), .inl b] => p = 926 ∧ ∃ σ, moR M σ ∧ (∀ j v, j < 10 → cLow σ.1.1 j = some v → ∀ x t, (σ.1.1 j).1 = x :: t → ¬ x.1 = 0 → (mTak σ.1.1 j (σ.1.2.2.2.1 3) = 0 ↔ cTk σ.1.1 j v (σ.1.2.2.2.1 3) = 0)) ∧ mQ M (oWhy σ b, σ) post
  | _ => False
theorem lk_X7_why (l : Launch) : gLinks l RX7 5 [(gTn f_X7_isBlock, 0, 0, 99), (gTn f_X7_of, 0, 0, 7), (gTn f_X7_isIcy, 0, 0, 7), (gTn f_X7_valleyOf, 0, 0, 7), (gTn f_X7_takenFrom, 0, 0, 7)] pX7_why := And.intro gf_RX7_31 (And.intro ⟨gTn f_X7_isBlock, 99, yX7_isBlock, cX7_isBlock, 1, (some .boolean), 1, rfl, yi_yX7_isBlock, ok_X7_isBlock l, by decide, Or.inl ml_RX7_46, sm_yX7_isBlock⟩ (And.intro kc_RX7_71 (And.intro ⟨gTn f_X7_of, 7, yX7_of, cX7_of, 3, (some .int), 0, _, rfl, by decide, yi_yX7_of, ok_X7_of l, by decide, by decide, rfl, rfl, ml_RX7_50, im_yX7_of, se_yX7_of⟩ (And.intro ⟨gTn f_X7_isIcy, 7, yX7_isIcy, cX7_isIcy, 2, (some .boolean), 2, _, rfl, by decide, yi_yX7_isIcy, ok_X7_isIcy l, by decide, by decide, rfl, rfl, ml_RX7_92, im_yX7_isIcy, se_yX7_isIcy⟩ (And.intro ⟨gTn f_X7_isIcy, 7, yX7_isIcy, cX7_isIcy, 2, (some .boolean), 2, _, rfl, by decide, yi_yX7_isIcy, ok_X7_isIcy l, by decide, by decide, rfl, rfl, ml_RX7_92, im_yX7_isIcy, se_yX7_isIcy⟩ (And.intro ⟨gTn f_X7_valleyOf, 7, yX7_valleyOf, cX7_valleyOf, 5, (some .int), 3, _, rfl, by decide, yi_yX7_valleyOf, ok_X7_valleyOf l, by decide, by decide, rfl, rfl, ml_RX7_116, im_yX7_valleyOf, se_yX7_valleyOf⟩ (And.intro kc_RX7_112 (And.intro ⟨gTn f_X7_takenFrom, 7, yX7_takenFrom, cX7_takenFrom, 3, (some .int), 4, _, rfl, by decide, yi_yX7_takenFrom, ok_X7_takenFrom l, by decide, by decide, rfl, rfl, ml_RX7_119, im_yX7_takenFrom, se_yX7_takenFrom⟩ (trivial)))))))))
theorem ok_X7_why (l : Launch) : gOK l yX7_why cX7_why 2 (some .int) 5 0 0 (gTn f_X7_why) := by
  refine gM_of (by decide +kernel) pX7_why_ok (lk_X7_why l) ?_
  intro SL SX K P av M run h
  unfold f_X7_why at h
  split at h
  · rename_i p b
    obtain ⟨rfl, σ, hσ0, hyp, h⟩ := h
    refine ⟨⟨by simp [gC1], Nat.le_of_ble_eq_true rfl⟩, ?_⟩
    have hσ := hσ0.th
    replace h : P (some (.inl (oWhy σ b))) (gUp M 926 0 0) := h _ hσ (gFm.up M (q := 926) 0 0 (Nat.le_refl _))
    unfold oWhy at h
    refine run [] 1000 _ _ _ _ _ _ rfl ?_
    conv => whnf
    refine ⟨rfl, rfl, ?_⟩
    conv => whnf
    by_cases hb : 0 ≤ b ∧ b ≤ 9
    · rw [if_pos hb]
      rw [if_pos hb] at h
      obtain ⟨j, hj, rfl⟩ := nI_bd (n := 9) (by decide) hb.1 hb.2
      have e : (nI j).toNatClampNeg = j := nI_clamp (by omega)
      have hc := hσ.1.1 j (by omega)
      rw [e] at h
      refine ⟨fun h1 => ?_, fun h1 => ?_⟩
      · conv => whnf
        have h8 := hc.1
        unfold cWhy at h
        refine ⟨rfl, rfl, rfl, j, 0, by omega, by decide, rfl, rfl, ?_⟩
        rw [show gUp M 926 0 0 927 (26 * j + 0) = nI (σ.1.1 j).1.length from hc.2.1]
        conv => whnf
        cases hl : (σ.1.1 j).1 with
        | nil =>
          rw [hl, if_pos rfl] at h
          refine ⟨fun h2 => ?_, fun h2 => ?_⟩
          · conv => whnf
            refine ⟨rfl, rfl, rfl, j, _, by omega, rfl, hc, ?_⟩
            rw [hl]
            conv => whnf
            refine ⟨fun h3 => ?_, fun h3 => ?_⟩
            · conv => whnf
              exact ⟨rfl, h⟩
            · exact absurd rfl h3
          · exact absurd (show nI ([] : List Lay).length = 0 from rfl) h2
        | cons x t =>
          rw [hl, if_neg (by simp)] at h
          have ee : icy (x :: t) = decide (x.1 = 0) := rfl
          refine ⟨fun h2 => ?_, fun h2 => ?_⟩
          · exact absurd h2 (nI_ne0 (Nat.succ_pos _) (by rw [hl] at h8; omega))
          · conv => whnf
            refine ⟨rfl, rfl, rfl, j, _, by omega, rfl, hc, ?_⟩
            rw [hl, ee]
            conv => whnf
            by_cases hi : x.1 = 0
            · rw [ee, if_pos (by simpa using hi)] at h
              rw [if_pos (by simpa using hi)]
              refine ⟨fun h3 => ?_, fun h3 => ?_⟩
              · exact absurd h3 (by decide)
              · conv => whnf
                refine ⟨rfl, rfl, rfl, j, _, by omega, rfl, hc, ?_⟩
                rw [hl, ee, if_pos (by simpa using hi)]
                conv => whnf
                refine ⟨fun h4 => ?_, fun h4 => ?_⟩
                · exact absurd h4 (by decide)
                · conv => whnf
                  exact ⟨rfl, h⟩
            · rw [ee, if_neg (by simpa using hi)] at h
              rw [if_neg (by simpa using hi)]
              refine ⟨fun h3 => ?_, fun h3 => ?_⟩
              · conv => whnf
                refine ⟨rfl, rfl, rfl, _, j, hσ.1.1, by omega, rfl, ?_⟩
                conv => whnf
                cases hv : cLow σ.1.1 j with
                | none =>
                  rw [hv] at h
                  refine ⟨fun h4 => ?_, fun h4 => ?_⟩
                  · exact absurd rfl h4
                  · conv => whnf
                    exact ⟨rfl, h⟩
                | some v =>
                  rw [hv] at h
                  dsimp only at h
                  have hq := hyp j v (by omega) hv x t hl hi
                  refine ⟨fun h4 => ?_, fun h4 => ?_⟩
                  · conv => whnf
                    refine ⟨rfl, rfl, rfl, _, j, hσ.1.1, by omega, rfl, ?_⟩
                    rw [show gUp M 926 0 0 927 263 = σ.1.2.2.2.1 3 from hσ.1.2.2.2.1 3 (by decide)]
                    conv => whnf
                    refine ⟨fun h5 => ?_, fun h5 => ?_⟩
                    · conv => whnf
                      rw [if_neg (fun a => h5 (hq.mpr a))] at h
                      exact ⟨rfl, h⟩
                    · conv => whnf
                      rw [if_pos (hq.mp h5)] at h
                      exact ⟨rfl, h⟩
                  · exact absurd h4 (nI_none (cLow_lt (by omega) hv))
              · exact absurd rfl h3
      · exact absurd h1 (by decide)
    · rw [if_neg hb]
      rw [if_neg hb] at h
      refine ⟨fun h1 => ?_, fun h1 => ?_⟩
      · exact absurd rfl h1
      · conv => whnf
        exact ⟨rfl, h⟩
  · exact h.elim
def f_X7_account : gF := fun av M post => match av with
  | [.inr (.inl (7, p)), .inl k] => p = 926 ∧ ∃ σ, moR M σ ∧ mQ M (oAcc σ k, σ) post
  | _ => False
theorem lk_X7_account (l : Launch) : gLinks l RX7 4 [(gTn f_X7_in, 0, 0, 99), (gTn f_X7_allWeights, 0, 0, 7)] pX7_account := And.intro gf_RX7_31 (And.intro ⟨gTn f_X7_in, 99, yX7_in, cX7_in, 3, (some .boolean), 0, rfl, yi_yX7_in, ok_X7_in l, by decide, Or.inl ml_RX7_38, sm_yX7_in⟩ (And.intro kc_RX7_71 (And.intro ⟨gTn f_X7_allWeights, 7, yX7_allWeights, cX7_allWeights, 3, (some .int), 3, _, rfl, by decide, yi_yX7_allWeights, ok_X7_allWeights l, by decide, by decide, rfl, rfl, ml_RX7_142, im_yX7_allWeights, se_yX7_allWeights⟩ (And.intro gf_RX7_7 (trivial)))))
theorem ok_X7_account (l : Launch) : gOK l yX7_account cX7_account 2 (some .int) 4 0 0 (gTn f_X7_account) := by
  refine gM_of (by decide +kernel) pX7_account_ok (lk_X7_account l) ?_
  intro SL SX K P av M run h
  unfold f_X7_account at h
  split at h
  · rename_i p k
    obtain ⟨rfl, σ, hσ0, h⟩ := h
    refine ⟨⟨by simp [gC1], Nat.le_of_ble_eq_true rfl⟩, ?_⟩
    have hσ := hσ0.th
    replace h : P (some (.inl (oAcc σ k))) (gUp M 926 0 0) := h _ hσ (gFm.up M (q := 926) 0 0 (Nat.le_refl _))
    unfold oAcc at h
    refine run [] 1000 _ _ _ _ _ _ rfl ?_
    conv => whnf
    refine ⟨rfl, rfl, ?_⟩
    conv => whnf
    by_cases hk : 0 ≤ k ∧ k ≤ 7
    · rw [if_pos hk]
      rw [if_pos hk] at h
      refine ⟨fun h1 => ?_, fun h1 => ?_⟩
      · conv => whnf
        obtain ⟨j, hj, rfl⟩ := nI_bd (n := 7) (by decide) hk.1 hk.2
        have e : (nI j).toNatClampNeg = j := nI_clamp (by omega)
        rw [e] at h
        refine ⟨fun h2 => ?_, fun h2 => ?_⟩
        · conv => whnf
          rw [if_neg h2] at h
          have hj7 : j < 7 := by
            rcases Nat.lt_or_ge j 7 with a | a
            · exact a
            · exact absurd (show nI j = 7 by rw [show j = 7 by omega]; rfl) h2
          rw [show (266 : Int32) + nI j = nI (266 + j) from nI_add 266 j]
          refine ⟨vp_in_nI (by omega) (by decide), ?_⟩
          conv => whnf
          rw [nI_clamp (by omega)]
          by_cases h6 : nI j = 6
          · rw [if_pos h6] at h
            have hj6 : j = 6 := (nI_eq (b := 6) (by omega) (by decide)).mp h6
            subst hj6
            rw [show gUp M 926 0 0 (926 + 1) (266 + 6) = σ.1.2.2.2.2.1 4 - σ.1.2.2.2.2.1 5 from hσ.1.2.2.2.2.2.1]
            exact ⟨rfl, h⟩
          · rw [if_neg h6] at h
            have hj6 : j < 6 := by
              rcases Nat.lt_or_ge j 6 with a | a
              · exact a
              · exact absurd (show nI j = 6 by rw [show j = 6 by omega]; rfl) h6
            rw [show gUp M 926 0 0 (926 + 1) (266 + j) = σ.1.2.2.2.2.1 j from hσ.1.2.2.2.2.1 j hj6]
            exact ⟨rfl, h⟩
        · conv => whnf
          rw [if_pos h2] at h
          refine ⟨rfl, rfl, rfl, _, hσ.1.1, ?_⟩
          conv => whnf
          exact ⟨rfl, h⟩
      · exact absurd h1 (by decide)
    · rw [if_neg hk]
      rw [if_neg hk] at h
      refine ⟨fun h1 => ?_, fun h1 => ?_⟩
      · exact absurd rfl h1
      · conv => whnf
        exact ⟨rfl, h⟩
  · exact h.elim
def f_X7_pressure : gF := fun av M post => match av with
  | [.inr (.inl (7, p)), .inl b, .inl x] => p = 926 ∧ ∃ σ, moR M σ ∧ (∀ j, j < 10 → 0 ≤ x ∧ x ≤ 99999 → mPr (σ.1.1 j) x = lpr (σ.1.1 j) x) ∧ mQ M (oPres σ b x, σ) post
  | _ => False
theorem lk_X7_pressure (l : Launch) : gLinks l RX7 5 [(gTn f_X7_isBlock, 0, 0, 99), (gTn f_X7_in, 0, 0, 99), (gTn f_X7_pressureOf, 0, 0, 7)] pX7_pressure := And.intro gf_RX7_31 (And.intro ⟨gTn f_X7_isBlock, 99, yX7_isBlock, cX7_isBlock, 1, (some .boolean), 1, rfl, yi_yX7_isBlock, ok_X7_isBlock l, by decide, Or.inl ml_RX7_46, sm_yX7_isBlock⟩ (And.intro kc_RX7_200 (And.intro ⟨gTn f_X7_in, 99, yX7_in, cX7_in, 3, (some .boolean), 0, rfl, yi_yX7_in, ok_X7_in l, by decide, Or.inl ml_RX7_38, sm_yX7_in⟩ (And.intro ⟨gTn f_X7_pressureOf, 7, yX7_pressureOf, cX7_pressureOf, 6, (some .int), 4, _, rfl, by decide, yi_yX7_pressureOf, ok_X7_pressureOf l, by decide, by decide, rfl, rfl, ml_RX7_201, im_yX7_pressureOf, se_yX7_pressureOf⟩ (And.intro kc_RX7_71 (trivial))))))
theorem ok_X7_pressure (l : Launch) : gOK l yX7_pressure cX7_pressure 3 (some .int) 5 0 0 (gTn f_X7_pressure) := by
  refine gM_of (by decide +kernel) pX7_pressure_ok (lk_X7_pressure l) ?_
  intro SL SX K P av M run h
  unfold f_X7_pressure at h
  split at h
  · rename_i p b x
    obtain ⟨rfl, σ, hσ0, hyp, h⟩ := h
    refine ⟨⟨by simp [gC1], Nat.le_of_ble_eq_true rfl⟩, ?_⟩
    have hσ := hσ0.th
    replace h : P (some (.inl (oPres σ b x))) (gUp M 926 0 0) := h _ hσ (gFm.up M (q := 926) 0 0 (Nat.le_refl _))
    unfold oPres at h
    have bad : ¬ ((0 ≤ b ∧ b ≤ 9) ∧ 0 ≤ x ∧ x ≤ 99999) → ∀ ls, K 31 ls [] (gUp M 926 0 0) gB0 := by
      intro hb ls
      rw [if_neg hb] at h
      refine run [] 1000 _ _ _ _ _ _ rfl ?_
      conv => whnf
      exact ⟨rfl, h⟩
    refine run [31] 1000 _ _ _ _ _ _ rfl ?_
    conv => whnf
    refine ⟨rfl, rfl, ?_⟩
    conv => whnf
    by_cases hb : 0 ≤ b ∧ b ≤ 9
    · rw [if_pos hb]
      refine ⟨fun h1 => ?_, fun h1 => ?_⟩
      · exact absurd h1 (by decide)
      · conv => whnf
        refine ⟨rfl, rfl, ?_⟩
        conv => whnf
        by_cases hx : 0 ≤ x ∧ x ≤ 99999
        · rw [if_pos hx]
          rw [if_pos ⟨hb, hx⟩] at h
          obtain ⟨j, hj, rfl⟩ := nI_bd (n := 9) (by decide) hb.1 hb.2
          have e : (nI j).toNatClampNeg = j := nI_clamp (by omega)
          have hc := hσ.1.1 j (by omega)
          rw [e, ← hyp j (by omega) hx] at h
          refine ⟨fun h2 => ?_, fun h2 => ?_⟩
          · exact absurd h2 (by decide)
          · conv => whnf
            refine ⟨rfl, rfl, rfl, j, _, by omega, rfl, hc, ?_⟩
            conv => whnf
            exact ⟨rfl, h⟩
        · rw [if_neg hx]
          refine ⟨fun h2 => ?_, fun h2 => ?_⟩
          · conv => whnf
            exact bad (fun a => hx a.2) _
          · exact absurd rfl h2
    · rw [if_neg hb]
      refine ⟨fun h1 => ?_, fun h1 => ?_⟩
      · conv => whnf
        exact bad (fun a => hb a.1) _
      · exact absurd rfl h1
  · exact h.elim
def f_X7_block : gF := fun av M post => match av with
  | [.inr (.inl (7, p)), .inl b, .inl x] => p = 926 ∧ ∃ σ, moR M σ ∧ (∀ j, j < 10 → licw (σ.1.1 j).1 = lic (σ.1.1 j).1 * 9) ∧ mQ M (oBlock σ b x, σ) post
  | _ => False
theorem lk_X7_block (l : Launch) : gLinks l RX7 4 [(gTn f_X7_isBlock, 0, 0, 99), (gTn f_X7_in, 0, 0, 99), (gTn f_X7_of, 0, 0, 7), (gTn f_X7_weight, 0, 0, 7), (gTn f_X7_balance, 0, 0, 7), (gTn f_X7_top, 0, 0, 7), (gTn f_X7_thick, 0, 0, 7), (gTn f_X7_iceWeight, 0, 0, 7)] pX7_block := And.intro gf_RX7_31 (And.intro ⟨gTn f_X7_isBlock, 99, yX7_isBlock, cX7_isBlock, 1, (some .boolean), 1, rfl, yi_yX7_isBlock, ok_X7_isBlock l, by decide, Or.inl ml_RX7_46, sm_yX7_isBlock⟩ (And.intro ⟨gTn f_X7_in, 99, yX7_in, cX7_in, 3, (some .boolean), 0, rfl, yi_yX7_in, ok_X7_in l, by decide, Or.inl ml_RX7_38, sm_yX7_in⟩ (And.intro kc_RX7_71 (And.intro ⟨gTn f_X7_of, 7, yX7_of, cX7_of, 3, (some .int), 0, _, rfl, by decide, yi_yX7_of, ok_X7_of l, by decide, by decide, rfl, rfl, ml_RX7_50, im_yX7_of, se_yX7_of⟩ (And.intro ⟨gTn f_X7_weight, 7, yX7_weight, cX7_weight, 4, (some .int), 2, _, rfl, by decide, yi_yX7_weight, ok_X7_weight l, by decide, by decide, rfl, rfl, ml_RX7_56, im_yX7_weight, se_yX7_weight⟩ (And.intro ⟨gTn f_X7_balance, 7, yX7_balance, cX7_balance, 2, (some .int), 3, _, rfl, by decide, yi_yX7_balance, ok_X7_balance l, by decide, by decide, rfl, rfl, ml_RX7_86, im_yX7_balance, se_yX7_balance⟩ (And.intro ⟨gTn f_X7_of, 7, yX7_of, cX7_of, 3, (some .int), 0, _, rfl, by decide, yi_yX7_of, ok_X7_of l, by decide, by decide, rfl, rfl, ml_RX7_50, im_yX7_of, se_yX7_of⟩ (And.intro ⟨gTn f_X7_top, 7, yX7_top, cX7_top, 2, (some .int), 2, _, rfl, by decide, yi_yX7_top, ok_X7_top l, by decide, by decide, rfl, rfl, ml_RX7_102, im_yX7_top, se_yX7_top⟩ (And.intro ⟨gTn f_X7_thick, 7, yX7_thick, cX7_thick, 4, (some .int), 1, _, rfl, by decide, yi_yX7_thick, ok_X7_thick l, by decide, by decide, rfl, rfl, ml_RX7_60, im_yX7_thick, se_yX7_thick⟩ (And.intro ⟨gTn f_X7_iceWeight, 7, yX7_iceWeight, cX7_iceWeight, 4, (some .int), 2, _, rfl, by decide, yi_yX7_iceWeight, ok_X7_iceWeight l, by decide, by decide, rfl, rfl, ml_RX7_193, im_yX7_iceWeight, se_yX7_iceWeight⟩ (trivial)))))))))))
theorem ok_X7_block (l : Launch) : gOK l yX7_block cX7_block 3 (some .int) 4 0 0 (gTn f_X7_block) := by
  refine gM_of (by decide +kernel) pX7_block_ok (lk_X7_block l) ?_
  intro SL SX K P av M run h
  unfold f_X7_block at h
  split at h
  · rename_i p b x
    obtain ⟨rfl, σ, hσ0, hyp, h⟩ := h
    refine ⟨⟨by simp [gC1], Nat.le_of_ble_eq_true rfl⟩, ?_⟩
    have hσ := hσ0.th
    replace h : P (some (.inl (oBlock σ b x))) (gUp M 926 0 0) := h _ hσ (gFm.up M (q := 926) 0 0 (Nat.le_refl _))
    have bad : ¬ ((0 ≤ b ∧ b ≤ 9) ∧ 0 ≤ x ∧ x ≤ 6) → ∀ ls, K 22 ls [] (gUp M 926 0 0) gB0 := by
      intro hb ls
      rw [oBlock_no σ hb] at h
      refine run [] 1000 _ _ _ _ _ _ rfl ?_
      conv => whnf
      exact ⟨rfl, h⟩
    unfold oBlock at h
    refine run [22] 1000 _ _ _ _ _ _ rfl ?_
    conv => whnf
    refine ⟨rfl, rfl, ?_⟩
    conv => whnf
    by_cases hb : 0 ≤ b ∧ b ≤ 9
    · rw [if_pos hb]
      refine ⟨fun h1 => ?_, fun h1 => ?_⟩
      · exact absurd h1 (by decide)
      · conv => whnf
        refine ⟨rfl, rfl, ?_⟩
        conv => whnf
        by_cases hx : 0 ≤ x ∧ x ≤ 6
        · rw [if_pos hx]
          rw [if_pos hb] at h
          obtain ⟨j, hj, rfl⟩ := nI_bd (n := 9) (by decide) hb.1 hb.2
          have e : (nI j).toNatClampNeg = j := nI_clamp (by omega)
          have hc := hσ.1.1 j (by omega)
          rw [e] at h
          refine ⟨fun h2 => ?_, fun h2 => ?_⟩
          · conv => whnf
            refine ⟨⟨fun h1 => ?_, fun h1 => ?_, fun h1 => ?_, fun h1 => ?_, fun h1 => ?_, fun h1 => ?_, trivial⟩, fun h1 => ?_⟩
            · have h1 : x = 0 := h1
              subst h1
              have h : P (some (.inl (nI (σ.1.1 j).1.length))) (gUp M 926 0 0) := h
              conv => whnf
              refine ⟨rfl, rfl, rfl, j, 0, by omega, by decide, rfl, rfl, ?_⟩
              rw [show gUp M 926 0 0 927 (26 * j + 0) = nI (σ.1.1 j).1.length from hc.2.1]
              conv => whnf
              exact ⟨rfl, h⟩
            · have h1 : x = 1 := h1
              subst h1
              have h : P (some (.inl (lwt (σ.1.1 j).1))) (gUp M 926 0 0) := h
              conv => whnf
              refine ⟨rfl, rfl, rfl, j, _, by omega, rfl, hc, ?_⟩
              conv => whnf
              exact ⟨rfl, h⟩
            · have h1 : x = 2 := h1
              subst h1
              have h : P (some (.inl (lbal (σ.1.1 j).1))) (gUp M 926 0 0) := h
              conv => whnf
              refine ⟨rfl, rfl, rfl, j, _, by omega, rfl, hc, ?_⟩
              conv => whnf
              exact ⟨rfl, h⟩
            · have h1 : x = 3 := h1
              subst h1
              have h : P (some (.inl ((σ.1.1 j).2))) (gUp M 926 0 0) := h
              conv => whnf
              refine ⟨rfl, rfl, rfl, j, 1, by omega, by decide, rfl, rfl, ?_⟩
              rw [show gUp M 926 0 0 927 (26 * j + 1) = (σ.1.1 j).2 from hc.2.2.1]
              conv => whnf
              exact ⟨rfl, h⟩
            · have h1 : x = 4 := h1
              subst h1
              have h : P (some (.inl (ltop (σ.1.1 j)))) (gUp M 926 0 0) := h
              conv => whnf
              refine ⟨rfl, rfl, rfl, j, _, by omega, rfl, hc, ?_⟩
              conv => whnf
              exact ⟨rfl, h⟩
            · have h1 : x = 5 := h1
              subst h1
              have h : P (some (.inl (lth (σ.1.1 j).1))) (gUp M 926 0 0) := h
              conv => whnf
              refine ⟨rfl, rfl, rfl, j, _, by omega, rfl, hc, ?_⟩
              conv => whnf
              exact ⟨rfl, h⟩
            · have e6 : x = 6 := by
                have a := Int32.le_iff_toInt_le.mp hx.1
                have b := Int32.le_iff_toInt_le.mp hx.2
                have a : 0 ≤ x.toInt := a
                have b : x.toInt ≤ 6 := b
                exact Int32.toInt_inj.mp (show x.toInt = 6 by omega)
              subst e6
              have h : P (some (.inl (lic (σ.1.1 j).1 * 9))) (gUp M 926 0 0) := h
              rw [← hyp j (by omega)] at h
              conv => whnf
              refine ⟨rfl, rfl, rfl, j, _, by omega, rfl, hc, ?_⟩
              conv => whnf
              exact ⟨rfl, h⟩
          · exact absurd h2 (by decide)
        · rw [if_neg hx]
          refine ⟨fun h2 => ?_, fun h2 => ?_⟩
          · exact absurd rfl h2
          · conv => whnf
            exact bad (fun a => hx a.2) _
    · rw [if_neg hb]
      refine ⟨fun h1 => ?_, fun h1 => ?_⟩
      · conv => whnf
        exact bad (fun a => hb a.1) _
      · exact absurd rfl h1
  · exact h.elim
