/-! the model: more of a column -/
def licw (l : List Lay) : Int32 := l.foldl (fun a x => if x.1 = 0 then a + x.2.1 * x.2.2 else a) 0
def mUp (c : Col) (k : Nat) : Int32 := lup c k
def f_X7_isIcy : gF := fun av M post => match av with
  | [.inr (.inl (7, p)), .inl b] => p = 926 ∧ ∃ i c, i < 10 ∧ b = nI i ∧ mcR (M 927) (26 * i) c ∧ post (some (.inl (if icy c.1 = true then 1 else 0))) M
  | _ => False
theorem lk_X7_isIcy (l : Launch) : gLinks l RX7 2 [(gTn f_X7_of, 0, 0, 7), (gTn f_X7_kindOf, 0, 0, 7)] pX7_isIcy := And.intro ⟨gTn f_X7_of, 7, yX7_of, cX7_of, 3, (some .int), 0, _, rfl, by decide, yi_yX7_of, ok_X7_of l, by decide, by decide, rfl, rfl, ml_RX7_50, im_yX7_of, se_yX7_of⟩ (And.intro ⟨gTn f_X7_kindOf, 7, yX7_kindOf, cX7_kindOf, 3, (some .int), 1, _, rfl, by decide, yi_yX7_kindOf, ok_X7_kindOf l, by decide, by decide, rfl, rfl, ml_RX7_83, im_yX7_kindOf, se_yX7_kindOf⟩ (trivial))
theorem ok_X7_isIcy (l : Launch) : gOK l yX7_isIcy cX7_isIcy 2 (some .boolean) 2 0 0 (gTn f_X7_isIcy) := by
  refine gM_of (by decide +kernel) pX7_isIcy_ok (lk_X7_isIcy l) ?_
  intro SL SX K P av M run h
  unfold f_X7_isIcy at h
  split at h
  · obtain ⟨rfl, i, c, hi, rfl, hc, h⟩ := h
    refine ⟨⟨by simp [gC1], Nat.le_of_ble_eq_true rfl⟩, ?_⟩
    have hk8 := hc.1
    refine run [] 1000 _ _ _ _ _ _ rfl ?_
    conv => whnf
    refine ⟨rfl, rfl, rfl, i, 0, hi, by decide, rfl, rfl, ?_⟩
    rw [show M 927 (26 * i + 0) = nI c.1.length from hc.2.1]
    conv => whnf
    cases hl : c.1 with
    | nil =>
      rw [hl] at h
      refine ⟨fun h1 => ?_, fun h1 => ?_⟩
      · conv => whnf
        exact ⟨rfl, Or.inl rfl, h⟩
      · exact absurd (show nI 0 ≤ 0 from by decide) h1
    | cons x t =>
      have hx := (hc.2.2.2 0 x (by rw [hl]; rfl)).1
      rw [hl] at h hk8
      refine ⟨fun h1 => ?_, fun h1 => ?_⟩
      · exact absurd h1 (nI_ge (b := (x :: t).length) (a := 0) (Nat.succ_pos _) (nI_lt8 hk8))
      · conv => whnf
        refine ⟨rfl, rfl, rfl, i, 0, hi, by decide, rfl, rfl, ?_⟩
        rw [show M 927 (26 * i + 2 + 3 * 0) = x.1 from hx]
        conv => whnf
        have e : icy (x :: t) = decide (x.1 = 0) := rfl
        rw [e] at h
        refine ⟨fun h2 => ?_, fun h2 => ?_⟩
        · conv => whnf
          rw [if_neg (by simpa using h2)] at h
          exact ⟨rfl, Or.inl rfl, h⟩
        · conv => whnf
          rw [if_pos (by simpa using h2)] at h
          exact ⟨rfl, Or.inr rfl, h⟩
  · exact h.elim
def f_X7_isLayer : gF := fun av M post => match av with
  | [.inr (.inl (7, p)), .inl b, .inl l] => p = 926 ∧ (¬ (0 ≤ b ∧ b ≤ 9) → post (some (.inl 0)) M) ∧ (0 ≤ b ∧ b ≤ 9 → ∃ i c, i < 10 ∧ b = nI i ∧ mcR (M 927) (26 * i) c ∧ post (some (.inl (if 0 ≤ l ∧ l ≤ nI c.1.length - 1 then 1 else 0))) M)
  | _ => False
theorem lk_X7_isLayer (l : Launch) : gLinks l RX7 2 [(gTn f_X7_isBlock, 0, 0, 99), (gTn f_X7_of, 0, 0, 7), (gTn f_X7_in, 0, 0, 99)] pX7_isLayer := And.intro ⟨gTn f_X7_isBlock, 99, yX7_isBlock, cX7_isBlock, 1, (some .boolean), 1, rfl, yi_yX7_isBlock, ok_X7_isBlock l, by decide, Or.inl ml_RX7_46, sm_yX7_isBlock⟩ (And.intro ⟨gTn f_X7_of, 7, yX7_of, cX7_of, 3, (some .int), 0, _, rfl, by decide, yi_yX7_of, ok_X7_of l, by decide, by decide, rfl, rfl, ml_RX7_50, im_yX7_of, se_yX7_of⟩ (And.intro ⟨gTn f_X7_in, 99, yX7_in, cX7_in, 3, (some .boolean), 0, rfl, yi_yX7_in, ok_X7_in l, by decide, Or.inl ml_RX7_38, sm_yX7_in⟩ (trivial)))
theorem ok_X7_isLayer (l : Launch) : gOK l yX7_isLayer cX7_isLayer 3 (some .boolean) 2 0 0 (gTn f_X7_isLayer) := by
  refine gM_of (by decide +kernel) pX7_isLayer_ok (lk_X7_isLayer l) ?_
  intro SL SX K P av M run h
  unfold f_X7_isLayer at h
  split at h
  · rename_i p b l
    obtain ⟨rfl, h0, h⟩ := h
    refine ⟨⟨by simp [gC1], Nat.le_of_ble_eq_true rfl⟩, ?_⟩
    refine run [] 1000 _ _ _ _ _ _ rfl ?_
    conv => whnf
    refine ⟨rfl, rfl, ?_⟩
    conv => whnf
    by_cases hb : 0 ≤ b ∧ b ≤ 9
    · rw [if_pos hb]
      obtain ⟨i, c, hi, rfl, hc, h⟩ := h hb
      refine ⟨fun h1 => ?_, fun h1 => ?_⟩
      · exact absurd h1 (by decide)
      · conv => whnf
        refine ⟨rfl, rfl, rfl, i, 0, hi, by decide, rfl, rfl, ?_⟩
        rw [show M 927 (26 * i + 0) = nI c.1.length from hc.2.1]
        conv => whnf
        refine ⟨rfl, rfl, ?_⟩
        conv => whnf
        by_cases hl : 0 ≤ l ∧ l ≤ nI c.1.length - 1
        · rw [if_pos hl]
          rw [if_pos hl] at h
          refine ⟨fun h2 => ?_, fun h2 => ?_⟩
          · exact absurd h2 (by decide)
          · conv => whnf
            exact ⟨rfl, Or.inr rfl, h⟩
        · rw [if_neg hl]
          rw [if_neg hl] at h
          refine ⟨fun h2 => ?_, fun h2 => ?_⟩
          · conv => whnf
            exact ⟨rfl, Or.inl rfl, h⟩
          · exact absurd rfl h2
    · rw [if_neg hb]
      refine ⟨fun h1 => ?_, fun h1 => ?_⟩
      · conv => whnf
        exact ⟨rfl, Or.inl rfl, h0 hb⟩
      · exact absurd rfl h1
  · exact h.elim
def dOk (k d : Int32) : Prop := (0 ≤ k ∧ k ≤ 2) ∧ lLi k ≤ d ∧ d ≤ lHv k
theorem i32_eq {a b : Int32} (h1 : a ≤ b) (h2 : b ≤ a) : a = b := Int32.le_antisymm h1 h2
def f_X7_isDensity : gF := fun av M post => match av with
  | [.inl k, .inl d] => (dOk k d → post (some (.inl 1)) M) ∧ (¬ dOk k d → post (some (.inl 0)) M)
  | _ => False
theorem lk_X7_isDensity (l : Launch) : gLinks l RX7 1 [(gTn f_X7_in, 0, 0, 99)] pX7_isDensity := And.intro ⟨gTn f_X7_in, 99, yX7_in, cX7_in, 3, (some .boolean), 0, rfl, yi_yX7_in, ok_X7_in l, by decide, Or.inl ml_RX7_38, sm_yX7_in⟩ (trivial)
theorem ok_X7_isDensity (l : Launch) : gOK l yX7_isDensity cX7_isDensity 2 (some .boolean) 1 0 0 (gTn f_X7_isDensity) := by
  refine gM_of (by decide +kernel) pX7_isDensity_ok (lk_X7_isDensity l) ?_
  intro SL SX K P av M run h
  unfold f_X7_isDensity at h
  split at h
  · rename_i k d
    obtain ⟨h1, h0⟩ := h
    refine ⟨⟨by simp [gC1], Nat.le_of_ble_eq_true rfl⟩, ?_⟩
    refine run [] 1000 _ _ _ _ _ _ rfl ?_
    conv => whnf
    refine ⟨fun a1 => ?_, fun a1 => ?_⟩
    · conv => whnf
      have a1 : ¬ k = 0 := a1
      refine ⟨fun a2 => ?_, fun a2 => ?_⟩
      · conv => whnf
        have a2 : ¬ k = 1 := a2
        refine ⟨fun a3 => ?_, fun a3 => ?_⟩
        · conv => whnf
          have a3 : ¬ k = 2 := a3
          refine ⟨rfl, Or.inl rfl, h0 (fun q => ?_)⟩
          rcases k3_of q.1 with b | b | b
          · exact a1 b
          · exact a2 b
          · exact a3 b
        · conv => whnf
          have a3 : k = 2 := a3
          subst a3
          refine ⟨rfl, rfl, ?_⟩
          conv => whnf
          by_cases hd : 24 ≤ d ∧ d ≤ 32
          · rw [if_pos hd]
            refine ⟨fun a4 => ?_, fun a4 => ?_⟩
            · exact absurd a4 (by decide)
            · conv => whnf
              exact ⟨rfl, Or.inr rfl, h1 ⟨by decide, hd⟩⟩
          · rw [if_neg hd]
            refine ⟨fun a4 => ?_, fun a4 => ?_⟩
            · conv => whnf
              exact ⟨rfl, Or.inl rfl, h0 (fun q => hd q.2)⟩
            · exact absurd rfl a4
      · conv => whnf
        have a2 : k = 1 := a2
        subst a2
        refine ⟨fun a3 => ?_, fun a3 => ?_⟩
        · conv => whnf
          exact ⟨rfl, Or.inl rfl, h0 (fun q => a3 (i32_eq q.2.2 q.2.1))⟩
        · conv => whnf
          have a3 : d = 22 := a3
          subst a3
          exact ⟨rfl, Or.inr rfl, h1 ⟨by decide, by decide, by decide⟩⟩
    · conv => whnf
      have a1 : k = 0 := a1
      subst a1
      refine ⟨fun a3 => ?_, fun a3 => ?_⟩
      · conv => whnf
        exact ⟨rfl, Or.inl rfl, h0 (fun q => a3 (i32_eq q.2.2 q.2.1))⟩
      · conv => whnf
        have a3 : d = 9 := a3
        subst a3
        exact ⟨rfl, Or.inr rfl, h1 ⟨by decide, by decide, by decide⟩⟩
  · exact h.elim
def f_X7_upper : gF := fun av M post => match av with
  | [.inr (.inl (7, p)), .inl b, .inl k] => p = 926 ∧ ∃ i j c, i < 10 ∧ b = nI i ∧ k = nI j ∧ mcR (M 927) (26 * i) c ∧ j ≤ c.1.length ∧ post (some (.inl (lup c j))) M
  | _ => False
theorem lk_X7_upper (l : Launch) : gLinks l RX7 3 [(gTn f_X7_top, 0, 0, 7), (gTn f_X7_at, 0, 0, 99)] pX7_upper := And.intro ⟨gTn f_X7_top, 7, yX7_top, cX7_top, 2, (some .int), 2, _, rfl, by decide, yi_yX7_top, ok_X7_top l, by decide, by decide, rfl, rfl, ml_RX7_102, im_yX7_top, se_yX7_top⟩ (And.intro gf_RX7_7 (And.intro ⟨gTn f_X7_at, 99, yX7_at, cX7_at, 2, (some .int), 0, rfl, yi_yX7_at, ok_X7_at l, by decide, Or.inl ml_RX7_42, sm_yX7_at⟩ (trivial)))
theorem ok_X7_upper (l : Launch) : gOK l yX7_upper cX7_upper 5 (some .int) 3 0 0 (gTn f_X7_upper) := by
  refine gM_of (by decide +kernel) pX7_upper_ok (lk_X7_upper l) ?_
  intro SL SX K P av M run h
  unfold f_X7_upper at h
  split at h
  · obtain ⟨rfl, i, j, c, hi, rfl, rfl, hc, hj, h⟩ := h
    refine ⟨⟨by simp [gC1], Nat.le_of_ble_eq_true rfl⟩, ?_⟩
    have hk8 := hc.1
    refine run [9] 1000 _ _ _ _ _ _ rfl ?_
    conv => whnf
    refine ⟨rfl, rfl, rfl, i, c, hi, rfl, hc, ?_⟩
    conv => whnf
    refine upto (n := j) (A := fun k => K 9 [some (.inr (.inl (7, 926))), some (.inl (nI i)), some (.inl (nI j)), some (.inl (lup c k)), some (.inl (nI k))] [] M gB0) ?_ (fun k hkl ih => ?_) 0 (Nat.zero_le _)
    · refine run [9] 1000 _ _ _ _ _ _ rfl ?_
      conv => whnf
      refine ⟨fun h1 => ?_, fun h1 => ?_⟩
      · conv => whnf
        exact ⟨rfl, h⟩
      · exact absurd (nI_le (Nat.le_refl _) (nI_lt8 (by omega))) h1
    · have hk2 : k < c.1.length := by omega
      refine run [9] 1000 _ _ _ _ _ _ rfl ?_
      conv => whnf
      refine ⟨fun h1 => ?_, fun h1 => ?_⟩
      · exact absurd h1 (nI_ge hkl (nI_lt8 (by omega)))
      · conv => whnf
        refine ⟨rfl, rfl, i, k, rfl, rfl, ?_⟩
        conv => whnf
        rw [show nI (26 * i + 2 + 3 * k) + 2 = nI (26 * i + 2 + 3 * k + 2) from nI_add _ 2]
        refine ⟨vp_in_nI (by omega) (by decide), ?_⟩
        conv => whnf
        rw [← nI_1, lup, foldl_take _ _ (List.getElem?_eq_getElem hk2)] at ih
        rw [nI_clamp (by omega), (hc.lay hk2).2.2]
        exact ih
  · exact h.elim
def f_X7_iceWeight : gF := fun av M post => match av with
  | [.inr (.inl (7, p)), .inl b] => p = 926 ∧ ∃ i c, i < 10 ∧ b = nI i ∧ mcR (M 927) (26 * i) c ∧ post (some (.inl (licw c.1))) M
  | _ => False
theorem lk_X7_iceWeight (l : Launch) : gLinks l RX7 2 [(gTn f_X7_of, 0, 0, 7), (gTn f_X7_kindOf, 0, 0, 7), (gTn f_X7_weightOf, 0, 0, 7)] pX7_iceWeight := And.intro ⟨gTn f_X7_of, 7, yX7_of, cX7_of, 3, (some .int), 0, _, rfl, by decide, yi_yX7_of, ok_X7_of l, by decide, by decide, rfl, rfl, ml_RX7_50, im_yX7_of, se_yX7_of⟩ (And.intro ⟨gTn f_X7_kindOf, 7, yX7_kindOf, cX7_kindOf, 3, (some .int), 1, _, rfl, by decide, yi_yX7_kindOf, ok_X7_kindOf l, by decide, by decide, rfl, rfl, ml_RX7_83, im_yX7_kindOf, se_yX7_kindOf⟩ (And.intro ⟨gTn f_X7_weightOf, 7, yX7_weightOf, cX7_weightOf, 3, (some .int), 1, _, rfl, by decide, yi_yX7_weightOf, ok_X7_weightOf l, by decide, by decide, rfl, rfl, ml_RX7_53, im_yX7_weightOf, se_yX7_weightOf⟩ (trivial)))
theorem ok_X7_iceWeight (l : Launch) : gOK l yX7_iceWeight cX7_iceWeight 4 (some .int) 2 0 0 (gTn f_X7_iceWeight) := by
  refine gM_of (by decide +kernel) pX7_iceWeight_ok (lk_X7_iceWeight l) ?_
  intro SL SX K P av M run h
  unfold f_X7_iceWeight at h
  split at h
  · obtain ⟨rfl, i, c, hi, rfl, hc, h⟩ := h
    refine ⟨⟨by simp [gC1], Nat.le_of_ble_eq_true rfl⟩, ?_⟩
    have hk8 := hc.1
    refine run [4] 1000 _ _ _ _ _ _ rfl ?_
    conv => whnf
    refine upto (n := c.1.length) (A := fun k => K 4 [some (.inr (.inl (7, 926))), some (.inl (nI i)), some (.inl (licw (c.1.take k))), some (.inl (nI k))] [] M gB0) ?_ (fun k hkl ih => ?_) 0 (Nat.zero_le _)
    · refine run [4] 1000 _ _ _ _ _ _ rfl ?_
      conv => whnf
      refine ⟨rfl, rfl, rfl, i, 0, hi, by decide, rfl, rfl, ?_⟩
      rw [show M 927 (26 * i + 0) = nI c.1.length from hc.2.1]
      conv => whnf
      refine ⟨fun h1 => ?_, fun h1 => ?_⟩
      · conv => whnf
        rw [List.take_length]
        exact ⟨rfl, h⟩
      · exact absurd (nI_le (Nat.le_refl _) (nI_lt8 hk8)) h1
    · rw [← nI_1, licw, foldl_take _ _ (List.getElem?_eq_getElem hkl)] at ih
      refine run [4] 1000 _ _ _ _ _ _ rfl ?_
      conv => whnf
      refine ⟨rfl, rfl, rfl, i, 0, hi, by decide, rfl, rfl, ?_⟩
      rw [show M 927 (26 * i + 0) = nI c.1.length from hc.2.1]
      conv => whnf
      refine ⟨fun h1 => ?_, fun h1 => ?_⟩
      · exact absurd h1 (nI_ge hkl (nI_lt8 hk8))
      · conv => whnf
        refine ⟨rfl, rfl, rfl, i, k, hi, by omega, rfl, rfl, ?_⟩
        rw [(hc.lay hkl).1]
        conv => whnf
        refine ⟨fun h2 => ?_, fun h2 => ?_⟩
        · conv => whnf
          rw [if_neg h2] at ih
          rw [add_0]
          exact ih
        · conv => whnf
          rw [if_pos h2] at ih
          refine ⟨rfl, rfl, rfl, i, k, hi, by omega, rfl, rfl, ?_⟩
          rw [(hc.lay hkl).2.1, (hc.lay hkl).2.2]
          conv => whnf
          exact ih
  · exact h.elim
def f_X7_iceThick : gF := fun av M post => match av with
  | [.inr (.inl (7, p)), .inl b] => p = 926 ∧ ∃ i c, i < 10 ∧ b = nI i ∧ mcR (M 927) (26 * i) c ∧ post (some (.inl (lic c.1))) M
  | _ => False
theorem lk_X7_iceThick (l : Launch) : gLinks l RX7 2 [(gTn f_X7_of, 0, 0, 7), (gTn f_X7_kindOf, 0, 0, 7), (gTn f_X7_at, 0, 0, 99)] pX7_iceThick := And.intro ⟨gTn f_X7_of, 7, yX7_of, cX7_of, 3, (some .int), 0, _, rfl, by decide, yi_yX7_of, ok_X7_of l, by decide, by decide, rfl, rfl, ml_RX7_50, im_yX7_of, se_yX7_of⟩ (And.intro ⟨gTn f_X7_kindOf, 7, yX7_kindOf, cX7_kindOf, 3, (some .int), 1, _, rfl, by decide, yi_yX7_kindOf, ok_X7_kindOf l, by decide, by decide, rfl, rfl, ml_RX7_83, im_yX7_kindOf, se_yX7_kindOf⟩ (And.intro gf_RX7_7 (And.intro ⟨gTn f_X7_at, 99, yX7_at, cX7_at, 2, (some .int), 0, rfl, yi_yX7_at, ok_X7_at l, by decide, Or.inl ml_RX7_42, sm_yX7_at⟩ (trivial))))
theorem ok_X7_iceThick (l : Launch) : gOK l yX7_iceThick cX7_iceThick 4 (some .int) 2 0 0 (gTn f_X7_iceThick) := by
  refine gM_of (by decide +kernel) pX7_iceThick_ok (lk_X7_iceThick l) ?_
  intro SL SX K P av M run h
  unfold f_X7_iceThick at h
  split at h
  · obtain ⟨rfl, i, c, hi, rfl, hc, h⟩ := h
    refine ⟨⟨by simp [gC1], Nat.le_of_ble_eq_true rfl⟩, ?_⟩
    have hk8 := hc.1
    refine run [4] 1000 _ _ _ _ _ _ rfl ?_
    conv => whnf
    refine upto (n := c.1.length) (A := fun k => K 4 [some (.inr (.inl (7, 926))), some (.inl (nI i)), some (.inl (lic (c.1.take k))), some (.inl (nI k))] [] M gB0) ?_ (fun k hkl ih => ?_) 0 (Nat.zero_le _)
    · refine run [4] 1000 _ _ _ _ _ _ rfl ?_
      conv => whnf
      refine ⟨rfl, rfl, rfl, i, 0, hi, by decide, rfl, rfl, ?_⟩
      rw [show M 927 (26 * i + 0) = nI c.1.length from hc.2.1]
      conv => whnf
      refine ⟨fun h1 => ?_, fun h1 => ?_⟩
      · conv => whnf
        rw [List.take_length]
        exact ⟨rfl, h⟩
      · exact absurd (nI_le (Nat.le_refl _) (nI_lt8 hk8)) h1
    · rw [← nI_1, lic, foldl_take _ _ (List.getElem?_eq_getElem hkl)] at ih
      refine run [4] 1000 _ _ _ _ _ _ rfl ?_
      conv => whnf
      refine ⟨rfl, rfl, rfl, i, 0, hi, by decide, rfl, rfl, ?_⟩
      rw [show M 927 (26 * i + 0) = nI c.1.length from hc.2.1]
      conv => whnf
      refine ⟨fun h1 => ?_, fun h1 => ?_⟩
      · exact absurd h1 (nI_ge hkl (nI_lt8 hk8))
      · conv => whnf
        refine ⟨rfl, rfl, rfl, i, k, hi, by omega, rfl, rfl, ?_⟩
        rw [(hc.lay hkl).1]
        conv => whnf
        refine ⟨fun h2 => ?_, fun h2 => ?_⟩
        · conv => whnf
          rw [if_neg h2] at ih
          rw [add_0]
          exact ih
        · conv => whnf
          rw [if_pos h2] at ih
          refine ⟨rfl, rfl, i, k, rfl, rfl, ?_⟩
          conv => whnf
          rw [show nI (26 * i + 2 + 3 * k) + 2 = nI (26 * i + 2 + 3 * k + 2) from nI_add _ 2]
          refine ⟨vp_in_nI (by omega) (by decide), ?_⟩
          conv => whnf
          rw [nI_clamp (by omega), (hc.lay hkl).2.2]
          exact ih
  · exact h.elim
