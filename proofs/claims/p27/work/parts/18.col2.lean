theorem upto {n : Nat} {A : Nat → Prop} (hend : A n) (hstep : ∀ k, k < n → A (k + 1) → A k) : ∀ k, k ≤ n → A k := by
  intro k hk
  obtain ⟨m, hm⟩ : ∃ m, k + m = n := ⟨n - k, by omega⟩
  induction m generalizing k with
  | zero => have : k = n := by omega
            subst this; exact hend
  | succ m ih => exact hstep k (by omega) (ih (k + 1) (by omega) (by omega))
def f_X0_allThicknesses : gF := fun av M post => match av with
  | [.inr (.inl (0, p))] => ∃ c, colR M p c ∧ post (some (.inl (lth c.1))) M
  | _ => False
theorem lk_X0_allThicknesses (l : Launch) : gLinks l RX0 0 [] pX0_allThicknesses := And.intro gf_RX0_27 (And.intro gf_RX0_18 (trivial))
theorem ok_X0_allThicknesses (l : Launch) : gOK l yX0_allThicknesses cX0_allThicknesses 3 (some .int) 0 0 0 (gTn f_X0_allThicknesses) := by
  refine gM_of (by decide +kernel) pX0_allThicknesses_ok (lk_X0_allThicknesses l) ?_
  intro SL SX K P av M run h
  unfold f_X0_allThicknesses at h
  split at h
  · rename_i p
    obtain ⟨c, hc, h⟩ := h
    refine ⟨⟨by simp [gC1], Nat.le_of_ble_eq_true rfl⟩, ?_⟩
    have hk8 := hc.1
    refine run [4] 1000 _ _ _ _ _ _ rfl ?_
    conv => whnf
    refine upto (n := c.1.length) (A := fun k => K 4 [some (.inr (.inl (0, p))), some (.inl (lth (c.1.take k))), some (.inl (nI k))] [] M gB0) ?_ (fun k hkl ih => ?_) 0 (Nat.zero_le _)
    · refine run [4] 1000 _ _ _ _ _ _ rfl ?_
      conv => whnf
      rw [hc.2.1]
      refine ⟨fun h1 => ?_, fun h1 => ?_⟩
      · conv => whnf
        rw [List.take_length]
        exact ⟨rfl, h⟩
      · exact absurd (nI_le (Nat.le_refl _) (nI_lt8 hk8)) h1
    · refine run [4] 1000 _ _ _ _ _ _ rfl ?_
      conv => whnf
      rw [hc.2.1]
      refine ⟨fun h1 => ?_, fun h1 => ?_⟩
      · exact absurd h1 (nI_ge hkl (nI_lt8 hk8))
      · conv => whnf
        refine ⟨vp_in_nI (by omega) (by decide), ?_⟩
        conv => whnf
        rw [← nI_1, lth, foldl_take _ _ (List.getElem?_eq_getElem hkl)] at ih
        rw [nI_clamp (nI_lt8 (by omega)), (hc.lay hkl).2.2]
        exact ih
  · exact h.elim
def f_X0_iceThickness : gF := fun av M post => match av with
  | [.inr (.inl (0, p))] => ∃ c, colR M p c ∧ post (some (.inl (lic c.1))) M
  | _ => False
theorem lk_X0_iceThickness (l : Launch) : gLinks l RX0 0 [] pX0_iceThickness := And.intro gf_RX0_27 (And.intro gf_RX0_9 (And.intro gf_RX0_18 (trivial)))
theorem ok_X0_iceThickness (l : Launch) : gOK l yX0_iceThickness cX0_iceThickness 3 (some .int) 0 0 0 (gTn f_X0_iceThickness) := by
  refine gM_of (by decide +kernel) pX0_iceThickness_ok (lk_X0_iceThickness l) ?_
  intro SL SX K P av M run h
  unfold f_X0_iceThickness at h
  split at h
  · rename_i p
    obtain ⟨c, hc, h⟩ := h
    refine ⟨⟨by simp [gC1], Nat.le_of_ble_eq_true rfl⟩, ?_⟩
    have hk8 := hc.1
    refine run [4] 1000 _ _ _ _ _ _ rfl ?_
    conv => whnf
    refine upto (n := c.1.length) (A := fun k => K 4 [some (.inr (.inl (0, p))), some (.inl (lic (c.1.take k))), some (.inl (nI k))] [] M gB0) ?_ (fun k hkl ih => ?_) 0 (Nat.zero_le _)
    · refine run [4] 1000 _ _ _ _ _ _ rfl ?_
      conv => whnf
      rw [hc.2.1]
      refine ⟨fun h1 => ?_, fun h1 => ?_⟩
      · conv => whnf
        rw [List.take_length]
        exact ⟨rfl, h⟩
      · exact absurd (nI_le (Nat.le_refl _) (nI_lt8 hk8)) h1
    · rw [← nI_1, lic, foldl_take _ _ (List.getElem?_eq_getElem hkl)] at ih
      refine run [4] 1000 _ _ _ _ _ _ rfl ?_
      conv => whnf
      rw [hc.2.1]
      refine ⟨fun h1 => ?_, fun h1 => ?_⟩
      · exact absurd h1 (nI_ge hkl (nI_lt8 hk8))
      · conv => whnf
        refine ⟨vp_in_nI (by omega) (by decide), ?_⟩
        conv => whnf
        rw [nI_clamp (nI_lt8 (by omega)), (hc.lay hkl).1]
        refine ⟨fun h2 => ?_, fun h2 => ?_⟩
        · conv => whnf
          rw [if_neg h2] at ih
          exact ih
        · conv => whnf
          refine ⟨vp_in_nI (by omega) (by decide), ?_⟩
          conv => whnf
          rw [if_pos h2] at ih
          rw [nI_clamp (nI_lt8 (by omega)), (hc.lay hkl).2.2]
          exact ih
  · exact h.elim
def f_X0_balance : gF := fun av M post => match av with
  | [.inr (.inl (0, p))] => ∃ c, colR M p c ∧ post (some (.inl (lbal c.1))) M
  | _ => False
theorem lk_X0_balance (l : Launch) : gLinks l RX0 2 [(gTn f_X0_weight, 0, 0, 0)] pX0_balance := And.intro ⟨gTn f_X0_weight, 0, yX0_weight, cX0_weight, 3, (some .int), 1, _, rfl, by decide, yi_yX0_weight, ok_X0_weight l, by decide, by decide, rfl, rfl, ml_RX0_42, im_yX0_weight, se_yX0_weight⟩ (trivial)
theorem ok_X0_balance (l : Launch) : gOK l yX0_balance cX0_balance 1 (some .int) 2 0 0 (gTn f_X0_balance) := by
  refine gM_of (by decide +kernel) pX0_balance_ok (lk_X0_balance l) ?_
  intro SL SX K P av M run h
  unfold f_X0_balance at h
  split at h
  · rename_i p
    obtain ⟨c, hc, h⟩ := h
    refine ⟨⟨by simp [gC1], Nat.le_of_ble_eq_true rfl⟩, ?_⟩
    refine run [] 1000 _ _ _ _ _ _ rfl ?_
    conv => whnf
    refine ⟨rfl, rfl, c, hc, ?_⟩
    conv => whnf
    refine ⟨by decide, ?_⟩
    conv => whnf
    exact ⟨rfl, h⟩
  · exact h.elim
def f_X0_top : gF := fun av M post => match av with
  | [.inr (.inl (0, p))] => ∃ c, colR M p c ∧ post (some (.inl (ltop c))) M
  | _ => False
theorem lk_X0_top (l : Launch) : gLinks l RX0 1 [(gTn f_X0_allThicknesses, 0, 0, 0)] pX0_top := And.intro ⟨gTn f_X0_allThicknesses, 0, yX0_allThicknesses, cX0_allThicknesses, 3, (some .int), 0, _, rfl, by decide, yi_yX0_allThicknesses, ok_X0_allThicknesses l, by decide, by decide, rfl, rfl, ml_RX0_46, im_yX0_allThicknesses, se_yX0_allThicknesses⟩ (And.intro gf_RX0_31 (trivial))
theorem ok_X0_top (l : Launch) : gOK l yX0_top cX0_top 1 (some .int) 1 0 0 (gTn f_X0_top) := by
  refine gM_of (by decide +kernel) pX0_top_ok (lk_X0_top l) ?_
  intro SL SX K P av M run h
  unfold f_X0_top at h
  split at h
  · rename_i p
    obtain ⟨c, hc, h⟩ := h
    refine ⟨⟨by simp [gC1], Nat.le_of_ble_eq_true rfl⟩, ?_⟩
    refine run [] 1000 _ _ _ _ _ _ rfl ?_
    conv => whnf
    refine ⟨rfl, rfl, c, hc, ?_⟩
    conv => whnf
    rw [hc.2.2.1]
    exact ⟨rfl, h⟩
  · exact h.elim
def f_X0_upperSide : gF := fun av M post => match av with
  | [.inr (.inl (0, p)), .inl v] => ∃ c k, colR M p c ∧ k ≤ c.1.length ∧ v = nI k ∧ post (some (.inl (lup c k))) M
  | _ => False
theorem lk_X0_upperSide (l : Launch) : gLinks l RX0 2 [(gTn f_X0_top, 0, 0, 0)] pX0_upperSide := And.intro ⟨gTn f_X0_top, 0, yX0_top, cX0_top, 1, (some .int), 1, _, rfl, by decide, yi_yX0_top, ok_X0_top l, by decide, by decide, rfl, rfl, ml_RX0_49, im_yX0_top, se_yX0_top⟩ (And.intro gf_RX0_18 (trivial))
theorem ok_X0_upperSide (l : Launch) : gOK l yX0_upperSide cX0_upperSide 4 (some .int) 2 0 0 (gTn f_X0_upperSide) := by
  refine gM_of (by decide +kernel) pX0_upperSide_ok (lk_X0_upperSide l) ?_
  intro SL SX K P av M run h
  unfold f_X0_upperSide at h
  split at h
  · rename_i p v
    obtain ⟨c, n, hc, hn, rfl, h⟩ := h
    refine ⟨⟨by simp [gC1], Nat.le_of_ble_eq_true rfl⟩, ?_⟩
    have hk8 := hc.1
    refine run [7] 1000 _ _ _ _ _ _ rfl ?_
    conv => whnf
    refine ⟨rfl, rfl, c, hc, ?_⟩
    conv => whnf
    refine upto (n := n) (A := fun k => K 7 [some (.inr (.inl (0, p))), some (.inl (nI n)), some (.inl (lup c k)), some (.inl (nI k))] [] M gB0) ?_ (fun k hkl ih => ?_) 0 (Nat.zero_le _)
    · refine run [7] 1000 _ _ _ _ _ _ rfl ?_
      conv => whnf
      refine ⟨fun h1 => ?_, fun h1 => ?_⟩
      · conv => whnf
        exact ⟨rfl, h⟩
      · exact absurd (nI_le (Nat.le_refl _) (nI_lt8 (by omega))) h1
    · have hk2 : k < c.1.length := by omega
      refine run [7] 1000 _ _ _ _ _ _ rfl ?_
      conv => whnf
      refine ⟨fun h1 => ?_, fun h1 => ?_⟩
      · exact absurd h1 (nI_ge hkl (nI_lt8 (by omega)))
      · conv => whnf
        refine ⟨vp_in_nI (by omega) (by decide), ?_⟩
        conv => whnf
        rw [← nI_1, lup, foldl_take _ _ (List.getElem?_eq_getElem hk2)] at ih
        rw [nI_clamp (nI_lt8 (by omega)), (hc.lay hk2).2.2]
        exact ih
  · exact h.elim
def f_X0_hasIceOnTop : gF := fun av M post => match av with
  | [.inr (.inl (0, p))] => ∃ c, colR M p c ∧ post (some (.inl (if icy c.1 = true then 1 else 0))) M
  | _ => False
theorem lk_X0_hasIceOnTop (l : Launch) : gLinks l RX0 0 [] pX0_hasIceOnTop := And.intro gf_RX0_27 (And.intro gf_RX0_9 (trivial))
theorem ok_X0_hasIceOnTop (l : Launch) : gOK l yX0_hasIceOnTop cX0_hasIceOnTop 1 (some .boolean) 0 0 0 (gTn f_X0_hasIceOnTop) := by
  refine gM_of (by decide +kernel) pX0_hasIceOnTop_ok (lk_X0_hasIceOnTop l) ?_
  intro SL SX K P av M run h
  unfold f_X0_hasIceOnTop at h
  split at h
  · rename_i p
    obtain ⟨⟨l, b⟩, hc, h⟩ := h
    refine ⟨⟨by simp [gC1], Nat.le_of_ble_eq_true rfl⟩, ?_⟩
    have hk8 := hc.1
    refine run [] 1000 _ _ _ _ _ _ rfl ?_
    conv => whnf
    rw [hc.2.1]
    cases l with
    | nil =>
      refine ⟨fun h1 => ?_, fun h1 => ?_⟩
      · conv => whnf
        exact ⟨rfl, Or.inl rfl, h⟩
      · exact absurd (nI_le (Nat.le_refl 0) (by decide)) h1
    | cons x t =>
      have hl := hc.2.2.2 0 x rfl
      refine ⟨fun h1 => ?_, fun h1 => ?_⟩
      · exact absurd h1 (nI_nle (by simp) (nI_lt8 hk8))
      · conv => whnf
        refine ⟨vp_in_nI (n := 0) (by omega) (by decide), ?_⟩
        conv => whnf
        rw [show (0 : Int32).toNatClampNeg = 0 from rfl, hl.1]
        refine ⟨fun h2 => ?_, fun h2 => ?_⟩
        · conv => whnf
          rw [if_neg (by simp [icy, h2])] at h
          exact ⟨rfl, Or.inl rfl, h⟩
        · conv => whnf
          rw [if_pos (by simp [icy, h2])] at h
          exact ⟨rfl, Or.inr rfl, h⟩
  · exact h.elim
theorem has_iff {v : Int32} {n : Nat} (hn : n ≤ 8) : (0 ≤ v ∧ v ≤ nI n - 1) ↔ (0 ≤ v.toInt ∧ v.toInt < n) := by
  rw [Int32.le_iff_toInt_le, Int32.le_iff_toInt_le, Int32.toInt_zero]
  cases n with
  | zero =>
    rw [show (nI 0 - 1).toInt = -1 from by decide]
    omega
  | succ m =>
    rw [nI_pred, nI_toInt (nI_lt8 (by omega))]
    omega
def f_X0_hasLayer : gF := fun av M post => match av with
  | [.inr (.inl (0, p)), .inl v] => ∃ c, colR M p c ∧ post (some (.inl (if 0 ≤ v.toInt ∧ v.toInt < c.1.length then 1 else 0))) M
  | _ => False
theorem lk_X0_hasLayer (l : Launch) : gLinks l RX0 1 [(gTn f_X6_isWithin, 0, 0, 99)] pX0_hasLayer := And.intro gf_RX0_27 (And.intro ⟨gTn f_X6_isWithin, 99, yX6_isWithin, cX6_isWithin, 3, (some .boolean), 0, rfl, yi_yX6_isWithin, ok_X6_isWithin l, by decide, Or.inr ⟨RX6, by simp [gNm]⟩, sm_yX6_isWithin⟩ (trivial))
theorem ok_X0_hasLayer (l : Launch) : gOK l yX0_hasLayer cX0_hasLayer 2 (some .boolean) 1 0 0 (gTn f_X0_hasLayer) := by
  refine gM_of (by decide +kernel) pX0_hasLayer_ok (lk_X0_hasLayer l) ?_
  intro SL SX K P av M run h
  unfold f_X0_hasLayer at h
  split at h
  · rename_i p v
    obtain ⟨c, hc, h⟩ := h
    refine ⟨⟨by simp [gC1], Nat.le_of_ble_eq_true rfl⟩, ?_⟩
    refine run [] 1000 _ _ _ _ _ _ rfl ?_
    conv => whnf
    refine ⟨rfl, rfl, ?_⟩
    conv => whnf
    rw [hc.2.1]
    by_cases hv : 0 ≤ v.toInt ∧ v.toInt < c.1.length
    · rw [if_pos ((has_iff hc.1).mpr hv)]
      rw [if_pos hv] at h
      exact ⟨rfl, Or.inr rfl, h⟩
    · rw [if_neg (fun q => hv ((has_iff hc.1).mp q))]
      rw [if_neg hv] at h
      exact ⟨rfl, Or.inl rfl, h⟩
  · exact h.elim
def f_X0_firstBelowIce : gF := fun av M post => match av with
  | [.inr (.inl (0, p))] => ∃ c, colR M p c ∧ post (some (.inl (nI (lfb c.1)))) M
  | _ => False
theorem lfb_le (l : List Lay) : lfb l ≤ l.length := (List.takeWhile_sublist _).length_le
theorem lfb_ice : ∀ {l : List Lay} {k : Nat} (hk : k < l.length), k < lfb l → (l[k]).1 = 0
  | x :: t, 0, _, h => by
    by_cases hx : x.1 = 0
    · exact hx
    · simp [lfb, List.takeWhile_cons, hx] at h
  | x :: t, k + 1, hk, h => by
    by_cases hx : x.1 = 0
    · have : k < lfb t := by simpa [lfb, List.takeWhile_cons, hx] using h
      exact lfb_ice (l := t) (k := k) (by simpa using hk) this
    · simp [lfb, List.takeWhile_cons, hx] at h
theorem lfb_not : ∀ {l : List Lay} (h : lfb l < l.length), ¬ (l[lfb l]).1 = 0
  | x :: t, h => by
    by_cases hx : x.1 = 0
    · have e : lfb (x :: t) = lfb t + 1 := by simp [lfb, List.takeWhile_cons, hx]
      have h2 : lfb t < t.length := by rw [e] at h; simpa using h
      have := lfb_not h2
      simp only [e, List.getElem_cons_succ]
      exact this
    · have e : lfb (x :: t) = 0 := by simp [lfb, List.takeWhile_cons, hx]
      simp only [e, List.getElem_cons_zero]
      exact hx
theorem lk_X0_firstBelowIce (l : Launch) : gLinks l RX0 0 [] pX0_firstBelowIce := And.intro gf_RX0_27 (And.intro gf_RX0_9 (trivial))
theorem ok_X0_firstBelowIce (l : Launch) : gOK l yX0_firstBelowIce cX0_firstBelowIce 2 (some .int) 0 0 0 (gTn f_X0_firstBelowIce) := by
  refine gM_of (by decide +kernel) pX0_firstBelowIce_ok (lk_X0_firstBelowIce l) ?_
  intro SL SX K P av M run h
  unfold f_X0_firstBelowIce at h
  split at h
  · rename_i p
    obtain ⟨c, hc, h⟩ := h
    refine ⟨⟨by simp [gC1], Nat.le_of_ble_eq_true rfl⟩, ?_⟩
    have hk8 := hc.1
    have hle := lfb_le c.1
    refine run [2] 1000 _ _ _ _ _ _ rfl ?_
    conv => whnf
    refine upto (n := lfb c.1) (A := fun k => K 2 [some (.inr (.inl (0, p))), some (.inl (nI k))] [] M gB0) ?_ (fun k hkl ih => ?_) 0 (Nat.zero_le _)
    · refine run [2] 1000 _ _ _ _ _ _ rfl ?_
      conv => whnf
      rw [hc.2.1]
      refine ⟨fun h1 => ?_, fun h1 => ?_⟩
      · conv => whnf
        exact ⟨rfl, h⟩
      · conv => whnf
        have hlt : lfb c.1 < c.1.length := by
          rcases Nat.lt_or_ge (lfb c.1) c.1.length with q | q
          · exact q
          · exact absurd (nI_le q (nI_lt8 (by omega))) h1
        refine ⟨vp_in_nI (by omega) (by decide), ?_⟩
        conv => whnf
        rw [nI_clamp (nI_lt8 (by omega)), (hc.lay hlt).1]
        refine ⟨fun h2 => ?_, fun h2 => ?_⟩
        · conv => whnf
          exact ⟨rfl, h⟩
        · exact absurd h2 (lfb_not hlt)
    · have hk2 : k < c.1.length := by omega
      refine run [2] 1000 _ _ _ _ _ _ rfl ?_
      conv => whnf
      rw [hc.2.1]
      refine ⟨fun h1 => ?_, fun h1 => ?_⟩
      · exact absurd h1 (nI_ge hk2 (nI_lt8 hk8))
      · conv => whnf
        refine ⟨vp_in_nI (by omega) (by decide), ?_⟩
        conv => whnf
        rw [nI_clamp (nI_lt8 (by omega)), (hc.lay hk2).1]
        refine ⟨fun h2 => ?_, fun h2 => ?_⟩
        · exact absurd (lfb_ice hk2 hkl) h2
        · conv => whnf
          rw [nI_1]
          exact ih
  · exact h.elim
