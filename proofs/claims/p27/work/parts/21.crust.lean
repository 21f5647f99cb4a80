/-! Crust: ten columns; what is read of it -/
abbrev Cru : Type := Nat → Col
def crR (M : gM) (p : Nat) (C : Cru) : Prop := ∀ i, i < 10 → colR M (p + 1 + 1 + 4 * i) (C i)
def cSum (f : Col → Int32) (C : Cru) : Nat → Int32
  | 0 => 0
  | n + 1 => cSum f C n + f (C n)
def f_X1_allLayers : gF := fun av M post => match av with
  | [.inr (.inl (1, p))] => ∃ C, crR M p C ∧ post (some (.inl (cSum (fun c => nI c.1.length) C 10))) M
  | _ => False
theorem lk_X1_allLayers (l : Launch) : gLinks l RX1 0 [] pX1_allLayers := And.intro gf_RX1_11 (And.intro gf_RX1_22 (trivial))
theorem ok_X1_allLayers (l : Launch) : gOK l yX1_allLayers cX1_allLayers 3 (some .int) 0 0 0 (gTn f_X1_allLayers) := by
  refine gM_of (by decide +kernel) pX1_allLayers_ok (lk_X1_allLayers l) ?_
  intro SL SX K P av M run h
  unfold f_X1_allLayers at h
  split at h
  · rename_i p
    obtain ⟨C, hC, h⟩ := h
    refine ⟨⟨by simp [gC1], Nat.le_of_ble_eq_true rfl⟩, ?_⟩
    refine run [4] 1000 _ _ _ _ _ _ rfl ?_
    conv => whnf
    refine upto (n := 10) (A := fun k => K 4 [some (.inr (.inl (1, p))), some (.inl (cSum (fun c => nI c.1.length) C k)), some (.inl (nI k))] [] M gB0) ?_ (fun k hk ih => ?_) 0 (Nat.zero_le _)
    · refine run [4] 1000 _ _ _ _ _ _ rfl ?_
      conv => whnf
      refine ⟨fun h1 => ?_, fun h1 => ?_⟩
      · conv => whnf
        exact ⟨rfl, h⟩
      · exact absurd (nI_le (Nat.le_refl 10) (by decide)) h1
    · have hc := hC k hk
      have e : (nI k).toNatClampNeg = k := nI_clamp (by omega)
      refine run [4] 1000 _ _ _ _ _ _ rfl ?_
      conv => whnf
      refine ⟨fun h1 => ?_, fun h1 => ?_⟩
      · exact absurd h1 (nI_ge hk (by decide))
      · conv => whnf
        refine ⟨⟨vp_in_nI (N := 10) (by omega) (by decide), rfl⟩, ?_⟩
        conv => whnf
        rw [e]
        rw [show M (p + 1 + (gEl 8).2.1 + (gEl 8).2.2.1 * k) 3 = nI (C k).1.length from hc.2.1, nI_1]
        exact ih
  · exact h.elim
def f_X1_allWeights : gF := fun av M post => match av with
  | [.inr (.inl (1, p))] => ∃ C, crR M p C ∧ post (some (.inl (cSum (fun c => lwt c.1) C 10))) M
  | _ => False
theorem lk_X1_allWeights (l : Launch) : gLinks l RX1 2 [(gTn f_X0_weight, 0, 0, 0)] pX1_allWeights := And.intro gf_RX1_11 (And.intro ⟨gTn f_X0_weight, 0, yX0_weight, cX0_weight, 3, (some .int), 1, _, rfl, by decide, yi_yX0_weight, ok_X0_weight l, by decide, by decide, rfl, rfl, ml_RX1_26, im_yX0_weight, se_yX0_weight⟩ (trivial))
theorem ok_X1_allWeights (l : Launch) : gOK l yX1_allWeights cX1_allWeights 3 (some .int) 2 0 0 (gTn f_X1_allWeights) := by
  refine gM_of (by decide +kernel) pX1_allWeights_ok (lk_X1_allWeights l) ?_
  intro SL SX K P av M run h
  unfold f_X1_allWeights at h
  split at h
  · rename_i p
    obtain ⟨C, hC, h⟩ := h
    refine ⟨⟨by simp [gC1], Nat.le_of_ble_eq_true rfl⟩, ?_⟩
    refine run [4] 1000 _ _ _ _ _ _ rfl ?_
    conv => whnf
    refine upto (n := 10) (A := fun k => K 4 [some (.inr (.inl (1, p))), some (.inl (cSum (fun c => lwt c.1) C k)), some (.inl (nI k))] [] M gB0) ?_ (fun k hk ih => ?_) 0 (Nat.zero_le _)
    · refine run [4] 1000 _ _ _ _ _ _ rfl ?_
      conv => whnf
      refine ⟨fun h1 => ?_, fun h1 => ?_⟩
      · conv => whnf
        exact ⟨rfl, h⟩
      · exact absurd (nI_le (Nat.le_refl 10) (by decide)) h1
    · have hc := hC k hk
      have e : (nI k).toNatClampNeg = k := nI_clamp (by omega)
      refine run [4] 1000 _ _ _ _ _ _ rfl ?_
      conv => whnf
      refine ⟨fun h1 => ?_, fun h1 => ?_⟩
      · exact absurd h1 (nI_ge hk (by decide))
      · conv => whnf
        refine ⟨⟨vp_in_nI (N := 10) (by omega) (by decide), rfl⟩, ?_⟩
        conv => whnf
        rw [e]
        refine ⟨rfl, rfl, C k, hc, ?_⟩
        conv => whnf
        rw [nI_1]
        exact ih
  · exact h.elim
def f_X1_withLayers : gF := fun av M post => match av with
  | [.inr (.inl (1, p))] => ∃ C, crR M p C ∧ post (some (.inl (cSum (fun c => if c.1.length = 0 then 0 else 1) C 10))) M
  | _ => False
theorem lk_X1_withLayers (l : Launch) : gLinks l RX1 0 [] pX1_withLayers := And.intro gf_RX1_11 (And.intro gf_RX1_22 (trivial))
theorem ok_X1_withLayers (l : Launch) : gOK l yX1_withLayers cX1_withLayers 3 (some .int) 0 0 0 (gTn f_X1_withLayers) := by
  refine gM_of (by decide +kernel) pX1_withLayers_ok (lk_X1_withLayers l) ?_
  intro SL SX K P av M run h
  unfold f_X1_withLayers at h
  split at h
  · rename_i p
    obtain ⟨C, hC, h⟩ := h
    refine ⟨⟨by simp [gC1], Nat.le_of_ble_eq_true rfl⟩, ?_⟩
    refine run [4] 1000 _ _ _ _ _ _ rfl ?_
    conv => whnf
    refine upto (n := 10) (A := fun k => K 4 [some (.inr (.inl (1, p))), some (.inl (cSum (fun c => if c.1.length = 0 then 0 else 1) C k)), some (.inl (nI k))] [] M gB0) ?_ (fun k hk ih => ?_) 0 (Nat.zero_le _)
    · refine run [4] 1000 _ _ _ _ _ _ rfl ?_
      conv => whnf
      refine ⟨fun h1 => ?_, fun h1 => ?_⟩
      · conv => whnf
        exact ⟨rfl, h⟩
      · exact absurd (nI_le (Nat.le_refl 10) (by decide)) h1
    · have hc := hC k hk
      have e : (nI k).toNatClampNeg = k := nI_clamp (by omega)
      refine run [4] 1000 _ _ _ _ _ _ rfl ?_
      conv => whnf
      refine ⟨fun h1 => ?_, fun h1 => ?_⟩
      · exact absurd h1 (nI_ge hk (by decide))
      · conv => whnf
        refine ⟨⟨vp_in_nI (N := 10) (by omega) (by decide), rfl⟩, ?_⟩
        conv => whnf
        rw [e]
        rw [show M (p + 1 + (gEl 8).2.1 + (gEl 8).2.2.1 * k) 3 = nI (C k).1.length from hc.2.1]
        have hk8 := hc.1
        refine ⟨fun h2 => ?_, fun h2 => ?_⟩
        · conv => whnf
          have h0 : (C k).1.length = 0 := by
            rcases Nat.eq_zero_or_pos (C k).1.length with q | q
            · exact q
            · exact absurd h2 (nI_nle q (nI_lt8 hk8))
          rw [cSum, if_pos h0, Int32.add_zero] at ih
          rw [nI_1]
          exact ih
        · conv => whnf
          have h0 : ¬ (C k).1.length = 0 := fun q => h2 (by rw [q]; exact nI_le (Nat.le_refl 0) (by decide))
          rw [cSum, if_neg h0] at ih
          rw [nI_1]
          exact ih
  · exact h.elim
def f_X1_withIceOnTop : gF := fun av M post => match av with
  | [.inr (.inl (1, p))] => ∃ C, crR M p C ∧ post (some (.inl (cSum (fun c => if icy c.1 = true then 1 else 0) C 10))) M
  | _ => False
theorem lk_X1_withIceOnTop (l : Launch) : gLinks l RX1 1 [(gTn f_X0_hasIceOnTop, 0, 0, 0)] pX1_withIceOnTop := And.intro gf_RX1_11 (And.intro ⟨gTn f_X0_hasIceOnTop, 0, yX0_hasIceOnTop, cX0_hasIceOnTop, 1, (some .boolean), 0, _, rfl, by decide, yi_yX0_hasIceOnTop, ok_X0_hasIceOnTop l, by decide, by decide, rfl, rfl, ml_RX1_30, im_yX0_hasIceOnTop, se_yX0_hasIceOnTop⟩ (trivial))
theorem ok_X1_withIceOnTop (l : Launch) : gOK l yX1_withIceOnTop cX1_withIceOnTop 3 (some .int) 1 0 0 (gTn f_X1_withIceOnTop) := by
  refine gM_of (by decide +kernel) pX1_withIceOnTop_ok (lk_X1_withIceOnTop l) ?_
  intro SL SX K P av M run h
  unfold f_X1_withIceOnTop at h
  split at h
  · rename_i p
    obtain ⟨C, hC, h⟩ := h
    refine ⟨⟨by simp [gC1], Nat.le_of_ble_eq_true rfl⟩, ?_⟩
    refine run [4] 1000 _ _ _ _ _ _ rfl ?_
    conv => whnf
    refine upto (n := 10) (A := fun k => K 4 [some (.inr (.inl (1, p))), some (.inl (cSum (fun c => if icy c.1 = true then 1 else 0) C k)), some (.inl (nI k))] [] M gB0) ?_ (fun k hk ih => ?_) 0 (Nat.zero_le _)
    · refine run [4] 1000 _ _ _ _ _ _ rfl ?_
      conv => whnf
      refine ⟨fun h1 => ?_, fun h1 => ?_⟩
      · conv => whnf
        exact ⟨rfl, h⟩
      · exact absurd (nI_le (Nat.le_refl 10) (by decide)) h1
    · have hc := hC k hk
      have e : (nI k).toNatClampNeg = k := nI_clamp (by omega)
      refine run [4] 1000 _ _ _ _ _ _ rfl ?_
      conv => whnf
      refine ⟨fun h1 => ?_, fun h1 => ?_⟩
      · exact absurd h1 (nI_ge hk (by decide))
      · conv => whnf
        refine ⟨⟨vp_in_nI (N := 10) (by omega) (by decide), rfl⟩, ?_⟩
        conv => whnf
        rw [e]
        refine ⟨rfl, rfl, C k, hc, ?_⟩
        conv => whnf
        refine ⟨fun h2 => ?_, fun h2 => ?_⟩
        · conv => whnf
          have h0 : ¬ icy (C k).1 = true := fun q => by rw [if_pos q] at h2; exact absurd h2 (by decide)
          rw [cSum, if_neg h0, Int32.add_zero] at ih
          rw [nI_1]
          exact ih
        · conv => whnf
          have h0 : icy (C k).1 = true := by
            by_cases q : icy (C k).1 = true
            · exact q
            · exact absurd (if_neg q) h2
          rw [cSum, if_pos h0] at ih
          rw [nI_1]
          exact ih
  · exact h.elim
def f_X1_unbalanced : gF := fun av M post => match av with
  | [.inr (.inl (1, p))] => ∃ C, crR M p C ∧ post (some (.inl (cSum (fun c => if c.2 = lbal c.1 then 0 else 1) C 10))) M
  | _ => False
theorem lk_X1_unbalanced (l : Launch) : gLinks l RX1 3 [(gTn f_X0_balance, 0, 0, 0)] pX1_unbalanced := And.intro gf_RX1_11 (And.intro gf_RX1_34 (And.intro gf_RX1_11 (And.intro ⟨gTn f_X0_balance, 0, yX0_balance, cX0_balance, 1, (some .int), 2, _, rfl, by decide, yi_yX0_balance, ok_X0_balance l, by decide, by decide, rfl, rfl, ml_RX1_37, im_yX0_balance, se_yX0_balance⟩ (trivial))))
theorem ok_X1_unbalanced (l : Launch) : gOK l yX1_unbalanced cX1_unbalanced 3 (some .int) 3 0 0 (gTn f_X1_unbalanced) := by
  refine gM_of (by decide +kernel) pX1_unbalanced_ok (lk_X1_unbalanced l) ?_
  intro SL SX K P av M run h
  unfold f_X1_unbalanced at h
  split at h
  · rename_i p
    obtain ⟨C, hC, h⟩ := h
    refine ⟨⟨by simp [gC1], Nat.le_of_ble_eq_true rfl⟩, ?_⟩
    refine run [4] 1000 _ _ _ _ _ _ rfl ?_
    conv => whnf
    refine upto (n := 10) (A := fun k => K 4 [some (.inr (.inl (1, p))), some (.inl (cSum (fun c => if c.2 = lbal c.1 then 0 else 1) C k)), some (.inl (nI k))] [] M gB0) ?_ (fun k hk ih => ?_) 0 (Nat.zero_le _)
    · refine run [4] 1000 _ _ _ _ _ _ rfl ?_
      conv => whnf
      refine ⟨fun h1 => ?_, fun h1 => ?_⟩
      · conv => whnf
        exact ⟨rfl, h⟩
      · exact absurd (nI_le (Nat.le_refl 10) (by decide)) h1
    · have hc := hC k hk
      have e : (nI k).toNatClampNeg = k := nI_clamp (by omega)
      refine run [4] 1000 _ _ _ _ _ _ rfl ?_
      conv => whnf
      refine ⟨fun h1 => ?_, fun h1 => ?_⟩
      · exact absurd h1 (nI_ge hk (by decide))
      · conv => whnf
        refine ⟨⟨vp_in_nI (N := 10) (by omega) (by decide), rfl⟩, ?_⟩
        conv => whnf
        refine ⟨⟨vp_in_nI (N := 10) (by omega) (by decide), rfl⟩, ?_⟩
        conv => whnf
        rw [e]
        refine ⟨rfl, rfl, C k, hc, ?_⟩
        conv => whnf
        rw [show M (p + 1 + (gEl 8).2.1 + (gEl 8).2.2.1 * k) 4 = (C k).2 from hc.2.2.1]
        refine ⟨fun h2 => ?_, fun h2 => ?_⟩
        · conv => whnf
          rw [cSum, if_pos h2, Int32.add_zero] at ih
          rw [nI_1]
          exact ih
        · conv => whnf
          rw [cSum, if_neg h2] at ih
          rw [nI_1]
          exact ih
  · exact h.elim
def cHi (C : Cru) : Nat → Nat
  | 0 => 0
  | n + 1 => if ltop (C (cHi C n)) < ltop (C (n + 1)) then n + 1 else cHi C n
theorem cHi_le (C : Cru) : ∀ n, cHi C n ≤ n
  | 0 => Nat.le_refl 0
  | n + 1 => by
    unfold cHi
    have := cHi_le C n
    split <;> omega
def f_X1_highest : gF := fun av M post => match av with
  | [.inr (.inl (1, p))] => ∃ C, crR M p C ∧ post (some (.inl (nI (cHi C 9)))) M
  | _ => False
theorem lk_X1_highest (l : Launch) : gLinks l RX1 2 [(gTn f_X0_top, 0, 0, 0)] pX1_highest := And.intro gf_RX1_11 (And.intro ⟨gTn f_X0_top, 0, yX0_top, cX0_top, 1, (some .int), 1, _, rfl, by decide, yi_yX0_top, ok_X0_top l, by decide, by decide, rfl, rfl, ml_RX1_40, im_yX0_top, se_yX0_top⟩ (And.intro gf_RX1_11 (And.intro ⟨gTn f_X0_top, 0, yX0_top, cX0_top, 1, (some .int), 1, _, rfl, by decide, yi_yX0_top, ok_X0_top l, by decide, by decide, rfl, rfl, ml_RX1_40, im_yX0_top, se_yX0_top⟩ (trivial))))
theorem ok_X1_highest (l : Launch) : gOK l yX1_highest cX1_highest 3 (some .int) 2 0 0 (gTn f_X1_highest) := by
  refine gM_of (by decide +kernel) pX1_highest_ok (lk_X1_highest l) ?_
  intro SL SX K P av M run h
  unfold f_X1_highest at h
  split at h
  · rename_i p
    obtain ⟨C, hC, h⟩ := h
    refine ⟨⟨by simp [gC1], Nat.le_of_ble_eq_true rfl⟩, ?_⟩
    refine run [4] 1000 _ _ _ _ _ _ rfl ?_
    conv => whnf
    refine upto (n := 9) (A := fun k => K 4 [some (.inr (.inl (1, p))), some (.inl (nI (cHi C k))), some (.inl (nI (k + 1)))] [] M gB0) ?_ (fun k hk ih => ?_) 0 (Nat.zero_le _)
    · refine run [4] 1000 _ _ _ _ _ _ rfl ?_
      conv => whnf
      refine ⟨fun h1 => ?_, fun h1 => ?_⟩
      · conv => whnf
        exact ⟨rfl, h⟩
      · exact absurd (nI_le (Nat.le_refl 10) (by decide)) h1
    · have hh := cHi_le C k
      have hc := hC (k + 1) (by omega)
      have hc2 := hC (cHi C k) (by omega)
      have e : (nI (k + 1)).toNatClampNeg = k + 1 := nI_clamp (by omega)
      have e2 : (nI (cHi C k)).toNatClampNeg = cHi C k := nI_clamp (by omega)
      refine run [4] 1000 _ _ _ _ _ _ rfl ?_
      conv => whnf
      refine ⟨fun h1 => ?_, fun h1 => ?_⟩
      · exact absurd h1 (nI_ge (b := 10) (by omega) (by decide))
      · conv => whnf
        refine ⟨⟨vp_in_nI (N := 10) (by omega) (by decide), rfl⟩, ?_⟩
        conv => whnf
        rw [e]
        refine ⟨rfl, rfl, C (k + 1), hc, ?_⟩
        conv => whnf
        refine ⟨⟨vp_in_nI (N := 10) (by omega) (by decide), rfl⟩, ?_⟩
        conv => whnf
        rw [e2]
        refine ⟨rfl, rfl, C (cHi C k), hc2, ?_⟩
        conv => whnf
        refine ⟨fun h2 => ?_, fun h2 => ?_⟩
        · conv => whnf
          rw [cHi, if_neg (Int32.not_lt.mpr h2)] at ih
          rw [nI_1]
          exact ih
        · conv => whnf
          rw [cHi, if_pos (Int32.not_le.mp h2)] at ih
          rw [nI_1]
          exact ih
  · exact h.elim
/-- the valley of a block -/
def cLow (C : Cru) (b : Nat) : Option Nat :=
  if 0 < b ∧ ltop (C (b - 1)) < ltop (C b) then
    if b < 9 ∧ ltop (C (b + 1)) < ltop (C (b - 1)) then some (b + 1) else some (b - 1)
  else if b < 9 ∧ ltop (C (b + 1)) < ltop (C b) then some (b + 1) else none
def oN (o : Option Nat) : Int32 := match o with
  | none => -100000009
  | some k => nI k
theorem cLow_lt {C : Cru} {b v : Nat} (hb : b < 10) (h : cLow C b = some v) : v < 10 := by
  unfold cLow at h
  split at h
  · split at h
    · cases h; omega
    · cases h; omega
  · split at h
    · cases h; omega
    · cases h
def f_X1_lowerNeighbor : gF := fun av M post => match av with
  | [.inr (.inl (1, p)), .inl v] => ∃ C b, crR M p C ∧ b < 10 ∧ v = nI b ∧ post (some (.inl (oN (cLow C b)))) M
  | _ => False
theorem lk_X1_lowerNeighbor (l : Launch) : gLinks l RX1 2 [(gTn f_X0_top, 0, 0, 0)] pX1_lowerNeighbor := And.intro kc_RX1_43 (And.intro gf_RX1_11 (And.intro ⟨gTn f_X0_top, 0, yX0_top, cX0_top, 1, (some .int), 1, _, rfl, by decide, yi_yX0_top, ok_X0_top l, by decide, by decide, rfl, rfl, ml_RX1_40, im_yX0_top, se_yX0_top⟩ (And.intro gf_RX1_11 (And.intro ⟨gTn f_X0_top, 0, yX0_top, cX0_top, 1, (some .int), 1, _, rfl, by decide, yi_yX0_top, ok_X0_top l, by decide, by decide, rfl, rfl, ml_RX1_40, im_yX0_top, se_yX0_top⟩ (And.intro gf_RX1_11 (And.intro ⟨gTn f_X0_top, 0, yX0_top, cX0_top, 1, (some .int), 1, _, rfl, by decide, yi_yX0_top, ok_X0_top l, by decide, by decide, rfl, rfl, ml_RX1_40, im_yX0_top, se_yX0_top⟩ (And.intro gf_RX1_11 (And.intro ⟨gTn f_X0_top, 0, yX0_top, cX0_top, 1, (some .int), 1, _, rfl, by decide, yi_yX0_top, ok_X0_top l, by decide, by decide, rfl, rfl, ml_RX1_40, im_yX0_top, se_yX0_top⟩ (trivial)))))))))
theorem ok_X1_lowerNeighbor (l : Launch) : gOK l yX1_lowerNeighbor cX1_lowerNeighbor 4 (some .int) 2 0 0 (gTn f_X1_lowerNeighbor) := by
  refine gM_of (by decide +kernel) pX1_lowerNeighbor_ok (lk_X1_lowerNeighbor l) ?_
  intro SL SX K P av M run h
  unfold f_X1_lowerNeighbor at h
  split at h
  · rename_i p v
    obtain ⟨C, b, hC, hb, rfl, h⟩ := h
    refine ⟨⟨by simp [gC1], Nat.le_of_ble_eq_true rfl⟩, ?_⟩
    have hc := hC b hb
    have e : (nI b).toNatClampNeg = b := nI_clamp (by omega)
    have half : ∀ (o : Option Nat) (lt : Int32), P (some (.inl (oN (if b < 9 ∧ ltop (C (b + 1)) < lt then some (b + 1) else o)))) M → K 46 [some (.inr (.inl (1, p))), some (.inl (nI b)), some (.inl (oN o)), some (.inl lt)] [] M gB0 := by
      intro o lt h
      refine run [] 1000 _ _ _ _ _ _ rfl ?_
      conv => whnf
      refine ⟨fun h1 => ?_, fun h1 => ?_⟩
      · conv => whnf
        rw [if_neg (fun q => by have := nI_ge (a := b) (b := 9) q.1 (by decide); exact this h1)] at h
        exact ⟨rfl, h⟩
      · have hb9 : b < 9 := by
          rcases Nat.lt_or_ge b 9 with q | q
          · exact q
          · exact absurd (nI_le q (by omega)) h1
        have hc2 := hC (b + 1) (by omega)
        have e2 : (nI b + 1).toNatClampNeg = b + 1 := by rw [nI_1]; exact nI_clamp (by omega)
        conv => whnf
        refine ⟨⟨by rw [nI_1]; exact vp_in_nI (N := 10) (by omega) (by decide), rfl⟩, ?_⟩
        conv => whnf
        rw [e2]
        refine ⟨rfl, rfl, C (b + 1), hc2, ?_⟩
        conv => whnf
        refine ⟨fun h2 => ?_, fun h2 => ?_⟩
        · conv => whnf
          rw [if_neg (fun q => Int32.not_lt.mpr h2 q.2)] at h
          exact ⟨rfl, h⟩
        · conv => whnf
          rw [if_pos ⟨hb9, Int32.not_le.mp h2⟩] at h
          rw [nI_1]
          exact ⟨rfl, h⟩
    refine run [46] 1000 _ _ _ _ _ _ rfl ?_
    conv => whnf
    refine ⟨⟨vp_in_nI (N := 10) (by omega) (by decide), rfl⟩, ?_⟩
    conv => whnf
    rw [e]
    refine ⟨rfl, rfl, C b, hc, ?_⟩
    conv => whnf
    refine ⟨fun h1 => ?_, fun h1 => ?_⟩
    · conv => whnf
      have h0 : ¬ 0 < b := fun q => nI_nle q (by omega) h1
      refine half none _ ?_
      unfold cLow at h
      rw [if_neg (fun q => h0 q.1)] at h
      exact h
    · have h0 : 0 < b := by
        rcases Nat.eq_zero_or_pos b with q | q
        · exact absurd (by rw [q]; exact nI_le (Nat.le_refl 0) (by decide)) h1
        · exact q
      obtain ⟨b', rfl⟩ : ∃ b', b = b' + 1 := ⟨b - 1, by omega⟩
      have hc2 := hC b' (by omega)
      have e2 : (nI (b' + 1) - 1).toNatClampNeg = b' := by rw [nI_pred]; exact nI_clamp (by omega)
      conv => whnf
      refine ⟨⟨by rw [nI_pred]; exact vp_in_nI (N := 10) (by omega) (by decide), rfl⟩, ?_⟩
      conv => whnf
      rw [e2]
      refine ⟨rfl, rfl, C b', hc2, ?_⟩
      conv => whnf
      refine ⟨fun h2 => ?_, fun h2 => ?_⟩
      · conv => whnf
        refine half none _ ?_
        unfold cLow at h
        rw [if_neg (fun q => Int32.not_lt.mpr h2 q.2)] at h
        exact h
      · conv => whnf
        refine ⟨⟨by rw [nI_pred]; exact vp_in_nI (N := 10) (by omega) (by decide), rfl⟩, ?_⟩
        conv => whnf
        rw [e2]
        refine ⟨rfl, rfl, C b', hc2, ?_⟩
        conv => whnf
        rw [nI_pred]
        refine half (some b') _ ?_
        unfold cLow at h
        rw [if_pos ⟨h0, Int32.not_le.mp h2⟩] at h
        exact h
  · exact h.elim
/-- what erosion takes, as the class computes it -/
def lTk (tb tv e t : Int32) : Int32 := (if t.toInt64 < (tb.toInt64 - tv.toInt64) * e.toInt64 / Int64.ofNat 1000 then t.toInt64 else (tb.toInt64 - tv.toInt64) * e.toInt64 / Int64.ofNat 1000).toInt32
def cTk (C : Cru) (b v : Nat) (e : Int32) : Int32 := lTk (ltop (C b)) (ltop (C v)) e (match (C b).1 with
  | [] => 0
  | x :: _ => x.2.2)
def f_X1_takenBetween : gF := fun av M post => match av with
  | [.inr (.inl (1, p)), .inl v, .inl w, .inl er] => ∃ C b u, crR M p C ∧ b < 10 ∧ u < 10 ∧ ¬ (C b).1 = [] ∧ v = nI b ∧ w = nI u ∧ post (some (.inl (cTk C b u er))) M
  | _ => False
theorem lk_X1_takenBetween (l : Launch) : gLinks l RX1 2 [(gTn f_X0_top, 0, 0, 0)] pX1_takenBetween := And.intro gf_RX1_11 (And.intro ⟨gTn f_X0_top, 0, yX0_top, cX0_top, 1, (some .int), 1, _, rfl, by decide, yi_yX0_top, ok_X0_top l, by decide, by decide, rfl, rfl, ml_RX1_40, im_yX0_top, se_yX0_top⟩ (And.intro gf_RX1_11 (And.intro ⟨gTn f_X0_top, 0, yX0_top, cX0_top, 1, (some .int), 1, _, rfl, by decide, yi_yX0_top, ok_X0_top l, by decide, by decide, rfl, rfl, ml_RX1_40, im_yX0_top, se_yX0_top⟩ (And.intro kc_RX1_52 (And.intro gf_RX1_11 (And.intro gf_RX1_54 (And.intro ⟨by decide, ml_RX1_58⟩ (trivial))))))))
theorem ok_X1_takenBetween (l : Launch) : gOK l yX1_takenBetween cX1_takenBetween 6 (some .int) 2 0 0 (gTn f_X1_takenBetween) := by
  refine gM_of (by decide +kernel) pX1_takenBetween_ok (lk_X1_takenBetween l) ?_
  intro SL SX K P av M run h
  unfold f_X1_takenBetween at h
  split at h
  · rename_i p v w er
    obtain ⟨C, b, u, hC, hb, hu, hne, rfl, rfl, h⟩ := h
    refine ⟨⟨by simp [gC1], Nat.le_of_ble_eq_true rfl⟩, ?_⟩
    have hc := hC b hb
    have hc2 := hC u hu
    have e : (nI b).toNatClampNeg = b := nI_clamp (by omega)
    have e2 : (nI u).toNatClampNeg = u := nI_clamp (by omega)
    refine run [] 1000 _ _ _ _ _ _ rfl ?_
    conv => whnf
    refine ⟨⟨vp_in_nI (N := 10) (by omega) (by decide), rfl⟩, ?_⟩
    conv => whnf
    rw [e]
    refine ⟨rfl, rfl, C b, hc, ?_⟩
    conv => whnf
    refine ⟨⟨vp_in_nI (N := 10) (by omega) (by decide), rfl⟩, ?_⟩
    conv => whnf
    rw [e2]
    refine ⟨rfl, rfl, C u, hc2, ?_⟩
    conv => whnf
    refine ⟨by decide, ?_⟩
    conv => whnf
    refine ⟨⟨vp_in_nI (N := 10) (by omega) (by decide), rfl⟩, ?_⟩
    conv => whnf
    refine ⟨vp_in_nI (n := 0) (by omega) (by decide), ?_⟩
    conv => whnf
    rw [e]
    unfold cTk lTk at h
    cases hl : (C b).1 with
    | nil => exact absurd hl hne
    | cons x t =>
      have h5 := (hc.2.2.2 0 x (by rw [hl]; rfl)).2.2
      rw [hl] at h
      rw [show M (p + 1 + (gEl 8).2.1 + (gEl 8).2.2.1 * b + 3) (0 : Int32).toNatClampNeg = x.2.2 from h5]
      exact ⟨rfl, h⟩
  · exact h.elim
def cWhy (C : Cru) (b : Nat) (e : Int32) : Int32 := if (C b).1 = [] then 1 else if icy (C b).1 = true then 2 else match cLow C b with
  | none => 3
  | some v => if cTk C b v e = 0 then 4 else 0
def f_X1_reason : gF := fun av M post => match av with
  | [.inr (.inl (1, p)), .inl v, .inl er] => ∃ C b, crR M p C ∧ b < 10 ∧ v = nI b ∧ post (some (.inl (cWhy C b er))) M
  | _ => False
theorem nI_none {k : Nat} (h : k < 10) : ¬ nI k = -100000009 := fun q => by
  have := congrArg Int32.toInt q
  rw [nI_toInt (by omega), show ((-100000009 : Int32)).toInt = -100000009 from by decide] at this
  omega
theorem lk_X1_reason (l : Launch) : gLinks l RX1 3 [(gTn f_X0_hasIceOnTop, 0, 0, 0), (gTn f_X1_lowerNeighbor, 0, 0, 1), (gTn f_X1_takenBetween, 0, 0, 1)] pX1_reason := And.intro gf_RX1_11 (And.intro gf_RX1_22 (And.intro gf_RX1_11 (And.intro ⟨gTn f_X0_hasIceOnTop, 0, yX0_hasIceOnTop, cX0_hasIceOnTop, 1, (some .boolean), 0, _, rfl, by decide, yi_yX0_hasIceOnTop, ok_X0_hasIceOnTop l, by decide, by decide, rfl, rfl, ml_RX1_30, im_yX0_hasIceOnTop, se_yX0_hasIceOnTop⟩ (And.intro ⟨gTn f_X1_lowerNeighbor, 1, yX1_lowerNeighbor, cX1_lowerNeighbor, 4, (some .int), 2, _, rfl, by decide, yi_yX1_lowerNeighbor, ok_X1_lowerNeighbor l, by decide, by decide, rfl, rfl, ml_RX1_44, im_yX1_lowerNeighbor, se_yX1_lowerNeighbor⟩ (And.intro kc_RX1_43 (And.intro ⟨gTn f_X1_takenBetween, 1, yX1_takenBetween, cX1_takenBetween, 6, (some .int), 2, _, rfl, by decide, yi_yX1_takenBetween, ok_X1_takenBetween l, by decide, by decide, rfl, rfl, ml_RX1_48, im_yX1_takenBetween, se_yX1_takenBetween⟩ (trivial)))))))
theorem ok_X1_reason (l : Launch) : gOK l yX1_reason cX1_reason 4 (some .int) 3 0 0 (gTn f_X1_reason) := by
  refine gM_of (by decide +kernel) pX1_reason_ok (lk_X1_reason l) ?_
  intro SL SX K P av M run h
  unfold f_X1_reason at h
  split at h
  · rename_i p v er
    obtain ⟨C, b, hC, hb, rfl, h⟩ := h
    refine ⟨⟨by simp [gC1], Nat.le_of_ble_eq_true rfl⟩, ?_⟩
    have hc := hC b hb
    have hk8 := hc.1
    have e : (nI b).toNatClampNeg = b := nI_clamp (by omega)
    unfold cWhy at h
    refine run [] 1000 _ _ _ _ _ _ rfl ?_
    conv => whnf
    refine ⟨⟨vp_in_nI (N := 10) (by omega) (by decide), rfl⟩, ?_⟩
    conv => whnf
    rw [e, show M (p + 1 + (gEl 8).2.1 + (gEl 8).2.2.1 * b) 3 = nI (C b).1.length from hc.2.1]
    refine ⟨fun h1 => ?_, fun h1 => ?_⟩
    · have hne : ¬ (C b).1 = [] := fun q => h1 (by rw [q]; rfl)
      rw [if_neg hne] at h
      conv => whnf
      refine ⟨⟨vp_in_nI (N := 10) (by omega) (by decide), rfl⟩, ?_⟩
      conv => whnf
      rw [e]
      refine ⟨rfl, rfl, C b, hc, ?_⟩
      conv => whnf
      refine ⟨fun h2 => ?_, fun h2 => ?_⟩
      · have h0 : ¬ icy (C b).1 = true := fun q => by rw [if_pos q] at h2; exact absurd h2 (by decide)
        rw [if_neg h0] at h
        conv => whnf
        refine ⟨rfl, rfl, C, b, hC, hb, rfl, ?_⟩
        conv => whnf
        cases hl : cLow C b with
        | none =>
          rw [hl] at h
          refine ⟨fun h3 => ?_, fun h3 => ?_⟩
          · exact absurd rfl h3
          · conv => whnf
            exact ⟨rfl, h⟩
        | some u =>
          rw [hl] at h
          have hu := cLow_lt hb hl
          refine ⟨fun h3 => ?_, fun h3 => ?_⟩
          · conv => whnf
            refine ⟨rfl, rfl, C, b, u, hC, hb, hu, hne, rfl, rfl, ?_⟩
            conv => whnf
            refine ⟨fun h4 => ?_, fun h4 => ?_⟩
            · conv => whnf
              have h : P (some (.inl (if cTk C b u er = 0 then 4 else 0))) M := h
              rw [if_neg h4] at h
              exact ⟨rfl, h⟩
            · conv => whnf
              have h : P (some (.inl (if cTk C b u er = 0 then 4 else 0))) M := h
              rw [if_pos h4] at h
              exact ⟨rfl, h⟩
          · exact absurd h3 (nI_none hu)
      · conv => whnf
        have h0 : icy (C b).1 = true := by
          by_cases q : icy (C b).1 = true
          · exact q
          · exact absurd (if_neg q) h2
        rw [if_pos h0] at h
        exact ⟨rfl, h⟩
    · conv => whnf
      have h0 : (C b).1 = [] := by
        rcases Nat.eq_zero_or_pos (C b).1.length with q | q
        · exact List.eq_nil_of_length_eq_zero q
        · exact absurd h1 (nI_ne0 q (nI_lt8 hk8))
      rw [if_pos h0] at h
      exact ⟨rfl, h⟩
  · exact h.elim
/-- nothing changes but the cells from p on, n of them -/
def gFn (M M' : gM) (p n : Nat) : Prop := ∀ q, (q < p ∨ p + n ≤ q) → M' q = M q
theorem gFn.rf (M : gM) (p n : Nat) : gFn M M p n := fun _ _ => rfl
theorem gFn.tr {M M1 M2 : gM} {p n : Nat} (h : gFn M M1 p n) (h2 : gFn M1 M2 p n) : gFn M M2 p n := fun q hq => (h2 q hq).trans (h q hq)
theorem gFr.fn {M M' : gM} {p q n : Nat} (h : gFr M M' q) (h1 : p ≤ q) (h2 : q + 4 ≤ p + n) : gFn M M' p n := fun r hr => h r (by omega)
theorem gFn.mono {M M' : gM} {p n q k : Nat} (h : gFn M M' p n) (h1 : q ≤ p) (h2 : p + n ≤ q + k) : gFn M M' q k := fun r hr => h r (by omega)
theorem gFn.up {M : gM} {p n q k : Nat} {x : Int32} (h1 : p ≤ q) (h2 : q < p + n) : gFn M (gUp M q k x) p n := fun q' hq => gUp_row (by omega)
theorem colR.fn {M M' : gM} {p q n : Nat} {c : Col} (h : colR M q c) (hf : gFn M M' p n) (hd : q + 3 < p ∨ p + n ≤ q) : colR M' q c := h.kept fun r h1 h2 => hf r (by omega)
theorem crR.fn {M M' : gM} {p q n : Nat} {C : Cru} (h : crR M q C) (hf : gFn M M' p n) (hd : q + 42 ≤ p ∨ p + n ≤ q + 2) : crR M' q C := fun i hi => (h i hi).fn hf (by omega)
def cSet (C : Cru) (b : Nat) (c : Col) : Cru := fun i => if i = b then c else C i
/-- one column of the crust is another one -/
theorem crR.set {M M' : gM} {p b : Nat} {C : Cru} {c : Col} (h : crR M p C) (hb : b < 10) (hc : colR M' (p + 1 + 1 + 4 * b) c) (hf : gFr M M' (p + 1 + 1 + 4 * b)) : crR M' p (cSet C b c) := by
  intro i hi
  unfold cSet
  by_cases hib : i = b
  · subst hib
    rw [if_pos rfl]
    exact hc
  · rw [if_neg hib]
    exact (h i hi).fr hf (by omega)
def f_X1_copyFrom : gF := fun av M post => match av with
  | [.inr (.inl (1, p)), .inr (.inl (1, q))] => ∃ C, crR M q C ∧ (q + 42 ≤ p ∨ p + 42 ≤ q) ∧ ∀ M', crR M' p C → gFn M M' (p + 2) 40 → post none M'
  | _ => False
theorem lk_X1_copyFrom (l : Launch) : gLinks l RX1 2 [(gTn f_X0_copyFrom, 0, 0, 0)] pX1_copyFrom := And.intro gf_RX1_11 (And.intro gf_RX1_11 (And.intro ⟨gTn f_X0_copyFrom, 0, yX0_copyFrom, cX0_copyFrom, 2, none, 1, _, rfl, by decide, yi_yX0_copyFrom, ok_X0_copyFrom l, by decide, by decide, rfl, rfl, ml_RX1_18, im_yX0_copyFrom, se_yX0_copyFrom⟩ (trivial)))
theorem ok_X1_copyFrom (l : Launch) : gOK l yX1_copyFrom cX1_copyFrom 3 none 2 0 0 (gTn f_X1_copyFrom) := by
  refine gM_of (by decide +kernel) pX1_copyFrom_ok (lk_X1_copyFrom l) ?_
  intro SL SX K P av M run h
  unfold f_X1_copyFrom at h
  split at h
  · rename_i p q
    obtain ⟨C, hC, hd, h⟩ := h
    refine ⟨⟨by simp [gC1], Nat.le_of_ble_eq_true rfl⟩, ?_⟩
    refine run [2] 1000 _ _ _ _ _ _ rfl ?_
    conv => whnf
    refine upto (n := 10) (A := fun k => ∀ M', (∀ i, i < k → colR M' (p + 1 + 1 + 4 * i) (C i)) → gFn M M' (p + 2) 40 → K 2 [some (.inr (.inl (1, p))), some (.inr (.inl (1, q))), some (.inl (nI k))] [] M' gB0) ?_ (fun k hk ih => ?_) 0 (Nat.zero_le _) M (fun i hi => absurd hi (Nat.not_lt_zero i)) (gFn.rf _ _ _)
    · intro M' h1 h2
      refine run [2] 1000 _ _ _ _ _ _ rfl ?_
      conv => whnf
      refine ⟨fun h3 => ?_, fun h3 => ?_⟩
      · conv => whnf
        exact ⟨rfl, h M' h1 h2⟩
      · exact absurd (nI_le (Nat.le_refl 10) (by decide)) h3
    · intro M' h1 h2
      have e : (nI k).toNatClampNeg = k := nI_clamp (by omega)
      have hc := (hC.fn h2 (by omega)) k hk
      refine run [2] 1000 _ _ _ _ _ _ rfl ?_
      conv => whnf
      refine ⟨fun h3 => ?_, fun h3 => ?_⟩
      · exact absurd h3 (nI_ge hk (by decide))
      · conv => whnf
        refine ⟨⟨vp_in_nI (N := 10) (by omega) (by decide), rfl⟩, ?_⟩
        conv => whnf
        refine ⟨⟨vp_in_nI (N := 10) (by omega) (by decide), rfl⟩, ?_⟩
        conv => whnf
        rw [e]
        refine ⟨rfl, rfl, C k, hc, ?_, fun M2 g1 g2 => ?_⟩
        · show q + 1 + 1 + 4 * k + 3 < p + 1 + 1 + 4 * k ∨ p + 1 + 1 + 4 * k + 3 < q + 1 + 1 + 4 * k
          omega
        · conv => whnf
          rw [nI_1]
          refine ih M2 (fun i hi => ?_) (h2.tr (g2.fn (by show p + 2 ≤ p + 1 + 1 + 4 * k; omega) (by show p + 1 + 1 + 4 * k + 4 ≤ p + 2 + 40; omega)))
          by_cases hik : i = k
          · subst hik
            exact g1
          · exact (h1 i (by omega)).fr g2 (by show p + 1 + 1 + 4 * i + 3 < p + 1 + 1 + 4 * k ∨ p + 1 + 1 + 4 * k + 3 < p + 1 + 1 + 4 * i; omega)
  · exact h.elim
