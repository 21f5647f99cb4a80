/-! the model: floating, a step -/
def mFld (d b r : Int32) : Int32 := d + (if (b - d) * r / 100 = 0 then (if 0 < b - d then 1 else if b - d < 0 then -1 else 0) else (b - d) * r / 100)
def mFl (S : St) (n : Nat) : St := stCol S n ((S.1 n).1, mFld (S.1 n).2 (lbal (S.1 n).1) (S.2.2.2.1 4))
def mFlN (S : St) : Nat → St
  | 0 => S
  | n + 1 => mFl (mFlN S n) n
theorem mcR.base {M : gM} {i : Nat} {c : Col} (h : mcR (M 927) (26 * i) c) (x : Int32) : mcR (gUp M 927 (26 * i + 1) x 927) (26 * i) (c.1, x) := by
  obtain ⟨h1, h2, h3, h4⟩ := h
  refine ⟨h1, ?_, gUp_same _ _ _ _, fun k y hk => ?_⟩
  · rw [gUp_ne (Or.inr (by omega))]
    exact h2
  · rw [gUp_ne (Or.inr (by omega)), gUp_ne (Or.inr (by omega)), gUp_ne (Or.inr (by omega))]
    exact h4 k y hk
def f_X7_floats : gF := fun av M post => match av with
  | [.inr (.inl (7, p)), .inl v] => p = 926 ∧ ∃ i c, i < 10 ∧ v = nI i ∧ mcR (M 927) (26 * i) c ∧ post none (gUp M 927 (26 * i + 1) (mFld c.2 (lbal c.1) (M 927 264)))
  | _ => False
theorem lk_X7_floats (l : Launch) : gLinks l RX7 4 [(gTn f_X7_balance, 0, 0, 7), (gTn f_X7_of, 0, 0, 7)] pX7_floats := And.intro ⟨gTn f_X7_balance, 7, yX7_balance, cX7_balance, 2, (some .int), 3, _, rfl, by decide, yi_yX7_balance, ok_X7_balance l, by decide, by decide, rfl, rfl, ml_RX7_86, im_yX7_balance, se_yX7_balance⟩ (And.intro ⟨gTn f_X7_of, 7, yX7_of, cX7_of, 3, (some .int), 0, _, rfl, by decide, yi_yX7_of, ok_X7_of l, by decide, by decide, rfl, rfl, ml_RX7_50, im_yX7_of, se_yX7_of⟩ (And.intro gf_RX7_7 (And.intro gf_RX7_7 (trivial))))
theorem ok_X7_floats (l : Launch) : gOK l yX7_floats cX7_floats 4 none 4 0 0 (gTn f_X7_floats) := by
  refine gM_of (by decide +kernel) pX7_floats_ok (lk_X7_floats l) ?_
  intro SL SX K P av M run h
  unfold f_X7_floats at h
  split at h
  · obtain ⟨rfl, i, c, hi, rfl, hc, h⟩ := h
    refine ⟨⟨by simp [gC1], Nat.le_of_ble_eq_true rfl⟩, ?_⟩
    have hb : M 927 (26 * i + 1) = c.2 := hc.2.2.1
    unfold mFld at h
    refine run [] 1000 _ _ _ _ _ _ rfl ?_
    conv => whnf
    refine ⟨rfl, rfl, rfl, i, c, hi, rfl, hc, ?_⟩
    conv => whnf
    refine ⟨rfl, rfl, rfl, i, 1, hi, by decide, rfl, rfl, ?_⟩
    rw [hb]
    conv => whnf
    refine ⟨vp_in_nI (n := 264) (by decide) (by decide), ?_⟩
    conv => whnf
    refine ⟨by decide, ?_⟩
    conv => whnf
    rw [show (26 : Int32) * nI i + 1 = nI (26 * i + 1) from of_at i 1]
    refine ⟨vp_in_nI (by omega) (by decide), ?_⟩
    conv => whnf
    rw [nI_clamp (by omega), hb, show M (926 + 1) (Int32.toNatClampNeg 264) = M 927 264 from rfl]
    refine ⟨fun h1 => ?_, fun h1 => ?_⟩
    · conv => whnf
      rw [if_pos h1] at h
      refine ⟨fun h2 => ?_, fun h2 => ?_⟩
      · conv => whnf
        rw [if_neg (Int32.not_lt.mpr h2)] at h
        refine ⟨fun h3 => ?_, fun h3 => ?_⟩
        · conv => whnf
          rw [if_neg (Int32.not_lt.mpr h3)] at h
          refine ⟨vp_in_nI (by omega) (by decide), ?_⟩
          conv => whnf
          rw [nI_clamp (by omega)]
          exact ⟨rfl, h⟩
        · conv => whnf
          rw [if_pos (Int32.not_le.mp h3)] at h
          refine ⟨vp_in_nI (by omega) (by decide), ?_⟩
          conv => whnf
          rw [nI_clamp (by omega)]
          exact ⟨rfl, h⟩
      · conv => whnf
        rw [if_pos (Int32.not_le.mp h2)] at h
        refine ⟨vp_in_nI (by omega) (by decide), ?_⟩
        conv => whnf
        rw [nI_clamp (by omega)]
        exact ⟨rfl, h⟩
    · conv => whnf
      rw [if_neg h1] at h
      refine ⟨vp_in_nI (by omega) (by decide), ?_⟩
      conv => whnf
      rw [nI_clamp (by omega)]
      exact ⟨rfl, h⟩
  · exact h.elim
def mTk3 (S : St) : Nat → Int32 := fun b => mTak S.1 b (S.2.2.2.1 3)
/-- the losing layer is there when its turn comes -/
def mGood (S : St) : Prop := ∀ n, n < 10 → 0 < mTak S.1 n (S.2.2.2.1 3) → (mErN S (fun b => mTak S.1 b (S.2.2.2.1 3)) (eV S.1) n).2 n < ((mErN S (fun b => mTak S.1 b (S.2.2.2.1 3)) (eV S.1) n).1.1 n).1.length
def mStep (S : St) : St := stAdd (mFlN (mErN (mIceN S 10) (fun b => mTak (mIceN S 10).1 b ((mIceN S 10).2.2.2.1 3)) (eV (mIceN S 10).1) 10).1 10) 1
theorem msR.steps {M : gM} {S : St} (h : msR (M 927) S) (x : Int32) : msR (gUp M 927 265 (M 927 265 + x) 927) (stAdd S x) := by
  obtain ⟨h1, h2, h3, h4, h5, h6, h7⟩ := h
  refine ⟨fun b hb => (h1 b hb).kept fun i hi => gUp_ne (Or.inr (by omega)), fun j hj b hb => (h2 j hj b hb).kept fun i hi => gUp_ne (Or.inr (by omega)), fun j hj => (gUp_ne (Or.inr (by omega))).trans (h3 j hj), fun i hi => (gUp_ne (Or.inr (by omega))).trans (h4 i hi), fun i hi => (gUp_ne (Or.inr (by omega))).trans (h5 i hi), (gUp_ne (Or.inr (by omega))).trans h6, ?_⟩
  rw [gUp_same, h7]
  rfl
theorem gFe.tr {M M1 M2 : gM} (h : gFe M M1) (h2 : gFe M1 M2) : gFe M M2 := fun r a b => (h2 r a b).trans (h r a b)
theorem gFs.fe {M M1 : gM} {a n : Nat} (h : gFs M M1 a n) : gFe M M1 := fun r a _ => h.1 r a
def f_X7_step : gF := fun av M post => match av with
  | [.inr (.inl (7, p))] => p = 926 ∧ ∃ S, msR (M 927) S ∧ mGood (mIceN S 10) ∧ ∀ M', msR (M' 927) (mStep S) → gFe M M' → post none M'
  | _ => False
theorem lk_X7_step (l : Launch) : gLinks l RX7 6 [(gTn f_X7_makeIce, 0, 0, 7), (gTn f_X7_erode, 0, 0, 7), (gTn f_X7_floats, 0, 0, 7)] pX7_step := And.intro ⟨gTn f_X7_makeIce, 7, yX7_makeIce, cX7_makeIce, 2, none, 4, _, rfl, by decide, yi_yX7_makeIce, ok_X7_makeIce l, by decide, by decide, rfl, rfl, ml_RX7_125, im_yX7_makeIce, se_yX7_makeIce⟩ (And.intro ⟨gTn f_X7_erode, 7, yX7_erode, cX7_erode, 4, none, 5, _, rfl, by decide, yi_yX7_erode, ok_X7_erode l, by decide, by decide, rfl, rfl, ml_RX7_128, im_yX7_erode, se_yX7_erode⟩ (And.intro ⟨gTn f_X7_floats, 7, yX7_floats, cX7_floats, 4, none, 4, _, rfl, by decide, yi_yX7_floats, ok_X7_floats l, by decide, by decide, rfl, rfl, ml_RX7_131, im_yX7_floats, se_yX7_floats⟩ (And.intro gf_RX7_7 (trivial))))
theorem ok_X7_step (l : Launch) : gOK l yX7_step cX7_step 2 none 6 0 0 (gTn f_X7_step) := by
  refine gM_of (by decide +kernel) pX7_step_ok (lk_X7_step l) ?_
  intro SL SX K P av M run h
  unfold f_X7_step at h
  split at h
  · rename_i p
    obtain ⟨rfl, S, hS, hg, h⟩ := h
    refine ⟨⟨by simp [gC1], Nat.le_of_ble_eq_true rfl⟩, ?_⟩
    unfold mStep at h
    refine run [10] 1000 _ _ _ _ _ _ rfl ?_
    conv => whnf
    refine ⟨rfl, rfl, rfl, S, hS, fun M1 g1 g2 => ?_⟩
    conv => whnf
    refine ⟨rfl, rfl, rfl, _, g1, hg, fun M2 g3 g4 => ?_⟩
    have f2 := g2.fe.tr g4
    generalize (mErN (mIceN S 10) (fun b => mTak (mIceN S 10).1 b ((mIceN S 10).2.2.2.1 3)) (eV (mIceN S 10).1) 10).1 = T at h g3
    conv => whnf
    refine upto (n := 10) (A := fun b => ∀ M', msR (M' 927) (mFlN T b) → gFe M M' → K 10 [some (.inr (.inl (7, 926))), some (.inl (nI b))] [] M' gB0) ?_ (fun b hb ih => ?_) 0 (Nat.zero_le _) M2 g3 f2
    · intro M' h1 h2
      refine run [10] 1000 _ _ _ _ _ _ rfl ?_
      conv => whnf
      refine ⟨fun h3 => ?_, fun h3 => ?_⟩
      · conv => whnf
        refine ⟨vp_in_nI (n := 265) (by decide) (by decide), ?_⟩
        conv => whnf
        refine ⟨vp_in_nI (n := 265) (by decide) (by decide), ?_⟩
        conv => whnf
        exact ⟨rfl, h _ (h1.steps 1) (fun r a b => by rw [gUp_row a]; exact h2 r a b)⟩
      · exact absurd (nI_le (Nat.le_refl 10) (by decide)) h3
    · intro M' h1 h2
      have hc := h1.1 b hb
      refine run [10] 1000 _ _ _ _ _ _ rfl ?_
      conv => whnf
      refine ⟨fun h3 => ?_, fun h3 => ?_⟩
      · exact absurd h3 (nI_ge hb (by decide))
      · conv => whnf
        refine ⟨rfl, rfl, rfl, b, _, hb, rfl, hc, ?_⟩
        conv => whnf
        rw [nI_1]
        refine ih _ ?_ (fun r a1 a2 => by rw [gUp_row a1]; exact h2 r a1 a2)
        rw [show M' 927 264 = (mFlN T b).2.2.2.1 4 from h1.2.2.2.1 4 (by decide)]
        exact h1.colM hb (hc.base _) (gFs.up M' _ (by omega) (by omega))
  · exact h.elim
