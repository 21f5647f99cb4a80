/-! the model: melting, all ice -/
def mMlt (S : St) (b : Nat) : St := match (S.1 b).1 with
  | [] => S
  | x :: _ => if x.1 = 0 then stCol (stAcc S 3 (9 * (if S.2.2.2.1 2 < x.2.2 then S.2.2.2.1 2 else x.2.2))) b (lGr (S.1 b).1 0 (-(if S.2.2.2.1 2 < x.2.2 then S.2.2.2.1 2 else x.2.2)), (S.1 b).2) else S
def mIce (S : St) (b : Nat) : St := if ¬ (S.1 b).1 = [] ∧ S.2.2.2.1 0 < ltop (S.1 b) then mFrz S b else mMlt S b
def mIceN (S : St) : Nat → St
  | 0 => S
  | n + 1 => mIce (mIceN S n) n
def f_X7_melt : gF := fun av M post => match av with
  | [.inr (.inl (7, p)), .inl v] => p = 926 ∧ ∃ S b, msR (M 927) S ∧ b < 10 ∧ v = nI b ∧ ∀ M', msR (M' 927) (mMlt S b) → gFs M M' 0 795 → post none M'
  | _ => False
theorem lk_X7_melt (l : Launch) : gLinks l RX7 3 [(gTn f_X7_isIcy, 0, 0, 7), (gTn f_X7_at, 0, 0, 99), (gTn f_X7_less, 0, 0, 99), (gTn f_X7_grow, 0, 0, 7)] pX7_melt := And.intro ⟨gTn f_X7_isIcy, 7, yX7_isIcy, cX7_isIcy, 2, (some .boolean), 2, _, rfl, by decide, yi_yX7_isIcy, ok_X7_isIcy l, by decide, by decide, rfl, rfl, ml_RX7_92, im_yX7_isIcy, se_yX7_isIcy⟩ (And.intro gf_RX7_7 (And.intro gf_RX7_7 (And.intro ⟨gTn f_X7_at, 99, yX7_at, cX7_at, 2, (some .int), 0, rfl, yi_yX7_at, ok_X7_at l, by decide, Or.inl ml_RX7_42, sm_yX7_at⟩ (And.intro ⟨gTn f_X7_less, 99, yX7_less, cX7_less, 2, (some .int), 0, rfl, yi_yX7_less, ok_X7_less l, by decide, Or.inl ml_RX7_99, sm_yX7_less⟩ (And.intro gf_RX7_7 (And.intro ⟨gTn f_X7_grow, 7, yX7_grow, cX7_grow, 4, none, 2, _, rfl, by decide, yi_yX7_grow, ok_X7_grow l, by decide, by decide, rfl, rfl, ml_RX7_95, im_yX7_grow, se_yX7_grow⟩ (trivial)))))))
theorem ok_X7_melt (l : Launch) : gOK l yX7_melt cX7_melt 3 none 3 0 0 (gTn f_X7_melt) := by
  refine gM_of (by decide +kernel) pX7_melt_ok (lk_X7_melt l) ?_
  intro SL SX K P av M run h
  unfold f_X7_melt at h
  split at h
  · rename_i p v
    obtain ⟨rfl, S, b, hS, hb, rfl, h⟩ := h
    refine ⟨⟨by simp [gC1], Nat.le_of_ble_eq_true rfl⟩, ?_⟩
    have hc := hS.1 b hb
    have e2 : M 927 262 = S.2.2.2.1 2 := hS.2.2.2.1 2 (by decide)
    unfold mMlt at h
    refine run [55] 1000 _ _ _ _ _ _ rfl ?_
    conv => whnf
    refine ⟨rfl, rfl, rfl, b, _, hb, rfl, hc, ?_⟩
    conv => whnf
    have fin : ∀ M' v, P none M' → K 55 [some (.inr (.inl (7, 926))), some (.inl (nI b)), v] [] M' gB0 := by
      intro M' v hM
      refine run [] 1000 _ _ _ _ _ _ rfl ?_
      conv => whnf
      exact ⟨rfl, hM⟩
    cases hl : (S.1 b).1 with
    | nil =>
      rw [hl] at h
      refine ⟨fun h1 => ?_, fun h1 => ?_⟩
      · conv => whnf
        exact fin _ _ (h _ hS (gFs.rf _ _ _))
      · exact absurd rfl h1
    | cons x t =>
      rw [hl] at h
      have hx := hc.2.2.2 0 x (by rw [hl]; rfl)
      have e : icy (x :: t) = decide (x.1 = 0) := rfl
      rw [e]
      dsimp only at h
      by_cases hi : x.1 = 0
      · rw [if_pos hi] at h
        rw [if_pos (by simpa using hi)]
        refine ⟨fun h1 => ?_, fun h1 => ?_⟩
        · exact absurd h1 (by decide)
        · conv => whnf
          refine ⟨vp_in_nI (n := 262) (by decide) (by decide), ?_⟩
          conv => whnf
          refine ⟨rfl, rfl, b, 0, rfl, rfl, ?_⟩
          conv => whnf
          rw [show nI (26 * b + 2 + 3 * 0) + 2 = nI (26 * b + 2 + 3 * 0 + 2) from nI_add _ 2]
          refine ⟨vp_in_nI (by omega) (by decide), ?_⟩
          conv => whnf
          rw [nI_clamp (by omega), show M 927 (Int32.toNatClampNeg 262) = S.2.2.2.1 2 from e2, hx.2.2]
          refine ⟨rfl, rfl, ?_⟩
          conv => whnf
          refine ⟨vp_in_nI (n := 269) (by decide) (by decide), ?_⟩
          conv => whnf
          refine ⟨vp_in_nI (n := 269) (by decide) (by decide), ?_⟩
          conv => whnf
          have s1 := hS.accM (k := 3) (by decide) (9 * (if S.2.2.2.1 2 < x.2.2 then S.2.2.2.1 2 else x.2.2))
          have f1 := gFs.up M (a := 0) (n := 795) (k := 266 + 3) (M 927 (266 + 3) + 9 * (if S.2.2.2.1 2 < x.2.2 then S.2.2.2.1 2 else x.2.2)) (by decide) (by decide)
          refine ⟨rfl, rfl, rfl, b, 0, (x :: t, (S.1 b).2), hb, rfl, rfl, ?_, Nat.succ_pos _, fun M1 g1 g2 => ?_⟩
          · have := s1.1 b hb
            rw [show (stAcc S 3 (9 * (if S.2.2.2.1 2 < x.2.2 then S.2.2.2.1 2 else x.2.2))).1 b = (x :: t, (S.1 b).2) from Prod.ext hl rfl] at this
            exact this
          · conv => whnf
            exact fin _ _ (h M1 (s1.colM hb g1 g2) (f1.tr (g2.mono (by omega) (by omega))))
      · rw [if_neg hi] at h
        rw [if_neg (by simpa using hi)]
        refine ⟨fun h1 => ?_, fun h1 => ?_⟩
        · conv => whnf
          exact fin _ _ (h _ hS (gFs.rf _ _ _))
        · exact absurd rfl h1
  · exact h.elim
def f_X7_makeIce : gF := fun av M post => match av with
  | [.inr (.inl (7, p))] => p = 926 ∧ ∃ S, msR (M 927) S ∧ ∀ M', msR (M' 927) (mIceN S 10) → gFs M M' 0 795 → post none M'
  | _ => False
theorem lk_X7_makeIce (l : Launch) : gLinks l RX7 4 [(gTn f_X7_of, 0, 0, 7), (gTn f_X7_top, 0, 0, 7), (gTn f_X7_freeze, 0, 0, 7), (gTn f_X7_melt, 0, 0, 7)] pX7_makeIce := And.intro ⟨gTn f_X7_of, 7, yX7_of, cX7_of, 3, (some .int), 0, _, rfl, by decide, yi_yX7_of, ok_X7_of l, by decide, by decide, rfl, rfl, ml_RX7_50, im_yX7_of, se_yX7_of⟩ (And.intro ⟨gTn f_X7_top, 7, yX7_top, cX7_top, 2, (some .int), 2, _, rfl, by decide, yi_yX7_top, ok_X7_top l, by decide, by decide, rfl, rfl, ml_RX7_102, im_yX7_top, se_yX7_top⟩ (And.intro gf_RX7_7 (And.intro ⟨gTn f_X7_freeze, 7, yX7_freeze, cX7_freeze, 3, none, 3, _, rfl, by decide, yi_yX7_freeze, ok_X7_freeze l, by decide, by decide, rfl, rfl, ml_RX7_105, im_yX7_freeze, se_yX7_freeze⟩ (And.intro ⟨gTn f_X7_melt, 7, yX7_melt, cX7_melt, 3, none, 3, _, rfl, by decide, yi_yX7_melt, ok_X7_melt l, by decide, by decide, rfl, rfl, ml_RX7_109, im_yX7_melt, se_yX7_melt⟩ (trivial)))))
theorem ok_X7_makeIce (l : Launch) : gOK l yX7_makeIce cX7_makeIce 2 none 4 0 0 (gTn f_X7_makeIce) := by
  refine gM_of (by decide +kernel) pX7_makeIce_ok (lk_X7_makeIce l) ?_
  intro SL SX K P av M run h
  unfold f_X7_makeIce at h
  split at h
  · rename_i p
    obtain ⟨rfl, S, hS, h⟩ := h
    refine ⟨⟨by simp [gC1], Nat.le_of_ble_eq_true rfl⟩, ?_⟩
    refine run [2] 1000 _ _ _ _ _ _ rfl ?_
    conv => whnf
    refine upto (n := 10) (A := fun b => ∀ M', msR (M' 927) (mIceN S b) → gFs M M' 0 795 → K 2 [some (.inr (.inl (7, 926))), some (.inl (nI b))] [] M' gB0) ?_ (fun b hb ih => ?_) 0 (Nat.zero_le _) M hS (gFs.rf _ _ _)
    · intro M' h1 h2
      refine run [2] 1000 _ _ _ _ _ _ rfl ?_
      conv => whnf
      refine ⟨fun h3 => ?_, fun h3 => ?_⟩
      · conv => whnf
        exact ⟨rfl, h M' h1 h2⟩
      · exact absurd (nI_le (Nat.le_refl 10) (by decide)) h3
    · intro M' h1 h2
      have hc := h1.1 b hb
      have h8 := hc.1
      have melt : ¬ (¬ ((mIceN S b).1 b).1 = [] ∧ (mIceN S b).2.2.2.1 0 < ltop ((mIceN S b).1 b)) → K 41 [some (.inr (.inl (7, 926))), some (.inl (nI b))] [] M' gB0 := by
        intro hn
        refine run [2] 1000 _ _ _ _ _ _ rfl ?_
        conv => whnf
        refine ⟨rfl, rfl, rfl, _, b, h1, hb, rfl, fun M2 g1 g2 => ?_⟩
        conv => whnf
        rw [nI_1]
        refine ih M2 ?_ (h2.tr g2)
        rw [mIceN, mIce, if_neg hn]
        exact g1
      refine run [2, 41] 1000 _ _ _ _ _ _ rfl ?_
      conv => whnf
      refine ⟨fun h3 => ?_, fun h3 => ?_⟩
      · exact absurd h3 (nI_ge hb (by decide))
      · conv => whnf
        refine ⟨rfl, rfl, rfl, b, 0, hb, by decide, rfl, rfl, ?_⟩
        rw [show M' 927 (26 * b + 0) = nI ((mIceN S b).1 b).1.length from hc.2.1]
        conv => whnf
        refine ⟨fun h4 => ?_, fun h4 => ?_⟩
        · conv => whnf
          refine melt (fun q => ?_)
          have : 0 < ((mIceN S b).1 b).1.length := List.length_pos_iff.mpr q.1
          exact nI_ge (a := 0) this (by omega) h4
        · have hne : ¬ ((mIceN S b).1 b).1 = [] := fun q => h4 (by rw [q]; decide)
          conv => whnf
          refine ⟨rfl, rfl, rfl, b, _, hb, rfl, hc, ?_⟩
          conv => whnf
          refine ⟨vp_in_nI (n := 260) (by decide) (by decide), ?_⟩
          conv => whnf
          rw [show M' 927 (Int32.toNatClampNeg 260) = (mIceN S b).2.2.2.1 0 from h1.2.2.2.1 0 (by decide)]
          refine ⟨fun h5 => ?_, fun h5 => ?_⟩
          · conv => whnf
            exact melt (fun q => Int32.not_lt.mpr h5 q.2)
          · conv => whnf
            refine ⟨rfl, rfl, rfl, _, b, h1, hb, rfl, fun M2 g1 g2 => ?_⟩
            conv => whnf
            rw [nI_1]
            refine ih M2 ?_ (h2.tr g2)
            rw [mIceN, mIce, if_pos ⟨hne, Int32.not_le.mp h5⟩]
            exact g1
  · exact h.elim
