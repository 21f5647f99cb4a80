/-! CrustBlocks: run, take, restore, undo -/
theorem clR.st2 {M M' : gM} {σ : Wd} {S : St} (h : clR M σ) (hS : stR M' 1 S) (h2 : ∀ r, 263 ≤ r → r < 922 → M' r = M r) : clR M' (S, σ.2) := by
  refine ⟨hS, ?_, h.2.2.1.kept (h2 _ (by omega) (by omega)) (h2 _ (by omega) (by omega)), h.2.2.2⟩
  obtain ⟨a1, o, a2, a3, a4, a5⟩ := h.2.1
  refine ⟨a1, o, a2, by rw [h2 _ (by omega) (by omega)]; exact a3, by rw [h2 _ (by omega) (by omega)]; exact a4, fun i S hi => (a5 i S hi).kept fun r b1 b2 => h2 r (by omega) (by omega)⟩
theorem stR.steps {M : gM} {p : Nat} {S : St} (h : stR M p S) (x : Int32) : stR (gUp M p 5 (M p 5 + x)) p (stAdd S x) := by
  obtain ⟨h1, h2, h3, h4, h5, h6⟩ := h
  have f : gFn M (gUp M p 5 (M p 5 + x)) p 1 := gFn.up (Nat.le_refl _) (by omega)
  refine ⟨h1.fn f (by omega), fun j hj => (h2 j hj).fn f (by omega), fun i hi => ?_, fun i hi => ?_, fun i hi => ?_, ?_⟩
  · rw [f (p + 44) (by omega)]; exact h3 i hi
  · rw [f (p + 45) (by omega)]; exact h4 i hi
  · rw [f (p + 46) (by omega)]; exact h5 i hi
  · rw [gUp_same, h6]
    rfl
theorem sIceN_steps (S : St) : ∀ n, (sIceN S n).2.2.2.2.2 = S.2.2.2.2.2
  | 0 => rfl
  | n + 1 => sIceN_steps S n
theorem sEr_steps (S : St) (pl : Nat → Nat) (b : Nat) (tk : Int32) (v : Nat) : (sEr S pl b tk v).1.2.2.2.2.2 = S.2.2.2.2.2 := by
  unfold sEr
  split <;> rfl
theorem erN_steps (S : St) (tk : Nat → Int32) (v : Nat → Nat) : ∀ n, (erN S tk v n).1.2.2.2.2.2 = S.2.2.2.2.2
  | 0 => rfl
  | n + 1 => by
    unfold erN
    split
    · rw [sEr_steps]
      exact erN_steps S tk v n
    · exact erN_steps S tk v n
theorem sFlN_steps (S : St) : ∀ n, (sFlN S n).2.2.2.2.2 = S.2.2.2.2.2
  | 0 => rfl
  | n + 1 => sFlN_steps S n
theorem sStep_steps (S : St) : (sStep S).2.2.2.2.2 = S.2.2.2.2.2 := by
  unfold sStep
  rw [sFlN_steps, erN_steps, sIceN_steps]
theorem sStepN_steps (S : St) : ∀ n, (sStepN S n).2.2.2.2.2 = S.2.2.2.2.2
  | 0 => rfl
  | n + 1 => (sStep_steps _).trans (sStepN_steps S n)
def f_X6_run : gF := fun av M post => match av with
  | [.inr (.inl (6, p)), .inl n] => p = 0 ∧ ∃ σ, clR M σ ∧ cQ M (oRun σ n) post
  | _ => False
theorem lk_X6_run (l : Launch) : gLinks l RX6 6 [(gTn f_X6_isWithin, 0, 0, 99), (gTn f_X2_keep, 0, 0, 2), (gTn f_X4_makeStep, 0, 0, 4)] pX6_run := And.intro ⟨gTn f_X6_isWithin, 99, yX6_isWithin, cX6_isWithin, 3, (some .boolean), 0, rfl, yi_yX6_isWithin, ok_X6_isWithin l, by decide, Or.inl ml_RX6_47, sm_yX6_isWithin⟩ (And.intro kc_RX6_51 (And.intro gf_RX6_10 (And.intro gf_RX6_126 (And.intro kc_RX6_75 (And.intro gf_RX6_22 (And.intro gf_RX6_10 (And.intro ⟨gTn f_X2_keep, 2, yX2_keep, cX2_keep, 2, none, 4, _, rfl, by decide, yi_yX2_keep, ok_X2_keep l, by decide, by decide, rfl, rfl, ml_RX6_76, im_yX2_keep, se_yX2_keep⟩ (And.intro gf_RX6_36 (And.intro gf_RX6_10 (And.intro ⟨gTn f_X4_makeStep, 4, yX4_makeStep, cX4_makeStep, 3, none, 5, _, rfl, by decide, yi_yX4_makeStep, ok_X4_makeStep l, by decide, by decide, rfl, rfl, ml_RX6_129, im_yX4_makeStep, se_yX4_makeStep⟩ (And.intro gf_RX6_10 (And.intro gf_RX6_126 (And.intro gf_RX6_126 (And.intro gf_RX6_10 (And.intro gf_RX6_126 (trivial))))))))))))))))
theorem ok_X6_run (l : Launch) : gOK l yX6_run cX6_run 3 (some .int) 6 0 0 (gTn f_X6_run) := by
  refine gM_of (by decide +kernel) pX6_run_ok (lk_X6_run l) ?_
  intro SL SX K P av M run h
  unfold f_X6_run at h
  split at h
  · rename_i p n
    obtain ⟨rfl, σ, hσ, h⟩ := h
    refine ⟨⟨by simp [gC1], Nat.le_of_ble_eq_true rfl⟩, ?_⟩
    unfold oRun at h
    refine run [44] 1000 _ _ _ _ _ _ rfl ?_
    conv => whnf
    refine ⟨rfl, rfl, ?_⟩
    conv => whnf
    by_cases hn : 1 ≤ n ∧ n ≤ 50
    · rw [if_pos hn]
      rw [if_neg (fun a => a hn)] at h
      refine ⟨fun h1 => ?_, fun h1 => ?_⟩
      · conv => whnf
        rw [show M 1 5 = σ.1.2.2.2.2.2 from hσ.1.2.2.2.2.2]
        refine ⟨fun h2 => ?_, fun h2 => ?_⟩
        · conv => whnf
          rw [if_neg (Int32.not_lt.mpr h2)] at h
          obtain ⟨m, hm, rfl⟩ := nI_bd (n := 50) (by decide) (Int32.le_trans (by decide) hn.1) hn.2
          have e : (nI m).toNatClampNeg = m := nI_clamp (by omega)
          rw [e] at h
          refine ⟨rfl, rfl, _, _, hσ.2.1, hσ.1, by omega, fun M1 g1 g2 => ?_⟩
          have k1 := hσ.act g1 g2
          conv => whnf
          refine upto (n := m) (A := fun i => ∀ M', stR M' 1 (sStepN σ.1 i) → gF2 M1 M' 922 4 1 → K 44 [some (.inr (.inl (6, 0))), some (.inl (nI m)), some (.inl (nI i))] [] M' gB0) ?_ (fun i hi ih => ?_) 0 (Nat.zero_le _) M1 k1.1 (gF2.rf _ _ _ _)
          · intro M' h3 h4
            refine run [44] 1000 _ _ _ _ _ _ rfl ?_
            conv => whnf
            refine ⟨fun h5 => ?_, fun h5 => ?_⟩
            · conv => whnf
              have s2 := h3.steps (nI m)
              have k3 := k1.st2 s2 (fun r a b => by rw [gUp_row (by omega)]; exact h4 r (by omega) (by omega))
              have h9 := h _ k3 (fun r a => by rw [gUp_row (by omega), h4 r (by omega) (by omega)]; exact g2 r (by omega))
              rw [show σ.1.2.2.2.2.2 + nI m = gUp M' 1 5 (M' 1 5 + nI m) 1 5 from by rw [gUp_same, show M' 1 5 = _ from h3.2.2.2.2.2, sStepN_steps]] at h9
              exact ⟨rfl, h9⟩
            · exact absurd (nI_le (Nat.le_refl m) (by omega)) h5
          · intro M' h3 h4
            refine run [44] 1000 _ _ _ _ _ _ rfl ?_
            conv => whnf
            refine ⟨fun h5 => ?_, fun h5 => ?_⟩
            · exact absurd h5 (nI_ge hi (by omega))
            · conv => whnf
              refine ⟨rfl, rfl, _, h3, by omega, fun M2 g3 g4 => ?_⟩
              conv => whnf
              rw [nI_1]
              exact ih M2 g3 (h4.tr g4)
        · conv => whnf
          rw [if_pos (Int32.not_le.mp h2)] at h
          exact ⟨rfl, h.no hσ rfl⟩
      · exact absurd h1 (by decide)
    · rw [if_neg hn]
      rw [if_pos hn] at h
      refine ⟨fun h1 => ?_, fun h1 => ?_⟩
      · exact absurd rfl h1
      · conv => whnf
        exact ⟨rfl, h.no hσ rfl⟩
  · exact h.elim
