/-! the model: run -/
def mStepN (S : St) : Nat → St
  | 0 => S
  | n + 1 => mStep (mStepN S n)
/-- the model's steps go as the class's -/
def mOk (S : St) (n : Nat) : Prop := (∀ i, i < n → mGood (mIceN (mStepN S i) 10)) ∧ mStepN S n = stAdd (sStepN S n) (nI n)
theorem moR.st2 {M M' : gM} {σ : Wd} {S : St} (h : moR M σ) (hS : msR (M' 927) S) (hf : gFe M M') : moR M' (S, σ.2) := by
  obtain ⟨h1, ⟨a1, a2, a3⟩, b1, b2, b3⟩ := h
  refine ⟨hS, ⟨a1, ?_, fun i S hi => ?_⟩, b1, ?_, fun k hk => ?_⟩
  · rw [hf 926 (by decide) (by decide)]; exact a2
  · rw [hf 929 (by decide) (by decide)]; exact a3 i S hi
  · rw [hf 926 (by decide) (by decide)]; exact b2
  · rw [hf 930 (by decide) (by decide)]; exact b3 k hk
theorem gFe.fm {M M' : gM} (h : gFe M M') : gFm M M' := fun r a => h r (by omega) (by omega)
def f_X7_run : gF := fun av M post => match av with
  | [.inr (.inl (7, p)), .inl n] => p = 926 ∧ ∃ σ, moR M σ ∧ (1 ≤ n ∧ n ≤ 50 → mOk σ.1 n.toNatClampNeg) ∧ mQ M (oRun σ n) post
  | _ => False
theorem lk_X7_run (l : Launch) : gLinks l RX7 7 [(gTn f_X7_in, 0, 0, 99), (gTn f_X7_act, 0, 0, 7), (gTn f_X7_step, 0, 0, 7)] pX7_run := And.intro gf_RX7_31 (And.intro ⟨gTn f_X7_in, 99, yX7_in, cX7_in, 3, (some .boolean), 0, rfl, yi_yX7_in, ok_X7_in l, by decide, Or.inl ml_RX7_38, sm_yX7_in⟩ (And.intro kc_RX7_71 (And.intro gf_RX7_7 (And.intro kc_RX7_72 (And.intro ⟨gTn f_X7_act, 7, yX7_act, cX7_act, 2, none, 0, _, rfl, by decide, yi_yX7_act, ok_X7_act l, by decide, by decide, rfl, rfl, ml_RX7_73, im_yX7_act, se_yX7_act⟩ (And.intro ⟨gTn f_X7_step, 7, yX7_step, cX7_step, 2, none, 6, _, rfl, by decide, yi_yX7_step, ok_X7_step l, by decide, by decide, rfl, rfl, ml_RX7_134, im_yX7_step, se_yX7_step⟩ (And.intro gf_RX7_7 (trivial))))))))
theorem ok_X7_run (l : Launch) : gOK l yX7_run cX7_run 3 (some .int) 7 0 0 (gTn f_X7_run) := by
  refine gM_of (by decide +kernel) pX7_run_ok (lk_X7_run l) ?_
  intro SL SX K P av M run h
  unfold f_X7_run at h
  split at h
  · rename_i p n
    obtain ⟨rfl, σ, hσ0, hok, h⟩ := h
    refine ⟨⟨by simp [gC1], Nat.le_of_ble_eq_true rfl⟩, ?_⟩
    have hσ := hσ0.th
    have f0 := gFm.up M (q := 926) 0 0 (Nat.le_refl _)
    unfold oRun at h
    refine run [43] 1000 _ _ _ _ _ _ rfl ?_
    conv => whnf
    refine ⟨rfl, rfl, ?_⟩
    conv => whnf
    by_cases hn : 1 ≤ n ∧ n ≤ 50
    · rw [if_pos hn]
      rw [if_neg (fun a => a hn)] at h
      obtain ⟨ok1, ok2⟩ := hok hn
      refine ⟨fun h1 => ?_, fun h1 => ?_⟩
      · conv => whnf
        refine ⟨vp_in_nI (n := 265) (by decide) (by decide), ?_⟩
        conv => whnf
        rw [show gUp M 926 0 0 (926 + 1) (Int32.toNatClampNeg 265) = σ.1.2.2.2.2.2 from hσ.1.2.2.2.2.2.2]
        refine ⟨fun h2 => ?_, fun h2 => ?_⟩
        · conv => whnf
          rw [if_neg (Int32.not_lt.mpr h2)] at h
          obtain ⟨m, hm, rfl⟩ := nI_bd (n := 50) (by decide) (Int32.le_trans (by decide) hn.1) hn.2
          have e : (nI m).toNatClampNeg = m := nI_clamp (by omega)
          rw [e] at h ok1 ok2
          refine ⟨rfl, rfl, rfl, _, _, hσ.2.1, hσ.1, fun M1 g1 g2 => ?_⟩
          have k1 := hσ.act g1 g2
          conv => whnf
          refine upto (n := m) (A := fun i => ∀ M', msR (M' 927) (mStepN σ.1 i) → gFe M1 M' → K 43 [some (.inr (.inl (7, 926))), some (.inl (nI m)), some (.inl (nI i))] [] M' gB0) ?_ (fun i hi ih => ?_) 0 (Nat.zero_le _) M1 k1.1 (fun _ _ _ => rfl)
          · intro M' h3 h4
            rw [ok2] at h3
            refine run [43] 1000 _ _ _ _ _ _ rfl ?_
            conv => whnf
            refine ⟨fun h5 => ?_, fun h5 => ?_⟩
            · conv => whnf
              refine ⟨vp_in_nI (n := 265) (by decide) (by decide), ?_⟩
              conv => whnf
              have h9 := h M' (k1.st2 h3 h4) ((f0.tr g2.fm).tr h4.fm)
              rw [show σ.1.2.2.2.2.2 + nI m = M' 927 265 from by rw [h3.2.2.2.2.2.2]; show _ = (sStepN σ.1 m).2.2.2.2.2 + nI m; rw [sStepN_steps]] at h9
              exact ⟨rfl, h9⟩
            · exact absurd (nI_le (Nat.le_refl m) (by omega)) h5
          · intro M' h3 h4
            refine run [43] 1000 _ _ _ _ _ _ rfl ?_
            conv => whnf
            refine ⟨fun h5 => ?_, fun h5 => ?_⟩
            · exact absurd h5 (nI_ge hi (by omega))
            · conv => whnf
              refine ⟨rfl, rfl, rfl, _, h3, ok1 i hi, fun M2 g3 g4 => ?_⟩
              conv => whnf
              rw [nI_1]
              exact ih M2 g3 (h4.tr g4)
        · conv => whnf
          rw [if_pos (Int32.not_le.mp h2)] at h
          exact ⟨rfl, h.no hσ f0 rfl⟩
      · exact absurd h1 (by decide)
    · rw [if_neg hn]
      rw [if_pos hn] at h
      refine ⟨fun h1 => ?_, fun h1 => ?_⟩
      · exact absurd rfl h1
      · conv => whnf
        exact ⟨rfl, h.no hσ f0 rfl⟩
  · exact h.elim
