/-! the model: act -/
/-- only the kept states changed -/
def gFk (M M' : gM) : Prop := (∀ r, r ≠ 929 → r ≠ 926 → M' r = M r) ∧ ∀ k, k ≠ 4 → M' 926 k = M 926 k
def f_X7_act : gF := fun av M post => match av with
  | [.inr (.inl (7, p))] => p = 926 ∧ ∃ hs S, mhR M hs ∧ msR (M 927) S ∧ ∀ M', mhR M' (hKeep hs S) → gFk M M' → post none M'
  | _ => False
theorem lk_X7_act (l : Launch) : gLinks l RX7 0 [] pX7_act := And.intro gf_RX7_35 (And.intro gf_RX7_16 (And.intro gf_RX7_16 (And.intro gf_RX7_35 (And.intro gf_RX7_35 (And.intro gf_RX7_16 (And.intro gf_RX7_35 (And.intro gf_RX7_7 (And.intro gf_RX7_35 (And.intro gf_RX7_35 (trivial))))))))))
theorem ok_X7_act (l : Launch) : gOK l yX7_act cX7_act 2 none 0 0 0 (gTn f_X7_act) := by
  refine gM_of (by decide +kernel) pX7_act_ok (lk_X7_act l) ?_
  intro SL SX K P av M run h
  unfold f_X7_act at h
  split at h
  · obtain ⟨rfl, hs, S, hh, hS, h⟩ := h
    refine ⟨⟨by simp [gC1], Nat.le_of_ble_eq_true rfl⟩, ?_⟩
    have tail49 : ∀ M1 hs1 v, hs1.length < 5 → mhR M1 hs1 → gFk M M1 → (∀ M', mhR M' (hs1 ++ [S]) → gFk M M' → P none M') → K 49 [some (.inr (.inl (7, 926))), v] [] M1 gB0 := by
      intro M1 hs1 v hl g1 g2 h
      have hS1 : msR (M1 927) S := hS.kept fun k _ => by rw [g2.1 927 (by decide) (by decide)]
      refine run [51] 1000 _ _ _ _ _ _ rfl ?_
      conv => whnf
      have q := upto (n := 795) (A := fun k => K 51 [some (.inr (.inl (7, 926))), some (.inl (nI k))] [] (gRw M1 929 (fun z => if 795 * hs1.length ≤ z ∧ z < 795 * hs1.length + k then M1 927 (z - 795 * hs1.length) else M1 929 z)) gB0) (by
        refine run [51] 1000 _ _ _ _ _ _ rfl ?_
        conv => whnf
        refine ⟨fun h3 => ?_, fun h3 => ?_⟩
        · conv => whnf
          rw [show gRw M1 929 (fun z => if 795 * hs1.length ≤ z ∧ z < 795 * hs1.length + 795 then M1 927 (z - 795 * hs1.length) else M1 929 z) 926 4 = nI hs1.length from g1.2.1, nI_1]
          refine ⟨rfl, h _ ⟨by simp; omega, ?_, fun i T hi => ?_⟩ ⟨fun r a b => ?_, fun k a => ?_⟩⟩
          · rw [gUp_same]
            simp
          · rw [gUp_row (by decide), gRw_at]
            rcases Nat.lt_or_ge i hs1.length with a | a
            · rw [List.getElem?_append_left a] at hi
              refine (g1.2.2 i T hi).kept fun k hk => if_neg ?_
              omega
            · have e : i = hs1.length := by
                have := (List.getElem?_eq_some_iff.mp hi).1
                simp at this
                omega
              subst e
              rw [List.getElem?_append_right (Nat.le_refl _), Nat.sub_self] at hi
              cases hi
              refine hS1.kept fun k hk => (if_pos ?_).trans ?_
              · omega
              · rw [Nat.add_sub_cancel_left]
          · rw [gUp_row b]
            exact (if_neg a).trans (g2.1 r a b)
          · rw [gUp_ne (Or.inr a)]
            exact g2.2 k a
        · exact absurd (nI_le (Nat.le_refl 795) (by decide)) h3) (fun k hk ih => by
        refine run [51] 1000 _ _ _ _ _ _ rfl ?_
        conv => whnf
        refine ⟨fun h3 => ?_, fun h3 => ?_⟩
        · exact absurd h3 (nI_ge hk (by decide))
        · conv => whnf
          refine ⟨vp_in_nI (by omega) (by decide), ?_⟩
          conv => whnf
          rw [show gRw M1 929 (fun z => if 795 * hs1.length ≤ z ∧ z < 795 * hs1.length + k then M1 927 (z - 795 * hs1.length) else M1 929 z) 926 4 = nI hs1.length from g1.2.1, show (795 : Int32) = nI 795 from rfl, nI_mul, nI_add]
          refine ⟨vp_in_nI (by omega) (by decide), ?_⟩
          conv => whnf
          rw [nI_clamp (by omega), nI_clamp (by omega), nI_1, gUp_Rw]
          have e2 : (fun z => if z = 795 * hs1.length + k then gRw M1 929 (fun z => if 795 * hs1.length ≤ z ∧ z < 795 * hs1.length + k then M1 927 (z - 795 * hs1.length) else M1 929 z) 927 k else if 795 * hs1.length ≤ z ∧ z < 795 * hs1.length + k then M1 927 (z - 795 * hs1.length) else M1 929 z) = (fun z => if 795 * hs1.length ≤ z ∧ z < 795 * hs1.length + (k + 1) then M1 927 (z - 795 * hs1.length) else M1 929 z) := by
            funext z
            by_cases h1 : z = 795 * hs1.length + k
            · subst h1
              rw [if_pos rfl, if_pos (by omega), Nat.add_sub_cancel_left]
              rfl
            · rw [if_neg h1]
              by_cases h2 : 795 * hs1.length ≤ z ∧ z < 795 * hs1.length + k
              · rw [if_pos h2, if_pos (by omega)]
              · rw [if_neg h2, if_neg (by omega)]
          rw [e2]
          exact ih) 0 (Nat.zero_le _)
      have e0 : gRw M1 929 (fun z => if 795 * hs1.length ≤ z ∧ z < 795 * hs1.length + 0 then M1 927 (z - 795 * hs1.length) else M1 929 z) = M1 := by
        rw [show (fun z => if 795 * hs1.length ≤ z ∧ z < 795 * hs1.length + 0 then M1 927 (z - 795 * hs1.length) else M1 929 z) = M1 929 from funext fun z => if_neg (by omega)]
        exact gRw_id _ _
      rw [e0] at q
      exact q
    unfold hKeep at h
    refine run [10, 49] 1000 _ _ _ _ _ _ rfl ?_
    conv => whnf
    rw [hh.2.1]
    by_cases h5 : hs.length = 5
    · rw [if_pos h5] at h
      refine ⟨fun h1 => ?_, fun h1 => ?_⟩
      · exact absurd (show nI hs.length = 5 by rw [h5]; rfl) h1
      · conv => whnf
        have q := upto (n := 3180) (A := fun k => K 10 [some (.inr (.inl (7, 926))), some (.inl (nI k))] [] (gRw M 929 (fun z => if z < k then M 929 (z + 795) else M 929 z)) gB0) (by
          refine run [10, 49] 1000 _ _ _ _ _ _ rfl ?_
          conv => whnf
          refine ⟨fun h3 => ?_, fun h3 => ?_⟩
          · conv => whnf
            rw [show gRw M 929 (fun z => if z < 3180 then M 929 (z + 795) else M 929 z) 926 4 = nI 5 from hh.2.1.trans (by rw [h5])]
            refine tail49 _ hs.tail _ (by simp; omega) ⟨by simp; omega, ?_, fun i T hi => ?_⟩ ⟨fun r a b => ?_, fun k a => ?_⟩ h
            · rw [gUp_same]
              simp [h5]
              rfl
            · rw [gUp_row (by decide), gRw_at]
              rw [List.getElem?_tail] at hi
              have hlt := (List.getElem?_eq_some_iff.mp hi).1
              refine (hh.2.2 (i + 1) T hi).kept fun k hk => (if_pos (by omega)).trans ?_
              rw [show 795 * i + k + 795 = 795 * (i + 1) + k by omega]
            · rw [gUp_row b]
              exact if_neg a
            · rw [gUp_ne (Or.inr a)]
              rfl
          · exact absurd (nI_le (Nat.le_refl 3180) (by decide)) h3) (fun k hk ih => by
          refine run [10, 49] 1000 _ _ _ _ _ _ rfl ?_
          conv => whnf
          refine ⟨fun h3 => ?_, fun h3 => ?_⟩
          · exact absurd h3 (nI_ge hk (by decide))
          · conv => whnf
            rw [show nI k + 795 = nI (k + 795) from nI_add k 795]
            refine ⟨vp_in_nI (by omega) (by decide), ?_⟩
            conv => whnf
            refine ⟨vp_in_nI (by omega) (by decide), ?_⟩
            conv => whnf
            rw [nI_clamp (by omega), nI_clamp (by omega), nI_1, gUp_Rw, gRw_at]
            have e2 : (fun z => if z = k then (if k + 795 < k then M 929 (k + 795 + 795) else M 929 (k + 795)) else if z < k then M 929 (z + 795) else M 929 z) = (fun z => if z < k + 1 then M 929 (z + 795) else M 929 z) := by
              funext z
              by_cases h1 : z = k
              · subst h1
                rw [if_pos rfl, if_neg (by omega), if_pos (by omega)]
              · rw [if_neg h1]
                by_cases h2 : z < k
                · rw [if_pos h2, if_pos (by omega)]
                · rw [if_neg h2, if_neg (by omega)]
            rw [e2]
            exact ih) 0 (Nat.zero_le _)
        have e0 : gRw M 929 (fun z => if z < 0 then M 929 (z + 795) else M 929 z) = M := by
          rw [show (fun z => if z < 0 then M 929 (z + 795) else M 929 z) = M 929 from funext fun z => if_neg (Nat.not_lt_zero z)]
          exact gRw_id _ _
        rw [e0] at q
        exact q
    · rw [if_neg h5] at h
      refine ⟨fun h1 => ?_, fun h1 => ?_⟩
      · conv => whnf
        exact tail49 M hs _ (by have := hh.1; omega) hh ⟨fun _ _ _ => rfl, fun _ _ => rfl⟩ h
      · exact absurd ((nI_eq (by have := hh.1; omega) (by decide)).mp (show nI hs.length = nI 5 from h1)) h5
  · exact h.elim
