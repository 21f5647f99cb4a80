/-! the model: undo -/
def f_X7_undo : gF := fun av M post => match av with
  | [.inr (.inl (7, p))] => p = 926 ∧ ∃ σ, moR M σ ∧ mQ M (oUndo σ) post
  | _ => False
theorem lk_X7_undo (l : Launch) : gLinks l RX7 0 [] pX7_undo := And.intro gf_RX7_31 (And.intro gf_RX7_35 (And.intro kc_RX7_141 (And.intro gf_RX7_35 (And.intro gf_RX7_35 (And.intro gf_RX7_7 (And.intro gf_RX7_16 (And.intro gf_RX7_35 (And.intro gf_RX7_35 (trivial)))))))))
theorem ok_X7_undo (l : Launch) : gOK l yX7_undo cX7_undo 2 (some .int) 0 0 0 (gTn f_X7_undo) := by
  refine gM_of (by decide +kernel) pX7_undo_ok (lk_X7_undo l) ?_
  intro SL SX K P av M run h
  unfold f_X7_undo at h
  split at h
  · obtain ⟨rfl, σ, hσ0, h⟩ := h
    refine ⟨⟨by simp [gC1], Nat.le_of_ble_eq_true rfl⟩, ?_⟩
    have hσ := hσ0.th
    have f0 := gFm.up M (q := 926) 0 0 (Nat.le_refl _)
    unfold oUndo at h
    have hσ' := hσ
    obtain ⟨h1, ⟨a1, a2, a3⟩, b1, b2, b3⟩ := hσ'
    have b4 : gUp M 926 0 0 926 4 = nI σ.2.1.length := a2
    refine run [27] 1000 _ _ _ _ _ _ rfl ?_
    conv => whnf
    rw [b4]
    cases hl : σ.2.1.getLast? with
    | none =>
      rw [hl] at h
      have e : σ.2.1 = [] := List.getLast?_eq_none_iff.mp hl
      rw [e]
      refine ⟨fun h1 => ?_, fun h1 => ?_⟩
      · exact absurd rfl h1
      · conv => whnf
        exact ⟨rfl, h.no hσ f0 rfl⟩
    | some S =>
      rw [hl] at h
      obtain ⟨l0, el⟩ := List.getLast?_eq_some_iff.mp hl
      have hlen : σ.2.1.length = l0.length + 1 := by rw [el]; simp
      rw [hlen]
      dsimp only at h
      have e1 : (nI (σ.2.1.length - 1), ((S, σ.2.1.dropLast, σ.2.2) : Wd)) = (nI l0.length, (S, l0, σ.2.2)) := by
        rw [hlen, el]
        simp
      rw [e1] at h
      refine ⟨fun h1 => ?_, fun h1 => ?_⟩
      · conv => whnf
        rw [b4, hlen, nI_pred]
        have hS : msR (fun k => gUp M 926 0 0 929 (795 * l0.length + k)) S := a3 l0.length S (by rw [el, List.getElem?_append_right (Nat.le_refl _), Nat.sub_self]; rfl)
        have q := upto (n := 795) (A := fun k => K 27 [some (.inr (.inl (7, 926))), some (.inl (nI k))] [] (gRw (gUp (gUp M 926 0 0) 926 4 (nI l0.length)) 927 (fun z => if z < k then gUp M 926 0 0 929 (795 * l0.length + z) else gUp (gUp M 926 0 0) 926 4 (nI l0.length) 927 z)) gB0) (by
          refine run [27] 1000 _ _ _ _ _ _ rfl ?_
          conv => whnf
          refine ⟨fun h3 => ?_, fun h3 => ?_⟩
          · conv => whnf
            rw [show gRw (gUp (gUp M 926 0 0) 926 4 (nI l0.length)) 927 (fun z => if z < 795 then gUp M 926 0 0 929 (795 * l0.length + z) else gUp (gUp M 926 0 0) 926 4 (nI l0.length) 927 z) 926 4 = nI l0.length from (congrFun (if_neg (by decide)) 4).trans (gUp_same _ _ _ _)]
            refine ⟨rfl, h _ ⟨?_, ⟨by show l0.length ≤ 5; omega, (congrFun (if_neg (by decide)) 4).trans (gUp_same _ _ _ _), fun i T hi => ?_⟩, b1, ?_, fun k hk => ?_⟩ (fun r a => ?_)⟩
            · exact hS.kept fun k hk => if_pos hk
            · refine (a3 i T ?_).kept fun k hk => ?_
              · rw [el, List.getElem?_append_left (List.getElem?_eq_some_iff.mp hi).1]
                exact hi
              · rfl
            · exact b2
            · exact b3 k hk
            · exact (if_neg (by omega)).trans ((gUp_row (by omega)).trans (gUp_row (by omega)))
          · exact absurd (nI_le (Nat.le_refl 795) (by decide)) h3) (fun k hk ih => by
          refine run [27] 1000 _ _ _ _ _ _ rfl ?_
          conv => whnf
          refine ⟨fun h3 => ?_, fun h3 => ?_⟩
          · exact absurd h3 (nI_ge hk (by decide))
          · conv => whnf
            rw [show gRw (gUp (gUp M 926 0 0) 926 4 (nI l0.length)) 927 (fun z => if z < k then gUp M 926 0 0 929 (795 * l0.length + z) else gUp (gUp M 926 0 0) 926 4 (nI l0.length) 927 z) 926 4 = nI l0.length from (congrFun (if_neg (by decide)) 4).trans (gUp_same _ _ _ _), show (795 : Int32) = nI 795 from rfl, nI_mul, nI_add]
            refine ⟨vp_in_nI (by omega) (by decide), ?_⟩
            conv => whnf
            refine ⟨vp_in_nI (by omega) (by decide), ?_⟩
            conv => whnf
            rw [nI_clamp (by omega), nI_clamp (by omega), nI_1, gUp_Rw]
            have e2 : (fun z => if z = k then gRw (gUp (gUp M 926 0 0) 926 4 (nI l0.length)) 927 (fun z => if z < k then gUp M 926 0 0 929 (795 * l0.length + z) else gUp (gUp M 926 0 0) 926 4 (nI l0.length) 927 z) 929 (795 * l0.length + k) else if z < k then gUp M 926 0 0 929 (795 * l0.length + z) else gUp (gUp M 926 0 0) 926 4 (nI l0.length) 927 z) = (fun z => if z < k + 1 then gUp M 926 0 0 929 (795 * l0.length + z) else gUp (gUp M 926 0 0) 926 4 (nI l0.length) 927 z) := by
              funext z
              by_cases h1 : z = k
              · subst h1
                rw [if_pos rfl, if_pos (by omega)]
                rfl
              · rw [if_neg h1]
                by_cases h2 : z < k
                · rw [if_pos h2, if_pos (by omega)]
                · rw [if_neg h2, if_neg (by omega)]
            rw [e2]
            exact ih) 0 (Nat.zero_le _)
        have e0 : gRw (gUp (gUp M 926 0 0) 926 4 (nI l0.length)) 927 (fun z => if z < 0 then gUp M 926 0 0 929 (795 * l0.length + z) else gUp (gUp M 926 0 0) 926 4 (nI l0.length) 927 z) = gUp (gUp M 926 0 0) 926 4 (nI l0.length) := by
          rw [show (fun z => if z < 0 then gUp M 926 0 0 929 (795 * l0.length + z) else gUp (gUp M 926 0 0) 926 4 (nI l0.length) 927 z) = gUp (gUp M 926 0 0) 926 4 (nI l0.length) 927 from funext fun z => if_neg (Nat.not_lt_zero z)]
          exact gRw_id _ _
        rw [e0] at q
        exact q
      · exact absurd h1 (nI_ne0 (by omega) (by omega))
  · exact h.elim
