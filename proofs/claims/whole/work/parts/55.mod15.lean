/-! the model: addLayer -/
def f_X7_addLayer : gF := fun av M post => match av with
  | [.inr (.inl (7, p)), .inl b, .inl l, .inl k, .inl d, .inl t] => p = 926 ∧ ∃ σ, moR M σ ∧ mQ M (oAdd σ b l k d t) post
  | _ => False
theorem lk_X7_addLayer (l : Launch) : gLinks l RX7 2 [(gTn f_X7_isBlock, 0, 0, 99), (gTn f_X7_of, 0, 0, 7), (gTn f_X7_in, 0, 0, 99), (gTn f_X7_isDensity, 0, 0, 99), (gTn f_X7_act, 0, 0, 7), (gTn f_X7_insert, 0, 0, 7)] pX7_addLayer := And.intro gf_RX7_31 (And.intro ⟨gTn f_X7_isBlock, 99, yX7_isBlock, cX7_isBlock, 1, (some .boolean), 1, rfl, yi_yX7_isBlock, ok_X7_isBlock l, by decide, Or.inl ml_RX7_46, sm_yX7_isBlock⟩ (And.intro ⟨gTn f_X7_of, 7, yX7_of, cX7_of, 3, (some .int), 0, _, rfl, by decide, yi_yX7_of, ok_X7_of l, by decide, by decide, rfl, rfl, ml_RX7_50, im_yX7_of, se_yX7_of⟩ (And.intro ⟨gTn f_X7_in, 99, yX7_in, cX7_in, 3, (some .boolean), 0, rfl, yi_yX7_in, ok_X7_in l, by decide, Or.inl ml_RX7_38, sm_yX7_in⟩ (And.intro ⟨gTn f_X7_isDensity, 99, yX7_isDensity, cX7_isDensity, 2, (some .boolean), 1, rfl, yi_yX7_isDensity, ok_X7_isDensity l, by decide, Or.inl ml_RX7_67, sm_yX7_isDensity⟩ (And.intro ⟨gTn f_X7_in, 99, yX7_in, cX7_in, 3, (some .boolean), 0, rfl, yi_yX7_in, ok_X7_in l, by decide, Or.inl ml_RX7_38, sm_yX7_in⟩ (And.intro kc_RX7_71 (And.intro ⟨gTn f_X7_of, 7, yX7_of, cX7_of, 3, (some .int), 0, _, rfl, by decide, yi_yX7_of, ok_X7_of l, by decide, by decide, rfl, rfl, ml_RX7_50, im_yX7_of, se_yX7_of⟩ (And.intro kc_RX7_72 (And.intro ⟨gTn f_X7_act, 7, yX7_act, cX7_act, 2, none, 0, _, rfl, by decide, yi_yX7_act, ok_X7_act l, by decide, by decide, rfl, rfl, ml_RX7_73, im_yX7_act, se_yX7_act⟩ (And.intro ⟨gTn f_X7_insert, 7, yX7_insert, cX7_insert, 7, none, 1, _, rfl, by decide, yi_yX7_insert, ok_X7_insert l, by decide, by decide, rfl, rfl, ml_RX7_76, im_yX7_insert, se_yX7_insert⟩ (And.intro gf_RX7_7 (And.intro ⟨gTn f_X7_of, 7, yX7_of, cX7_of, 3, (some .int), 0, _, rfl, by decide, yi_yX7_of, ok_X7_of l, by decide, by decide, rfl, rfl, ml_RX7_50, im_yX7_of, se_yX7_of⟩ (trivial)))))))))))))
theorem ok_X7_addLayer (l : Launch) : gOK l yX7_addLayer cX7_addLayer 6 (some .int) 2 0 0 (gTn f_X7_addLayer) := by
  refine gM_of (by decide +kernel) pX7_addLayer_ok (lk_X7_addLayer l) ?_
  intro SL SX K P av M run h
  unfold f_X7_addLayer at h
  split at h
  · rename_i p b l k d t
    obtain ⟨rfl, σ, hσ0, h⟩ := h
    refine ⟨⟨by simp [gC1], Nat.le_of_ble_eq_true rfl⟩, ?_⟩
    have hσ := hσ0.th
    have f0 := gFm.up M (q := 926) 0 0 (Nat.le_refl _)
    have bad : (oAdd σ b l k d t = (-100000001, σ)) → ∀ ls, K 47 ls [] (gUp M 926 0 0) gB0 := by
      intro he ls
      refine run [] 1000 _ _ _ _ _ _ rfl ?_
      conv => whnf
      exact ⟨rfl, h.no hσ f0 he⟩
    unfold oAdd at h bad
    refine run [47] 1000 _ _ _ _ _ _ rfl ?_
    conv => whnf
    refine ⟨rfl, rfl, ?_⟩
    conv => whnf
    by_cases hb : 0 ≤ b ∧ b ≤ 9
    · rw [if_pos hb]
      obtain ⟨j, hj, rfl⟩ := nI_bd (n := 9) (by decide) hb.1 hb.2
      have e : (nI j).toNatClampNeg = j := nI_clamp (by omega)
      have hc := hσ.1.1 j (by omega)
      have h8 := hc.1
      rw [e] at h bad
      refine ⟨fun h1 => ?_, fun h1 => ?_⟩
      · exact absurd h1 (by decide)
      · conv => whnf
        refine ⟨rfl, rfl, rfl, j, 0, by omega, by decide, rfl, rfl, ?_⟩
        rw [show gUp M 926 0 0 927 (26 * j + 0) = nI (σ.1.1 j).1.length from hc.2.1]
        conv => whnf
        refine ⟨rfl, rfl, ?_⟩
        conv => whnf
        by_cases hl : 0 ≤ l ∧ l ≤ nI (σ.1.1 j).1.length
        · rw [if_pos hl]
          refine ⟨fun h2 => ?_, fun h2 => ?_⟩
          · exact absurd h2 (by decide)
          · conv => whnf
            refine ⟨rfl, rfl, fun hd => ?_, fun hd => ?_⟩
            · conv => whnf
              refine ⟨fun h3 => ?_, fun h3 => ?_⟩
              · exact absurd h3 (by decide)
              · conv => whnf
                refine ⟨rfl, rfl, ?_⟩
                conv => whnf
                by_cases ht : 1 ≤ t ∧ t ≤ 9999
                · rw [if_pos ht]
                  refine ⟨fun h4 => ?_, fun h4 => ?_⟩
                  · conv => whnf
                    rw [if_neg (by rintro (a | a | a); exact a hb; exact a hd.1; exact a ht), if_neg (by rintro (a | a); exact a hl; exact a hd.2)] at h
                    refine ⟨rfl, rfl, rfl, j, 0, by omega, by decide, rfl, rfl, ?_⟩
                    rw [show gUp M 926 0 0 927 (26 * j + 0) = nI (σ.1.1 j).1.length from hc.2.1]
                    conv => whnf
                    refine ⟨fun h5 => ?_, fun h5 => ?_⟩
                    · have hlt : (σ.1.1 j).1.length < 8 := by
                        rcases Nat.lt_or_ge (σ.1.1 j).1.length 8 with a | a
                        · exact a
                        · exact absurd (show nI (σ.1.1 j).1.length = 8 by rw [show (σ.1.1 j).1.length = 8 by omega]; rfl) h5
                      rw [if_neg (by omega)] at h
                      obtain ⟨i, hi, rfl⟩ := nI_bd (n := (σ.1.1 j).1.length) (by omega) hl.1 hl.2
                      have e2 : (nI i).toNatClampNeg = i := nI_clamp (by omega)
                      rw [e2] at h
                      conv => whnf
                      refine ⟨rfl, rfl, rfl, _, _, hσ.2.1, hσ.1, fun M1 g1 g2 => ?_⟩
                      have k1 := hσ.act g1 g2
                      conv => whnf
                      refine ⟨rfl, rfl, rfl, j, i, _, by omega, rfl, rfl, k1.1.1 j (by omega), hlt, hi, fun M2 g3 g4 => ?_⟩
                      have s2 := k1.1.colM (b := j) (by omega) g3 g4
                      have s3 := s2.accM (k := 0) (by decide) (d * t)
                      have k3 := k1.st s3 (fun r a => (gUp_row a).trans (g4.1 r a))
                      have hz : M2 927 (26 * j + 0) = nI ((σ.1.1 j).1.length + 1) := by
                        have := g3.2.1
                        rw [show ((((wAct σ σ.1).1.1 j).1.insertIdx i (k, d, t), ((wAct σ σ.1).1.1 j).2) : Col).1.length = (σ.1.1 j).1.length + 1 from List.length_insertIdx_of_le_length hi _] at this
                        exact this
                      have h9 := h _ k3 (((f0.tr g2.fm).tr g4.fm).tr (gFm.up M2 _ _ (by decide)))
                      conv => whnf
                      refine ⟨vp_in_nI (n := 266) (by decide) (by decide), ?_⟩
                      conv => whnf
                      refine ⟨vp_in_nI (n := 266) (by decide) (by decide), ?_⟩
                      conv => whnf
                      refine ⟨rfl, rfl, rfl, j, 0, by omega, by decide, rfl, rfl, ?_⟩
                      rw [show gUp M2 (926 + 1) (Int32.toNatClampNeg 266) (M2 (926 + 1) (Int32.toNatClampNeg 266) + d * t) 927 (26 * j + 0) = nI ((σ.1.1 j).1.length + 1) from (gUp_ne (Or.inr (by show 26 * j + 0 ≠ 266; omega))).trans hz]
                      conv => whnf
                      exact ⟨rfl, h9⟩
                    · conv => whnf
                      have hge : 8 ≤ (σ.1.1 j).1.length := Nat.le_of_eq ((nI_eq (b := 8) (by omega) (by decide)).mp h5).symm
                      exact ⟨rfl, h.no hσ f0 (if_pos hge)⟩
                  · exact absurd h4 (by decide)
                · rw [if_neg ht]
                  refine ⟨fun h4 => ?_, fun h4 => ?_⟩
                  · exact absurd rfl h4
                  · conv => whnf
                    exact bad (if_pos (Or.inr (Or.inr ht))) _
            · conv => whnf
              refine ⟨fun h3 => ?_, fun h3 => ?_⟩
              · conv => whnf
                refine bad ?_ _
                by_cases q : ¬ (0 ≤ nI j ∧ nI j ≤ 9) ∨ ¬ (0 ≤ k ∧ k ≤ 2) ∨ ¬ (1 ≤ t ∧ t ≤ 9999)
                · exact if_pos q
                · rw [if_neg q, if_pos (Or.inr (fun a => hd ⟨Decidable.of_not_not (fun z => q (Or.inr (Or.inl z))), a⟩))]
              · exact absurd rfl h3
        · rw [if_neg hl]
          refine ⟨fun h2 => ?_, fun h2 => ?_⟩
          · conv => whnf
            refine bad ?_ _
            by_cases q : ¬ (0 ≤ nI j ∧ nI j ≤ 9) ∨ ¬ (0 ≤ k ∧ k ≤ 2) ∨ ¬ (1 ≤ t ∧ t ≤ 9999)
            · exact if_pos q
            · rw [if_neg q, if_pos (Or.inl hl)]
          · exact absurd rfl h2
    · rw [if_neg hb]
      refine ⟨fun h1 => ?_, fun h1 => ?_⟩
      · conv => whnf
        exact bad (if_pos (Or.inl hb)) _
      · exact absurd rfl h1
  · exact h.elim
