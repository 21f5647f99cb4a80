/-! CrustBlocks: layers -/
theorem k3_of {k : Int32} (h : 0 ≤ k ∧ k ≤ 2) : k = 0 ∨ k = 1 ∨ k = 2 := by
  obtain ⟨b, hb, rfl⟩ := nI_bd (n := 2) (by decide) h.1 h.2
  have : b = 0 ∨ b = 1 ∨ b = 2 := by omega
  rcases this with rfl | rfl | rfl
  · exact Or.inl rfl
  · exact Or.inr (Or.inl rfl)
  · exact Or.inr (Or.inr rfl)
theorem ro3 {k : Int32} (h : 0 ≤ k ∧ k ≤ 2) : vp_in k 3 ∧ (gSl (50 + 0 - 50)).getD k.toNatClampNeg 0 = lLi k ∧ (gSl (50 + 1 - 50)).getD k.toNatClampNeg 0 = lHv k := by
  rcases k3_of h with rfl | rfl | rfl
  · exact ⟨vi0, rfl, rfl⟩
  · exact ⟨vi1, rfl, rfl⟩
  · exact ⟨vi2, rfl, rfl⟩
def f_X6_addLayer : gF := fun av M post => match av with
  | [.inr (.inl (6, p)), .inl b, .inl l, .inl k, .inl d, .inl t] => p = 0 ∧ ∃ σ, clR M σ ∧ cQ M (oAdd σ b l k d t) post
  | _ => False
theorem lk_X6_addLayer (l : Launch) : gLinks l RX6 5 [(gTn f_X6_isBlock, 0, 0, 99), (gTn f_X6_isKind, 0, 0, 99), (gTn f_X6_isWithin, 0, 0, 99), (gTn f_X2_keep, 0, 0, 2), (gTn f_X0_insert, 0, 0, 0)] pX6_addLayer := And.intro ⟨gTn f_X6_isBlock, 99, yX6_isBlock, cX6_isBlock, 1, (some .boolean), 1, rfl, yi_yX6_isBlock, ok_X6_isBlock l, by decide, Or.inl ml_RX6_40, sm_yX6_isBlock⟩ (And.intro ⟨gTn f_X6_isKind, 99, yX6_isKind, cX6_isKind, 1, (some .boolean), 1, rfl, yi_yX6_isKind, ok_X6_isKind l, by decide, Or.inl ml_RX6_44, sm_yX6_isKind⟩ (And.intro ⟨gTn f_X6_isWithin, 99, yX6_isWithin, cX6_isWithin, 3, (some .boolean), 0, rfl, yi_yX6_isWithin, ok_X6_isWithin l, by decide, Or.inl ml_RX6_47, sm_yX6_isWithin⟩ (And.intro kc_RX6_51 (And.intro gf_RX6_10 (And.intro gf_RX6_52 (And.intro gf_RX6_56 (And.intro gf_RX6_62 (And.intro ⟨gTn f_X6_isWithin, 99, yX6_isWithin, cX6_isWithin, 3, (some .boolean), 0, rfl, yi_yX6_isWithin, ok_X6_isWithin l, by decide, Or.inl ml_RX6_47, sm_yX6_isWithin⟩ (And.intro gs_RX6_68 (And.intro gs_RX6_72 (And.intro ⟨gTn f_X6_isWithin, 99, yX6_isWithin, cX6_isWithin, 3, (some .boolean), 0, rfl, yi_yX6_isWithin, ok_X6_isWithin l, by decide, Or.inl ml_RX6_47, sm_yX6_isWithin⟩ (And.intro kc_RX6_51 (And.intro gf_RX6_62 (And.intro kc_RX6_75 (And.intro gf_RX6_22 (And.intro gf_RX6_10 (And.intro ⟨gTn f_X2_keep, 2, yX2_keep, cX2_keep, 2, none, 4, _, rfl, by decide, yi_yX2_keep, ok_X2_keep l, by decide, by decide, rfl, rfl, ml_RX6_76, im_yX2_keep, se_yX2_keep⟩ (And.intro ⟨gTn f_X0_insert, 0, yX0_insert, cX0_insert, 6, none, 1, _, rfl, by decide, yi_yX0_insert, ok_X0_insert l, by decide, by decide, rfl, rfl, ml_RX6_80, im_yX0_insert, se_yX0_insert⟩ (And.intro gf_RX6_10 (And.intro gf_RX6_84 (And.intro gf_RX6_62 (trivial))))))))))))))))))))))
theorem ok_X6_addLayer (l : Launch) : gOK l yX6_addLayer cX6_addLayer 7 (some .int) 5 0 0 (gTn f_X6_addLayer) := by
  refine gM_of (by decide +kernel) pX6_addLayer_ok (lk_X6_addLayer l) ?_
  intro SL SX K P av M run h
  unfold f_X6_addLayer at h
  split at h
  · rename_i p b l k d t
    obtain ⟨rfl, σ, hσ, h⟩ := h
    refine ⟨⟨by simp [gC1], Nat.le_of_ble_eq_true rfl⟩, ?_⟩
    have bad26 : (¬ (0 ≤ b ∧ b ≤ 9) ∨ ¬ (0 ≤ k ∧ k ≤ 2) ∨ ¬ (1 ≤ t ∧ t ≤ 9999)) → ∀ ls, K 26 ls [] M gB0 := by
      intro hb ls
      unfold oAdd at h
      refine run [] 1000 _ _ _ _ _ _ rfl ?_
      conv => whnf
      exact ⟨rfl, h.no hσ (if_pos hb)⟩
    refine run [26, 74] 1000 _ _ _ _ _ _ rfl ?_
    conv => whnf
    refine ⟨rfl, rfl, ?_⟩
    conv => whnf
    by_cases hb : 0 ≤ b ∧ b ≤ 9
    · rw [if_pos hb]
      refine ⟨fun h1 => ?_, fun h1 => ?_⟩
      · exact absurd h1 (by decide)
      · conv => whnf
        refine ⟨rfl, rfl, ?_⟩
        conv => whnf
        by_cases hk : 0 ≤ k ∧ k ≤ 2
        · rw [if_pos hk]
          refine ⟨fun h2 => ?_, fun h2 => ?_⟩
          · exact absurd h2 (by decide)
          · conv => whnf
            refine ⟨rfl, rfl, ?_⟩
            conv => whnf
            by_cases ht : 1 ≤ t ∧ t ≤ 9999
            · rw [if_pos ht]
              refine ⟨fun h3 => ?_, fun h3 => ?_⟩
              · conv => whnf
                obtain ⟨j, hj, rfl⟩ := nI_bd (n := 9) (by decide) hb.1 hb.2
                have e : (nI j).toNatClampNeg = j := nI_clamp (by omega)
                have hS := hσ.1
                have hc := hS.1 j (by omega)
                have h8 := hc.1
                unfold oAdd at h
                rw [if_neg (by rintro (a | a | a); exact a hb; exact a hk; exact a ht), e] at h
                have bad74 : (¬ (0 ≤ l ∧ l ≤ nI (σ.1.1 j).1.length) ∨ ¬ (lLi k ≤ d ∧ d ≤ lHv k)) → ∀ ls, K 74 ls [] M gB0 := by
                  intro hb ls
                  refine run [] 1000 _ _ _ _ _ _ rfl ?_
                  conv => whnf
                  exact ⟨rfl, h.no hσ (if_pos hb)⟩
                refine ⟨⟨vp_in_nI (N := 10) (by omega) (by decide), rfl⟩, ?_⟩
                conv => whnf
                rw [e, show M (1 + 1 + 1 + (gEl 8).2.1 + (gEl 8).2.2.1 * j) 3 = nI (σ.1.1 j).1.length from hc.2.1]
                refine ⟨rfl, rfl, ?_⟩
                conv => whnf
                by_cases hl : 0 ≤ l ∧ l ≤ nI (σ.1.1 j).1.length
                · rw [if_pos hl]
                  refine ⟨fun h4 => ?_, fun h4 => ?_⟩
                  · exact absurd h4 (by decide)
                  · conv => whnf
                    have hr := ro3 hk
                    refine ⟨hr.1, ?_⟩
                    conv => whnf
                    refine ⟨hr.1, ?_⟩
                    conv => whnf
                    rw [hr.2.1, hr.2.2]
                    refine ⟨rfl, rfl, ?_⟩
                    conv => whnf
                    by_cases hd : lLi k ≤ d ∧ d ≤ lHv k
                    · rw [if_pos hd]
                      refine ⟨fun h5 => ?_, fun h5 => ?_⟩
                      · conv => whnf
                        rw [if_neg (by rintro (a | a); exact a hl; exact a hd)] at h
                        rw [show M (1 + 1 + 1 + (gEl 8).2.1 + (gEl 8).2.2.1 * j) 3 = nI (σ.1.1 j).1.length from hc.2.1]
                        refine ⟨fun h6 => ?_, fun h6 => ?_⟩
                        · conv => whnf
                          have hlt : (σ.1.1 j).1.length < 8 := by
                            rcases Nat.lt_or_ge (σ.1.1 j).1.length 8 with a | a
                            · exact a
                            · exact absurd h6 (Int32.not_lt.mpr (nI_le a (by omega)))
                          rw [if_neg (by omega)] at h
                          refine ⟨rfl, rfl, _, _, hσ.2.1, hS, by omega, fun M1 g1 g2 => ?_⟩
                          have k1 := hσ.act g1 g2
                          have c1 := k1.1.1 j (by omega)
                          obtain ⟨i, hi, rfl⟩ := nI_bd (n := (σ.1.1 j).1.length) (by omega) hl.1 hl.2
                          have e2 : (nI i).toNatClampNeg = i := nI_clamp (by omega)
                          rw [e2] at h
                          conv => whnf
                          refine ⟨rfl, rfl, _, i, c1, hlt, hi, rfl, fun M2 g3 g4 => ?_⟩
                          have g4 : gFr M1 M2 (1 + 1 + 1 + 1 + 4 * j) := g4
                          have g3 : colR M2 (1 + 1 + 1 + 1 + 4 * j) ((σ.1.1 j).1.insertIdx i (k, d, t), (σ.1.1 j).2) := g3
                          have s2 := k1.1.col (b := j) (by omega) g3 g4
                          have s3 := s2.acc (k := 0) (by decide) (d * t)
                          have f3 := (g4.fn (p := 1) (n := 131) (by omega) (by omega)).tr (gFn.up (M := M2) (p := 1) (n := 131) (q := 1 + 46) (k := 0) (x := M2 (1 + 46) 0 + d * t) (by omega) (by omega))
                          have k3 := k1.st s3 f3
                          conv => whnf
                          refine ⟨vp_in_nI (n := 0) (by decide) (by decide), ?_⟩
                          conv => whnf
                          refine ⟨vp_in_nI (n := 0) (by decide) (by decide), ?_⟩
                          conv => whnf
                          have hz : M2 (1 + 1 + 1 + 1 + 4 * j) 3 = nI ((σ.1.1 j).1.length + 1) := by
                            have := g3.2.1
                            rw [List.length_insertIdx_of_le_length hi] at this
                            exact this
                          have h9 := h _ k3 ((g2.mono (by omega) (by omega)).tr (f3.mono (by omega) (by omega)))
                          rw [show nI ((σ.1.1 j).1.length + 1) = gUp M2 (1 + 46) 0 (M2 (1 + 46) 0 + d * t) (1 + 1 + 1 + 1 + 4 * j) 3 from ((congrFun (gUp_row (by omega)) 3).trans hz).symm] at h9
                          exact ⟨rfl, h9⟩
                        · conv => whnf
                          have hge : 8 ≤ (σ.1.1 j).1.length := by
                            rcases Nat.lt_or_ge (σ.1.1 j).1.length 8 with a | a
                            · exact absurd (nI_lt a (by decide)) h6
                            · exact a
                          exact ⟨rfl, h.no hσ (if_pos hge)⟩
                      · exact absurd h5 (by decide)
                    · rw [if_neg hd]
                      refine ⟨fun h5 => ?_, fun h5 => ?_⟩
                      · exact absurd rfl h5
                      · conv => whnf
                        exact bad74 (Or.inr hd) _
                · rw [if_neg hl]
                  refine ⟨fun h4 => ?_, fun h4 => ?_⟩
                  · conv => whnf
                    exact bad74 (Or.inl hl) _
                  · exact absurd rfl h4
              · exact absurd h3 (by decide)
            · rw [if_neg ht]
              refine ⟨fun h3 => ?_, fun h3 => ?_⟩
              · exact absurd rfl h3
              · conv => whnf
                exact bad26 (Or.inr (Or.inr ht)) _
        · rw [if_neg hk]
          refine ⟨fun h2 => ?_, fun h2 => ?_⟩
          · conv => whnf
            exact bad26 (Or.inr (Or.inl hk)) _
          · exact absurd rfl h2
    · rw [if_neg hb]
      refine ⟨fun h1 => ?_, fun h1 => ?_⟩
      · conv => whnf
        exact bad26 (Or.inl hb) _
      · exact absurd rfl h1
  · exact h.elim
