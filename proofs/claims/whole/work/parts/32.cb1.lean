/-! CrustBlocks: layers -/
theorem k3_of {k : Int32} (h : 0 ≤ k ∧ k ≤ 2) : k = 0 ∨ k = 1 ∨ k = 2 := by
  obtain ⟨b, hb, rfl⟩ := nI_bd (n := 2) (by decide) h.1 h.2
  have : b = 0 ∨ b = 1 ∨ b = 2 := by omega
  rcases this with rfl | rfl | rfl
  · exact Or.inl rfl
  · exact Or.inr (Or.inl rfl)
  · exact Or.inr (Or.inr rfl)
def f_X6_addLayer : gF := fun av M post => match av with
  | [.inr (.inl (6, p)), .inl b, .inl l, .inl k, .inl d, .inl t] => p = 0 ∧ ∃ σ, clR M σ ∧ cQ M (oAdd σ b l k d t) post
  | _ => False
theorem lk_X6_addLayer (l : Launch) : gLinks l RX6 5 [(gTn f_X6_isBlock, 0, 0, 99), (gTn f_X6_isKind, 0, 0, 99), (gTn f_X6_isWithin, 0, 0, 99), (gTn f_X2_keep, 0, 0, 2), (gTn f_X0_insert, 0, 0, 0)] pX6_addLayer := And.intro ⟨gTn f_X6_isBlock, 99, yX6_isBlock, cX6_isBlock, 1, (some .boolean), 1, rfl, yi_yX6_isBlock, ok_X6_isBlock l, by decide, Or.inl ml_RX6_40, sm_yX6_isBlock⟩ (And.intro ⟨gTn f_X6_isKind, 99, yX6_isKind, cX6_isKind, 1, (some .boolean), 1, rfl, yi_yX6_isKind, ok_X6_isKind l, by decide, Or.inl ml_RX6_44, sm_yX6_isKind⟩ (And.intro ⟨gTn f_X6_isWithin, 99, yX6_isWithin, cX6_isWithin, 3, (some .boolean), 0, rfl, yi_yX6_isWithin, ok_X6_isWithin l, by decide, Or.inl ml_RX6_47, sm_yX6_isWithin⟩ (And.intro kc_RX6_51 (And.intro gf_RX6_10 (And.intro gf_RX6_52 (And.intro gf_RX6_56 (And.intro gf_RX6_62 (And.intro ⟨gTn f_X6_isWithin, 99, yX6_isWithin, cX6_isWithin, 3, (some .boolean), 0, rfl, yi_yX6_isWithin, ok_X6_isWithin l, by decide, Or.inl ml_RX6_47, sm_yX6_isWithin⟩ (And.intro gs_RX6_68 (And.intro gs_RX6_72 (And.intro ⟨gTn f_X6_isWithin, 99, yX6_isWithin, cX6_isWithin, 3, (some .boolean), 0, rfl, yi_yX6_isWithin, ok_X6_isWithin l, by decide, Or.inl ml_RX6_47, sm_yX6_isWithin⟩ (And.intro kc_RX6_51 (And.intro gf_RX6_62 (And.intro kc_RX6_75 (And.intro gf_RX6_22 (And.intro gf_RX6_10 (And.intro ⟨gTn f_X2_keep, 2, yX2_keep, cX2_keep, 2, none, 4, _, rfl, by decide, yi_yX2_keep, ok_X2_keep l, by decide, by decide, rfl, rfl, ml_RX6_76, im_yX2_keep, se_yX2_keep⟩ (And.intro ⟨gTn f_X0_insert, 0, yX0_insert, cX0_insert, 6, none, 1, _, rfl, by decide, yi_yX0_insert, ok_X0_insert l, by decide, by decide, rfl, rfl, ml_RX6_80, im_yX0_insert, se_yX0_insert⟩ (And.intro gf_RX6_10 (And.intro gf_RX6_84 (And.intro gf_RX6_62 (trivial))))))))))))))))))))))
theorem ok_X6_addLayer (l : Launch) : gOK l yX6_addLayer cX6_addLayer 7 (some .int) 5 0 0 (gTn f_X6_addLayer) := by
  refine gM_of (by decide +kernel) pX6_addLayer_ok (lk_X6_addLayer l) ?_
  intro SL SX K P av M run h
  unfold f_X6_addLayer at h
  split at h
  · rename_i p b l k d t
    obtain ⟨rfl, σ, hσ, h⟩ := h
    refine ⟨⟨by simp [gC1], Nat.le_of_ble_eq_true rfl⟩, ?_⟩
    have bad26 : (¬ (0 ≤ b ∧ b ≤ 9) ∨ ¬ (0 ≤ k ∧ k ≤ 2) ∨ ¬ (1 ≤ t ∧ t ≤ 9999)) → ∀ ls, K 26 ls [] M gB0 := by
      intro hb ls
      unfold oAdd at h
      refine run [] 1000 _ _ _ _ _ _ rfl ?_
      conv => whnf
      exact ⟨rfl, h.no hσ (if_pos hb)⟩
    refine run [26, 74] 1000 _ _ _ _ _ _ rfl ?_
    conv => whnf
    refine ⟨rfl, rfl, ?_⟩
    conv => whnf
    sorry
  · exact h.elim
