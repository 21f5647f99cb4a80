/-! the model: set -/
def f_X7_isSetting : gF := fun av M post => match av with
  | [.inl k, .inl v] => (((0 ≤ k ∧ k ≤ 4) ∧ sLo k ≤ v ∧ v ≤ sHg k) → post (some (.inl 1)) M) ∧ (¬ ((0 ≤ k ∧ k ≤ 4) ∧ sLo k ≤ v ∧ v ≤ sHg k) → post (some (.inl 0)) M)
  | _ => False
theorem lk_X7_isSetting (l : Launch) : gLinks l RX7 1 [(gTn f_X7_in, 0, 0, 99)] pX7_isSetting := And.intro ⟨gTn f_X7_in, 99, yX7_in, cX7_in, 3, (some .boolean), 0, rfl, yi_yX7_in, ok_X7_in l, by decide, Or.inl ml_RX7_38, sm_yX7_in⟩ (And.intro ⟨gTn f_X7_in, 99, yX7_in, cX7_in, 3, (some .boolean), 0, rfl, yi_yX7_in, ok_X7_in l, by decide, Or.inl ml_RX7_38, sm_yX7_in⟩ (And.intro ⟨gTn f_X7_in, 99, yX7_in, cX7_in, 3, (some .boolean), 0, rfl, yi_yX7_in, ok_X7_in l, by decide, Or.inl ml_RX7_38, sm_yX7_in⟩ (And.intro ⟨gTn f_X7_in, 99, yX7_in, cX7_in, 3, (some .boolean), 0, rfl, yi_yX7_in, ok_X7_in l, by decide, Or.inl ml_RX7_38, sm_yX7_in⟩ (trivial))))
theorem ok_X7_isSetting (l : Launch) : gOK l yX7_isSetting cX7_isSetting 2 (some .boolean) 1 0 0 (gTn f_X7_isSetting) := by
  refine gM_of (by decide +kernel) pX7_isSetting_ok (lk_X7_isSetting l) ?_
  intro SL SX K P av M run h
  unfold f_X7_isSetting at h
  split at h
  · rename_i k v
    obtain ⟨h1, h0⟩ := h
    refine ⟨⟨by simp [gC1], Nat.le_of_ble_eq_true rfl⟩, ?_⟩
    have fin : ∀ a b : Int32, a = sLo k → b = sHg k → 0 ≤ k ∧ k ≤ 4 → P (some (.inl (if a ≤ v ∧ v ≤ b then 1 else 0))) M := by
      intro a b ha hb hk
      subst ha
      subst hb
      by_cases q : sLo k ≤ v ∧ v ≤ sHg k
      · rw [if_pos q]; exact h1 ⟨hk, q⟩
      · rw [if_neg q]; exact h0 (fun z => q z.2)
    have zo : ∀ a b : Int32, (if a ≤ v ∧ v ≤ b then (1 : Int32) else 0) = 0 ∨ (if a ≤ v ∧ v ≤ b then (1 : Int32) else 0) = 1 := by
      intro a b
      split
      · exact Or.inr rfl
      · exact Or.inl rfl
    refine run [] 1000 _ _ _ _ _ _ rfl ?_
    conv => whnf
    refine ⟨⟨fun c => ?_, fun c => ?_, fun c => ?_, fun c => ?_, fun c => ?_, trivial⟩, fun c => ?_⟩
    · have c : k = 0 := c
      subst c
      conv => whnf
      refine ⟨rfl, rfl, ?_⟩
      conv => whnf
      exact ⟨rfl, zo _ _, fin _ _ rfl rfl (by decide)⟩
    · have c : k = 1 := c
      subst c
      conv => whnf
      refine ⟨rfl, rfl, ?_⟩
      conv => whnf
      exact ⟨rfl, zo _ _, fin _ _ rfl rfl (by decide)⟩
    · have c : k = 2 := c
      subst c
      conv => whnf
      refine ⟨rfl, rfl, ?_⟩
      conv => whnf
      exact ⟨rfl, zo _ _, fin _ _ rfl rfl (by decide)⟩
    · have c : k = 3 := c
      subst c
      conv => whnf
      refine ⟨rfl, rfl, ?_⟩
      conv => whnf
      exact ⟨rfl, zo _ _, fin _ _ rfl rfl (by decide)⟩
    · have c : k = 4 := c
      subst c
      conv => whnf
      refine ⟨rfl, rfl, ?_⟩
      conv => whnf
      exact ⟨rfl, zo _ _, fin _ _ rfl rfl (by decide)⟩
    · conv => whnf
      refine ⟨rfl, Or.inl rfl, h0 (fun q => ?_)⟩
      have a := Int32.le_iff_toInt_le.mp q.1.1
      have b := Int32.le_iff_toInt_le.mp q.1.2
      have a : 0 ≤ k.toInt := a
      have b : k.toInt ≤ 4 := b
      omega
  · exact h.elim
