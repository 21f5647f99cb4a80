/-! the model: set -/
def f_X7_isSetting : gF := fun av M post => match av with
  | [.inl k, .inl v] => (((0 ≤ k ∧ k ≤ 4) ∧ sLo k ≤ v ∧ v ≤ sHg k) → post (some (.inl 1)) M) ∧ (¬ ((0 ≤ k ∧ k ≤ 4) ∧ sLo k ≤ v ∧ v ≤ sHg k) → post (some (.inl 0)) M)
  | _ => False
theorem lk_X7_isSetting (l : Launch) : gLinks l RX7 1 [(gTn f_X7_in, 0, 0, 99)] pX7_isSetting := And.intro ⟨gTn f_X7_in, 99, yX7_in, cX7_in, 3, (some .boolean), 0, rfl, yi_yX7_in, ok_X7_in l, by decide, Or.inl ml_RX7_38, sm_yX7_in⟩ (And.intro ⟨gTn f_X7_in, 99, yX7_in, cX7_in, 3, (some .boolean), 0, rfl, yi_yX7_in, ok_X7_in l, by decide, Or.inl ml_RX7_38, sm_yX7_in⟩ (And.intro ⟨gTn f_X7_in, 99, yX7_in, cX7_in, 3, (some .boolean), 0, rfl, yi_yX7_in, ok_X7_in l, by decide, Or.inl ml_RX7_38, sm_yX7_in⟩ (And.intro ⟨gTn f_X7_in, 99, yX7_in, cX7_in, 3, (some .boolean), 0, rfl, yi_yX7_in, ok_X7_in l, by decide, Or.inl ml_RX7_38, sm_yX7_in⟩ (trivial))))
theorem ok_X7_isSetting (l : Launch) : gOK l yX7_isSetting cX7_isSetting 2 (some .boolean) 1 0 0 (gTn f_X7_isSetting) := by
  refine gM_of (by decide +kernel) pX7_isSetting_ok (lk_X7_isSetting l) ?_
  intro SL SX K P av M run h
  unfold f_X7_isSetting at h
  split at h
  · rename_i k v
    obtain ⟨h1, h0⟩ := h
    refine ⟨⟨by simp [gC1], Nat.le_of_ble_eq_true rfl⟩, ?_⟩
    have fin : ∀ a b : Int32, a = sLo k → b = sHg k → 0 ≤ k ∧ k ≤ 4 → P (some (.inl (if a ≤ v ∧ v ≤ b then 1 else 0))) M := by
      intro a b ha hb hk
      subst ha
      subst hb
      by_cases q : sLo k ≤ v ∧ v ≤ sHg k
      · rw [if_pos q]; exact h1 ⟨hk, q⟩
      · rw [if_neg q]; exact h0 (fun z => q z.2)
    have zo : ∀ a b : Int32, (if a ≤ v ∧ v ≤ b then (1 : Int32) else 0) = 0 ∨ (if a ≤ v ∧ v ≤ b then (1 : Int32) else 0) = 1 := by
      intro a b
      split
      · exact Or.inr rfl
      · exact Or.inl rfl
    refine run [] 1000 _ _ _ _ _ _ rfl ?_
    conv => whnf
    refine ⟨⟨fun c => ?_, fun c => ?_, fun c => ?_, fun c => ?_, fun c => ?_, trivial⟩, fun c => ?_⟩
    · have c : k = 0 := c
      subst c
      conv => whnf
      refine ⟨rfl, rfl, ?_⟩
      conv => whnf
      exact ⟨rfl, zo _ _, fin _ _ rfl rfl (by decide)⟩
    · have c : k = 1 := c
      subst c
      conv => whnf
      refine ⟨rfl, rfl, ?_⟩
      conv => whnf
      exact ⟨rfl, zo _ _, fin _ _ rfl rfl (by decide)⟩
    · have c : k = 2 := c
      subst c
      conv => whnf
      refine ⟨rfl, rfl, ?_⟩
      conv => whnf
      exact ⟨rfl, zo _ _, fin _ _ rfl rfl (by decide)⟩
    · have c : k = 3 := c
      subst c
      conv => whnf
      refine ⟨rfl, rfl, ?_⟩
      conv => whnf
      exact ⟨rfl, zo _ _, fin _ _ rfl rfl (by decide)⟩
    · have c : k = 4 := c
      subst c
      conv => whnf
      refine ⟨rfl, rfl, ?_⟩
      conv => whnf
      exact ⟨rfl, zo _ _, fin _ _ rfl rfl (by decide)⟩
    · conv => whnf
      refine ⟨rfl, Or.inl rfl, h0 (fun q => ?_)⟩
      have a := Int32.le_iff_toInt_le.mp q.1.1
      have b := Int32.le_iff_toInt_le.mp q.1.2
      have a : 0 ≤ k.toInt := a
      have b : k.toInt ≤ 4 := b
      omega
  · exact h.elim
theorem msR.set {s : Nat → Int32} {S : St} {k : Nat} (h : msR s S) (hk : k < 5) (x : Int32) : msR (fun z => if z = 260 + k then x else s z) (stSet S k x) := by
  obtain ⟨h1, h2, h3, h4, h5, h6, h7⟩ := h
  refine ⟨fun b hb => (h1 b hb).kept fun i hi => if_neg (by omega), fun j hj b hb => (h2 j hj b hb).kept fun i hi => if_neg (by omega), fun j hj => (if_neg (by omega)).trans (h3 j hj), fun i hi => ?_, fun i hi => (if_neg (by omega)).trans (h5 i hi), (if_neg (by omega)).trans h6, (if_neg (by omega)).trans h7⟩
  show (if 260 + i = 260 + k then x else s (260 + i)) = if i = k then x else S.2.2.2.1 i
  by_cases e : i = k
  · subst e
    rw [if_pos rfl, if_pos rfl]
  · rw [if_neg (by omega), if_neg e]
    exact h4 i hi
def f_X7_set : gF := fun av M post => match av with
  | [.inr (.inl (7, p)), .inl k, .inl v] => p = 926 ∧ ∃ σ, moR M σ ∧ mQ M (oSet σ k v) post
  | _ => False
theorem lk_X7_set (l : Launch) : gLinks l RX7 2 [(gTn f_X7_isSetting, 0, 0, 99), (gTn f_X7_act, 0, 0, 7)] pX7_set := And.intro gf_RX7_31 (And.intro ⟨gTn f_X7_isSetting, 99, yX7_isSetting, cX7_isSetting, 2, (some .boolean), 1, rfl, yi_yX7_isSetting, ok_X7_isSetting l, by decide, Or.inl ml_RX7_89, sm_yX7_isSetting⟩ (And.intro kc_RX7_71 (And.intro ⟨gTn f_X7_act, 7, yX7_act, cX7_act, 2, none, 0, _, rfl, by decide, yi_yX7_act, ok_X7_act l, by decide, by decide, rfl, rfl, ml_RX7_73, im_yX7_act, se_yX7_act⟩ (And.intro gf_RX7_7 (And.intro gf_RX7_7 (trivial))))))
theorem ok_X7_set (l : Launch) : gOK l yX7_set cX7_set 4 (some .int) 2 0 0 (gTn f_X7_set) := by
  refine gM_of (by decide +kernel) pX7_set_ok (lk_X7_set l) ?_
  intro SL SX K P av M run h
  unfold f_X7_set at h
  split at h
  · rename_i p k v
    obtain ⟨rfl, σ, hσ0, h⟩ := h
    refine ⟨⟨by simp [gC1], Nat.le_of_ble_eq_true rfl⟩, ?_⟩
    have hσ := hσ0.th
    have f0 := gFm.up M (q := 926) 0 0 (Nat.le_refl _)
    unfold oSet at h
    refine run [] 1000 _ _ _ _ _ _ rfl ?_
    conv => whnf
    refine ⟨rfl, rfl, fun hq => ?_, fun hq => ?_⟩
    · rw [if_pos hq] at h
      obtain ⟨j, hj, rfl⟩ := nI_bd (n := 4) (by decide) hq.1.1 hq.1.2
      have e : (nI j).toNatClampNeg = j := nI_clamp (by omega)
      rw [e] at h
      conv => whnf
      refine ⟨fun h1 => ?_, fun h1 => ?_⟩
      · conv => whnf
        refine ⟨rfl, rfl, rfl, _, _, hσ.2.1, hσ.1, fun M1 g1 g2 => ?_⟩
        have k1 := hσ.act g1 g2
        conv => whnf
        rw [show (260 : Int32) + nI j = nI (260 + j) from nI_add 260 j]
        refine ⟨vp_in_nI (by omega) (by decide), ?_⟩
        conv => whnf
        rw [show (260 : Int32) + nI j = nI (260 + j) from nI_add 260 j]
        refine ⟨vp_in_nI (by omega) (by decide), ?_⟩
        conv => whnf
        rw [nI_clamp (by omega)]
        have s3 : msR (gUp M1 927 (260 + j) v 927) (stSet (wAct σ σ.1).1 j v) := (k1.1.set (k := j) (by omega) v).kept fun z _ => by
          by_cases q : z = 260 + j
          · subst q
            rw [gUp_same, if_pos rfl]
          · rw [gUp_ne (Or.inr q), if_neg q]
        have h9 := h _ (k1.st s3 (fun r a => gUp_row a)) ((f0.tr g2.fm).tr (gFm.up M1 _ _ (by decide)))
        rw [show σ.1.2.2.2.1 j = M1 927 (260 + j) from (k1.1.2.2.2.1 j (by omega)).symm] at h9
        exact ⟨rfl, h9⟩
      · exact absurd h1 (by decide)
    · rw [if_neg hq] at h
      conv => whnf
      refine ⟨fun h1 => ?_, fun h1 => ?_⟩
      · exact absurd rfl h1
      · conv => whnf
        exact ⟨rfl, h.no hσ f0 rfl⟩
  · exact h.elim
