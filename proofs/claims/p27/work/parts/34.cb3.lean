/-! CrustBlocks: settle, set, run -/
def f_X6_settle : gF := fun av M post => match av with
  | [.inr (.inl (6, p))] => p = 0 ∧ ∃ σ, clR M σ ∧ cQ M (oSettle σ) post
  | _ => False
theorem lk_X6_settle (l : Launch) : gLinks l RX6 5 [(gTn f_X2_keep, 0, 0, 2), (gTn f_X1_unbalanced, 0, 0, 1), (gTn f_X0_balanceBase, 0, 0, 0)] pX6_settle := And.intro gf_RX6_22 (And.intro gf_RX6_10 (And.intro ⟨gTn f_X2_keep, 2, yX2_keep, cX2_keep, 2, none, 4, _, rfl, by decide, yi_yX2_keep, ok_X2_keep l, by decide, by decide, rfl, rfl, ml_RX6_76, im_yX2_keep, se_yX2_keep⟩ (And.intro gf_RX6_10 (And.intro gf_RX6_52 (And.intro ⟨gTn f_X1_unbalanced, 1, yX1_unbalanced, cX1_unbalanced, 3, (some .int), 3, _, rfl, by decide, yi_yX1_unbalanced, ok_X1_unbalanced l, by decide, by decide, rfl, rfl, ml_RX6_111, im_yX1_unbalanced, se_yX1_unbalanced⟩ (And.intro gf_RX6_10 (And.intro gf_RX6_52 (And.intro gf_RX6_56 (And.intro ⟨gTn f_X0_balanceBase, 0, yX0_balanceBase, cX0_balanceBase, 1, none, 3, _, rfl, by decide, yi_yX0_balanceBase, ok_X0_balanceBase l, by decide, by decide, rfl, rfl, ml_RX6_114, im_yX0_balanceBase, se_yX0_balanceBase⟩ (trivial))))))))))
theorem ok_X6_settle (l : Launch) : gOK l yX6_settle cX6_settle 3 (some .int) 5 0 0 (gTn f_X6_settle) := by
  refine gM_of (by decide +kernel) pX6_settle_ok (lk_X6_settle l) ?_
  intro SL SX K P av M run h
  unfold f_X6_settle at h
  split at h
  · rename_i p
    obtain ⟨rfl, σ, hσ, h⟩ := h
    refine ⟨⟨by simp [gC1], Nat.le_of_ble_eq_true rfl⟩, ?_⟩
    unfold oSettle at h
    refine run [24] 1000 _ _ _ _ _ _ rfl ?_
    conv => whnf
    refine ⟨rfl, rfl, _, _, hσ.2.1, hσ.1, by omega, fun M1 g1 g2 => ?_⟩
    have k1 := hσ.act g1 g2
    conv => whnf
    refine ⟨rfl, rfl, _, k1.1.1, ?_⟩
    conv => whnf
    refine upto (n := 10) (A := fun i => ∀ M', stR M' 1 (cUp σ.1.1 (fun c => (c.1, lbal c.1)) i, σ.1.2) → gFn M1 M' 1 131 → K 24 [some (.inr (.inl (6, 0))), some (.inl (cSum (fun c => if c.2 = lbal c.1 then 0 else 1) σ.1.1 10)), some (.inl (nI i))] [] M' gB0) ?_ (fun i hi ih => ?_) 0 (Nat.zero_le _) M1 (by rw [cUp_0]; exact k1.1) (gFn.rf _ _ _)
    · intro M' h2 h3
      have h2 := h2.up
      refine run [24] 1000 _ _ _ _ _ _ rfl ?_
      conv => whnf
      refine ⟨fun h4 => ?_, fun h4 => ?_⟩
      · conv => whnf
        exact ⟨rfl, h _ (k1.st h2 h3) ((g2.mono (by omega) (by omega)).tr (h3.mono (by omega) (by omega)))⟩
      · exact absurd (nI_le (Nat.le_refl 10) (by decide)) h4
    · intro M' h2 h3
      have e : (nI i).toNatClampNeg = i := nI_clamp (by omega)
      have c2 : colR M' (1 + 1 + 1 + 1 + 4 * i) (σ.1.1 i) := by
        have := h2.1 i hi
        dsimp only at this
        rw [cUp_at] at this
        exact this
      refine run [24] 1000 _ _ _ _ _ _ rfl ?_
      conv => whnf
      refine ⟨fun h4 => ?_, fun h4 => ?_⟩
      · exact absurd h4 (nI_ge hi (by decide))
      · conv => whnf
        refine ⟨⟨vp_in_nI (N := 10) (by omega) (by decide), rfl⟩, ?_⟩
        conv => whnf
        rw [e]
        refine ⟨rfl, rfl, _, c2, ?_⟩
        have f4 : gFr M' (gUp M' (1 + 1 + 1 + 1 + 4 * i) 4 (lbal (σ.1.1 i).1)) (1 + 1 + 1 + 1 + 4 * i) := fun r hr => gUp_row (by omega)
        have s3 := h2.col (b := i) hi (c2.base (lbal (σ.1.1 i).1)) f4
        unfold stCol at s3
        conv => whnf
        rw [nI_1]
        refine ih _ ?_ (h3.tr (f4.fn (by omega) (by omega)))
        rw [← cUp_step]
        exact s3
  · exact h.elim
theorem k5_of {k : Int32} (h : 0 ≤ k ∧ k ≤ 4) : k = 0 ∨ k = 1 ∨ k = 2 ∨ k = 3 ∨ k = 4 := by
  obtain ⟨b, hb, rfl⟩ := nI_bd (n := 4) (by decide) h.1 h.2
  have : b = 0 ∨ b = 1 ∨ b = 2 ∨ b = 3 ∨ b = 4 := by omega
  rcases this with rfl | rfl | rfl | rfl | rfl
  · exact Or.inl rfl
  · exact Or.inr (Or.inl rfl)
  · exact Or.inr (Or.inr (Or.inl rfl))
  · exact Or.inr (Or.inr (Or.inr (Or.inl rfl)))
  · exact Or.inr (Or.inr (Or.inr (Or.inr rfl)))
theorem ro5 {k : Int32} (h : 0 ≤ k ∧ k ≤ 4) : vp_in k 5 ∧ (gSl (50 + 3 - 50)).getD k.toNatClampNeg 0 = sLo k ∧ (gSl (50 + 4 - 50)).getD k.toNatClampNeg 0 = sHg k := by
  refine ⟨?_, ?_⟩
  · obtain ⟨b, hb, rfl⟩ := nI_bd (n := 4) (by decide) h.1 h.2
    exact vp_in_nI (by omega) (by decide)
  · rcases k5_of h with rfl | rfl | rfl | rfl | rfl <;> exact ⟨rfl, rfl⟩
theorem stR.set {M : gM} {p k : Nat} {S : St} (h : stR M p S) (x : Int32) : stR (gUp M (p + 45) k x) p (stSet S k x) := by
  obtain ⟨h1, h2, h3, h4, h5, h6⟩ := h
  have f : gFn M (gUp M (p + 45) k x) (p + 45) 1 := gFn.up (Nat.le_refl _) (by omega)
  refine ⟨h1.fn f (by omega), fun j hj => (h2 j hj).fn f (by omega), fun i hi => ?_, fun i hi => ?_, fun i hi => ?_, ?_⟩
  · rw [f (p + 44) (by omega)]; exact h3 i hi
  · show gUp M (p + 45) k x (p + 45) i = if i = k then x else _
    by_cases e : i = k
    · subst e
      rw [if_pos rfl]
      exact gUp_same _ _ _ _
    · rw [if_neg e, gUp_ne (Or.inr e)]
      exact h4 i hi
  · rw [f (p + 46) (by omega)]; exact h5 i hi
  · rw [f p (by omega)]; exact h6
def f_X6_set : gF := fun av M post => match av with
  | [.inr (.inl (6, p)), .inl k, .inl v] => p = 0 ∧ ∃ σ, clR M σ ∧ cQ M (oSet σ k v) post
  | _ => False
theorem lk_X6_set (l : Launch) : gLinks l RX6 5 [(gTn f_X6_isWithin, 0, 0, 99), (gTn f_X2_keep, 0, 0, 2)] pX6_set := And.intro ⟨gTn f_X6_isWithin, 99, yX6_isWithin, cX6_isWithin, 3, (some .boolean), 0, rfl, yi_yX6_isWithin, ok_X6_isWithin l, by decide, Or.inl ml_RX6_47, sm_yX6_isWithin⟩ (And.intro gs_RX6_117 (And.intro gs_RX6_120 (And.intro ⟨gTn f_X6_isWithin, 99, yX6_isWithin, cX6_isWithin, 3, (some .boolean), 0, rfl, yi_yX6_isWithin, ok_X6_isWithin l, by decide, Or.inl ml_RX6_47, sm_yX6_isWithin⟩ (And.intro kc_RX6_51 (And.intro gf_RX6_22 (And.intro gf_RX6_10 (And.intro ⟨gTn f_X2_keep, 2, yX2_keep, cX2_keep, 2, none, 4, _, rfl, by decide, yi_yX2_keep, ok_X2_keep l, by decide, by decide, rfl, rfl, ml_RX6_76, im_yX2_keep, se_yX2_keep⟩ (And.intro gf_RX6_10 (And.intro gf_RX6_123 (And.intro gf_RX6_10 (And.intro gf_RX6_123 (trivial))))))))))))
theorem ok_X6_set (l : Launch) : gOK l yX6_set cX6_set 4 (some .int) 5 0 0 (gTn f_X6_set) := by
  refine gM_of (by decide +kernel) pX6_set_ok (lk_X6_set l) ?_
  intro SL SX K P av M run h
  unfold f_X6_set at h
  split at h
  · rename_i p k v
    obtain ⟨rfl, σ, hσ, h⟩ := h
    refine ⟨⟨by simp [gC1], Nat.le_of_ble_eq_true rfl⟩, ?_⟩
    unfold oSet at h
    have bad26 : ¬ ((0 ≤ k ∧ k ≤ 4) ∧ sLo k ≤ v ∧ v ≤ sHg k) → ∀ ls, K 26 ls [] M gB0 := by
      intro hb ls
      rw [if_neg hb] at h
      refine run [] 1000 _ _ _ _ _ _ rfl ?_
      conv => whnf
      exact ⟨rfl, h.no hσ rfl⟩
    refine run [26] 1000 _ _ _ _ _ _ rfl ?_
    conv => whnf
    refine ⟨rfl, rfl, ?_⟩
    conv => whnf
    by_cases hk : 0 ≤ k ∧ k ≤ 4
    · rw [if_pos hk]
      have hr := ro5 hk
      refine ⟨fun h1 => ?_, fun h1 => ?_⟩
      · exact absurd h1 (by decide)
      · conv => whnf
        refine ⟨hr.1, ?_⟩
        conv => whnf
        refine ⟨hr.1, ?_⟩
        conv => whnf
        rw [hr.2.1, hr.2.2]
        refine ⟨rfl, rfl, ?_⟩
        conv => whnf
        by_cases hv : sLo k ≤ v ∧ v ≤ sHg k
        · rw [if_pos hv]
          rw [if_pos ⟨hk, hv⟩] at h
          refine ⟨fun h2 => ?_, fun h2 => ?_⟩
          · conv => whnf
            refine ⟨rfl, rfl, _, _, hσ.2.1, hσ.1, by omega, fun M1 g1 g2 => ?_⟩
            have k1 := hσ.act g1 g2
            have e1 : M1 (1 + 45) k.toNatClampNeg = σ.1.2.2.2.1 k.toNatClampNeg := k1.1.2.2.2.1 _ (by
              obtain ⟨b, hb, rfl⟩ := nI_bd (n := 4) (by decide) hk.1 hk.2
              rw [nI_clamp (by omega)]
              omega)
            conv => whnf
            refine ⟨hr.1, ?_⟩
            conv => whnf
            refine ⟨hr.1, ?_⟩
            conv => whnf
            rw [← e1] at h
            have f3 : gFn M1 (gUp M1 (1 + 45) k.toNatClampNeg v) 1 131 := gFn.up (by omega) (by omega)
            exact ⟨rfl, h _ (k1.st (k1.1.set v) f3) ((g2.mono (by omega) (by omega)).tr (f3.mono (by omega) (by omega)))⟩
          · exact absurd h2 (by decide)
        · rw [if_neg hv]
          refine ⟨fun h2 => ?_, fun h2 => ?_⟩
          · exact absurd rfl h2
          · conv => whnf
            exact bad26 (fun a => hv a.2) _
    · rw [if_neg hk]
      refine ⟨fun h1 => ?_, fun h1 => ?_⟩
      · conv => whnf
        exact bad26 (fun a => hk a.1) _
      · exact absurd rfl h1
  · exact h.elim
