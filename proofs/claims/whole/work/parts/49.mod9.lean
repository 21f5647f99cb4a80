/-! the model: valleys -/
theorem v_end : ∀ b, b < 10 → (if (9 : Int32) < nI b + 1 then 9 else nI b + 1) = nI (if b = 9 then 9 else b + 1) := by decide
theorem v_beg : ∀ b, b < 10 → (if nI b - 1 < 0 then 0 else nI b - 1) = nI (b - 1) := by decide
def f_X7_valleyOf : gF := fun av M post => match av with
  | [.inr (.inl (7, p)), .inl v] => p = 926 ∧ ∃ C b, (∀ i, i < 10 → mcR (M 927) (26 * i) (C i)) ∧ b < 10 ∧ v = nI b ∧ post (some (.inl (oN (cLow C b)))) M
  | _ => False
theorem lk_X7_valleyOf (l : Launch) : gLinks l RX7 3 [(gTn f_X7_top, 0, 0, 7), (gTn f_X7_more, 0, 0, 99), (gTn f_X7_less, 0, 0, 99)] pX7_valleyOf := And.intro kc_RX7_112 (And.intro ⟨gTn f_X7_top, 7, yX7_top, cX7_top, 2, (some .int), 2, _, rfl, by decide, yi_yX7_top, ok_X7_top l, by decide, by decide, rfl, rfl, ml_RX7_102, im_yX7_top, se_yX7_top⟩ (And.intro ⟨gTn f_X7_more, 99, yX7_more, cX7_more, 2, (some .int), 0, rfl, yi_yX7_more, ok_X7_more l, by decide, Or.inl ml_RX7_113, sm_yX7_more⟩ (And.intro ⟨gTn f_X7_less, 99, yX7_less, cX7_less, 2, (some .int), 0, rfl, yi_yX7_less, ok_X7_less l, by decide, Or.inl ml_RX7_99, sm_yX7_less⟩ (And.intro ⟨gTn f_X7_top, 7, yX7_top, cX7_top, 2, (some .int), 2, _, rfl, by decide, yi_yX7_top, ok_X7_top l, by decide, by decide, rfl, rfl, ml_RX7_102, im_yX7_top, se_yX7_top⟩ (And.intro ⟨gTn f_X7_top, 7, yX7_top, cX7_top, 2, (some .int), 2, _, rfl, by decide, yi_yX7_top, ok_X7_top l, by decide, by decide, rfl, rfl, ml_RX7_102, im_yX7_top, se_yX7_top⟩ (And.intro ⟨gTn f_X7_less, 99, yX7_less, cX7_less, 2, (some .int), 0, rfl, yi_yX7_less, ok_X7_less l, by decide, Or.inl ml_RX7_99, sm_yX7_less⟩ (trivial)))))))
theorem ok_X7_valleyOf (l : Launch) : gOK l yX7_valleyOf cX7_valleyOf 5 (some .int) 3 0 0 (gTn f_X7_valleyOf) := by
  refine gM_of (by decide +kernel) pX7_valleyOf_ok (lk_X7_valleyOf l) ?_
  intro SL SX K P av M run h
  unfold f_X7_valleyOf at h
  split at h
  · rename_i p v
    obtain ⟨rfl, C, b, hC, hb, rfl, h⟩ := h
    refine ⟨⟨by simp [gC1], Nat.le_of_ble_eq_true rfl⟩, ?_⟩
    refine run [18] 1000 _ _ _ _ _ _ rfl ?_
    conv => whnf
    refine ⟨rfl, rfl, rfl, b, _, hb, rfl, hC b hb, ?_⟩
    conv => whnf
    refine ⟨rfl, rfl, ?_⟩
    conv => whnf
    rw [show (if nI b - 1 < 0 then 0 else nI b - 1) = nI (b - 1) from v_beg b hb]
    have iter : ∀ k its least, k ≤ (if b = 9 then 9 else b + 1) → k < 10 → K 18 [some (.inr (.inl (7, 926))), some (.inl (nI b)), some (.inl (if ltop (C k) < least then nI k else its)), some (.inl (if least < ltop (C k) then least else ltop (C k))), some (.inl (nI (k + 1)))] [] M gB0 → K 18 [some (.inr (.inl (7, 926))), some (.inl (nI b)), some (.inl its), some (.inl least), some (.inl (nI k))] [] M gB0 := by
      intro k its least hk hk10 ih
      have tail : ∀ x, x = (if ltop (C k) < least then nI k else its) → K 47 [some (.inr (.inl (7, 926))), some (.inl (nI b)), some (.inl its), some (.inl least), some (.inl (nI k))] [.inl x] M gB0 := by
        intro x hx
        refine run [18] 1000 _ _ _ _ _ _ rfl ?_
        conv => whnf
        refine ⟨rfl, rfl, rfl, k, _, hk10, rfl, hC k hk10, ?_⟩
        conv => whnf
        refine ⟨rfl, rfl, ?_⟩
        conv => whnf
        rw [nI_1, hx]
        exact ih
      refine run [18, 47] 1000 _ _ _ _ _ _ rfl ?_
      conv => whnf
      refine ⟨rfl, rfl, ?_⟩
      conv => whnf
      rw [v_end b hb]
      refine ⟨fun h1 => ?_, fun h1 => ?_⟩
      · exact absurd h1 (Int32.not_lt.mpr (nI_le hk (by split <;> omega)))
      · conv => whnf
        refine ⟨rfl, rfl, rfl, k, _, hk10, rfl, hC k hk10, ?_⟩
        conv => whnf
        refine ⟨fun h2 => ?_, fun h2 => ?_⟩
        · conv => whnf
          exact tail _ (if_neg (Int32.not_lt.mpr h2)).symm
        · conv => whnf
          exact tail _ (if_pos (Int32.not_le.mp h2)).symm
    have fin : ∀ its least, P (some (.inl its)) M → K 18 [some (.inr (.inl (7, 926))), some (.inl (nI b)), some (.inl its), some (.inl least), some (.inl (nI ((if b = 9 then 9 else b + 1) + 1)))] [] M gB0 := by
      intro its least hP
      refine run [] 1000 _ _ _ _ _ _ rfl ?_
      conv => whnf
      refine ⟨rfl, rfl, ?_⟩
      conv => whnf
      rw [v_end b hb]
      refine ⟨fun h1 => ?_, fun h1 => ?_⟩
      · conv => whnf
        exact ⟨rfl, hP⟩
      · exact absurd (nI_lt (Nat.lt_succ_self _) (by split <;> omega)) h1
    -- the block itself, and the right one
    have right : ∀ its least, ¬ ltop (C b) < least → oN (cLow C b) = (if b < 9 ∧ ltop (C (b + 1)) < least then nI (b + 1) else its) → K 18 [some (.inr (.inl (7, 926))), some (.inl (nI b)), some (.inl its), some (.inl least), some (.inl (nI b))] [] M gB0 := by
      intro its least hl he
      refine iter b its least (by split <;> omega) hb ?_
      have e1 : (if least < ltop (C b) then least else ltop (C b)) = least := by
        by_cases a : least < ltop (C b)
        · rw [if_pos a]
        · rw [if_neg a]
          exact Int32.le_antisymm (Int32.not_lt.mp a) (Int32.not_lt.mp hl)
      rw [if_neg hl, e1]
      by_cases h9 : b = 9
      · rw [if_neg (by omega)] at he
        have := fin its least (by rw [← he]; exact h)
        rw [if_pos h9] at this
        rw [show b + 1 = 9 + 1 by omega]
        exact this
      · refine iter (b + 1) its least (by rw [if_neg h9]; exact Nat.le_refl _) (by omega) ?_
        have := fin (if ltop (C (b + 1)) < least then nI (b + 1) else its) (if least < ltop (C (b + 1)) then least else ltop (C (b + 1))) (by
          by_cases a : ltop (C (b + 1)) < least
          · rw [if_pos a]
            rw [if_pos ⟨by omega, a⟩] at he
            rw [← he]
            exact h
          · rw [if_neg a]
            rw [if_neg (fun q => a q.2)] at he
            rw [← he]
            exact h)
        rw [if_neg h9] at this
        exact this
    by_cases h0 : b = 0
    · subst h0
      refine right (-100000009) (ltop (C 0)) (Int32.lt_irrefl) ?_
      unfold cLow
      rw [if_neg (by omega)]
      by_cases a : 0 < 9 ∧ ltop (C (0 + 1)) < ltop (C 0)
      · rw [if_pos a, if_pos a]
        rfl
      · rw [if_neg a, if_neg a]
        rfl
    · refine iter (b - 1) (-100000009) (ltop (C b)) (by split <;> omega) (by omega) ?_
      rw [show b - 1 + 1 = b by omega]
      by_cases a : ltop (C (b - 1)) < ltop (C b)
      · rw [if_pos a, if_neg (Int32.not_lt.mpr (Int32.le_of_lt a))]
        refine right (nI (b - 1)) (ltop (C (b - 1))) (Int32.not_lt.mpr (Int32.le_of_lt a)) ?_
        unfold cLow
        rw [if_pos ⟨by omega, a⟩]
        by_cases c : b < 9 ∧ ltop (C (b + 1)) < ltop (C (b - 1))
        · rw [if_pos c, if_pos c]
          rfl
        · rw [if_neg c, if_neg c]
          rfl
      · rw [if_neg a]
        have e1 : (if ltop (C b) < ltop (C (b - 1)) then ltop (C b) else ltop (C (b - 1))) = ltop (C b) := by
          by_cases q : ltop (C b) < ltop (C (b - 1))
          · rw [if_pos q]
          · rw [if_neg q]
            exact Int32.le_antisymm (Int32.not_lt.mp q) (Int32.not_lt.mp a)
        rw [e1]
        refine right (-100000009) (ltop (C b)) Int32.lt_irrefl ?_
        unfold cLow
        rw [if_neg (fun q => a q.2)]
        by_cases c : b < 9 ∧ ltop (C (b + 1)) < ltop (C b)
        · rw [if_pos c, if_pos c]
          rfl
        · rw [if_neg c, if_neg c]
          rfl
  · exact h.elim
