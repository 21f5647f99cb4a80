/-! the law's acts -/
def aAct (S : St) (y : Int32) : Xo :=
  if y &&& 15 = 4 then xRem S (pLow (y >>> (4 &&& 31)) 6) (pLow (y >>> (6 &&& 31)) 3)
  else if y &&& 15 = 5 then xStrip S (pLow (y >>> (4 &&& 31)) 3)
  else if y &&& 15 = 6 then xSettle S
  else if y &&& 15 = 7 then xSet S 0 (pLow (y >>> (4 &&& 31) * 31) 2000 - 300)
  else if y &&& 15 = 8 then xSet S ((1 : Int32) + pLow (y >>> (4 &&& 31)) 4) ((1 : Int32) + pLow (y >>> (3 &&& 31)) 120)
  else if y &&& 15 = 9 then xTake S (pLow (y >>> (4 &&& 31)) 2)
  else if y &&& 15 = 10 then xRest S (pLow (y >>> (4 &&& 31)) 2)
  else if y &&& 15 < 4 then xAdd S (pLow (y >>> (4 &&& 31)) 6) (pLow (y >>> (6 &&& 31)) 3) (pLow (y >>> (7 &&& 31)) 3) (if pLow (y >>> (7 &&& 31)) 3 = 0 then 9 else if pLow (y >>> (7 &&& 31)) 3 = 1 then 22 else (24 : Int32) + pLow (y >>> (5 &&& 31)) 9) ((1 : Int32) + pLow (y * 5) 4000)
  else xRun S ((1 : Int32) + pLow (y >>> (4 &&& 31)) 7)
theorem and15 (y : Int32) : 0 ≤ (y &&& 15).toInt ∧ (y &&& 15).toInt < 16 := by
  have := vp_in_iff.mp (pk_andIn y (m := 15) 4 (by decide) (by decide))
  exact ⟨this.1, this.2⟩
theorem aAct_run {S : St} {y : Int32} (h : 10 < (y &&& 15).toInt) : aAct S y = xRun S ((1 : Int32) + pLow (y >>> (4 &&& 31)) 7) := by
  have ne : ∀ z : Int32, z.toInt ≤ 10 → ¬ y &&& 15 = z := fun z hz q => by
    rw [q] at h
    omega
  unfold aAct
  rw [if_neg (ne 4 (by decide)), if_neg (ne 5 (by decide)), if_neg (ne 6 (by decide)), if_neg (ne 7 (by decide)), if_neg (ne 8 (by decide)), if_neg (ne 9 (by decide)), if_neg (ne 10 (by decide)), if_neg (fun q => by
    have q := Int32.lt_iff_toInt_lt.mp q
    rw [show ((4 : Int32)).toInt = 4 from rfl] at q
    omega)]
theorem pLow_add {v : Int32} {m : Nat} (h : 0 < m) (hm : m < 1000000) : ∃ j, j < m ∧ (1 : Int32) + pLow v (nI m) = nI (j + 1) := by
  obtain ⟨j, hj, e⟩ := pLow_rng v h hm
  exact ⟨j, hj, by rw [e, Int32.add_comm]; exact nI_1 j⟩
theorem act_good {N : Nat} {S : St} (hN : N < 15) (h : good N S) (y : Int32) : xGood N (aAct S y) := by
  unfold aAct
  split
  · exact rem_good h _ _
  · split
    · exact strip_good h _
    · split
      · exact settle_good hN h
      · split
        · exact set_good h _ _
        · split
          · exact set_good h _ _
          · split
            · exact take_good h _
            · split
              · exact rest_good h _
              · split
                · refine add_good h _ _ _ _ _ ?_
                  obtain ⟨j, hj, e⟩ := pLow_add (v := y * 5) (m := 4000) (by decide) (by decide)
                  have e : (1 : Int32) + pLow (y * 5) 4000 = nI (j + 1) := e
                  rw [e]
                  exact Int32.le_iff_toInt_le.mpr (by rw [nI_toInt (by omega)]; show ((j + 1 : Nat) : Int) ≤ 4000; omega)
                · obtain ⟨j, hj, e⟩ := pLow_add (v := y >>> (4 &&& 31)) (m := 7) (by decide) (by decide)
                  have e : (1 : Int32) + pLow (y >>> (4 &&& 31)) 7 = nI (j + 1) := e
                  rw [e]
                  exact run_good hN h (j + 1) (by omega)
def f_L_act : gF := fun av M post => match av with
  | [.inr (.inl (6, p)), .inl y] => p = 0 ∧ ∃ σ, clR M σ ∧ cQ M (lft σ (aAct σ.1 y)) post
  | _ => False
theorem lk_L_act (l : Launch) : gLinks l RL 7 [(gTn f_L_low, 0, 0, 99), (gTn f_X6_addLayer, 0, 0, 6), (gTn f_X6_removeLayer, 0, 0, 6), (gTn f_X6_strip, 0, 0, 6), (gTn f_X6_settle, 0, 0, 6), (gTn f_X6_set, 0, 0, 6), (gTn f_X6_take, 0, 0, 6), (gTn f_X6_restore, 0, 0, 6), (gTn f_X6_run, 0, 0, 6)] pL_act := And.intro ⟨gTn f_L_low, 99, yL_low, method_3_code, 2, (some .int), 0, rfl, yi_yL_low, ok_L_low l, by decide, Or.inl ml_RL_29, sm_yL_low⟩ (And.intro ⟨gTn f_L_low, 99, yL_low, method_3_code, 2, (some .int), 0, rfl, yi_yL_low, ok_L_low l, by decide, Or.inl ml_RL_29, sm_yL_low⟩ (And.intro ⟨gTn f_L_low, 99, yL_low, method_3_code, 2, (some .int), 0, rfl, yi_yL_low, ok_L_low l, by decide, Or.inl ml_RL_29, sm_yL_low⟩ (And.intro ⟨gTn f_L_low, 99, yL_low, method_3_code, 2, (some .int), 0, rfl, yi_yL_low, ok_L_low l, by decide, Or.inl ml_RL_29, sm_yL_low⟩ (And.intro ⟨gTn f_L_low, 99, yL_low, method_3_code, 2, (some .int), 0, rfl, yi_yL_low, ok_L_low l, by decide, Or.inl ml_RL_29, sm_yL_low⟩ (And.intro ⟨gTn f_X6_addLayer, 6, yX6_addLayer, cX6_addLayer, 7, (some .int), 5, _, rfl, by decide, yi_yX6_addLayer, ok_X6_addLayer l, by decide, by decide, rfl, rfl, ml_RL_34, im_yX6_addLayer, se_yX6_addLayer⟩ (And.intro ⟨gTn f_L_low, 99, yL_low, method_3_code, 2, (some .int), 0, rfl, yi_yL_low, ok_L_low l, by decide, Or.inl ml_RL_29, sm_yL_low⟩ (And.intro ⟨gTn f_L_low, 99, yL_low, method_3_code, 2, (some .int), 0, rfl, yi_yL_low, ok_L_low l, by decide, Or.inl ml_RL_29, sm_yL_low⟩ (And.intro ⟨gTn f_X6_removeLayer, 6, yX6_removeLayer, cX6_removeLayer, 5, (some .int), 5, _, rfl, by decide, yi_yX6_removeLayer, ok_X6_removeLayer l, by decide, by decide, rfl, rfl, ml_RL_38, im_yX6_removeLayer, se_yX6_removeLayer⟩ (And.intro ⟨gTn f_L_low, 99, yL_low, method_3_code, 2, (some .int), 0, rfl, yi_yL_low, ok_L_low l, by decide, Or.inl ml_RL_29, sm_yL_low⟩ (And.intro ⟨gTn f_X6_strip, 6, yX6_strip, cX6_strip, 5, (some .int), 5, _, rfl, by decide, yi_yX6_strip, ok_X6_strip l, by decide, by decide, rfl, rfl, ml_RL_41, im_yX6_strip, se_yX6_strip⟩ (And.intro ⟨gTn f_X6_settle, 6, yX6_settle, cX6_settle, 3, (some .int), 5, _, rfl, by decide, yi_yX6_settle, ok_X6_settle l, by decide, by decide, rfl, rfl, ml_RL_44, im_yX6_settle, se_yX6_settle⟩ (And.intro ⟨gTn f_L_low, 99, yL_low, method_3_code, 2, (some .int), 0, rfl, yi_yL_low, ok_L_low l, by decide, Or.inl ml_RL_29, sm_yL_low⟩ (And.intro ⟨gTn f_X6_set, 6, yX6_set, cX6_set, 4, (some .int), 5, _, rfl, by decide, yi_yX6_set, ok_X6_set l, by decide, by decide, rfl, rfl, ml_RL_48, im_yX6_set, se_yX6_set⟩ (And.intro ⟨gTn f_L_low, 99, yL_low, method_3_code, 2, (some .int), 0, rfl, yi_yL_low, ok_L_low l, by decide, Or.inl ml_RL_29, sm_yL_low⟩ (And.intro ⟨gTn f_L_low, 99, yL_low, method_3_code, 2, (some .int), 0, rfl, yi_yL_low, ok_L_low l, by decide, Or.inl ml_RL_29, sm_yL_low⟩ (And.intro ⟨gTn f_X6_set, 6, yX6_set, cX6_set, 4, (some .int), 5, _, rfl, by decide, yi_yX6_set, ok_X6_set l, by decide, by decide, rfl, rfl, ml_RL_48, im_yX6_set, se_yX6_set⟩ (And.intro ⟨gTn f_L_low, 99, yL_low, method_3_code, 2, (some .int), 0, rfl, yi_yL_low, ok_L_low l, by decide, Or.inl ml_RL_29, sm_yL_low⟩ (And.intro ⟨gTn f_X6_take, 6, yX6_take, cX6_take, 2, (some .int), 5, _, rfl, by decide, yi_yX6_take, ok_X6_take l, by decide, by decide, rfl, rfl, ml_RL_51, im_yX6_take, se_yX6_take⟩ (And.intro ⟨gTn f_L_low, 99, yL_low, method_3_code, 2, (some .int), 0, rfl, yi_yL_low, ok_L_low l, by decide, Or.inl ml_RL_29, sm_yL_low⟩ (And.intro ⟨gTn f_X6_restore, 6, yX6_restore, cX6_restore, 2, (some .int), 5, _, rfl, by decide, yi_yX6_restore, ok_X6_restore l, by decide, by decide, rfl, rfl, ml_RL_54, im_yX6_restore, se_yX6_restore⟩ (And.intro ⟨gTn f_L_low, 99, yL_low, method_3_code, 2, (some .int), 0, rfl, yi_yL_low, ok_L_low l, by decide, Or.inl ml_RL_29, sm_yL_low⟩ (And.intro ⟨gTn f_X6_run, 6, yX6_run, cX6_run, 3, (some .int), 6, _, rfl, by decide, yi_yX6_run, ok_X6_run l, by decide, by decide, rfl, rfl, ml_RL_57, im_yX6_run, se_yX6_run⟩ (trivial)))))))))))))))))))))))
theorem ok_L_act (l : Launch) : gOK l yL_act method_5_code 4 (some .int) 7 0 0 (gTn f_L_act) := by
  refine gM_of (by decide +kernel) pL_act_ok (lk_L_act l) ?_
  intro SL SX K P av M run h
  unfold f_L_act at h
  split at h
  · rename_i p y
    obtain ⟨rfl, σ, hσ, h⟩ := h
    refine ⟨⟨by simp [gC1], Nat.le_of_ble_eq_true rfl⟩, ?_⟩
    have k76 : y &&& 15 < 4 → K 76 [some (.inr (.inl (6, 0))), some (.inl y), some (.inl (y >>> (4 &&& 31))), some (.inl (pLow (y >>> (7 &&& 31)) 3))] [] M gB0 := by
      intro hx
      have e : aAct σ.1 y = xAdd σ.1 (pLow (y >>> (4 &&& 31)) 6) (pLow (y >>> (6 &&& 31)) 3) (pLow (y >>> (7 &&& 31)) 3) (if pLow (y >>> (7 &&& 31)) 3 = 0 then 9 else if pLow (y >>> (7 &&& 31)) 3 = 1 then 22 else (24 : Int32) + pLow (y >>> (5 &&& 31)) 9) ((1 : Int32) + pLow (y * 5) 4000) := by
        have ne : ∀ z : Int32, 4 ≤ z.toInt → ¬ y &&& 15 = z := fun z hz q => by
          have hx := Int32.lt_iff_toInt_lt.mp hx
          rw [q, show ((4 : Int32)).toInt = 4 from rfl] at hx
          omega
        unfold aAct
        rw [if_neg (ne 4 (by decide)), if_neg (ne 5 (by decide)), if_neg (ne 6 (by decide)), if_neg (ne 7 (by decide)), if_neg (ne 8 (by decide)), if_neg (ne 9 (by decide)), if_neg (ne 10 (by decide)), if_pos hx]
      rw [e, ← oAdd_x] at h
      generalize pLow (y >>> (7 &&& 31)) 3 = kd at h ⊢
      generalize y >>> (4 &&& 31) = a4 at h ⊢
      have k122 : ∀ dn : Int32, dn = (if kd = 0 then (9 : Int32) else if kd = 1 then (22 : Int32) else (24 : Int32) + pLow (y >>> (5 &&& 31)) 9) → K 122 [some (.inr (.inl (6, 0))), some (.inl y), some (.inl a4), some (.inl kd)] [.inl dn, .inl kd, .inl (pLow (y >>> (6 &&& 31)) 3), .inl (pLow a4 6), .inr (.inl (6, 0))] M gB0 := by
        intro dn hdn
        rw [← hdn] at h
        refine run [] 1000 _ _ _ _ _ _ rfl ?_
        conv => whnf
        refine ⟨rfl, rfl, by decide, ?_⟩
        conv => whnf
        refine ⟨rfl, rfl, rfl, σ, hσ, fun M1 g1 g2 => ?_⟩
        conv => whnf
        exact ⟨rfl, h M1 g1 g2⟩
      clear h
      refine run [122] 1000 _ _ _ _ _ _ rfl ?_
      conv => whnf
      refine ⟨rfl, rfl, by decide, ?_⟩
      conv => whnf
      refine ⟨rfl, rfl, by decide, ?_⟩
      conv => whnf
      refine ⟨fun h1 => ?_, fun h1 => ?_⟩
      · conv => whnf
        refine ⟨fun h2 => ?_, fun h2 => ?_⟩
        · conv => whnf
          refine ⟨rfl, rfl, by decide, ?_⟩
          conv => whnf
          exact k122 _ (by rw [if_neg h1, if_neg h2])
        · conv => whnf
          exact k122 _ (by rw [if_neg h1, if_pos h2])
      · conv => whnf
        exact k122 _ (by rw [if_pos h1])
    refine run [76] 1000 _ _ _ _ _ _ rfl ?_
    conv => whnf
    refine ⟨rfl, rfl, by decide, ?_⟩
    conv => whnf
    refine ⟨⟨fun hx => ?_, fun hx => ?_, fun hx => ?_, fun hx => ?_, fun hx => ?_, fun hx => ?_, fun hx => ?_, fun hx => ?_, fun hx => ?_, fun hx => ?_, fun hx => ?_, trivial⟩, fun hx => ?_⟩
    · have hx : y &&& 15 = 0 := hx
      exact k76 (by rw [hx]; decide)
    · have hx : y &&& 15 = 1 := hx
      exact k76 (by rw [hx]; decide)
    · have hx : y &&& 15 = 2 := hx
      exact k76 (by rw [hx]; decide)
    · have hx : y &&& 15 = 3 := hx
      exact k76 (by rw [hx]; decide)
    · have hx : y &&& 15 = 4 := hx
      have e : lft σ (aAct σ.1 y) = oRem σ (pLow (y >>> (4 &&& 31)) 6) (pLow (y >>> (6 &&& 31)) 3) := by
        unfold aAct
        rw [hx, if_pos rfl, ← oRem_x]
      rw [e] at h
      conv => whnf
      refine ⟨rfl, rfl, by decide, ?_⟩
      conv => whnf
      refine ⟨rfl, rfl, by decide, ?_⟩
      conv => whnf
      refine ⟨rfl, rfl, rfl, σ, hσ, fun M1 g1 g2 => ?_⟩
      conv => whnf
      exact ⟨rfl, h M1 g1 g2⟩
    · have hx : y &&& 15 = 5 := hx
      have e : lft σ (aAct σ.1 y) = oStrip σ (pLow (y >>> (4 &&& 31)) 3) := by
        unfold aAct
        rw [hx, if_neg (by decide), if_pos rfl, ← oStrip_x]
      rw [e] at h
      conv => whnf
      refine ⟨rfl, rfl, by decide, ?_⟩
      conv => whnf
      refine ⟨rfl, rfl, rfl, σ, hσ, fun M1 g1 g2 => ?_⟩
      conv => whnf
      exact ⟨rfl, h M1 g1 g2⟩
    · have hx : y &&& 15 = 6 := hx
      have e : lft σ (aAct σ.1 y) = oSettle σ := by
        unfold aAct
        rw [hx, if_neg (by decide), if_neg (by decide), if_pos rfl, ← oSettle_x]
      rw [e] at h
      conv => whnf
      refine ⟨rfl, rfl, rfl, σ, hσ, fun M1 g1 g2 => ?_⟩
      conv => whnf
      exact ⟨rfl, h M1 g1 g2⟩
    · have hx : y &&& 15 = 7 := hx
      have e : lft σ (aAct σ.1 y) = oSet σ 0 (pLow (y >>> (4 &&& 31) * 31) 2000 - 300) := by
        unfold aAct
        rw [hx, if_neg (by decide), if_neg (by decide), if_neg (by decide), if_pos rfl, ← oSet_x]
      rw [e] at h
      conv => whnf
      refine ⟨rfl, rfl, by decide, ?_⟩
      conv => whnf
      refine ⟨rfl, rfl, rfl, σ, hσ, fun M1 g1 g2 => ?_⟩
      conv => whnf
      exact ⟨rfl, h M1 g1 g2⟩
    · have hx : y &&& 15 = 8 := hx
      have e : lft σ (aAct σ.1 y) = oSet σ ((1 : Int32) + pLow (y >>> (4 &&& 31)) 4) ((1 : Int32) + pLow (y >>> (3 &&& 31)) 120) := by
        unfold aAct
        rw [hx, if_neg (by decide), if_neg (by decide), if_neg (by decide), if_neg (by decide), if_pos rfl, ← oSet_x]
      rw [e] at h
      conv => whnf
      refine ⟨rfl, rfl, by decide, ?_⟩
      conv => whnf
      refine ⟨rfl, rfl, by decide, ?_⟩
      conv => whnf
      refine ⟨rfl, rfl, rfl, σ, hσ, fun M1 g1 g2 => ?_⟩
      conv => whnf
      exact ⟨rfl, h M1 g1 g2⟩
    · have hx : y &&& 15 = 9 := hx
      have e : lft σ (aAct σ.1 y) = oTake σ (pLow (y >>> (4 &&& 31)) 2) := by
        unfold aAct
        rw [hx, if_neg (by decide), if_neg (by decide), if_neg (by decide), if_neg (by decide), if_neg (by decide), if_pos rfl, ← oTake_x]
      rw [e] at h
      conv => whnf
      refine ⟨rfl, rfl, by decide, ?_⟩
      conv => whnf
      refine ⟨rfl, rfl, rfl, σ, hσ, fun M1 g1 g2 => ?_⟩
      conv => whnf
      exact ⟨rfl, h M1 g1 g2⟩
    · have hx : y &&& 15 = 10 := hx
      have e : lft σ (aAct σ.1 y) = oRest σ (pLow (y >>> (4 &&& 31)) 2) := by
        unfold aAct
        rw [hx, if_neg (by decide), if_neg (by decide), if_neg (by decide), if_neg (by decide), if_neg (by decide), if_neg (by decide), if_pos rfl, ← oRest_x]
      rw [e] at h
      conv => whnf
      refine ⟨rfl, rfl, by decide, ?_⟩
      conv => whnf
      refine ⟨rfl, rfl, rfl, σ, hσ, fun M1 g1 g2 => ?_⟩
      conv => whnf
      exact ⟨rfl, h M1 g1 g2⟩
    · have hx : (y &&& 15).toInt < 0 ∨ 10 < (y &&& 15).toInt := hx
      have r := and15 y
      rw [aAct_run (by omega), ← oRun_x] at h
      conv => whnf
      refine ⟨rfl, rfl, by decide, ?_⟩
      conv => whnf
      refine ⟨rfl, rfl, rfl, σ, hσ, fun M1 g1 g2 => ?_⟩
      conv => whnf
      exact ⟨rfl, h M1 g1 g2⟩
  · exact h.elim
