/-! the model: looking 2 -/
def f_X7_count : gF := fun av M post => match av with
  | [.inr (.inl (7, p)), .inl x] => p = 926 ∧ ∃ σ, moR M σ ∧ mQ M (oCount σ x, σ) post
  | _ => False
theorem lk_X7_count (l : Launch) : gLinks l RX7 5 [(gTn f_X7_allLayers, 0, 0, 7), (gTn f_X7_filled, 0, 0, 7), (gTn f_X7_icyMany, 0, 0, 7), (gTn f_X7_unbalanced, 0, 0, 7), (gTn f_X7_highest, 0, 0, 7)] pX7_count := And.intro gf_RX7_31 (And.intro gf_RX7_7 (And.intro gf_RX7_7 (And.intro ⟨gTn f_X7_allLayers, 7, yX7_allLayers, cX7_allLayers, 3, (some .int), 1, _, rfl, by decide, yi_yX7_allLayers, ok_X7_allLayers l, by decide, by decide, rfl, rfl, ml_RX7_137, im_yX7_allLayers, se_yX7_allLayers⟩ (And.intro ⟨gTn f_X7_filled, 7, yX7_filled, cX7_filled, 3, (some .int), 1, _, rfl, by decide, yi_yX7_filled, ok_X7_filled l, by decide, by decide, rfl, rfl, ml_RX7_181, im_yX7_filled, se_yX7_filled⟩ (And.intro ⟨gTn f_X7_icyMany, 7, yX7_icyMany, cX7_icyMany, 3, (some .int), 3, _, rfl, by decide, yi_yX7_icyMany, ok_X7_icyMany l, by decide, by decide, rfl, rfl, ml_RX7_184, im_yX7_icyMany, se_yX7_icyMany⟩ (And.intro ⟨gTn f_X7_unbalanced, 7, yX7_unbalanced, cX7_unbalanced, 3, (some .int), 4, _, rfl, by decide, yi_yX7_unbalanced, ok_X7_unbalanced l, by decide, by decide, rfl, rfl, ml_RX7_187, im_yX7_unbalanced, se_yX7_unbalanced⟩ (And.intro ⟨gTn f_X7_highest, 7, yX7_highest, cX7_highest, 3, (some .int), 3, _, rfl, by decide, yi_yX7_highest, ok_X7_highest l, by decide, by decide, rfl, rfl, ml_RX7_190, im_yX7_highest, se_yX7_highest⟩ (And.intro gf_RX7_7 (And.intro gf_RX7_7 (And.intro gf_RX7_35 (And.intro gf_RX7_145 (And.intro kc_RX7_71 (trivial)))))))))))))
theorem ok_X7_count (l : Launch) : gOK l yX7_count cX7_count 2 (some .int) 5 0 0 (gTn f_X7_count) := by
  refine gM_of (by decide +kernel) pX7_count_ok (lk_X7_count l) ?_
  intro SL SX K P av M run h
  unfold f_X7_count at h
  split at h
  · rename_i p x
    obtain ⟨rfl, σ, hσ0, h⟩ := h
    refine ⟨⟨by simp [gC1], Nat.le_of_ble_eq_true rfl⟩, ?_⟩
    have hσ := hσ0.th
    replace h : P (some (.inl (oCount σ x))) (gUp M 926 0 0) := h _ hσ (gFm.up M (q := 926) 0 0 (Nat.le_refl _))
    refine run [] 1000 _ _ _ _ _ _ rfl ?_
    conv => whnf
    refine ⟨⟨fun h1 => ?_, fun h1 => ?_, fun h1 => ?_, fun h1 => ?_, fun h1 => ?_, fun h1 => ?_, fun h1 => ?_, fun h1 => ?_, fun h1 => ?_, fun h1 => ?_, fun h1 => ?_, fun h1 => ?_, fun h1 => ?_, fun h1 => ?_, trivial⟩, fun h1 => ?_⟩
    · have h1 : x = 0 := h1
      subst h1
      have h : P (some (.inl (σ.1.2.2.2.2.2))) (gUp M 926 0 0) := h
      conv => whnf
      refine ⟨vp_in_nI (n := 265) (by decide) (by decide), ?_⟩
      conv => whnf
      rw [show gUp M 926 0 0 (926 + 1) (Int32.toNatClampNeg 265) = σ.1.2.2.2.2.2 from hσ.1.2.2.2.2.2.2]
      exact ⟨rfl, h⟩
    · have h1 : x = 1 := h1
      subst h1
      have h : P (some (.inl (σ.1.2.2.2.1 0))) (gUp M 926 0 0) := h
      conv => whnf
      rw [show (260 : Int32) + 1 - 1 = nI 260 from by decide]
      refine ⟨vp_in_nI (n := 260) (by decide) (by decide), ?_⟩
      conv => whnf
      rw [nI_clamp (by decide), show gUp M 926 0 0 (926 + 1) 260 = σ.1.2.2.2.1 0 from hσ.1.2.2.2.1 0 (by decide)]
      exact ⟨rfl, h⟩
    · have h1 : x = 2 := h1
      subst h1
      have h : P (some (.inl (σ.1.2.2.2.1 1))) (gUp M 926 0 0) := h
      conv => whnf
      rw [show (260 : Int32) + 2 - 1 = nI 261 from by decide]
      refine ⟨vp_in_nI (n := 261) (by decide) (by decide), ?_⟩
      conv => whnf
      rw [nI_clamp (by decide), show gUp M 926 0 0 (926 + 1) 261 = σ.1.2.2.2.1 1 from hσ.1.2.2.2.1 1 (by decide)]
      exact ⟨rfl, h⟩
    · have h1 : x = 3 := h1
      subst h1
      have h : P (some (.inl (σ.1.2.2.2.1 2))) (gUp M 926 0 0) := h
      conv => whnf
      rw [show (260 : Int32) + 3 - 1 = nI 262 from by decide]
      refine ⟨vp_in_nI (n := 262) (by decide) (by decide), ?_⟩
      conv => whnf
      rw [nI_clamp (by decide), show gUp M 926 0 0 (926 + 1) 262 = σ.1.2.2.2.1 2 from hσ.1.2.2.2.1 2 (by decide)]
      exact ⟨rfl, h⟩
    · have h1 : x = 4 := h1
      subst h1
      have h : P (some (.inl (σ.1.2.2.2.1 3))) (gUp M 926 0 0) := h
      conv => whnf
      rw [show (260 : Int32) + 4 - 1 = nI 263 from by decide]
      refine ⟨vp_in_nI (n := 263) (by decide) (by decide), ?_⟩
      conv => whnf
      rw [nI_clamp (by decide), show gUp M 926 0 0 (926 + 1) 263 = σ.1.2.2.2.1 3 from hσ.1.2.2.2.1 3 (by decide)]
      exact ⟨rfl, h⟩
    · have h1 : x = 5 := h1
      subst h1
      have h : P (some (.inl (σ.1.2.2.2.1 4))) (gUp M 926 0 0) := h
      conv => whnf
      rw [show (260 : Int32) + 5 - 1 = nI 264 from by decide]
      refine ⟨vp_in_nI (n := 264) (by decide) (by decide), ?_⟩
      conv => whnf
      rw [nI_clamp (by decide), show gUp M 926 0 0 (926 + 1) 264 = σ.1.2.2.2.1 4 from hσ.1.2.2.2.1 4 (by decide)]
      exact ⟨rfl, h⟩
    · have h1 : x = 6 := h1
      subst h1
      have h : P (some (.inl (aLay σ.1.1))) (gUp M 926 0 0) := h
      conv => whnf
      refine ⟨rfl, rfl, rfl, _, hσ.1.1, ?_⟩
      conv => whnf
      exact ⟨rfl, h⟩
    · have h1 : x = 7 := h1
      subst h1
      have h : P (some (.inl (cSum (fun c => if c.1.length = 0 then 0 else 1) σ.1.1 10))) (gUp M 926 0 0) := h
      conv => whnf
      refine ⟨rfl, rfl, rfl, _, hσ.1.1, ?_⟩
      conv => whnf
      exact ⟨rfl, h⟩
    · have h1 : x = 8 := h1
      subst h1
      have h : P (some (.inl (cSum (fun c => if icy c.1 = true then 1 else 0) σ.1.1 10))) (gUp M 926 0 0) := h
      conv => whnf
      refine ⟨rfl, rfl, rfl, _, hσ.1.1, ?_⟩
      conv => whnf
      exact ⟨rfl, h⟩
    · have h1 : x = 9 := h1
      subst h1
      have h : P (some (.inl (cSum (fun c => if c.2 = lbal c.1 then 0 else 1) σ.1.1 10))) (gUp M 926 0 0) := h
      conv => whnf
      refine ⟨rfl, rfl, rfl, _, hσ.1.1, ?_⟩
      conv => whnf
      exact ⟨rfl, h⟩
    · have h1 : x = 10 := h1
      subst h1
      have h : P (some (.inl (nI (cHi σ.1.1 9)))) (gUp M 926 0 0) := h
      conv => whnf
      refine ⟨rfl, rfl, rfl, _, hσ.1.1, ?_⟩
      conv => whnf
      exact ⟨rfl, h⟩
    · have h1 : x = 11 := h1
      subst h1
      have h : P (some (.inl (0 + σ.1.2.2.1 0 + σ.1.2.2.1 1))) (gUp M 926 0 0) := h
      conv => whnf
      refine ⟨vp_in_nI (n := 273) (by decide) (by decide), ?_⟩
      conv => whnf
      refine ⟨vp_in_nI (n := 534) (by decide) (by decide), ?_⟩
      conv => whnf
      rw [Int32.zero_add] at h
      rw [show gUp M 926 0 0 (926 + 1) (Int32.toNatClampNeg 273) = σ.1.2.2.1 0 from hσ.1.2.2.1 0 (by decide), show gUp M 926 0 0 (926 + 1) (Int32.toNatClampNeg 534) = σ.1.2.2.1 1 from hσ.1.2.2.1 1 (by decide)]
      exact ⟨rfl, h⟩
    · have h1 : x = 12 := h1
      subst h1
      have h : P (some (.inl (nI σ.2.1.length))) (gUp M 926 0 0) := h
      conv => whnf
      rw [show gUp M 926 0 0 926 4 = nI σ.2.1.length from hσ.2.1.2.1]
      exact ⟨rfl, h⟩
    · have h1 : x = 13 := h1
      subst h1
      have h : P (some (.inl (nI σ.2.2.2))) (gUp M 926 0 0) := h
      conv => whnf
      rw [show gUp M 926 0 0 926 6 = nI σ.2.2.2 from hσ.2.2.2.1]
      exact ⟨rfl, h⟩
    · have ne : ∀ c : Int32, (0 ≤ c.toInt ∧ c.toInt ≤ 13) → ¬ x = c := fun c hc q => by subst q; omega
      rw [oCount, if_neg (ne 0 (by decide)), if_neg (ne 1 (by decide)), if_neg (ne 2 (by decide)), if_neg (ne 3 (by decide)), if_neg (ne 4 (by decide)), if_neg (ne 5 (by decide)), if_neg (ne 6 (by decide)), if_neg (ne 7 (by decide)), if_neg (ne 8 (by decide)), if_neg (ne 9 (by decide)), if_neg (ne 10 (by decide)), if_neg (ne 11 (by decide)), if_neg (ne 12 (by decide)), if_neg (ne 13 (by decide))] at h
      conv => whnf
      exact ⟨rfl, h⟩
  · exact h.elim
def f_X7_layer : gF := fun av M post => match av with
  | [.inr (.inl (7, p)), .inl b, .inl l, .inl x] => p = 926 ∧ ∃ σ, moR M σ ∧ mQ M (oLayer σ b l x, σ) post
  | _ => False
theorem lk_X7_layer (l : Launch) : gLinks l RX7 4 [(gTn f_X7_isBlock, 0, 0, 99), (gTn f_X7_in, 0, 0, 99), (gTn f_X7_of, 0, 0, 7), (gTn f_X7_upper, 0, 0, 7), (gTn f_X7_at, 0, 0, 99)] pX7_layer := And.intro gf_RX7_31 (And.intro ⟨gTn f_X7_isBlock, 99, yX7_isBlock, cX7_isBlock, 1, (some .boolean), 1, rfl, yi_yX7_isBlock, ok_X7_isBlock l, by decide, Or.inl ml_RX7_46, sm_yX7_isBlock⟩ (And.intro ⟨gTn f_X7_in, 99, yX7_in, cX7_in, 3, (some .boolean), 0, rfl, yi_yX7_in, ok_X7_in l, by decide, Or.inl ml_RX7_38, sm_yX7_in⟩ (And.intro kc_RX7_71 (And.intro ⟨gTn f_X7_of, 7, yX7_of, cX7_of, 3, (some .int), 0, _, rfl, by decide, yi_yX7_of, ok_X7_of l, by decide, by decide, rfl, rfl, ml_RX7_50, im_yX7_of, se_yX7_of⟩ (And.intro kc_RX7_112 (And.intro ⟨gTn f_X7_upper, 7, yX7_upper, cX7_upper, 5, (some .int), 3, _, rfl, by decide, yi_yX7_upper, ok_X7_upper l, by decide, by decide, rfl, rfl, ml_RX7_196, im_yX7_upper, se_yX7_upper⟩ (And.intro gf_RX7_7 (And.intro ⟨gTn f_X7_at, 99, yX7_at, cX7_at, 2, (some .int), 0, rfl, yi_yX7_at, ok_X7_at l, by decide, Or.inl ml_RX7_42, sm_yX7_at⟩ (trivial)))))))))
theorem ok_X7_layer (l : Launch) : gOK l yX7_layer cX7_layer 4 (some .int) 4 0 0 (gTn f_X7_layer) := by
  refine gM_of (by decide +kernel) pX7_layer_ok (lk_X7_layer l) ?_
  intro SL SX K P av M run h
  unfold f_X7_layer at h
  split at h
  · rename_i p b l x
    obtain ⟨rfl, σ, hσ0, h⟩ := h
    refine ⟨⟨by simp [gC1], Nat.le_of_ble_eq_true rfl⟩, ?_⟩
    have hσ := hσ0.th
    replace h : P (some (.inl (oLayer σ b l x))) (gUp M 926 0 0) := h _ hσ (gFm.up M (q := 926) 0 0 (Nat.le_refl _))
    unfold oLayer at h
    have bad : ¬ ((0 ≤ b ∧ b ≤ 9) ∧ 0 ≤ l ∧ 0 ≤ x ∧ x ≤ 3) → ∀ ls, K 25 ls [] (gUp M 926 0 0) gB0 := by
      intro hb ls
      rw [if_neg hb] at h
      refine run [] 1000 _ _ _ _ _ _ rfl ?_
      conv => whnf
      exact ⟨rfl, h⟩
    refine run [25] 1000 _ _ _ _ _ _ rfl ?_
    conv => whnf
    refine ⟨rfl, rfl, ?_⟩
    conv => whnf
    by_cases hb : 0 ≤ b ∧ b ≤ 9
    · rw [if_pos hb]
      refine ⟨fun h1 => ?_, fun h1 => ?_⟩
      · exact absurd h1 (by decide)
      · conv => whnf
        refine ⟨fun h2 => ?_, fun h2 => ?_⟩
        · conv => whnf
          exact bad (fun a => Int32.not_lt.mpr a.2.1 h2) _
        · have hl := Int32.not_lt.mp h2
          conv => whnf
          refine ⟨rfl, rfl, ?_⟩
          conv => whnf
          by_cases hx : 0 ≤ x ∧ x ≤ 3
          · rw [if_pos hx]
            rw [if_pos ⟨hb, hl, hx⟩] at h
            obtain ⟨j, hj, rfl⟩ := nI_bd (n := 9) (by decide) hb.1 hb.2
            obtain ⟨i, hi, rfl⟩ := nI_of0 hl
            have e : (nI j).toNatClampNeg = j := nI_clamp (by omega)
            have e2 : (nI i).toNatClampNeg = i := nI_clamp hi
            have hc := hσ.1.1 j (by omega)
            have h8 := hc.1
            rw [e, e2] at h
            refine ⟨fun h3 => ?_, fun h3 => ?_⟩
            · conv => whnf
              refine ⟨rfl, rfl, rfl, j, 0, by omega, by decide, rfl, rfl, ?_⟩
              rw [show gUp M 926 0 0 927 (26 * j + 0) = nI (σ.1.1 j).1.length from hc.2.1]
              conv => whnf
              by_cases hlt : i < (σ.1.1 j).1.length
              · rw [List.getElem?_eq_getElem hlt] at h
                dsimp only at h
                have hy := hc.lay hlt
                refine ⟨fun h4 => ?_, fun h4 => ?_⟩
                · conv => whnf
                  refine ⟨fun h5 => ?_, fun h5 => ?_⟩
                  · conv => whnf
                    refine ⟨rfl, rfl, j, i, rfl, rfl, ?_⟩
                    conv => whnf
                    obtain ⟨m, hm, rfl⟩ := nI_bd (n := 3) (by decide) hx.1 hx.2
                    rw [nI_add]
                    refine ⟨vp_in_nI (by omega) (by decide), ?_⟩
                    conv => whnf
                    rw [nI_clamp (by omega)]
                    have hm3 : ¬ m = 3 := fun a => h5 (by rw [a]; rfl)
                    rcases (by omega : m = 0 ∨ m = 1 ∨ m = 2) with rfl | rfl | rfl
                    · rw [show gUp M 926 0 0 (926 + 1) (26 * j + 2 + 3 * i + 0) = (σ.1.1 j).1[i].1 from hy.1]
                      exact ⟨rfl, h⟩
                    · rw [show gUp M 926 0 0 (926 + 1) (26 * j + 2 + 3 * i + 1) = (σ.1.1 j).1[i].2.1 from hy.2.1]
                      exact ⟨rfl, h⟩
                    · rw [show gUp M 926 0 0 (926 + 1) (26 * j + 2 + 3 * i + 2) = (σ.1.1 j).1[i].2.2 from hy.2.2]
                      exact ⟨rfl, h⟩
                  · conv => whnf
                    subst h5
                    refine ⟨rfl, rfl, rfl, j, i, _, by omega, rfl, rfl, hc, by omega, ?_⟩
                    conv => whnf
                    exact ⟨rfl, h⟩
                · exact absurd (nI_lt hlt (by omega)) h4
              · rw [List.getElem?_eq_none (by omega)] at h
                refine ⟨fun h4 => ?_, fun h4 => ?_⟩
                · exact absurd h4 (Int32.not_lt.mpr (nI_le (by omega) hi))
                · conv => whnf
                  exact ⟨rfl, h⟩
            · exact absurd h3 (by decide)
          · rw [if_neg hx]
            refine ⟨fun h3 => ?_, fun h3 => ?_⟩
            · exact absurd rfl h3
            · conv => whnf
              exact bad (fun a => hx a.2.2) _
    · rw [if_neg hb]
      refine ⟨fun h1 => ?_, fun h1 => ?_⟩
      · conv => whnf
        exact bad (fun a => hb a.1) _
      · exact absurd rfl h1
  · exact h.elim
/-- the model's density -/
def mDnN (c : Col) (y : Int32) : Nat → Int32
  | 0 => if y < -c.2 then 33 else 0
  | k + 1 => match c.1[k]? with
    | none => mDnN c y k
    | some x => if lup c k - x.2.2 ≤ y ∧ y ≤ lup c k - 1 then x.2.1 else mDnN c y k
def mDn (c : Col) (y : Int32) : Int32 := mDnN c y c.1.length
theorem mDnN_step {c : Col} {y : Int32} {k : Nat} (hk : k < c.1.length) : mDnN c y (k + 1) = if lup c k - c.1[k].2.2 ≤ y ∧ y ≤ lup c k - 1 then c.1[k].2.1 else mDnN c y k := by
  rw [mDnN, List.getElem?_eq_getElem hk]
def f_X7_density : gF := fun av M post => match av with
  | [.inr (.inl (7, p)), .inl b, .inl y] => p = 926 ∧ ∃ σ, moR M σ ∧ (∀ j, j < 10 → mDn (σ.1.1 j) y = ldens (σ.1.1 j) y) ∧ mQ M (oDens σ b y, σ) post
  | _ => False
theorem lk_X7_density (l : Launch) : gLinks l RX7 4 [(gTn f_X7_isBlock, 0, 0, 99), (gTn f_X7_in, 0, 0, 99), (gTn f_X7_of, 0, 0, 7), (gTn f_X7_upper, 0, 0, 7), (gTn f_X7_at, 0, 0, 99)] pX7_density := And.intro gf_RX7_31 (And.intro ⟨gTn f_X7_isBlock, 99, yX7_isBlock, cX7_isBlock, 1, (some .boolean), 1, rfl, yi_yX7_isBlock, ok_X7_isBlock l, by decide, Or.inl ml_RX7_46, sm_yX7_isBlock⟩ (And.intro kc_RX7_199 (And.intro kc_RX7_200 (And.intro ⟨gTn f_X7_in, 99, yX7_in, cX7_in, 3, (some .boolean), 0, rfl, yi_yX7_in, ok_X7_in l, by decide, Or.inl ml_RX7_38, sm_yX7_in⟩ (And.intro kc_RX7_71 (And.intro ⟨gTn f_X7_of, 7, yX7_of, cX7_of, 3, (some .int), 0, _, rfl, by decide, yi_yX7_of, ok_X7_of l, by decide, by decide, rfl, rfl, ml_RX7_50, im_yX7_of, se_yX7_of⟩ (And.intro ⟨gTn f_X7_of, 7, yX7_of, cX7_of, 3, (some .int), 0, _, rfl, by decide, yi_yX7_of, ok_X7_of l, by decide, by decide, rfl, rfl, ml_RX7_50, im_yX7_of, se_yX7_of⟩ (And.intro ⟨gTn f_X7_upper, 7, yX7_upper, cX7_upper, 5, (some .int), 3, _, rfl, by decide, yi_yX7_upper, ok_X7_upper l, by decide, by decide, rfl, rfl, ml_RX7_196, im_yX7_upper, se_yX7_upper⟩ (And.intro gf_RX7_7 (And.intro ⟨gTn f_X7_at, 99, yX7_at, cX7_at, 2, (some .int), 0, rfl, yi_yX7_at, ok_X7_at l, by decide, Or.inl ml_RX7_42, sm_yX7_at⟩ (And.intro ⟨gTn f_X7_in, 99, yX7_in, cX7_in, 3, (some .boolean), 0, rfl, yi_yX7_in, ok_X7_in l, by decide, Or.inl ml_RX7_38, sm_yX7_in⟩ (And.intro gf_RX7_7 (And.intro ⟨gTn f_X7_at, 99, yX7_at, cX7_at, 2, (some .int), 0, rfl, yi_yX7_at, ok_X7_at l, by decide, Or.inl ml_RX7_42, sm_yX7_at⟩ (trivial))))))))))))))
theorem ok_X7_density (l : Launch) : gOK l yX7_density cX7_density 6 (some .int) 4 0 0 (gTn f_X7_density) := by
  refine gM_of (by decide +kernel) pX7_density_ok (lk_X7_density l) ?_
  intro SL SX K P av M run h
  unfold f_X7_density at h
  split at h
  · rename_i p b y
    obtain ⟨rfl, σ, hσ0, hyp, h⟩ := h
    refine ⟨⟨by simp [gC1], Nat.le_of_ble_eq_true rfl⟩, ?_⟩
    have hσ := hσ0.th
    replace h : P (some (.inl (oDens σ b y))) (gUp M 926 0 0) := h _ hσ (gFm.up M (q := 926) 0 0 (Nat.le_refl _))
    unfold oDens at h
    have bad : ¬ ((0 ≤ b ∧ b ≤ 9) ∧ -99999 ≤ y ∧ y ≤ 99999) → ∀ ls, K 23 ls [] (gUp M 926 0 0) gB0 := by
      intro hb ls
      rw [if_neg hb] at h
      refine run [] 1000 _ _ _ _ _ _ rfl ?_
      conv => whnf
      exact ⟨rfl, h⟩
    refine run [23, 47] 1000 _ _ _ _ _ _ rfl ?_
    conv => whnf
    refine ⟨rfl, rfl, ?_⟩
    conv => whnf
    by_cases hb : 0 ≤ b ∧ b ≤ 9
    · rw [if_pos hb]
      refine ⟨fun h1 => ?_, fun h1 => ?_⟩
      · exact absurd h1 (by decide)
      · conv => whnf
        refine ⟨rfl, rfl, ?_⟩
        conv => whnf
        by_cases hx : -99999 ≤ y ∧ y ≤ 99999
        · rw [if_pos hx]
          rw [if_pos ⟨hb, hx⟩] at h
          obtain ⟨i, hj, rfl⟩ := nI_bd (n := 9) (by decide) hb.1 hb.2
          have e : (nI i).toNatClampNeg = i := nI_clamp (by omega)
          have hc := hσ.1.1 i (by omega)
          have hk8 := hc.1
          rw [e, ← hyp i (by omega)] at h
          generalize σ.1.1 i = c at hc hk8 h
          have hi : i < 10 := by omega
          generalize gUp M 926 0 0 = M at h hc ⊢
          have loop : ∀ v u, v = mDnN c y 0 → K 47 [some (.inr (.inl (7, 926))), some (.inl (nI i)), some (.inl y), some (.inl v), some (.inl (nI 0)), u] [] M gB0 := by
            intro v u hv
            subst hv
            refine upto (n := c.1.length) (A := fun k => ∀ u, K 47 [some (.inr (.inl (7, 926))), some (.inl (nI i)), some (.inl y), some (.inl (mDnN c y k)), some (.inl (nI k)), u] [] M gB0) ?_ (fun k hkl ih => ?_) 0 (Nat.zero_le _) u
            · intro u
              refine run [47] 1000 _ _ _ _ _ _ rfl ?_
              conv => whnf
              refine ⟨rfl, rfl, rfl, i, 0, hi, by decide, rfl, rfl, ?_⟩
              rw [show M 927 (26 * i + 0) = nI c.1.length from hc.2.1]
              conv => whnf
              refine ⟨fun h1 => ?_, fun h1 => ?_⟩
              · conv => whnf
                exact ⟨rfl, h⟩
              · exact absurd (nI_le (Nat.le_refl _) (nI_lt8 hk8)) h1
            · intro u
              rw [mDnN_step hkl] at ih
              refine run [47] 1000 _ _ _ _ _ _ rfl ?_
              conv => whnf
              refine ⟨rfl, rfl, rfl, i, 0, hi, by decide, rfl, rfl, ?_⟩
              rw [show M 927 (26 * i + 0) = nI c.1.length from hc.2.1]
              conv => whnf
              refine ⟨fun h1 => ?_, fun h1 => ?_⟩
              · exact absurd h1 (nI_ge hkl (nI_lt8 hk8))
              · conv => whnf
                refine ⟨rfl, rfl, rfl, i, k, _, hi, rfl, rfl, hc, by omega, ?_⟩
                conv => whnf
                refine ⟨rfl, rfl, i, k, rfl, rfl, ?_⟩
                conv => whnf
                rw [show nI (26 * i + 2 + 3 * k) + 2 = nI (26 * i + 2 + 3 * k + 2) from nI_add _ 2]
                refine ⟨vp_in_nI (by omega) (by decide), ?_⟩
                conv => whnf
                rw [nI_clamp (by omega), (hc.lay hkl).2.2]
                refine ⟨rfl, rfl, ?_⟩
                conv => whnf
                by_cases hin : lup c k - c.1[k].2.2 ≤ y ∧ y ≤ lup c k - 1
                · rw [if_pos hin] at ih ⊢
                  refine ⟨fun h2 => ?_, fun h2 => ?_⟩
                  · exact absurd h2 (by decide)
                  · conv => whnf
                    refine ⟨rfl, rfl, i, k, rfl, rfl, ?_⟩
                    conv => whnf
                    rw [show nI (26 * i + 2 + 3 * k) + 1 = nI (26 * i + 2 + 3 * k + 1) from nI_add _ 1]
                    refine ⟨vp_in_nI (by omega) (by decide), ?_⟩
                    conv => whnf
                    rw [nI_clamp (by omega), (hc.lay hkl).2.1, nI_1]
                    exact ih _
                · rw [if_neg hin] at ih ⊢
                  refine ⟨fun h2 => ?_, fun h2 => ?_⟩
                  · conv => whnf
                    rw [nI_1]
                    exact ih _
                  · exact absurd rfl h2
          have hb : M 927 (26 * i + 1) = c.2 := hc.2.2.1
          refine ⟨fun h2 => ?_, fun h2 => ?_⟩
          · conv => whnf
            refine ⟨rfl, rfl, rfl, i, 1, hi, by decide, rfl, rfl, ?_⟩
            rw [hb]
            conv => whnf
            refine ⟨fun h3 => ?_, fun h3 => ?_⟩
            · conv => whnf
              exact loop _ _ (by rw [mDnN, if_neg (Int32.not_lt.mpr h3)])
            · conv => whnf
              exact loop _ _ (by rw [mDnN, if_pos (Int32.not_le.mp h3)])
          · exact absurd h2 (by decide)
        · rw [if_neg hx]
          refine ⟨fun h2 => ?_, fun h2 => ?_⟩
          · exact absurd rfl h2
          · conv => whnf
            exact bad (fun a => hx a.2) _
    · rw [if_neg hb]
      refine ⟨fun h1 => ?_, fun h1 => ?_⟩
      · conv => whnf
        exact bad (fun a => hb a.1) _
      · exact absurd rfl h1
  · exact h.elim
def f_X7_uneven : gF := fun av M post => match av with
  | [.inr (.inl (7, p)), .inl d, .inl x] => p = 926 ∧ ∃ σ, moR M σ ∧ (0 ≤ d ∧ d ≤ 99999 → ∀ j, j < 10 → mPr (σ.1.1 j) d = lpr (σ.1.1 j) d) ∧ mQ M (oUnev σ d x, σ) post
  | _ => False
theorem lk_X7_uneven (l : Launch) : gLinks l RX7 5 [(gTn f_X7_in, 0, 0, 99), (gTn f_X7_pressureOf, 0, 0, 7)] pX7_uneven := And.intro gf_RX7_31 (And.intro kc_RX7_200 (And.intro ⟨gTn f_X7_in, 99, yX7_in, cX7_in, 3, (some .boolean), 0, rfl, yi_yX7_in, ok_X7_in l, by decide, Or.inl ml_RX7_38, sm_yX7_in⟩ (And.intro ⟨gTn f_X7_in, 99, yX7_in, cX7_in, 3, (some .boolean), 0, rfl, yi_yX7_in, ok_X7_in l, by decide, Or.inl ml_RX7_38, sm_yX7_in⟩ (And.intro kc_RX7_71 (And.intro ⟨gTn f_X7_pressureOf, 7, yX7_pressureOf, cX7_pressureOf, 6, (some .int), 4, _, rfl, by decide, yi_yX7_pressureOf, ok_X7_pressureOf l, by decide, by decide, rfl, rfl, ml_RX7_201, im_yX7_pressureOf, se_yX7_pressureOf⟩ (And.intro ⟨gTn f_X7_pressureOf, 7, yX7_pressureOf, cX7_pressureOf, 6, (some .int), 4, _, rfl, by decide, yi_yX7_pressureOf, ok_X7_pressureOf l, by decide, by decide, rfl, rfl, ml_RX7_201, im_yX7_pressureOf, se_yX7_pressureOf⟩ (And.intro ⟨gTn f_X7_pressureOf, 7, yX7_pressureOf, cX7_pressureOf, 6, (some .int), 4, _, rfl, by decide, yi_yX7_pressureOf, ok_X7_pressureOf l, by decide, by decide, rfl, rfl, ml_RX7_201, im_yX7_pressureOf, se_yX7_pressureOf⟩ (And.intro ⟨gTn f_X7_pressureOf, 7, yX7_pressureOf, cX7_pressureOf, 6, (some .int), 4, _, rfl, by decide, yi_yX7_pressureOf, ok_X7_pressureOf l, by decide, by decide, rfl, rfl, ml_RX7_201, im_yX7_pressureOf, se_yX7_pressureOf⟩ (And.intro ⟨gTn f_X7_pressureOf, 7, yX7_pressureOf, cX7_pressureOf, 6, (some .int), 4, _, rfl, by decide, yi_yX7_pressureOf, ok_X7_pressureOf l, by decide, by decide, rfl, rfl, ml_RX7_201, im_yX7_pressureOf, se_yX7_pressureOf⟩ (And.intro ⟨gTn f_X7_pressureOf, 7, yX7_pressureOf, cX7_pressureOf, 6, (some .int), 4, _, rfl, by decide, yi_yX7_pressureOf, ok_X7_pressureOf l, by decide, by decide, rfl, rfl, ml_RX7_201, im_yX7_pressureOf, se_yX7_pressureOf⟩ (trivial)))))))))))
theorem ok_X7_uneven (l : Launch) : gOK l yX7_uneven cX7_uneven 6 (some .int) 5 0 0 (gTn f_X7_uneven) := by
  refine gM_of (by decide +kernel) pX7_uneven_ok (lk_X7_uneven l) ?_
  intro SL SX K P av M run h
  unfold f_X7_uneven at h
  split at h
  · rename_i p d x
    obtain ⟨rfl, σ, hσ0, hyp, h⟩ := h
    refine ⟨⟨by simp [gC1], Nat.le_of_ble_eq_true rfl⟩, ?_⟩
    have hσ := hσ0.th
    replace h : P (some (.inl (oUnev σ d x))) (gUp M 926 0 0) := h _ hσ (gFm.up M (q := 926) 0 0 (Nat.le_refl _))
    unfold oUnev at h
    have bad : ¬ ((0 ≤ d ∧ d ≤ 99999) ∧ 0 ≤ x ∧ x ≤ 2) → ∀ ls, K 24 ls [] (gUp M 926 0 0) gB0 := by
      intro hb ls
      rw [if_neg hb] at h
      refine run [] 1000 _ _ _ _ _ _ rfl ?_
      conv => whnf
      exact ⟨rfl, h⟩
    refine run [24, 35] 1000 _ _ _ _ _ _ rfl ?_
    conv => whnf
    refine ⟨rfl, rfl, ?_⟩
    conv => whnf
    by_cases hb : 0 ≤ d ∧ d ≤ 99999
    · rw [if_pos hb]
      refine ⟨fun h1 => ?_, fun h1 => ?_⟩
      · exact absurd h1 (by decide)
      · conv => whnf
        refine ⟨rfl, rfl, ?_⟩
        conv => whnf
        by_cases hx : 0 ≤ x ∧ x ≤ 2
        · rw [if_pos hx]
          rw [if_pos ⟨hb, hx⟩] at h
          have hyp := hyp hb
          have hC := hσ.1.1
          generalize σ.1.1 = C at hC hyp h
          generalize gUp M 926 0 0 = M at h hC ⊢
          refine ⟨fun h2 => ?_, fun h2 => ?_⟩
          · conv => whnf
            refine upto (n := 9) (A := fun k => K 35 [some (.inr (.inl (7, 926))), some (.inl d), some (.inl x), some (.inl (nI (cGr C d k))), some (.inl (nI (cLs C d k))), some (.inl (nI (k + 1)))] [] M gB0) ?_ (fun k hk ih => ?_) 0 (Nat.zero_le _)
            · have g9 := cGr_le C d 9
              have l9 := cLs_le C d 9
              refine run [35] 1000 _ _ _ _ _ _ rfl ?_
              conv => whnf
              refine ⟨fun h3 => ?_, fun h3 => ?_⟩
              · conv => whnf
                refine ⟨fun h4 => ?_, fun h4 => ?_⟩
                · rw [if_neg h4] at h
                  conv => whnf
                  refine ⟨fun h5 => ?_, fun h5 => ?_⟩
                  · conv => whnf
                    rw [if_neg h5] at h
                    exact ⟨rfl, h⟩
                  · conv => whnf
                    rw [if_pos h5] at h
                    exact ⟨rfl, h⟩
                · rw [if_pos h4] at h
                  conv => whnf
                  refine ⟨rfl, rfl, rfl, cGr C d 9, _, by omega, rfl, hC _ (by omega), ?_⟩
                  rw [hyp _ (by omega)]
                  conv => whnf
                  refine ⟨rfl, rfl, rfl, cLs C d 9, _, by omega, rfl, hC _ (by omega), ?_⟩
                  rw [hyp _ (by omega)]
                  conv => whnf
                  exact ⟨rfl, h⟩
              · exact absurd (show (10 : Int32) ≤ nI 10 from nI_le (Nat.le_refl 10) (by decide)) h3
            · have gk := cGr_le C d k
              have lk := cLs_le C d k
              rw [cGr, cLs] at ih
              refine run [35, 64] 1000 _ _ _ _ _ _ rfl ?_
              conv => whnf
              refine ⟨fun h3 => ?_, fun h3 => ?_⟩
              · exact absurd h3 (nI_ge (b := 10) (by omega) (by decide))
              · conv => whnf
                refine ⟨rfl, rfl, rfl, k + 1, _, by omega, rfl, hC _ (by omega), ?_⟩
                rw [hyp _ (by omega)]
                conv => whnf
                refine ⟨rfl, rfl, rfl, cGr C d k, _, by omega, rfl, hC _ (by omega), ?_⟩
                rw [hyp _ (by omega)]
                conv => whnf
                have second : ∀ g : Int32, g = nI (if lpr (C (cGr C d k)) d < lpr (C (k + 1)) d then k + 1 else cGr C d k) → K 64 [some (.inr (.inl (7, 926))), some (.inl d), some (.inl x), some (.inl (nI (cGr C d k))), some (.inl (nI (cLs C d k))), some (.inl (nI (k + 1)))] [.inl g] M gB0 := by
                  intro g hg
                  subst hg
                  refine run [35] 1000 _ _ _ _ _ _ rfl ?_
                  conv => whnf
                  refine ⟨rfl, rfl, rfl, k + 1, _, by omega, rfl, hC _ (by omega), ?_⟩
                  rw [hyp _ (by omega)]
                  conv => whnf
                  refine ⟨rfl, rfl, rfl, cLs C d k, _, by omega, rfl, hC _ (by omega), ?_⟩
                  rw [hyp _ (by omega)]
                  conv => whnf
                  refine ⟨fun h4 => ?_, fun h4 => ?_⟩
                  · conv => whnf
                    rw [if_neg (Int32.not_lt.mpr h4)] at ih
                    rw [nI_1]
                    exact ih
                  · conv => whnf
                    rw [if_pos (Int32.not_le.mp h4)] at ih
                    rw [nI_1]
                    exact ih
                refine ⟨fun h4 => ?_, fun h4 => ?_⟩
                · conv => whnf
                  exact second _ (by rw [if_neg (Int32.not_lt.mpr h4)])
                · conv => whnf
                  exact second _ (by rw [if_pos (Int32.not_le.mp h4)])
          · exact absurd h2 (by decide)
        · rw [if_neg hx]
          refine ⟨fun h2 => ?_, fun h2 => ?_⟩
          · exact absurd rfl h2
          · conv => whnf
            exact bad (fun a => hx a.2) _
    · rw [if_neg hb]
      refine ⟨fun h1 => ?_, fun h1 => ?_⟩
      · conv => whnf
        exact bad (fun a => hb a.1) _
      · exact absurd rfl h1
  · exact h.elim
