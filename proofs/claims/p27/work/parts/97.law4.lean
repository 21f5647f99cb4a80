/-! isRight -/
theorem bq {σ : Wd} {i : Nat} (hi : i < 10) (k : Int32) : oBlock σ (nI i) k = colQ (σ.1.1 i) k := by
  unfold oBlock
  rw [if_pos ⟨nI_pos' (by omega), nI_le (show i ≤ 9 by omega) (by decide)⟩, nI_clamp (by omega)]
theorem bq0 {σ : Wd} {i : Nat} (hi : i < 10) : oBlock σ (nI i) 0 = nI (σ.1.1 i).1.length := (bq hi 0).trans rfl
theorem bq1 {σ : Wd} {i : Nat} (hi : i < 10) : oBlock σ (nI i) 1 = lwt (σ.1.1 i).1 := (bq hi 1).trans rfl
theorem bq2 {σ : Wd} {i : Nat} (hi : i < 10) : oBlock σ (nI i) 2 = lbal (σ.1.1 i).1 := (bq hi 2).trans rfl
theorem bq3 {σ : Wd} {i : Nat} (hi : i < 10) : oBlock σ (nI i) 3 = (σ.1.1 i).2 := (bq hi 3).trans rfl
theorem bq4 {σ : Wd} {i : Nat} (hi : i < 10) : oBlock σ (nI i) 4 = ltop (σ.1.1 i) := (bq hi 4).trans rfl
theorem bq5 {σ : Wd} {i : Nat} (hi : i < 10) : oBlock σ (nI i) 5 = lth (σ.1.1 i).1 := (bq hi 5).trans rfl
theorem bq6 {σ : Wd} {i : Nat} (hi : i < 10) : oBlock σ (nI i) 6 = lic (σ.1.1 i).1 * 9 := (bq hi 6).trans rfl
def layQ (c : Col) (k : Nat) (x : Lay) (w : Int32) : Int32 := if w = 0 then x.1 else if w = 1 then x.2.1 else if w = 2 then x.2.2 else lup c k
theorem lq {σ : Wd} {i k : Nat} (hi : i < 10) (h8 : (σ.1.1 i).1.length ≤ 8) (hk : k < (σ.1.1 i).1.length) {w : Int32} (hw : 0 ≤ w ∧ w ≤ 3) : oLayer σ (nI i) (nI k) w = layQ (σ.1.1 i) k (σ.1.1 i).1[k] w := by
  unfold oLayer
  rw [if_pos ⟨⟨nI_pos' (by omega), nI_le (show i ≤ 9 by omega) (by decide)⟩, nI_pos' (by omega), hw.1, hw.2⟩, nI_clamp (by omega), nI_clamp (by omega), List.getElem?_eq_getElem hk]
  rfl
theorem lq0 {σ : Wd} {i k : Nat} (hi : i < 10) (h8 : (σ.1.1 i).1.length ≤ 8) (hk : k < (σ.1.1 i).1.length) : oLayer σ (nI i) (nI k) 0 = (σ.1.1 i).1[k].1 := (lq hi h8 hk (by decide)).trans rfl
theorem lq1 {σ : Wd} {i k : Nat} (hi : i < 10) (h8 : (σ.1.1 i).1.length ≤ 8) (hk : k < (σ.1.1 i).1.length) : oLayer σ (nI i) (nI k) 1 = (σ.1.1 i).1[k].2.1 := (lq hi h8 hk (by decide)).trans rfl
theorem lq2 {σ : Wd} {i k : Nat} (hi : i < 10) (h8 : (σ.1.1 i).1.length ≤ 8) (hk : k < (σ.1.1 i).1.length) : oLayer σ (nI i) (nI k) 2 = (σ.1.1 i).1[k].2.2 := (lq hi h8 hk (by decide)).trans rfl
theorem lq3 {σ : Wd} {i k : Nat} (hi : i < 10) (h8 : (σ.1.1 i).1.length ≤ 8) (hk : k < (σ.1.1 i).1.length) : oLayer σ (nI i) (nI k) 3 = lup (σ.1.1 i) k := (lq hi h8 hk (by decide)).trans rfl
theorem dq {σ : Wd} {i : Nat} (hi : i < 10) {y : Int32} (hy : -99999 ≤ y ∧ y ≤ 99999) : oDens σ (nI i) y = ldens (σ.1.1 i) y := by
  unfold oDens
  rw [if_pos ⟨⟨nI_pos' (by omega), nI_le (show i ≤ 9 by omega) (by decide)⟩, hy⟩, nI_clamp (by omega)]
theorem vq {σ : Wd} {i : Nat} (hi : i < 10) : oVal σ (nI i) = oN (cLow σ.1.1 i) := by
  unfold oVal
  rw [if_pos ⟨nI_pos' (by omega), nI_le (show i ≤ 9 by omega) (by decide)⟩, nI_clamp (by omega)]
theorem yq {σ : Wd} {i : Nat} (hi : i < 10) : oWhy σ (nI i) = cWhy σ.1.1 i (σ.1.2.2.2.1 3) := by
  unfold oWhy
  rw [if_pos ⟨nI_pos' (by omega), nI_le (show i ≤ 9 by omega) (by decide)⟩, nI_clamp (by omega)]
theorem tq {σ : Wd} {i : Nat} (hi : i < 10) : oTopIn σ (nI i) 0 = ltop (σ.1.1 i) := by
  unfold oTopIn
  rw [if_pos ⟨⟨nI_pos' (by omega), nI_le (show i ≤ 9 by omega) (by decide)⟩, by decide, by decide⟩, nI_clamp (by omega)]
  rfl
theorem pq {σ : Wd} {i : Nat} (hi : i < 10) : oPres σ (nI i) 500 = lpr (σ.1.1 i) 500 := by
  unfold oPres
  rw [if_pos ⟨⟨nI_pos' (by omega), nI_le (show i ≤ 9 by omega) (by decide)⟩, by decide, by decide⟩, nI_clamp (by omega)]
theorem uq0 (σ : Wd) : oUnev σ 500 0 = lpr (σ.1.1 (cGr σ.1.1 500 9)) 500 - lpr (σ.1.1 (cLs σ.1.1 500 9)) 500 := by
  unfold oUnev
  rw [if_pos ⟨by decide, by decide, by decide⟩]
  rfl
theorem uq1 (σ : Wd) : oUnev σ 500 1 = nI (cGr σ.1.1 500 9) := by
  unfold oUnev
  rw [if_pos ⟨by decide, by decide, by decide⟩]
  rfl
theorem uq2 (σ : Wd) : oUnev σ 500 2 = nI (cLs σ.1.1 500 9) := by
  unfold oUnev
  rw [if_pos ⟨by decide, by decide, by decide⟩]
  rfl
theorem cHi_up (C : Cru) (i : Nat) : (if ltop (C (cHi C (i - 1))) < ltop (C i) then i else cHi C (i - 1)) = cHi C i := by
  cases i with
  | zero =>
    show (if ltop (C 0) < ltop (C 0) then 0 else 0) = 0
    split <;> rfl
  | succ n => rfl
theorem nI_mm (m : Nat) : nI (m + 1) - 1 = nI m := by
  rw [← nI_1]
  exact Int32.add_sub_cancel _ _
theorem icy0 : ∀ (l : List Lay) (h : 0 < l.length), icy l = decide (l[0].1 = 0)
  | [], h => absurd h (Nat.lt_irrefl 0)
  | _ :: _, _ => rfl
theorem why_cases (C : Cru) (b : Nat) (e : Int32) : (cWhy C b e = 1 ∧ (C b).1 = []) ∨ ((cWhy C b e = 2 ∨ cWhy C b e = 4 ∨ (cWhy C b e = 3 ∧ cLow C b = none) ∨ (cWhy C b e = 0 ∧ ∃ v, cLow C b = some v)) ∧ ¬ (C b).1 = []) := by
  unfold cWhy
  by_cases h : (C b).1 = []
  · rw [if_pos h]
    exact Or.inl ⟨rfl, h⟩
  · rw [if_neg h]
    refine Or.inr ⟨?_, h⟩
    by_cases q : icy (C b).1 = true
    · rw [if_pos q]
      exact Or.inl rfl
    · rw [if_neg q]
      cases hv : cLow C b with
      | none => exact Or.inr (Or.inr (Or.inl ⟨rfl, rfl⟩))
      | some v =>
        by_cases z : cTk C b v e = 0
        · exact Or.inr (Or.inl (if_pos z))
        · exact Or.inr (Or.inr (Or.inr ⟨if_neg z, v, rfl⟩))
def f_L_isRight : gF := fun av M post => match av with
  | [.inr (.inl (6, p))] => p = 0 ∧ ∃ σ, clR M σ ∧ rOk σ.1 ∧ ∀ M', clR M' σ → post (some (.inl 1)) M'
  | _ => False
set_option maxRecDepth 100000 in
theorem lk_L_isRight (l : Launch) : gLinks l RL 7 [(gTn f_X6_block, 0, 0, 6), (gTn f_X6_layer, 0, 0, 6), (gTn f_X6_density, 0, 0, 6), (gTn f_X6_valley, 0, 0, 6), (gTn f_X6_why, 0, 0, 6), (gTn f_X6_stepsToBalance, 0, 0, 6), (gTn f_X6_topIn, 0, 0, 6), (gTn f_X6_uneven, 0, 0, 6), (gTn f_X6_pressure, 0, 0, 6), (gTn f_X6_count, 0, 0, 6), (gTn f_X6_account, 0, 0, 6)] pL_isRight := And.intro ⟨gTn f_X6_block, 6, yX6_block, cX6_block, 4, (some .int), 3, _, rfl, by decide, yi_yX6_block, ok_X6_block l, by decide, by decide, rfl, rfl, ml_RL_18, im_yX6_block, se_yX6_block⟩ (And.intro ⟨gTn f_X6_block, 6, yX6_block, cX6_block, 4, (some .int), 3, _, rfl, by decide, yi_yX6_block, ok_X6_block l, by decide, by decide, rfl, rfl, ml_RL_18, im_yX6_block, se_yX6_block⟩ (And.intro ⟨gTn f_X6_layer, 6, yX6_layer, cX6_layer, 5, (some .int), 3, _, rfl, by decide, yi_yX6_layer, ok_X6_layer l, by decide, by decide, rfl, rfl, ml_RL_22, im_yX6_layer, se_yX6_layer⟩ (And.intro ⟨gTn f_X6_layer, 6, yX6_layer, cX6_layer, 5, (some .int), 3, _, rfl, by decide, yi_yX6_layer, ok_X6_layer l, by decide, by decide, rfl, rfl, ml_RL_22, im_yX6_layer, se_yX6_layer⟩ (And.intro ⟨gTn f_X6_layer, 6, yX6_layer, cX6_layer, 5, (some .int), 3, _, rfl, by decide, yi_yX6_layer, ok_X6_layer l, by decide, by decide, rfl, rfl, ml_RL_22, im_yX6_layer, se_yX6_layer⟩ (And.intro ⟨gTn f_X6_layer, 6, yX6_layer, cX6_layer, 5, (some .int), 3, _, rfl, by decide, yi_yX6_layer, ok_X6_layer l, by decide, by decide, rfl, rfl, ml_RL_22, im_yX6_layer, se_yX6_layer⟩ (And.intro kc_RL_60 (And.intro ⟨gTn f_X6_density, 6, yX6_density, cX6_density, 3, (some .int), 2, _, rfl, by decide, yi_yX6_density, ok_X6_density l, by decide, by decide, rfl, rfl, ml_RL_61, im_yX6_density, se_yX6_density⟩ (And.intro ⟨gTn f_X6_valley, 6, yX6_valley, cX6_valley, 2, (some .int), 3, _, rfl, by decide, yi_yX6_valley, ok_X6_valley l, by decide, by decide, rfl, rfl, ml_RL_64, im_yX6_valley, se_yX6_valley⟩ (And.intro ⟨gTn f_X6_why, 6, yX6_why, cX6_why, 2, (some .int), 4, _, rfl, by decide, yi_yX6_why, ok_X6_why l, by decide, by decide, rfl, rfl, ml_RL_67, im_yX6_why, se_yX6_why⟩ (And.intro ⟨gTn f_X6_block, 6, yX6_block, cX6_block, 4, (some .int), 3, _, rfl, by decide, yi_yX6_block, ok_X6_block l, by decide, by decide, rfl, rfl, ml_RL_18, im_yX6_block, se_yX6_block⟩ (And.intro ⟨gTn f_X6_block, 6, yX6_block, cX6_block, 4, (some .int), 3, _, rfl, by decide, yi_yX6_block, ok_X6_block l, by decide, by decide, rfl, rfl, ml_RL_18, im_yX6_block, se_yX6_block⟩ (And.intro ⟨gTn f_X6_block, 6, yX6_block, cX6_block, 4, (some .int), 3, _, rfl, by decide, yi_yX6_block, ok_X6_block l, by decide, by decide, rfl, rfl, ml_RL_18, im_yX6_block, se_yX6_block⟩ (And.intro ⟨gTn f_X6_block, 6, yX6_block, cX6_block, 4, (some .int), 3, _, rfl, by decide, yi_yX6_block, ok_X6_block l, by decide, by decide, rfl, rfl, ml_RL_18, im_yX6_block, se_yX6_block⟩ (And.intro ⟨gTn f_X6_block, 6, yX6_block, cX6_block, 4, (some .int), 3, _, rfl, by decide, yi_yX6_block, ok_X6_block l, by decide, by decide, rfl, rfl, ml_RL_18, im_yX6_block, se_yX6_block⟩ (And.intro ⟨gTn f_X6_block, 6, yX6_block, cX6_block, 4, (some .int), 3, _, rfl, by decide, yi_yX6_block, ok_X6_block l, by decide, by decide, rfl, rfl, ml_RL_18, im_yX6_block, se_yX6_block⟩ (And.intro ⟨gTn f_X6_block, 6, yX6_block, cX6_block, 4, (some .int), 3, _, rfl, by decide, yi_yX6_block, ok_X6_block l, by decide, by decide, rfl, rfl, ml_RL_18, im_yX6_block, se_yX6_block⟩ (And.intro ⟨gTn f_X6_stepsToBalance, 6, yX6_stepsToBalance, cX6_stepsToBalance, 2, (some .int), 4, _, rfl, by decide, yi_yX6_stepsToBalance, ok_X6_stepsToBalance l, by decide, by decide, rfl, rfl, ml_RL_70, im_yX6_stepsToBalance, se_yX6_stepsToBalance⟩ (And.intro ⟨gTn f_X6_block, 6, yX6_block, cX6_block, 4, (some .int), 3, _, rfl, by decide, yi_yX6_block, ok_X6_block l, by decide, by decide, rfl, rfl, ml_RL_18, im_yX6_block, se_yX6_block⟩ (And.intro ⟨gTn f_X6_block, 6, yX6_block, cX6_block, 4, (some .int), 3, _, rfl, by decide, yi_yX6_block, ok_X6_block l, by decide, by decide, rfl, rfl, ml_RL_18, im_yX6_block, se_yX6_block⟩ (And.intro ⟨gTn f_X6_topIn, 6, yX6_topIn, cX6_topIn, 4, (some .int), 6, _, rfl, by decide, yi_yX6_topIn, ok_X6_topIn l, by decide, by decide, rfl, rfl, ml_RL_73, im_yX6_topIn, se_yX6_topIn⟩ (And.intro ⟨gTn f_X6_block, 6, yX6_block, cX6_block, 4, (some .int), 3, _, rfl, by decide, yi_yX6_block, ok_X6_block l, by decide, by decide, rfl, rfl, ml_RL_18, im_yX6_block, se_yX6_block⟩ (And.intro ⟨gTn f_X6_layer, 6, yX6_layer, cX6_layer, 5, (some .int), 3, _, rfl, by decide, yi_yX6_layer, ok_X6_layer l, by decide, by decide, rfl, rfl, ml_RL_22, im_yX6_layer, se_yX6_layer⟩ (And.intro ⟨gTn f_X6_block, 6, yX6_block, cX6_block, 4, (some .int), 3, _, rfl, by decide, yi_yX6_block, ok_X6_block l, by decide, by decide, rfl, rfl, ml_RL_18, im_yX6_block, se_yX6_block⟩ (And.intro ⟨gTn f_X6_block, 6, yX6_block, cX6_block, 4, (some .int), 3, _, rfl, by decide, yi_yX6_block, ok_X6_block l, by decide, by decide, rfl, rfl, ml_RL_18, im_yX6_block, se_yX6_block⟩ (And.intro ⟨gTn f_X6_block, 6, yX6_block, cX6_block, 4, (some .int), 3, _, rfl, by decide, yi_yX6_block, ok_X6_block l, by decide, by decide, rfl, rfl, ml_RL_18, im_yX6_block, se_yX6_block⟩ (And.intro ⟨gTn f_X6_block, 6, yX6_block, cX6_block, 4, (some .int), 3, _, rfl, by decide, yi_yX6_block, ok_X6_block l, by decide, by decide, rfl, rfl, ml_RL_18, im_yX6_block, se_yX6_block⟩ (And.intro ⟨gTn f_X6_uneven, 6, yX6_uneven, cX6_uneven, 8, (some .int), 3, _, rfl, by decide, yi_yX6_uneven, ok_X6_uneven l, by decide, by decide, rfl, rfl, ml_RL_76, im_yX6_uneven, se_yX6_uneven⟩ (And.intro ⟨gTn f_X6_pressure, 6, yX6_pressure, cX6_pressure, 3, (some .int), 3, _, rfl, by decide, yi_yX6_pressure, ok_X6_pressure l, by decide, by decide, rfl, rfl, ml_RL_79, im_yX6_pressure, se_yX6_pressure⟩ (And.intro ⟨gTn f_X6_uneven, 6, yX6_uneven, cX6_uneven, 8, (some .int), 3, _, rfl, by decide, yi_yX6_uneven, ok_X6_uneven l, by decide, by decide, rfl, rfl, ml_RL_76, im_yX6_uneven, se_yX6_uneven⟩ (And.intro ⟨gTn f_X6_pressure, 6, yX6_pressure, cX6_pressure, 3, (some .int), 3, _, rfl, by decide, yi_yX6_pressure, ok_X6_pressure l, by decide, by decide, rfl, rfl, ml_RL_79, im_yX6_pressure, se_yX6_pressure⟩ (And.intro ⟨gTn f_X6_uneven, 6, yX6_uneven, cX6_uneven, 8, (some .int), 3, _, rfl, by decide, yi_yX6_uneven, ok_X6_uneven l, by decide, by decide, rfl, rfl, ml_RL_76, im_yX6_uneven, se_yX6_uneven⟩ (And.intro ⟨gTn f_X6_count, 6, yX6_count, cX6_count, 2, (some .int), 4, _, rfl, by decide, yi_yX6_count, ok_X6_count l, by decide, by decide, rfl, rfl, ml_RL_12, im_yX6_count, se_yX6_count⟩ (And.intro ⟨gTn f_X6_count, 6, yX6_count, cX6_count, 2, (some .int), 4, _, rfl, by decide, yi_yX6_count, ok_X6_count l, by decide, by decide, rfl, rfl, ml_RL_12, im_yX6_count, se_yX6_count⟩ (And.intro ⟨gTn f_X6_count, 6, yX6_count, cX6_count, 2, (some .int), 4, _, rfl, by decide, yi_yX6_count, ok_X6_count l, by decide, by decide, rfl, rfl, ml_RL_12, im_yX6_count, se_yX6_count⟩ (And.intro ⟨gTn f_X6_count, 6, yX6_count, cX6_count, 2, (some .int), 4, _, rfl, by decide, yi_yX6_count, ok_X6_count l, by decide, by decide, rfl, rfl, ml_RL_12, im_yX6_count, se_yX6_count⟩ (And.intro ⟨gTn f_X6_count, 6, yX6_count, cX6_count, 2, (some .int), 4, _, rfl, by decide, yi_yX6_count, ok_X6_count l, by decide, by decide, rfl, rfl, ml_RL_12, im_yX6_count, se_yX6_count⟩ (And.intro ⟨gTn f_X6_account, 6, yX6_account, cX6_account, 2, (some .int), 3, _, rfl, by decide, yi_yX6_account, ok_X6_account l, by decide, by decide, rfl, rfl, ml_RL_26, im_yX6_account, se_yX6_account⟩ (And.intro ⟨gTn f_X6_account, 6, yX6_account, cX6_account, 2, (some .int), 3, _, rfl, by decide, yi_yX6_account, ok_X6_account l, by decide, by decide, rfl, rfl, ml_RL_26, im_yX6_account, se_yX6_account⟩ (And.intro ⟨gTn f_X6_account, 6, yX6_account, cX6_account, 2, (some .int), 3, _, rfl, by decide, yi_yX6_account, ok_X6_account l, by decide, by decide, rfl, rfl, ml_RL_26, im_yX6_account, se_yX6_account⟩ (And.intro ⟨gTn f_X6_account, 6, yX6_account, cX6_account, 2, (some .int), 3, _, rfl, by decide, yi_yX6_account, ok_X6_account l, by decide, by decide, rfl, rfl, ml_RL_26, im_yX6_account, se_yX6_account⟩ (And.intro ⟨gTn f_X6_account, 6, yX6_account, cX6_account, 2, (some .int), 3, _, rfl, by decide, yi_yX6_account, ok_X6_account l, by decide, by decide, rfl, rfl, ml_RL_26, im_yX6_account, se_yX6_account⟩ (And.intro ⟨gTn f_X6_account, 6, yX6_account, cX6_account, 2, (some .int), 3, _, rfl, by decide, yi_yX6_account, ok_X6_account l, by decide, by decide, rfl, rfl, ml_RL_26, im_yX6_account, se_yX6_account⟩ (And.intro ⟨gTn f_X6_account, 6, yX6_account, cX6_account, 2, (some .int), 3, _, rfl, by decide, yi_yX6_account, ok_X6_account l, by decide, by decide, rfl, rfl, ml_RL_26, im_yX6_account, se_yX6_account⟩ (And.intro ⟨gTn f_X6_account, 6, yX6_account, cX6_account, 2, (some .int), 3, _, rfl, by decide, yi_yX6_account, ok_X6_account l, by decide, by decide, rfl, rfl, ml_RL_26, im_yX6_account, se_yX6_account⟩ (And.intro ⟨gTn f_X6_account, 6, yX6_account, cX6_account, 2, (some .int), 3, _, rfl, by decide, yi_yX6_account, ok_X6_account l, by decide, by decide, rfl, rfl, ml_RL_26, im_yX6_account, se_yX6_account⟩ (trivial))))))))))))))))))))))))))))))))))))))))))))))
set_option maxRecDepth 100000 in
set_option maxHeartbeats 4000000 in
theorem ok_L_isRight (l : Launch) : gOK l yL_isRight method_6_code 18 (some .boolean) 7 0 0 (gTn f_L_isRight) := by
  refine gM_of (by decide +kernel) pL_isRight_ok (lk_L_isRight l) ?_
  intro SL SX K P av M run h
  unfold f_L_isRight at h
  split at h
  · rename_i p
    obtain ⟨rfl, σ, hM0, ⟨hcol, hacc⟩, h⟩ := h
    refine ⟨⟨by simp [gC1], Nat.le_of_ble_eq_true rfl⟩, ?_⟩
    have k608 : ∀ M, clR M σ → ∀ l8 l9 l10 l11 l12 l13 l14 l15 l16 l17, K 608 [some (.inr (.inl (6, 0))), some (.inl (cSum (fun c => nI c.1.length) σ.1.1 (10))), some (.inl (cSum (fun c => lwt c.1) σ.1.1 (10))), some (.inl (cSum (fun c => if c.1.length = 0 then 0 else 1) σ.1.1 (10))), some (.inl (cSum (fun c => if icy c.1 = true then 1 else 0) σ.1.1 (10))), some (.inl (cSum (fun c => if c.2 = lbal c.1 then 0 else 1) σ.1.1 (10))), some (.inl (nI (cHi σ.1.1 (10 - 1)))), some (.inl (nI (10))), l8, l9, l10, l11, l12, l13, l14, l15, l16, l17] [] M gB0 := by
      intro M hM l8 l9 l10 l11 l12 l13 l14 l15 l16 l17
      clear hcol
      refine run [] 1000 _ _ _ _ _ _ rfl ?_
      conv => whnf
      refine ⟨rfl, rfl, rfl, σ, hM, ?_⟩
      rw [uq2]
      conv => whnf
      refine ⟨rfl, rfl, rfl, σ, hM, ?_⟩
      rw [pq (by have := cLs_le σ.1.1 500 9; omega)]
      conv => whnf
      refine ⟨rfl, rfl, rfl, σ, hM, ?_⟩
      rw [uq1]
      conv => whnf
      refine ⟨rfl, rfl, rfl, σ, hM, ?_⟩
      rw [pq (by have := cGr_le σ.1.1 500 9; omega)]
      conv => whnf
      refine ⟨rfl, rfl, rfl, σ, hM, ?_⟩
      rw [uq0]
      conv => whnf
      refine ⟨fun z1 => ?_, fun z1 => ?_⟩
      · exact absurd rfl z1
      · conv => whnf
        refine ⟨rfl, rfl, rfl, σ, hM, ?_⟩
        conv => whnf
        refine ⟨fun z2 => ?_, fun z2 => ?_⟩
        · exact absurd rfl z2
        · conv => whnf
          refine ⟨rfl, rfl, rfl, σ, hM, ?_⟩
          conv => whnf
          refine ⟨fun z3 => ?_, fun z3 => ?_⟩
          · exact absurd rfl z3
          · conv => whnf
            refine ⟨rfl, rfl, rfl, σ, hM, ?_⟩
            conv => whnf
            refine ⟨fun z4 => ?_, fun z4 => ?_⟩
            · exact absurd rfl z4
            · conv => whnf
              refine ⟨rfl, rfl, rfl, σ, hM, ?_⟩
              conv => whnf
              refine ⟨fun z5 => ?_, fun z5 => ?_⟩
              · exact absurd rfl z5
              · conv => whnf
                refine ⟨rfl, rfl, rfl, σ, hM, ?_⟩
                conv => whnf
                refine ⟨fun z6 => ?_, fun z6 => ?_⟩
                · exact absurd rfl z6
                · conv => whnf
                  refine ⟨rfl, rfl, rfl, σ, hM, ?_⟩
                  conv => whnf
                  refine ⟨fun y1 => ?_, fun y1 => ?_⟩
                  · exact absurd rfl y1
                  · conv => whnf
                    refine ⟨rfl, rfl, rfl, σ, hM, ?_⟩
                    conv => whnf
                    refine ⟨rfl, rfl, rfl, σ, hM, ?_⟩
                    conv => whnf
                    refine ⟨rfl, rfl, rfl, σ, hM, ?_⟩
                    conv => whnf
                    refine ⟨rfl, rfl, rfl, σ, hM, ?_⟩
                    conv => whnf
                    refine ⟨rfl, rfl, rfl, σ, hM, ?_⟩
                    conv => whnf
                    refine ⟨fun y2 => ?_, fun y2 => ?_⟩
                    · exact absurd hacc y2
                    · conv => whnf
                      refine ⟨rfl, rfl, rfl, σ, hM, ?_⟩
                      conv => whnf
                      refine ⟨rfl, rfl, rfl, σ, hM, ?_⟩
                      conv => whnf
                      refine ⟨rfl, rfl, rfl, σ, hM, ?_⟩
                      conv => whnf
                      refine ⟨fun y3 => ?_, fun y3 => ?_⟩
                      · exact absurd rfl y3
                      · conv => whnf
                        exact ⟨rfl, Or.inr rfl, h M hM⟩
    clear h hacc
    have k18 : ∀ i, i ≤ 10 → ∀ M, clR M σ → ∀ l8 l9 l10 l11 l12 l13 l14 l15 l16 l17, K 18 [some (.inr (.inl (6, 0))), some (.inl (cSum (fun c => nI c.1.length) σ.1.1 (i))), some (.inl (cSum (fun c => lwt c.1) σ.1.1 (i))), some (.inl (cSum (fun c => if c.1.length = 0 then 0 else 1) σ.1.1 (i))), some (.inl (cSum (fun c => if icy c.1 = true then 1 else 0) σ.1.1 (i))), some (.inl (cSum (fun c => if c.2 = lbal c.1 then 0 else 1) σ.1.1 (i))), some (.inl (nI (cHi σ.1.1 (i - 1)))), some (.inl (nI (i))), l8, l9, l10, l11, l12, l13, l14, l15, l16, l17] [] M gB0 := by
      refine upto (n := 10) ?_ (fun i hi ih => ?_)
      · intro M hM l8 l9 l10 l11 l12 l13 l14 l15 l16 l17
        refine run [608] 1000 _ _ _ _ _ _ rfl ?_
        conv => whnf
        refine ⟨fun h1 => ?_, fun h1 => ?_⟩
        · conv => whnf
          exact k608 M hM _ _ _ _ _ _ _ _ _ _
        · exact absurd (nI_le (Nat.le_refl 10) (by decide)) h1
      · clear k608
        obtain ⟨h8, hlay, hend, hice, N, n1, n2, n3⟩ := hcol i hi
        have k600 : ∀ M, clR M σ → ∀ l8 l9 l10 l11 l12 l13 l14 l15 l16 l17 h, h = cHi σ.1.1 i → K 600 [some (.inr (.inl (6, 0))), some (.inl (cSum (fun c => nI c.1.length) σ.1.1 (i + 1))), some (.inl (cSum (fun c => lwt c.1) σ.1.1 (i + 1))), some (.inl (cSum (fun c => if c.1.length = 0 then 0 else 1) σ.1.1 (i + 1))), some (.inl (cSum (fun c => if icy c.1 = true then 1 else 0) σ.1.1 (i + 1))), some (.inl (cSum (fun c => if c.2 = lbal c.1 then 0 else 1) σ.1.1 (i + 1))), some (.inl (nI (cHi σ.1.1 (i - 1)))), some (.inl (nI i)), l8, l9, l10, l11, l12, l13, l14, l15, l16, l17] [.inl (nI h)] M gB0 := by
          intro M hM l8 l9 l10 l11 l12 l13 l14 l15 l16 l17 h e
          subst e
          refine run [18] 1000 _ _ _ _ _ _ rfl ?_
          conv => whnf
          rw [nI_1]
          exact ih M hM _ _ _ _ _ _ _ _ _ _
        clear ih
        have k573 : ∀ M, clR M σ → ∀ l8 l9 l10 l11 l12 l13 l14 l15 l16 l17 z, z = (if (σ.1.1 i).2 = lbal (σ.1.1 i).1 then (0 : Int32) else 1) → K 573 [some (.inr (.inl (6, 0))), some (.inl (cSum (fun c => nI c.1.length) σ.1.1 (i + 1))), some (.inl (cSum (fun c => lwt c.1) σ.1.1 (i + 1))), some (.inl (cSum (fun c => if c.1.length = 0 then 0 else 1) σ.1.1 (i + 1))), some (.inl (cSum (fun c => if icy c.1 = true then 1 else 0) σ.1.1 (i + 1))), some (.inl (cSum (fun c => if c.2 = lbal c.1 then 0 else 1) σ.1.1 (i))), some (.inl (nI (cHi σ.1.1 (i - 1)))), some (.inl (nI i)), l8, l9, l10, l11, l12, l13, l14, l15, l16, l17] [.inl z,  .inl (cSum (fun c => if c.2 = lbal c.1 then 0 else 1) σ.1.1 (i))] M gB0 := by
          intro M hM l8 l9 l10 l11 l12 l13 l14 l15 l16 l17 z e
          subst e
          refine run [600] 1000 _ _ _ _ _ _ rfl ?_
          conv => whnf
          refine ⟨rfl, rfl, rfl, σ, hM, ?_⟩
          rw [bq4 hi]
          conv => whnf
          refine ⟨rfl, rfl, rfl, σ, hM, ?_⟩
          rw [bq4 (show cHi σ.1.1 (i - 1) < 10 by have := cHi_le σ.1.1 (i - 1); omega)]
          conv => whnf
          refine ⟨fun z1 => ?_, fun z1 => ?_⟩
          · conv => whnf
            exact k600 M hM _ _ _ _ _ _ _ _ _ _ _ ((if_neg (Int32.not_lt.mpr z1)).symm.trans (cHi_up σ.1.1 i))
          · conv => whnf
            exact k600 M hM _ _ _ _ _ _ _ _ _ _ _ ((if_pos (Int32.not_le.mp z1)).symm.trans (cHi_up σ.1.1 i))
        clear k600
        have k546 : ∀ M, clR M σ → ∀ l8 l9 l10 l11 l12 l13 l14 l15 l16 l17 z, z = (if icy (σ.1.1 i).1 = true then (1 : Int32) else 0) → K 546 [some (.inr (.inl (6, 0))), some (.inl (cSum (fun c => nI c.1.length) σ.1.1 (i + 1))), some (.inl (cSum (fun c => lwt c.1) σ.1.1 (i + 1))), some (.inl (cSum (fun c => if c.1.length = 0 then 0 else 1) σ.1.1 (i + 1))), some (.inl (cSum (fun c => if icy c.1 = true then 1 else 0) σ.1.1 (i))), some (.inl (cSum (fun c => if c.2 = lbal c.1 then 0 else 1) σ.1.1 (i))), some (.inl (nI (cHi σ.1.1 (i - 1)))), some (.inl (nI i)), l8, l9, l10, l11, l12, l13, l14, l15, l16, l17] [.inl z, .inl (cSum (fun c => if icy c.1 = true then 1 else 0) σ.1.1 (i))] M gB0 := by
          intro M hM l8 l9 l10 l11 l12 l13 l14 l15 l16 l17 z e
          subst e
          refine run [573] 1000 _ _ _ _ _ _ rfl ?_
          conv => whnf
          refine ⟨rfl, rfl, rfl, σ, hM, ?_⟩
          rw [bq2 hi]
          conv => whnf
          refine ⟨rfl, rfl, rfl, σ, hM, ?_⟩
          rw [bq3 hi]
          conv => whnf
          refine ⟨fun z1 => ?_, fun z1 => ?_⟩
          · conv => whnf
            exact k573 M hM _ _ _ _ _ _ _ _ _ _ _ (if_pos z1.symm).symm
          · conv => whnf
            exact k573 M hM _ _ _ _ _ _ _ _ _ _ _ (if_neg (fun q => z1 q.symm)).symm
        clear k573
        have k521 : ∀ M, clR M σ → ∀ l9 l10 l11 l12 l13 l14 l15 l16 l17 z, z = (if (σ.1.1 i).1.length = 0 then (0 : Int32) else 1) → K 521 [some (.inr (.inl (6, 0))), some (.inl (cSum (fun c => nI c.1.length) σ.1.1 (i + 1))), some (.inl (cSum (fun c => lwt c.1) σ.1.1 (i + 1))), some (.inl (cSum (fun c => if c.1.length = 0 then 0 else 1) σ.1.1 (i))), some (.inl (cSum (fun c => if icy c.1 = true then 1 else 0) σ.1.1 (i))), some (.inl (cSum (fun c => if c.2 = lbal c.1 then 0 else 1) σ.1.1 (i))), some (.inl (nI (cHi σ.1.1 (i - 1)))), some (.inl (nI i)), some (.inl (nI (σ.1.1 i).1.length)), l9, l10, l11, l12, l13, l14, l15, l16, l17] [.inl z, .inl (cSum (fun c => if c.1.length = 0 then 0 else 1) σ.1.1 (i))] M gB0 := by
          intro M hM l9 l10 l11 l12 l13 l14 l15 l16 l17 z e
          subst e
          refine run [546] 1000 _ _ _ _ _ _ rfl ?_
          conv => whnf
          refine ⟨fun z1 => ?_, fun z1 => ?_⟩
          · conv => whnf
            have z1 := Int32.le_iff_toInt_le.mp z1
            rw [nI_toInt (by omega), show ((0 : Int32)).toInt = 0 from rfl] at z1
            have e : (σ.1.1 i).1 = [] := List.length_eq_zero_iff.mp (by omega)
            exact k546 M hM _ _ _ _ _ _ _ _ _ _ _ (by rw [e]; rfl)
          · have hp : 0 < (σ.1.1 i).1.length := by
              rcases Nat.eq_zero_or_pos (σ.1.1 i).1.length with q | q
              · exact absurd (by rw [q]; decide) z1
              · exact q
            conv => whnf
            refine ⟨rfl, rfl, rfl, σ, hM, ?_⟩
            rw [show oLayer σ (nI i) 0 0 = _ from lq0 (k := 0) hi h8 hp]
            conv => whnf
            have ei := icy0 (σ.1.1 i).1 hp
            refine ⟨fun z2 => ?_, fun z2 => ?_⟩
            · conv => whnf
              exact k546 M hM _ _ _ _ _ _ _ _ _ _ _ (by rw [ei, decide_eq_false z2]; rfl)
            · conv => whnf
              exact k546 M hM _ _ _ _ _ _ _ _ _ _ _ (by rw [ei, decide_eq_true z2]; rfl)
        clear k546
        have k500 : ∀ M, clR M σ → ∀ l10 l11 l12 l13 l14 l15 l16 l17, K 500 [some (.inr (.inl (6, 0))), some (.inl (cSum (fun c => nI c.1.length) σ.1.1 (i))), some (.inl (cSum (fun c => lwt c.1) σ.1.1 (i))), some (.inl (cSum (fun c => if c.1.length = 0 then 0 else 1) σ.1.1 (i))), some (.inl (cSum (fun c => if icy c.1 = true then 1 else 0) σ.1.1 (i))), some (.inl (cSum (fun c => if c.2 = lbal c.1 then 0 else 1) σ.1.1 (i))), some (.inl (nI (cHi σ.1.1 (i - 1)))), some (.inl (nI (i))), some (.inl (nI (σ.1.1 i).1.length)), some (.inl (lwt (σ.1.1 i).1)), l10, l11, l12, l13, l14, l15, l16, l17] [] M gB0 := by
          intro M hM l10 l11 l12 l13 l14 l15 l16 l17
          refine run [521] 1000 _ _ _ _ _ _ rfl ?_
          conv => whnf
          refine ⟨fun z1 => ?_, fun z1 => ?_⟩
          · conv => whnf
            have z1 := Int32.le_iff_toInt_le.mp z1
            rw [nI_toInt (by omega), show ((0 : Int32)).toInt = 0 from rfl] at z1
            exact k521 M hM _ _ _ _ _ _ _ _ _ _ (if_pos (by omega)).symm
          · conv => whnf
            exact k521 M hM _ _ _ _ _ _ _ _ _ _ (if_neg (fun q => z1 (by rw [q]; decide))).symm
        clear k521
        have k478 : ∀ M, clR M σ → ∀ l10 l11 l12 l13 l14 l15 l16 l17 z, K 478 [some (.inr (.inl (6, 0))), some (.inl (cSum (fun c => nI c.1.length) σ.1.1 (i))), some (.inl (cSum (fun c => lwt c.1) σ.1.1 (i))), some (.inl (cSum (fun c => if c.1.length = 0 then 0 else 1) σ.1.1 (i))), some (.inl (cSum (fun c => if icy c.1 = true then 1 else 0) σ.1.1 (i))), some (.inl (cSum (fun c => if c.2 = lbal c.1 then 0 else 1) σ.1.1 (i))), some (.inl (nI (cHi σ.1.1 (i - 1)))), some (.inl (nI (i))), some (.inl (nI (σ.1.1 i).1.length)), some (.inl (lwt (σ.1.1 i).1)), l10, l11, l12, l13, l14, l15, l16, l17] [.inl z, .inl z] M gB0 := by
          intro M hM l10 l11 l12 l13 l14 l15 l16 l17 z
          refine run [500] 1000 _ _ _ _ _ _ rfl ?_
          conv => whnf
          refine ⟨fun z1 => ?_, fun z1 => ?_⟩
          · exact absurd rfl z1
          · conv => whnf
            refine ⟨rfl, rfl, rfl, σ, hM, fun M1 hM g2 => ?_⟩
            have hM : clR M1 σ := hM
            rw [tq hi]
            conv => whnf
            refine ⟨rfl, rfl, rfl, σ, hM, ?_⟩
            rw [bq4 hi]
            conv => whnf
            refine ⟨fun z2 => ?_, fun z2 => ?_⟩
            · conv => whnf
              exact k500 M1 hM _ _ _ _ _ _ _ _
            · exact absurd rfl z2
        clear k500
        have k442 : ∀ M, clR M σ → ∀ l10 l11 l12 l13 l14 l15 l16 l17, K 442 [some (.inr (.inl (6, 0))), some (.inl (cSum (fun c => nI c.1.length) σ.1.1 (i))), some (.inl (cSum (fun c => lwt c.1) σ.1.1 (i))), some (.inl (cSum (fun c => if c.1.length = 0 then 0 else 1) σ.1.1 (i))), some (.inl (cSum (fun c => if icy c.1 = true then 1 else 0) σ.1.1 (i))), some (.inl (cSum (fun c => if c.2 = lbal c.1 then 0 else 1) σ.1.1 (i))), some (.inl (nI (cHi σ.1.1 (i - 1)))), some (.inl (nI (i))), some (.inl (nI (σ.1.1 i).1.length)), some (.inl (lwt (σ.1.1 i).1)), l10, l11, l12, l13, l14, l15, l16, l17] [] M gB0 := by
          intro M hM l10 l11 l12 l13 l14 l15 l16 l17
          have k456 : ∀ z, z = (if (σ.1.1 i).2 = lbal (σ.1.1 i).1 then (1 : Int32) else 0) → K 456 [some (.inr (.inl (6, 0))), some (.inl (cSum (fun c => nI c.1.length) σ.1.1 (i))), some (.inl (cSum (fun c => lwt c.1) σ.1.1 (i))), some (.inl (cSum (fun c => if c.1.length = 0 then 0 else 1) σ.1.1 (i))), some (.inl (cSum (fun c => if icy c.1 = true then 1 else 0) σ.1.1 (i))), some (.inl (cSum (fun c => if c.2 = lbal c.1 then 0 else 1) σ.1.1 (i))), some (.inl (nI (cHi σ.1.1 (i - 1)))), some (.inl (nI (i))), some (.inl (nI (σ.1.1 i).1.length)), some (.inl (lwt (σ.1.1 i).1)), l10, l11, l12, l13, l14, l15, l16, l17] [.inl z] M gB0 := by
            intro z e
            refine run [478] 1000 _ _ _ _ _ _ rfl ?_
            conv => whnf
            refine ⟨rfl, rfl, rfl, σ, hM, ?_⟩
            rw [bq2 hi]
            conv => whnf
            refine ⟨rfl, rfl, rfl, σ, hM, ?_⟩
            rw [bq3 hi]
            conv => whnf
            refine ⟨fun z1 => ?_, fun z1 => ?_⟩
            · conv => whnf
              rw [if_neg (fun q => z1 q.symm)] at e
              subst e
              exact k478 M hM _ _ _ _ _ _ _ _ _
            · conv => whnf
              rw [if_pos z1.symm] at e
              subst e
              exact k478 M hM _ _ _ _ _ _ _ _ _
          clear k478
          refine run [456] 1000 _ _ _ _ _ _ rfl ?_
          conv => whnf
          refine ⟨rfl, rfl, rfl, σ, hM, fun q => absurd ⟨nI_pos' (by omega), nI_le (show i ≤ 9 by omega) (by decide)⟩ q, fun _ => ?_⟩
          rw [nI_clamp (show i < 2 ^ 31 by omega)]
          refine ⟨N, n1, n2, n3, ?_⟩
          conv => whnf
          rcases Nat.eq_zero_or_pos N with e | e
          · subst e
            have e0 : (σ.1.1 i).2 = lbal (σ.1.1 i).1 := n2
            refine ⟨fun z1 => ?_, fun z1 => ?_⟩
            · exact absurd rfl z1
            · conv => whnf
              exact k456 _ (if_pos e0).symm
          · have e0 : ¬ (σ.1.1 i).2 = lbal (σ.1.1 i).1 := n3 0 e
            refine ⟨fun z1 => ?_, fun z1 => ?_⟩
            · conv => whnf
              exact k456 _ (if_neg e0).symm
            · exfalso
              have := congrArg Int32.toInt z1
              rw [nI_toInt (by omega), show ((0 : Int32)).toInt = 0 from rfl] at this
              omega
        clear k478
        have k395 : ∀ M, clR M σ → ∀ l10 l11 l12 l15 l16 l17, K 395 [some (.inr (.inl (6, 0))), some (.inl (cSum (fun c => nI c.1.length) σ.1.1 (i))), some (.inl (cSum (fun c => lwt c.1) σ.1.1 (i))), some (.inl (cSum (fun c => if c.1.length = 0 then 0 else 1) σ.1.1 (i))), some (.inl (cSum (fun c => if icy c.1 = true then 1 else 0) σ.1.1 (i))), some (.inl (cSum (fun c => if c.2 = lbal c.1 then 0 else 1) σ.1.1 (i))), some (.inl (nI (cHi σ.1.1 (i - 1)))), some (.inl (nI (i))), some (.inl (nI (σ.1.1 i).1.length)), some (.inl (lwt (σ.1.1 i).1)), l10, l11, l12, some (.inl (oN (cLow σ.1.1 i))), some (.inl (cWhy σ.1.1 i (σ.1.2.2.2.1 3))), l15, l16, l17] [] M gB0 := by
          intro M hM l10 l11 l12 l15 l16 l17
          rcases why_cases σ.1.1 i (σ.1.2.2.2.1 3) with ⟨a, b⟩ | ⟨a, b⟩
          · rw [a]
            have e0 : nI (σ.1.1 i).1.length = 0 := by rw [b]; rfl
            refine run [442] 1000 _ _ _ _ _ _ rfl ?_
            conv => whnf
            refine ⟨fun z1 => ?_, fun z1 => ?_⟩
            · exact absurd rfl z1
            · conv => whnf
              refine ⟨fun z2 => ?_, fun z2 => ?_⟩
              · exact absurd e0 z2
              · conv => whnf
                refine ⟨fun z3 => ?_, fun z3 => ?_⟩
                · exact absurd rfl z3
                · conv => whnf
                  refine ⟨fun z4 => ?_, fun z4 => ?_⟩
                  · conv => whnf
                    refine ⟨fun z5 => ?_, fun z5 => ?_⟩
                    · conv => whnf
                      exact k442 M hM _ _ _ _ _ _ _ _
                    · exact absurd z5 (by decide)
                  · exact absurd z4 (by decide)
          · have e0 : ¬ nI (σ.1.1 i).1.length = 0 := fun q => by
              have := congrArg Int32.toInt q
              rw [nI_toInt (by omega), show ((0 : Int32)).toInt = 0 from rfl] at this
              exact b (List.length_eq_zero_iff.mp (by omega))
            rcases a with a | a | ⟨a, a2⟩ | ⟨a, u, a2⟩
            · rw [a]
              refine run [442] 1000 _ _ _ _ _ _ rfl ?_
              conv => whnf
              refine ⟨fun z1 => ?_, fun z1 => ?_⟩
              · conv => whnf
                refine ⟨fun z2 => ?_, fun z2 => ?_⟩
                · conv => whnf
                  refine ⟨fun z3 => ?_, fun z3 => ?_⟩
                  · exact absurd rfl z3
                  · conv => whnf
                    refine ⟨fun z4 => ?_, fun z4 => ?_⟩
                    · conv => whnf
                      refine ⟨fun z5 => ?_, fun z5 => ?_⟩
                      · conv => whnf
                        exact k442 M hM _ _ _ _ _ _ _ _
                      · exact absurd z5 (by decide)
                    · exact absurd z4 (by decide)
                · exact absurd z2 e0
              · exact absurd z1 (by decide)
            · rw [a]
              refine run [442] 1000 _ _ _ _ _ _ rfl ?_
              conv => whnf
              refine ⟨fun z1 => ?_, fun z1 => ?_⟩
              · conv => whnf
                refine ⟨fun z2 => ?_, fun z2 => ?_⟩
                · conv => whnf
                  refine ⟨fun z3 => ?_, fun z3 => ?_⟩
                  · exact absurd rfl z3
                  · conv => whnf
                    refine ⟨fun z4 => ?_, fun z4 => ?_⟩
                    · conv => whnf
                      refine ⟨fun z5 => ?_, fun z5 => ?_⟩
                      · conv => whnf
                        exact k442 M hM _ _ _ _ _ _ _ _
                      · exact absurd z5 (by decide)
                    · exact absurd z4 (by decide)
                · exact absurd z2 e0
              · exact absurd z1 (by decide)
            · rw [a, a2]
              refine run [442] 1000 _ _ _ _ _ _ rfl ?_
              conv => whnf
              refine ⟨fun z1 => ?_, fun z1 => ?_⟩
              · conv => whnf
                refine ⟨fun z2 => ?_, fun z2 => ?_⟩
                · conv => whnf
                  refine ⟨fun z3 => ?_, fun z3 => ?_⟩
                  · exact absurd rfl z3
                  · conv => whnf
                    refine ⟨fun z4 => ?_, fun z4 => ?_⟩
                    · exact absurd rfl z4
                    · conv => whnf
                      refine ⟨fun z5 => ?_, fun z5 => ?_⟩
                      · exact absurd z5 (by decide)
                      · conv => whnf
                        refine ⟨fun z6 => ?_, fun z6 => ?_⟩
                        · conv => whnf
                          exact k442 M hM _ _ _ _ _ _ _ _
                        · exact absurd z6 (by decide)
                · exact absurd z2 e0
              · exact absurd z1 (by decide)
            · rw [a, a2]
              have hu := cLow_lt hi a2
              refine run [442] 1000 _ _ _ _ _ _ rfl ?_
              conv => whnf
              refine ⟨fun z1 => ?_, fun z1 => ?_⟩
              · conv => whnf
                refine ⟨fun z2 => ?_, fun z2 => ?_⟩
                · conv => whnf
                  refine ⟨fun z3 => ?_, fun z3 => ?_⟩
                  · exact absurd rfl z3
                  · conv => whnf
                    refine ⟨fun z4 => ?_, fun z4 => ?_⟩
                    · conv => whnf
                      refine ⟨fun z5 => ?_, fun z5 => ?_⟩
                      · exact absurd rfl z5
                      · conv => whnf
                        refine ⟨fun z6 => ?_, fun z6 => ?_⟩
                        · conv => whnf
                          exact k442 M hM _ _ _ _ _ _ _ _
                        · exact absurd (nI_pos' (by omega)) z6
                    · exact absurd z4 (by decide)
                · exact absurd z2 e0
              · exact absurd z1 (by decide)
        clear k442
        have k316 : ∀ M, clR M σ → ∀ l15 l16 l17, K 316 [some (.inr (.inl (6, 0))), some (.inl (cSum (fun c => nI c.1.length) σ.1.1 (i))), some (.inl (cSum (fun c => lwt c.1) σ.1.1 (i))), some (.inl (cSum (fun c => if c.1.length = 0 then 0 else 1) σ.1.1 (i))), some (.inl (cSum (fun c => if icy c.1 = true then 1 else 0) σ.1.1 (i))), some (.inl (cSum (fun c => if c.2 = lbal c.1 then 0 else 1) σ.1.1 (i))), some (.inl (nI (cHi σ.1.1 (i - 1)))), some (.inl (nI (i))), some (.inl (nI (σ.1.1 i).1.length)), some (.inl (lwt (σ.1.1 i).1)), some (.inl (lth (σ.1.1 i).1)), some (.inl (licw (σ.1.1 i).1)), some (.inl (-(σ.1.1 i).2)), some (.inl (oN (cLow σ.1.1 i))), some (.inl (cWhy σ.1.1 i (σ.1.2.2.2.1 3))), l15, l16, l17] [.inl 1] M gB0 := by
          intro M hM l15 l16 l17
          refine run [395] 1000 _ _ _ _ _ _ rfl ?_
          conv => whnf
          refine ⟨fun z1 => ?_, fun z1 => ?_⟩
          · exact absurd z1 (Int32.not_lt.mpr (nI_le h8 (by decide)))
          · conv => whnf
            refine ⟨rfl, rfl, rfl, σ, hM, ?_⟩
            rw [bq1 hi]
            conv => whnf
            refine ⟨fun y1 => ?_, fun y1 => ?_⟩
            · exact absurd rfl y1
            · conv => whnf
              refine ⟨by decide, ?_⟩
              conv => whnf
              refine ⟨rfl, rfl, rfl, σ, hM, ?_⟩
              rw [bq2 hi]
              conv => whnf
              refine ⟨fun y2 => ?_, fun y2 => ?_⟩
              · exact absurd rfl y2
              · conv => whnf
                refine ⟨rfl, rfl, rfl, σ, hM, ?_⟩
                rw [bq5 hi]
                conv => whnf
                refine ⟨fun y3 => ?_, fun y3 => ?_⟩
                · exact absurd rfl y3
                · conv => whnf
                  refine ⟨rfl, rfl, rfl, σ, hM, ?_⟩
                  rw [bq6 hi]
                  conv => whnf
                  refine ⟨fun y4 => ?_, fun y4 => ?_⟩
                  · exact absurd hice y4
                  · conv => whnf
                    refine ⟨rfl, rfl, rfl, σ, hM, ?_⟩
                    rw [bq3 hi]
                    conv => whnf
                    refine ⟨fun y5 => ?_, fun y5 => ?_⟩
                    · exact absurd rfl y5
                    · conv => whnf
                      refine ⟨fun y6 => ?_, fun y6 => ?_⟩
                      · exact absurd y6 (by decide)
                      · conv => whnf
                        exact k395 M hM _ _ _ _ _ _
        clear k395 hice
        have k255 : ∀ M, clR M σ → ∀ l13 l14 l15 l16 l17, K 255 [some (.inr (.inl (6, 0))), some (.inl (cSum (fun c => nI c.1.length) σ.1.1 (i))), some (.inl (cSum (fun c => lwt c.1) σ.1.1 (i))), some (.inl (cSum (fun c => if c.1.length = 0 then 0 else 1) σ.1.1 (i))), some (.inl (cSum (fun c => if icy c.1 = true then 1 else 0) σ.1.1 (i))), some (.inl (cSum (fun c => if c.2 = lbal c.1 then 0 else 1) σ.1.1 (i))), some (.inl (nI (cHi σ.1.1 (i - 1)))), some (.inl (nI (i))), some (.inl (nI (σ.1.1 i).1.length)), some (.inl (lwt (σ.1.1 i).1)), some (.inl (lth (σ.1.1 i).1)), some (.inl (licw (σ.1.1 i).1)), some (.inl (-(σ.1.1 i).2)), l13, l14, l15, l16, l17] [] M gB0 := by
          intro M hM l13 l14 l15 l16 l17
          have k276 : ∀ u, cLow σ.1.1 i = some u → ∀ l15 l16 l17, K 276 [some (.inr (.inl (6, 0))), some (.inl (cSum (fun c => nI c.1.length) σ.1.1 (i))), some (.inl (cSum (fun c => lwt c.1) σ.1.1 (i))), some (.inl (cSum (fun c => if c.1.length = 0 then 0 else 1) σ.1.1 (i))), some (.inl (cSum (fun c => if icy c.1 = true then 1 else 0) σ.1.1 (i))), some (.inl (cSum (fun c => if c.2 = lbal c.1 then 0 else 1) σ.1.1 (i))), some (.inl (nI (cHi σ.1.1 (i - 1)))), some (.inl (nI (i))), some (.inl (nI (σ.1.1 i).1.length)), some (.inl (lwt (σ.1.1 i).1)), some (.inl (lth (σ.1.1 i).1)), some (.inl (licw (σ.1.1 i).1)), some (.inl (-(σ.1.1 i).2)), some (.inl (nI u)), some (.inl (cWhy σ.1.1 i (σ.1.2.2.2.1 3))), l15, l16, l17] [] M gB0 := by
            intro u hv l15 l16 l17
            rw [hv] at k316
            obtain ⟨u1, u2, u3⟩ := cLow_spec hi hv
            have k294 : ∀ l15 l16 l17, K 294 [some (.inr (.inl (6, 0))), some (.inl (cSum (fun c => nI c.1.length) σ.1.1 (i))), some (.inl (cSum (fun c => lwt c.1) σ.1.1 (i))), some (.inl (cSum (fun c => if c.1.length = 0 then 0 else 1) σ.1.1 (i))), some (.inl (cSum (fun c => if icy c.1 = true then 1 else 0) σ.1.1 (i))), some (.inl (cSum (fun c => if c.2 = lbal c.1 then 0 else 1) σ.1.1 (i))), some (.inl (nI (cHi σ.1.1 (i - 1)))), some (.inl (nI (i))), some (.inl (nI (σ.1.1 i).1.length)), some (.inl (lwt (σ.1.1 i).1)), some (.inl (lth (σ.1.1 i).1)), some (.inl (licw (σ.1.1 i).1)), some (.inl (-(σ.1.1 i).2)), some (.inl (nI u)), some (.inl (cWhy σ.1.1 i (σ.1.2.2.2.1 3))), l15, l16, l17] [] M gB0 := by
              intro l15 l16 l17
              refine run [316] 1000 _ _ _ _ _ _ rfl ?_
              conv => whnf
              refine ⟨rfl, rfl, rfl, σ, hM, ?_⟩
              rw [bq4 u3]
              conv => whnf
              refine ⟨rfl, rfl, rfl, σ, hM, ?_⟩
              rw [bq4 hi]
              conv => whnf
              refine ⟨fun y1 => ?_, fun y1 => ?_⟩
              · exact absurd u1 (Int32.not_lt.mpr y1)
              · conv => whnf
                exact k316 M hM _ _ _
            clear k316
            refine run [294] 1000 _ _ _ _ _ _ rfl ?_
            conv => whnf
            refine ⟨fun z1 => ?_, fun z1 => ?_⟩
            · conv => whnf
              exact k294 _ _ _
            · conv => whnf
              refine ⟨fun z2 => ?_, fun z2 => ?_⟩
              · exfalso
                rcases u2 with u2 | u2
                · refine z1 ?_
                  rw [← u2]
                  exact (nI_mm u).symm
                · refine z2 ?_
                  rw [u2]
                  exact (nI_1 i).symm
              · conv => whnf
                exact k294 _ _ _
          refine run [276, 316] 1000 _ _ _ _ _ _ rfl ?_
          conv => whnf
          refine ⟨rfl, rfl, rfl, σ, hM, ?_⟩
          rw [vq hi]
          conv => whnf
          refine ⟨rfl, rfl, rfl, σ, hM, ?_⟩
          rw [yq hi]
          conv => whnf
          cases hv : cLow σ.1.1 i with
          | none =>
            rw [hv] at k316
            refine ⟨fun z1 => ?_, fun z1 => ?_⟩
            · conv => whnf
              exact k316 M hM _ _ _
            · exact absurd (show oN none < 0 by decide) z1
          | some u =>
            have u3 := cLow_lt hi hv
            refine ⟨fun z1 => ?_, fun z1 => ?_⟩
            · exact absurd z1 (nI_pos (by omega))
            · conv => whnf
              exact k276 u hv _ _ _
        clear k316
        have k55 : ∀ M, clR M σ → ∀ k, k ≤ (σ.1.1 i).1.length → ∀ l14 l15 l16 l17, K 55 [some (.inr (.inl (6, 0))), some (.inl (cSum (fun c => nI c.1.length) σ.1.1 (i))), some (.inl (cSum (fun c => lwt c.1) σ.1.1 (i))), some (.inl (cSum (fun c => if c.1.length = 0 then 0 else 1) σ.1.1 (i))), some (.inl (cSum (fun c => if icy c.1 = true then 1 else 0) σ.1.1 (i))), some (.inl (cSum (fun c => if c.2 = lbal c.1 then 0 else 1) σ.1.1 (i))), some (.inl (nI (cHi σ.1.1 (i - 1)))), some (.inl (nI (i))), some (.inl (nI (σ.1.1 i).1.length)), some (.inl (lwt ((σ.1.1 i).1.take (k)))), some (.inl (lth ((σ.1.1 i).1.take (k)))), some (.inl (licw ((σ.1.1 i).1.take (k)))), some (.inl (lup (σ.1.1 i) (k))), some (.inl (nI (k))), l14, l15, l16, l17] [] M gB0 := by
          intro M hM
          refine upto (n := (σ.1.1 i).1.length) ?_ (fun k hk ih => ?_)
          · intro l14 l15 l16 l17
            rw [List.take_length, hend]
            refine run [255] 1000 _ _ _ _ _ _ rfl ?_
            conv => whnf
            refine ⟨fun z1 => ?_, fun z1 => ?_⟩
            · conv => whnf
              exact k255 M hM _ _ _ _ _
            · exact absurd (nI_le (Nat.le_refl _) (by omega)) z1
          · clear k255
            obtain ⟨vx, hd⟩ := hlay k hk
            have q0 := lq0 hi h8 hk
            have q1 := lq1 hi h8 hk
            have q2 := lq2 hi h8 hk
            have q3 := lq3 hi h8 hk
            have ew : lwt ((σ.1.1 i).1.take (k + 1)) = lwt ((σ.1.1 i).1.take k) + (σ.1.1 i).1[k].2.1 * (σ.1.1 i).1[k].2.2 := foldl_take _ _ (List.getElem?_eq_getElem hk)
            have et : lth ((σ.1.1 i).1.take (k + 1)) = lth ((σ.1.1 i).1.take k) + (σ.1.1 i).1[k].2.2 := foldl_take _ _ (List.getElem?_eq_getElem hk)
            have ec : licw ((σ.1.1 i).1.take (k + 1)) = if (σ.1.1 i).1[k].1 = 0 then licw ((σ.1.1 i).1.take k) + (σ.1.1 i).1[k].2.1 * (σ.1.1 i).1[k].2.2 else licw ((σ.1.1 i).1.take k) := foldl_take _ _ (List.getElem?_eq_getElem hk)
            have eu := lup_step (c := σ.1.1 i) hk
            rw [ew, et, ec, eu] at ih
            generalize (σ.1.1 i).1[k] = x at *
            generalize hW : lwt ((σ.1.1 i).1.take k) = W at *
            generalize hT : lth ((σ.1.1 i).1.take k) = Th at *
            generalize hI : licw ((σ.1.1 i).1.take k) = Ic at *
            generalize hU : lup (σ.1.1 i) k = U at *
            have k246 : ∀ l17 z, Ic + z = (if x.1 = 0 then Ic + x.2.1 * x.2.2 else Ic) → K 246 [some (.inr (.inl (6, 0))), some (.inl (cSum (fun c => nI c.1.length) σ.1.1 (i))), some (.inl (cSum (fun c => lwt c.1) σ.1.1 (i))), some (.inl (cSum (fun c => if c.1.length = 0 then 0 else 1) σ.1.1 (i))), some (.inl (cSum (fun c => if icy c.1 = true then 1 else 0) σ.1.1 (i))), some (.inl (cSum (fun c => if c.2 = lbal c.1 then 0 else 1) σ.1.1 (i))), some (.inl (nI (cHi σ.1.1 (i - 1)))), some (.inl (nI (i))), some (.inl (nI (σ.1.1 i).1.length)), some (.inl (W + x.2.1 * x.2.2)), some (.inl (Th + x.2.2)), some (.inl (Ic)), some (.inl (U - x.2.2)), some (.inl (nI k)), some (.inl (x.1)), some (.inl (x.2.1)), some (.inl (x.2.2)), l17] [.inl z, .inl Ic] M gB0 := by
              intro l17 z e
              rw [← e] at ih
              refine run [55] 1000 _ _ _ _ _ _ rfl ?_
              conv => whnf
              rw [nI_1]
              exact ih _ _ _ _
            clear ih
            have k206 : ∀ l17, K 206 [some (.inr (.inl (6, 0))), some (.inl (cSum (fun c => nI c.1.length) σ.1.1 (i))), some (.inl (cSum (fun c => lwt c.1) σ.1.1 (i))), some (.inl (cSum (fun c => if c.1.length = 0 then 0 else 1) σ.1.1 (i))), some (.inl (cSum (fun c => if icy c.1 = true then 1 else 0) σ.1.1 (i))), some (.inl (cSum (fun c => if c.2 = lbal c.1 then 0 else 1) σ.1.1 (i))), some (.inl (nI (cHi σ.1.1 (i - 1)))), some (.inl (nI (i))), some (.inl (nI (σ.1.1 i).1.length)), some (.inl (W)), some (.inl (Th)), some (.inl (Ic)), some (.inl (U)), some (.inl (nI k)), some (.inl (x.1)), some (.inl (x.2.1)), some (.inl (x.2.2)), l17] [] M gB0 := by
              intro l17
              refine run [246] 1000 _ _ _ _ _ _ rfl ?_
              conv => whnf
              refine ⟨fun z1 => ?_, fun z1 => ?_⟩
              · conv => whnf
                exact k246 _ _ (by rw [if_neg z1]; exact Int32.add_zero _)
              · conv => whnf
                exact k246 _ _ (by rw [if_pos z1])
            clear k246
            have k155 : ∀ l17, K 155 [some (.inr (.inl (6, 0))), some (.inl (cSum (fun c => nI c.1.length) σ.1.1 (i))), some (.inl (cSum (fun c => lwt c.1) σ.1.1 (i))), some (.inl (cSum (fun c => if c.1.length = 0 then 0 else 1) σ.1.1 (i))), some (.inl (cSum (fun c => if icy c.1 = true then 1 else 0) σ.1.1 (i))), some (.inl (cSum (fun c => if c.2 = lbal c.1 then 0 else 1) σ.1.1 (i))), some (.inl (nI (cHi σ.1.1 (i - 1)))), some (.inl (nI (i))), some (.inl (nI (σ.1.1 i).1.length)), some (.inl (W)), some (.inl (Th)), some (.inl (Ic)), some (.inl (U)), some (.inl (nI k)), some (.inl (x.1)), some (.inl (x.2.1)), some (.inl (x.2.2)), l17] [.inl 1] M gB0 := by
              intro l17
              refine run [206] 1000 _ _ _ _ _ _ rfl ?_
              conv => whnf
              refine ⟨fun z1 => ?_, fun z1 => ?_⟩
              · exact absurd z1 (by decide)
              · conv => whnf
                refine ⟨fun z2 => ?_, fun z2 => ?_⟩
                · have z2 := Int32.lt_iff_toInt_lt.mp z2
                  rw [show ((1 : Int32)).toInt = 1 from rfl] at z2
                  have := vx.2
                  omega
                · conv => whnf
                  refine ⟨rfl, rfl, rfl, σ, hM, ?_⟩
                  rw [q3]
                  conv => whnf
                  refine ⟨fun z3 => ?_, fun z3 => ?_⟩
                  · exact absurd rfl z3
                  · conv => whnf
                    refine ⟨fun z4 => ?_, fun z4 => ?_⟩
                    · conv => whnf
                      exact k206 _
                    · obtain ⟨d1, d2⟩ := hd (Int32.not_lt.mp z4)
                      conv => whnf
                      refine ⟨rfl, rfl, rfl, σ, hM, ?_⟩
                      rw [dq hi d1, d2]
                      conv => whnf
                      refine ⟨fun z5 => ?_, fun z5 => ?_⟩
                      · conv => whnf
                        exact k206 _
                      · exact absurd rfl z5
            clear k206
            intro l14 l15 l16 l17
            refine run [155] 1000 _ _ _ _ _ _ rfl ?_
            conv => whnf
            refine ⟨fun z1 => ?_, fun z1 => ?_⟩
            · exact absurd z1 (nI_ge hk (by omega))
            · conv => whnf
              refine ⟨rfl, rfl, rfl, σ, hM, ?_⟩
              rw [q0]
              conv => whnf
              refine ⟨rfl, rfl, rfl, σ, hM, ?_⟩
              rw [q1]
              conv => whnf
              refine ⟨rfl, rfl, rfl, σ, hM, ?_⟩
              rw [q2]
              conv => whnf
              rcases vx.1 with ⟨a, b⟩ | ⟨a, b⟩ | ⟨a, b1, b2⟩
              · refine ⟨fun y1 => ?_, fun y1 => ?_⟩
                · exact absurd a y1
                · conv => whnf
                  refine ⟨fun y2 => ?_, fun y2 => ?_⟩
                  · exact absurd b y2
                  · conv => whnf
                    exact k155 _
              · refine ⟨fun y1 => ?_, fun y1 => ?_⟩
                · conv => whnf
                  refine ⟨fun y2 => ?_, fun y2 => ?_⟩
                  · exact absurd a y2
                  · conv => whnf
                    refine ⟨fun y3 => ?_, fun y3 => ?_⟩
                    · exact absurd b y3
                    · conv => whnf
                      exact k155 _
                · exact absurd (a.symm.trans y1) (by decide)
              · refine ⟨fun y1 => ?_, fun y1 => ?_⟩
                · conv => whnf
                  refine ⟨fun y2 => ?_, fun y2 => ?_⟩
                  · conv => whnf
                    refine ⟨fun y3 => ?_, fun y3 => ?_⟩
                    · exact absurd b1 (Int32.not_le.mpr y3)
                    · conv => whnf
                      refine ⟨fun y4 => ?_, fun y4 => ?_⟩
                      · exact absurd b2 (Int32.not_le.mpr y4)
                      · conv => whnf
                        exact k155 _
                  · exact absurd (a.symm.trans y2) (by decide)
                · exact absurd (a.symm.trans y1) (by decide)
        clear k255
        intro M hM l8 l9 l10 l11 l12 l13 l14 l15 l16 l17
        refine run [55] 1000 _ _ _ _ _ _ rfl ?_
        conv => whnf
        refine ⟨fun z1 => ?_, fun z1 => ?_⟩
        · exact absurd z1 (nI_ge hi (by decide))
        · conv => whnf
          refine ⟨rfl, rfl, rfl, σ, hM, ?_⟩
          rw [bq0 hi]
          conv => whnf
          refine ⟨rfl, rfl, rfl, σ, hM, ?_⟩
          rw [bq4 hi]
          conv => whnf
          exact k55 M hM 0 (Nat.zero_le _) _ _ _ _
    clear k608
    refine run [18] 1000 _ _ _ _ _ _ rfl ?_
    conv => whnf
    exact k18 0 (by decide) M hM0 _ _ _ _ _ _ _ _ _ _
  · exact h.elim
