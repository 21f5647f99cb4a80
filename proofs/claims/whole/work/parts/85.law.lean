/-! the law's loop -/
def lwCs : List gC := [((fun _ _ _ _ _ => False : gT), 0, 0, 0), ((fun _ _ _ _ _ => False : gT), 0, 0, 0), (gTn f_X6_addLayer, 0, 0, 6), (gTn f_X7_addLayer, 0, 0, 7), (gTn f_X6_removeLayer, 0, 0, 6), (gTn f_X7_removeLayer, 0, 0, 7), (gTn f_X6_strip, 0, 0, 6), (gTn f_X7_strip, 0, 0, 7), (gTn f_X6_settle, 0, 0, 6), (gTn f_X7_settle, 0, 0, 7), (gTn f_X6_set, 0, 0, 6), (gTn f_X7_set, 0, 0, 7), (gTn f_X6_run, 0, 0, 6), (gTn f_X7_run, 0, 0, 7), (gTn f_X6_take, 0, 0, 6), (gTn f_X7_take, 0, 0, 7), (gTn f_X6_restore, 0, 0, 6), (gTn f_X7_restore, 0, 0, 7), (gTn f_X6_undo, 0, 0, 6), (gTn f_X7_undo, 0, 0, 7), (gTn f_X6_append, 0, 0, 6), (gTn f_X7_append, 0, 0, 7), (gTn f_X6_clearText, 0, 0, 6), (gTn f_X7_clearText, 0, 0, 7), (gTn f_X6_load, 0, 0, 6), (gTn f_X7_load, 0, 0, 7), (gTn f_X6_count, 0, 0, 6), (gTn f_X7_count, 0, 0, 7), (gTn f_X6_block, 0, 0, 6), (gTn f_X7_block, 0, 0, 7), (gTn f_X6_layer, 0, 0, 6), (gTn f_X7_layer, 0, 0, 7), (gTn f_X6_account, 0, 0, 6), (gTn f_X7_account, 0, 0, 7), (gTn f_X6_density, 0, 0, 6), (gTn f_X7_density, 0, 0, 7), (gTn f_X6_pressure, 0, 0, 6), (gTn f_X7_pressure, 0, 0, 7), (gTn f_X6_why, 0, 0, 6), (gTn f_X7_why, 0, 0, 7), (gTn f_X6_valley, 0, 0, 6), (gTn f_X7_valley, 0, 0, 7), (gTn f_X6_stepsToBalance, 0, 0, 6), (gTn f_X7_stepsToBalance, 0, 0, 7), (gTn f_X6_bareTop, 0, 0, 6), (gTn f_X7_bareTop, 0, 0, 7), (gTn f_X6_topIn, 0, 0, 6), (gTn f_X7_topIn, 0, 0, 7), (gTn f_X6_uneven, 0, 0, 6), (gTn f_X7_uneven, 0, 0, 7)]
set_option maxRecDepth 100000 in
theorem lk_L_law (l : Launch) : gLinks l RL 10 lwCs pL_law := And.intro ⟨gTn f_X6_addLayer, 6, yX6_addLayer, cX6_addLayer, 7, (some .int), 5, _, rfl, by decide, yi_yX6_addLayer, ok_X6_addLayer l, by decide, by decide, rfl, rfl, ml_RL_13, im_yX6_addLayer, se_yX6_addLayer⟩ (And.intro ⟨gTn f_X7_addLayer, 7, yX7_addLayer, cX7_addLayer, 6, (some .int), 2, _, rfl, by decide, yi_yX7_addLayer, ok_X7_addLayer l, by decide, by decide, rfl, rfl, ml_RL_17, im_yX7_addLayer, se_yX7_addLayer⟩ (And.intro ⟨gTn f_X6_removeLayer, 6, yX6_removeLayer, cX6_removeLayer, 5, (some .int), 5, _, rfl, by decide, yi_yX6_removeLayer, ok_X6_removeLayer l, by decide, by decide, rfl, rfl, ml_RL_18, im_yX6_removeLayer, se_yX6_removeLayer⟩ (And.intro ⟨gTn f_X7_removeLayer, 7, yX7_removeLayer, cX7_removeLayer, 4, (some .int), 3, _, rfl, by decide, yi_yX7_removeLayer, ok_X7_removeLayer l, by decide, by decide, rfl, rfl, ml_RL_22, im_yX7_removeLayer, se_yX7_removeLayer⟩ (And.intro ⟨gTn f_X6_strip, 6, yX6_strip, cX6_strip, 5, (some .int), 5, _, rfl, by decide, yi_yX6_strip, ok_X6_strip l, by decide, by decide, rfl, rfl, ml_RL_23, im_yX6_strip, se_yX6_strip⟩ (And.intro ⟨gTn f_X7_strip, 7, yX7_strip, cX7_strip, 5, (some .int), 2, _, rfl, by decide, yi_yX7_strip, ok_X7_strip l, by decide, by decide, rfl, rfl, ml_RL_27, im_yX7_strip, se_yX7_strip⟩ (And.intro ⟨gTn f_X6_settle, 6, yX6_settle, cX6_settle, 3, (some .int), 5, _, rfl, by decide, yi_yX6_settle, ok_X6_settle l, by decide, by decide, rfl, rfl, ml_RL_28, im_yX6_settle, se_yX6_settle⟩ (And.intro ⟨gTn f_X7_settle, 7, yX7_settle, cX7_settle, 4, (some .int), 4, _, rfl, by decide, yi_yX7_settle, ok_X7_settle l, by decide, by decide, rfl, rfl, ml_RL_32, im_yX7_settle, se_yX7_settle⟩ (And.intro ⟨gTn f_X6_set, 6, yX6_set, cX6_set, 4, (some .int), 5, _, rfl, by decide, yi_yX6_set, ok_X6_set l, by decide, by decide, rfl, rfl, ml_RL_33, im_yX6_set, se_yX6_set⟩ (And.intro ⟨gTn f_X7_set, 7, yX7_set, cX7_set, 4, (some .int), 2, _, rfl, by decide, yi_yX7_set, ok_X7_set l, by decide, by decide, rfl, rfl, ml_RL_36, im_yX7_set, se_yX7_set⟩ (And.intro ⟨gTn f_X6_run, 6, yX6_run, cX6_run, 3, (some .int), 6, _, rfl, by decide, yi_yX6_run, ok_X6_run l, by decide, by decide, rfl, rfl, ml_RL_37, im_yX6_run, se_yX6_run⟩ (And.intro ⟨gTn f_X7_run, 7, yX7_run, cX7_run, 3, (some .int), 7, _, rfl, by decide, yi_yX7_run, ok_X7_run l, by decide, by decide, rfl, rfl, ml_RL_40, im_yX7_run, se_yX7_run⟩ (And.intro ⟨gTn f_X6_take, 6, yX6_take, cX6_take, 2, (some .int), 5, _, rfl, by decide, yi_yX6_take, ok_X6_take l, by decide, by decide, rfl, rfl, ml_RL_41, im_yX6_take, se_yX6_take⟩ (And.intro ⟨gTn f_X7_take, 7, yX7_take, cX7_take, 4, (some .int), 2, _, rfl, by decide, yi_yX7_take, ok_X7_take l, by decide, by decide, rfl, rfl, ml_RL_44, im_yX7_take, se_yX7_take⟩ (And.intro ⟨gTn f_X6_restore, 6, yX6_restore, cX6_restore, 2, (some .int), 5, _, rfl, by decide, yi_yX6_restore, ok_X6_restore l, by decide, by decide, rfl, rfl, ml_RL_45, im_yX6_restore, se_yX6_restore⟩ (And.intro ⟨gTn f_X7_restore, 7, yX7_restore, cX7_restore, 4, (some .int), 4, _, rfl, by decide, yi_yX7_restore, ok_X7_restore l, by decide, by decide, rfl, rfl, ml_RL_48, im_yX7_restore, se_yX7_restore⟩ (And.intro ⟨gTn f_X6_undo, 6, yX6_undo, cX6_undo, 1, (some .int), 5, _, rfl, by decide, yi_yX6_undo, ok_X6_undo l, by decide, by decide, rfl, rfl, ml_RL_49, im_yX6_undo, se_yX6_undo⟩ (And.intro ⟨gTn f_X7_undo, 7, yX7_undo, cX7_undo, 2, (some .int), 0, _, rfl, by decide, yi_yX7_undo, ok_X7_undo l, by decide, by decide, rfl, rfl, ml_RL_52, im_yX7_undo, se_yX7_undo⟩ (And.intro ⟨gTn f_X6_append, 6, yX6_append, cX6_append, 2, (some .int), 1, _, rfl, by decide, yi_yX6_append, ok_X6_append l, by decide, by decide, rfl, rfl, ml_RL_53, im_yX6_append, se_yX6_append⟩ (And.intro ⟨gTn f_X7_append, 7, yX7_append, cX7_append, 2, (some .int), 1, _, rfl, by decide, yi_yX7_append, ok_X7_append l, by decide, by decide, rfl, rfl, ml_RL_56, im_yX7_append, se_yX7_append⟩ (And.intro ⟨gTn f_X6_clearText, 6, yX6_clearText, cX6_clearText, 2, (some .int), 0, _, rfl, by decide, yi_yX6_clearText, ok_X6_clearText l, by decide, by decide, rfl, rfl, ml_RL_57, im_yX6_clearText, se_yX6_clearText⟩ (And.intro ⟨gTn f_X7_clearText, 7, yX7_clearText, cX7_clearText, 2, (some .int), 0, _, rfl, by decide, yi_yX7_clearText, ok_X7_clearText l, by decide, by decide, rfl, rfl, ml_RL_60, im_yX7_clearText, se_yX7_clearText⟩ (And.intro ⟨gTn f_X6_load, 6, yX6_load, cX6_load, 2, (some .int), 6, _, rfl, by decide, yi_yX6_load, ok_X6_load l, by decide, by decide, rfl, rfl, ml_RL_61, im_yX6_load, se_yX6_load⟩ (And.intro ⟨gTn f_X7_load, 7, yX7_load, cX7_load, 3, (some .int), 5, _, rfl, by decide, yi_yX7_load, ok_X7_load l, by decide, by decide, rfl, rfl, ml_RL_64, im_yX7_load, se_yX7_load⟩ (And.intro ⟨gTn f_X6_count, 6, yX6_count, cX6_count, 2, (some .int), 4, _, rfl, by decide, yi_yX6_count, ok_X6_count l, by decide, by decide, rfl, rfl, ml_RL_65, im_yX6_count, se_yX6_count⟩ (And.intro ⟨gTn f_X7_count, 7, yX7_count, cX7_count, 2, (some .int), 5, _, rfl, by decide, yi_yX7_count, ok_X7_count l, by decide, by decide, rfl, rfl, ml_RL_68, im_yX7_count, se_yX7_count⟩ (And.intro ⟨gTn f_X6_block, 6, yX6_block, cX6_block, 4, (some .int), 3, _, rfl, by decide, yi_yX6_block, ok_X6_block l, by decide, by decide, rfl, rfl, ml_RL_69, im_yX6_block, se_yX6_block⟩ (And.intro ⟨gTn f_X7_block, 7, yX7_block, cX7_block, 3, (some .int), 4, _, rfl, by decide, yi_yX7_block, ok_X7_block l, by decide, by decide, rfl, rfl, ml_RL_72, im_yX7_block, se_yX7_block⟩ (And.intro ⟨gTn f_X6_layer, 6, yX6_layer, cX6_layer, 5, (some .int), 3, _, rfl, by decide, yi_yX6_layer, ok_X6_layer l, by decide, by decide, rfl, rfl, ml_RL_73, im_yX6_layer, se_yX6_layer⟩ (And.intro ⟨gTn f_X7_layer, 7, yX7_layer, cX7_layer, 4, (some .int), 4, _, rfl, by decide, yi_yX7_layer, ok_X7_layer l, by decide, by decide, rfl, rfl, ml_RL_77, im_yX7_layer, se_yX7_layer⟩ (And.intro ⟨gTn f_X6_account, 6, yX6_account, cX6_account, 2, (some .int), 3, _, rfl, by decide, yi_yX6_account, ok_X6_account l, by decide, by decide, rfl, rfl, ml_RL_78, im_yX6_account, se_yX6_account⟩ (And.intro ⟨gTn f_X7_account, 7, yX7_account, cX7_account, 2, (some .int), 4, _, rfl, by decide, yi_yX7_account, ok_X7_account l, by decide, by decide, rfl, rfl, ml_RL_81, im_yX7_account, se_yX7_account⟩ (And.intro ⟨gTn f_X6_density, 6, yX6_density, cX6_density, 3, (some .int), 2, _, rfl, by decide, yi_yX6_density, ok_X6_density l, by decide, by decide, rfl, rfl, ml_RL_82, im_yX6_density, se_yX6_density⟩ (And.intro ⟨gTn f_X7_density, 7, yX7_density, cX7_density, 6, (some .int), 4, _, rfl, by decide, yi_yX7_density, ok_X7_density l, by decide, by decide, rfl, rfl, ml_RL_85, im_yX7_density, se_yX7_density⟩ (And.intro ⟨gTn f_X6_pressure, 6, yX6_pressure, cX6_pressure, 3, (some .int), 3, _, rfl, by decide, yi_yX6_pressure, ok_X6_pressure l, by decide, by decide, rfl, rfl, ml_RL_86, im_yX6_pressure, se_yX6_pressure⟩ (And.intro ⟨gTn f_X7_pressure, 7, yX7_pressure, cX7_pressure, 3, (some .int), 5, _, rfl, by decide, yi_yX7_pressure, ok_X7_pressure l, by decide, by decide, rfl, rfl, ml_RL_89, im_yX7_pressure, se_yX7_pressure⟩ (And.intro ⟨gTn f_X6_why, 6, yX6_why, cX6_why, 2, (some .int), 4, _, rfl, by decide, yi_yX6_why, ok_X6_why l, by decide, by decide, rfl, rfl, ml_RL_90, im_yX6_why, se_yX6_why⟩ (And.intro ⟨gTn f_X7_why, 7, yX7_why, cX7_why, 2, (some .int), 5, _, rfl, by decide, yi_yX7_why, ok_X7_why l, by decide, by decide, rfl, rfl, ml_RL_93, im_yX7_why, se_yX7_why⟩ (And.intro ⟨gTn f_X6_valley, 6, yX6_valley, cX6_valley, 2, (some .int), 3, _, rfl, by decide, yi_yX6_valley, ok_X6_valley l, by decide, by decide, rfl, rfl, ml_RL_94, im_yX6_valley, se_yX6_valley⟩ (And.intro ⟨gTn f_X7_valley, 7, yX7_valley, cX7_valley, 2, (some .int), 4, _, rfl, by decide, yi_yX7_valley, ok_X7_valley l, by decide, by decide, rfl, rfl, ml_RL_97, im_yX7_valley, se_yX7_valley⟩ (And.intro ⟨gTn f_X6_stepsToBalance, 6, yX6_stepsToBalance, cX6_stepsToBalance, 2, (some .int), 4, _, rfl, by decide, yi_yX6_stepsToBalance, ok_X6_stepsToBalance l, by decide, by decide, rfl, rfl, ml_RL_98, im_yX6_stepsToBalance, se_yX6_stepsToBalance⟩ (And.intro ⟨gTn f_X7_stepsToBalance, 7, yX7_stepsToBalance, cX7_stepsToBalance, 4, (some .int), 5, _, rfl, by decide, yi_yX7_stepsToBalance, ok_X7_stepsToBalance l, by decide, by decide, rfl, rfl, ml_RL_101, im_yX7_stepsToBalance, se_yX7_stepsToBalance⟩ (And.intro ⟨gTn f_X6_bareTop, 6, yX6_bareTop, cX6_bareTop, 2, (some .int), 3, _, rfl, by decide, yi_yX6_bareTop, ok_X6_bareTop l, by decide, by decide, rfl, rfl, ml_RL_102, im_yX6_bareTop, se_yX6_bareTop⟩ (And.intro ⟨gTn f_X7_bareTop, 7, yX7_bareTop, cX7_bareTop, 2, (some .int), 3, _, rfl, by decide, yi_yX7_bareTop, ok_X7_bareTop l, by decide, by decide, rfl, rfl, ml_RL_105, im_yX7_bareTop, se_yX7_bareTop⟩ (And.intro ⟨gTn f_X6_topIn, 6, yX6_topIn, cX6_topIn, 4, (some .int), 6, _, rfl, by decide, yi_yX6_topIn, ok_X6_topIn l, by decide, by decide, rfl, rfl, ml_RL_106, im_yX6_topIn, se_yX6_topIn⟩ (And.intro ⟨gTn f_X7_topIn, 7, yX7_topIn, cX7_topIn, 4, (some .int), 7, _, rfl, by decide, yi_yX7_topIn, ok_X7_topIn l, by decide, by decide, rfl, rfl, ml_RL_109, im_yX7_topIn, se_yX7_topIn⟩ (And.intro ⟨gTn f_X6_uneven, 6, yX6_uneven, cX6_uneven, 8, (some .int), 3, _, rfl, by decide, yi_yX6_uneven, ok_X6_uneven l, by decide, by decide, rfl, rfl, ml_RL_110, im_yX6_uneven, se_yX6_uneven⟩ (And.intro ⟨gTn f_X7_uneven, 7, yX7_uneven, cX7_uneven, 6, (some .int), 5, _, rfl, by decide, yi_yX7_uneven, ok_X7_uneven l, by decide, by decide, rfl, rfl, ml_RL_113, im_yX7_uneven, se_yX7_uneven⟩ (trivial))))))))))))))))))))))))))))))))))))))))))))))))
def σ0 : Wd := (((fun _ => ([], 0)), (fun _ _ => ([], 0)), (fun _ => 0), (fun k => (gSl 2).getD k 0), (fun _ => 0), 0), [], (fun _ => 0), 0)
/-- what the model wants of a state, to answer as the class does -/
def lwNeed (σ : Wd) : Prop :=
  (∀ n : Int32, 1 ≤ n ∧ n ≤ 50 → mOk σ.1 n.toNatClampNeg) ∧ (∀ n : Int32, 0 ≤ n ∧ n ≤ 100 → mOk σ.1 n.toNatClampNeg) ∧
  (∀ j, j < 10 → licw (σ.1.1 j).1 = lic (σ.1.1 j).1 * 9) ∧
  (∀ j v, j < 10 → cLow σ.1.1 j = some v → ∀ x t, (σ.1.1 j).1 = x :: t → ¬ x.1 = 0 → (mTak σ.1.1 j (σ.1.2.2.2.1 3) = 0 ↔ cTk σ.1.1 j v (σ.1.2.2.2.1 3) = 0)) ∧
  (∀ j, j < 10 → ∀ d : Int32, 0 ≤ d ∧ d ≤ 99999 → mPr (σ.1.1 j) d = lpr (σ.1.1 j) d) ∧ (∀ j, j < 10 → ∀ y : Int32, mDn (σ.1.1 j) y = ldens (σ.1.1 j) y) ∧
  (∀ j, j < 10 → ∃ N, N ≤ 1000000 ∧ itF (lbal (σ.1.1 j).1) (σ.1.2.2.2.1 4) (σ.1.1 j).2 N = lbal (σ.1.1 j).1 ∧ (∀ i, i < N → ¬ itF (lbal (σ.1.1 j).1) (σ.1.2.2.2.1 4) (σ.1.1 j).2 i = lbal (σ.1.1 j).1) ∧ mItF (lbal (σ.1.1 j).1) (σ.1.2.2.2.1 4) (σ.1.1 j).2 N = lbal (σ.1.1 j).1 ∧ (∀ i, i < N → ¬ mItF (lbal (σ.1.1 j).1) (σ.1.2.2.2.1 4) (σ.1.1 j).2 i = lbal (σ.1.1 j).1))
/-- an invariant that the calls keep -/
def lwInv (I : Wd → Nat → Prop) : Prop := I σ0 0 ∧ ∀ σ N, I σ N → N < 512 → chOk σ.2.2.1 σ.2.2.2 → lwNeed σ ∧ I σ (N + 1) ∧ (∀ b l k d t, I (oAdd σ b l k d t).2 (N + 1)) ∧ (∀ b l, I (oRem σ b l).2 (N + 1)) ∧ (∀ k, I (oStrip σ k).2 (N + 1)) ∧ I (oSettle σ).2 (N + 1) ∧ (∀ k v, I (oSet σ k v).2 (N + 1)) ∧ (∀ n, I (oRun σ n).2 (N + 1)) ∧ (∀ n, I (oTake σ n).2 (N + 1)) ∧ (∀ n, I (oRest σ n).2 (N + 1)) ∧ I (oUndo σ).2 (N + 1) ∧ (∀ c, I (oApp σ c).2 (N + 1)) ∧ I (oClr σ).2 (N + 1) ∧ I (oLoad σ).2 (N + 1)
theorem moR.kept {M M' : gM} {σ : Wd} (h : moR M σ) (hf : ∀ r, 926 ≤ r → M' r = M r) : moR M' σ := by
  obtain ⟨h1, ⟨a1, a2, a3⟩, b1, b2, b3⟩ := h
  refine ⟨by rw [hf 927 (by decide)]; exact h1, ⟨a1, by rw [hf 926 (by decide)]; exact a2, fun i S hi => by rw [hf 929 (by decide)]; exact a3 i S hi⟩, b1, by rw [hf 926 (by decide)]; exact b2, fun k hk => by rw [hf 930 (by decide)]; exact b3 k hk⟩
theorem moR.fn {M M' : gM} {σ : Wd} (h : moR M σ) (hf : gFn M M' 0 926) : moR M' σ := h.kept fun r hr => hf r (Or.inr (by omega))
theorem clR.fm {M M' : gM} {σ : Wd} (h : clR M σ) (hf : gFm M M') : clR M' σ := h.kept (fun r _ b => hf r (by omega)) (fun r _ b => hf r (by omega))
abbrev gB1 : gB := (934, gRT, 934, 12405)
set_option maxRecDepth 100000 in
theorem law_body (I : Wd → Nat → Prop) (hI : lwInv I) (SL : Nat) (SX : Nat → Int32) (K : Nat → gLs → List gV → gM → gB → Prop) (hL : SL ≤ 3072)
    (run : ∀ (cuts : List Nat) (f pc : Nat) (ls : gLs) (st : List gV) (M : gM) (i : gI) (t : List gI), gFind pc pL_law = i :: t → gx pL_law cuts lwCs SL SX K (fun v _ _ => v = 1) (fun _ _ => False) f (i :: t) ls st M gB1 → K pc ls st M gB1) :
    ∀ f i, SL ≤ 6 * i + f → ∀ M σ, 6 * i ≤ SL + 5 → I σ i → clR M σ → moR M σ → K 18 [some (.inr (.inl (55, 0))), some (.inr (.inl (6, 0))), some (.inr (.inl (7, 926))), some (.inl (nI (6 * i)))] [] M gB1 := by
  have tsub : (nI SL - 6).toInt = (SL : Int) - 6 := by
    have e := nI_toInt (n := SL) (by omega)
    have t6 : (6 : Int32).toInt = 6 := rfl
    rw [ti_sub (by rw [e, t6]; omega) (by rw [e, t6]; omega), e, t6]
  intro f
  induction f with
  | zero =>
    intro i hf M σ hi hN hcl hmo
    refine run [18] 1000 _ _ _ _ _ _ rfl ?_
    conv => whnf
    refine ⟨fun h1 => ?_, fun h1 => ?_⟩
    · conv => whnf
    · exfalso
      have := Int32.le_iff_toInt_le.mp (Int32.not_lt.mp h1)
      rw [tsub, nI_toInt (by omega)] at this
      omega
  | succ f ih =>
    intro i hf M σ hi hN hcl hmo
    refine run [18, 786] 1000 _ _ _ _ _ _ rfl ?_
    conv => whnf
    refine ⟨fun h1 => ?_, fun h1 => ?_⟩
    · conv => whnf
    · have hle := Int32.le_iff_toInt_le.mp (Int32.not_lt.mp h1)
      rw [tsub, nI_toInt (by omega)] at hle
      have h6 : 6 * i + 6 ≤ SL := by omega
      have hv0 : vp_in (nI (6 * i)) SL := vp_in_nI (by omega) (by omega)
      have hv : ∀ J, J < 6 → vp_in (nI (6 * i) + nI J) SL := fun J hJ => by
        rw [nI_add]
        exact vp_in_nI (by omega) (by omega)
      obtain ⟨⟨n1, n2, n3, n4, n5, n6, n7⟩, iS, iAdd, iRem, iStrip, iSettle, iSet, iRun, iTake, iRest, iUndo, iApp, iClr, iLoad⟩ := hI.2 σ i hN (by omega) hcl.2.2.2
      have next : ∀ M2 σ2, I σ2 (i + 1) → clR M2 σ2 → moR M2 σ2 → K 786 [some (.inr (.inl (55, 0))), some (.inr (.inl (6, 0))), some (.inr (.inl (7, 926))), some (.inl (nI (6 * i)))] [] M2 gB1 := by
        intro M2 σ2 q1 q2 q3
        refine run [18] 1000 _ _ _ _ _ _ rfl ?_
        conv => whnf
        rw [show nI (6 * i) + 6 = nI (6 * (i + 1)) from nI_add _ 6]
        exact ih (i + 1) (by omega) M2 σ2 (by omega) q1 q2 q3
      clear ih
      conv => whnf
      refine ⟨hv0, ?_⟩
      conv => whnf
      refine ⟨⟨fun _ => ?_, fun _ => ?_, fun _ => ?_, fun _ => ?_, fun _ => ?_, fun _ => ?_, fun _ => ?_, fun _ => ?_, fun _ => ?_, fun _ => ?_, fun _ => ?_, fun _ => ?_, fun _ => ?_, fun _ => ?_, fun _ => ?_, fun _ => ?_, fun _ => ?_, fun _ => ?_, fun _ => ?_, fun _ => ?_, fun _ => ?_, fun _ => ?_, fun _ => ?_, fun _ => ?_, trivial⟩, fun _ => ?_⟩
      · conv => whnf
        refine ⟨hv 1 (by decide), ?_⟩
        conv => whnf
        refine ⟨hv 2 (by decide), ?_⟩
        conv => whnf
        refine ⟨hv 3 (by decide), ?_⟩
        conv => whnf
        refine ⟨hv 4 (by decide), ?_⟩
        conv => whnf
        refine ⟨hv 5 (by decide), ?_⟩
        conv => whnf
        refine ⟨rfl, rfl, rfl, σ, hcl, fun M1 g1 g2 => ?_⟩
        conv => whnf
        refine ⟨hv 1 (by decide), ?_⟩
        conv => whnf
        refine ⟨hv 2 (by decide), ?_⟩
        conv => whnf
        refine ⟨hv 3 (by decide), ?_⟩
        conv => whnf
        refine ⟨hv 4 (by decide), ?_⟩
        conv => whnf
        refine ⟨hv 5 (by decide), ?_⟩
        conv => whnf
        refine ⟨rfl, rfl, rfl, σ, hmo.fn g2, fun M2 g3 g4 => ?_⟩
        conv => whnf
        refine ⟨fun h2 => ?_, fun h2 => ?_⟩
        · conv => whnf
          exact next M2 _ (iAdd _ _ _ _ _) (g1.fm g4) g3
        · exact absurd rfl h2
      · conv => whnf
        refine ⟨hv 1 (by decide), ?_⟩
        conv => whnf
        refine ⟨hv 2 (by decide), ?_⟩
        conv => whnf
        refine ⟨rfl, rfl, rfl, σ, hcl, fun M1 g1 g2 => ?_⟩
        conv => whnf
        refine ⟨hv 1 (by decide), ?_⟩
        conv => whnf
        refine ⟨hv 2 (by decide), ?_⟩
        conv => whnf
        refine ⟨rfl, rfl, rfl, σ, hmo.fn g2, fun M2 g3 g4 => ?_⟩
        conv => whnf
        refine ⟨fun h2 => ?_, fun h2 => ?_⟩
        · conv => whnf
          exact next M2 _ (iRem _ _) (g1.fm g4) g3
        · exact absurd rfl h2
      · conv => whnf
        refine ⟨hv 1 (by decide), ?_⟩
        conv => whnf
        refine ⟨rfl, rfl, rfl, σ, hcl, fun M1 g1 g2 => ?_⟩
        conv => whnf
        refine ⟨hv 1 (by decide), ?_⟩
        conv => whnf
        refine ⟨rfl, rfl, rfl, σ, hmo.fn g2, fun M2 g3 g4 => ?_⟩
        conv => whnf
        refine ⟨fun h2 => ?_, fun h2 => ?_⟩
        · conv => whnf
          exact next M2 _ (iStrip _) (g1.fm g4) g3
        · exact absurd rfl h2
      · conv => whnf
        refine ⟨rfl, rfl, rfl, σ, hcl, fun M1 g1 g2 => ?_⟩
        conv => whnf
        refine ⟨rfl, rfl, rfl, σ, hmo.fn g2, fun M2 g3 g4 => ?_⟩
        conv => whnf
        refine ⟨fun h2 => ?_, fun h2 => ?_⟩
        · conv => whnf
          exact next M2 _ iSettle (g1.fm g4) g3
        · exact absurd rfl h2
      · conv => whnf
        refine ⟨hv 1 (by decide), ?_⟩
        conv => whnf
        refine ⟨hv 2 (by decide), ?_⟩
        conv => whnf
        refine ⟨rfl, rfl, rfl, σ, hcl, fun M1 g1 g2 => ?_⟩
        conv => whnf
        refine ⟨hv 1 (by decide), ?_⟩
        conv => whnf
        refine ⟨hv 2 (by decide), ?_⟩
        conv => whnf
        refine ⟨rfl, rfl, rfl, σ, hmo.fn g2, fun M2 g3 g4 => ?_⟩
        conv => whnf
        refine ⟨fun h2 => ?_, fun h2 => ?_⟩
        · conv => whnf
          exact next M2 _ (iSet _ _) (g1.fm g4) g3
        · exact absurd rfl h2
      · conv => whnf
        refine ⟨hv 1 (by decide), ?_⟩
        conv => whnf
        refine ⟨rfl, rfl, rfl, σ, hcl, fun M1 g1 g2 => ?_⟩
        conv => whnf
        refine ⟨hv 1 (by decide), ?_⟩
        conv => whnf
        refine ⟨rfl, rfl, rfl, σ, hmo.fn g2, n1 _, fun M2 g3 g4 => ?_⟩
        conv => whnf
        refine ⟨fun h2 => ?_, fun h2 => ?_⟩
        · conv => whnf
          exact next M2 _ (iRun _) (g1.fm g4) g3
        · exact absurd rfl h2
      · conv => whnf
        refine ⟨hv 1 (by decide), ?_⟩
        conv => whnf
        refine ⟨rfl, rfl, rfl, σ, hcl, fun M1 g1 g2 => ?_⟩
        conv => whnf
        refine ⟨hv 1 (by decide), ?_⟩
        conv => whnf
        refine ⟨rfl, rfl, rfl, σ, hmo.fn g2, fun M2 g3 g4 => ?_⟩
        conv => whnf
        refine ⟨fun h2 => ?_, fun h2 => ?_⟩
        · conv => whnf
          exact next M2 _ (iTake _) (g1.fm g4) g3
        · exact absurd rfl h2
      · conv => whnf
        refine ⟨hv 1 (by decide), ?_⟩
        conv => whnf
        refine ⟨rfl, rfl, rfl, σ, hcl, fun M1 g1 g2 => ?_⟩
        conv => whnf
        refine ⟨hv 1 (by decide), ?_⟩
        conv => whnf
        refine ⟨rfl, rfl, rfl, σ, hmo.fn g2, fun M2 g3 g4 => ?_⟩
        conv => whnf
        refine ⟨fun h2 => ?_, fun h2 => ?_⟩
        · conv => whnf
          exact next M2 _ (iRest _) (g1.fm g4) g3
        · exact absurd rfl h2
      · conv => whnf
        refine ⟨rfl, rfl, rfl, σ, hcl, fun M1 g1 g2 => ?_⟩
        conv => whnf
        refine ⟨rfl, rfl, rfl, σ, hmo.fn g2, fun M2 g3 g4 => ?_⟩
        conv => whnf
        refine ⟨fun h2 => ?_, fun h2 => ?_⟩
        · conv => whnf
          exact next M2 _ iUndo (g1.fm g4) g3
        · exact absurd rfl h2
      · conv => whnf
        refine ⟨hv 1 (by decide), ?_⟩
        conv => whnf
        refine ⟨rfl, rfl, rfl, σ, hcl, fun M1 g1 g2 => ?_⟩
        conv => whnf
        refine ⟨hv 1 (by decide), ?_⟩
        conv => whnf
        refine ⟨rfl, rfl, rfl, σ, hmo.fn g2, fun M2 g3 g4 => ?_⟩
        conv => whnf
        refine ⟨fun h2 => ?_, fun h2 => ?_⟩
        · conv => whnf
          exact next M2 _ (iApp _) (g1.fm g4) g3
        · exact absurd rfl h2
      · conv => whnf
        refine ⟨rfl, rfl, rfl, σ, hcl, fun M1 g1 g2 => ?_⟩
        conv => whnf
        refine ⟨rfl, rfl, rfl, σ, hmo.fn g2, fun M2 g3 g4 => ?_⟩
        conv => whnf
        refine ⟨fun h2 => ?_, fun h2 => ?_⟩
        · conv => whnf
          exact next M2 _ iClr (g1.fm g4) g3
        · exact absurd rfl h2
      · conv => whnf
        refine ⟨rfl, rfl, rfl, σ, hcl, fun M1 g1 g2 => ?_⟩
        conv => whnf
        refine ⟨rfl, rfl, rfl, σ, hmo.fn g2, hcl.2.2.2, fun M2 g3 g4 => ?_⟩
        conv => whnf
        refine ⟨fun h2 => ?_, fun h2 => ?_⟩
        · conv => whnf
          exact next M2 _ iLoad (g1.fm g4) g3
        · exact absurd rfl h2
      · conv => whnf
        refine ⟨hv 1 (by decide), ?_⟩
        conv => whnf
        refine ⟨rfl, rfl, rfl, σ, hcl, ?_⟩
        conv => whnf
        refine ⟨hv 1 (by decide), ?_⟩
        conv => whnf
        refine ⟨rfl, rfl, rfl, σ, hmo, fun M2 g3 g4 => ?_⟩
        conv => whnf
        refine ⟨fun h2 => ?_, fun h2 => ?_⟩
        · conv => whnf
          exact next M2 _ iS (hcl.fm g4) g3
        · exact absurd rfl h2
      · conv => whnf
        refine ⟨hv 1 (by decide), ?_⟩
        conv => whnf
        refine ⟨hv 2 (by decide), ?_⟩
        conv => whnf
        refine ⟨rfl, rfl, rfl, σ, hcl, ?_⟩
        conv => whnf
        refine ⟨hv 1 (by decide), ?_⟩
        conv => whnf
        refine ⟨hv 2 (by decide), ?_⟩
        conv => whnf
        refine ⟨rfl, rfl, rfl, σ, hmo, n3, fun M2 g3 g4 => ?_⟩
        conv => whnf
        refine ⟨fun h2 => ?_, fun h2 => ?_⟩
        · conv => whnf
          exact next M2 _ iS (hcl.fm g4) g3
        · exact absurd rfl h2
      · conv => whnf
        refine ⟨hv 1 (by decide), ?_⟩
        conv => whnf
        refine ⟨hv 2 (by decide), ?_⟩
        conv => whnf
        refine ⟨hv 3 (by decide), ?_⟩
        conv => whnf
        refine ⟨rfl, rfl, rfl, σ, hcl, ?_⟩
        conv => whnf
        refine ⟨hv 1 (by decide), ?_⟩
        conv => whnf
        refine ⟨hv 2 (by decide), ?_⟩
        conv => whnf
        refine ⟨hv 3 (by decide), ?_⟩
        conv => whnf
        refine ⟨rfl, rfl, rfl, σ, hmo, fun M2 g3 g4 => ?_⟩
        conv => whnf
        refine ⟨fun h2 => ?_, fun h2 => ?_⟩
        · conv => whnf
          exact next M2 _ iS (hcl.fm g4) g3
        · exact absurd rfl h2
      · conv => whnf
        refine ⟨hv 1 (by decide), ?_⟩
        conv => whnf
        refine ⟨rfl, rfl, rfl, σ, hcl, ?_⟩
        conv => whnf
        refine ⟨hv 1 (by decide), ?_⟩
        conv => whnf
        refine ⟨rfl, rfl, rfl, σ, hmo, fun M2 g3 g4 => ?_⟩
        conv => whnf
        refine ⟨fun h2 => ?_, fun h2 => ?_⟩
        · conv => whnf
          exact next M2 _ iS (hcl.fm g4) g3
        · exact absurd rfl h2
      · conv => whnf
        refine ⟨hv 1 (by decide), ?_⟩
        conv => whnf
        refine ⟨hv 2 (by decide), ?_⟩
        conv => whnf
        refine ⟨rfl, rfl, rfl, σ, hcl, ?_⟩
        conv => whnf
        refine ⟨hv 1 (by decide), ?_⟩
        conv => whnf
        refine ⟨hv 2 (by decide), ?_⟩
        conv => whnf
        refine ⟨rfl, rfl, rfl, σ, hmo, (fun j hj => n6 j hj _), fun M2 g3 g4 => ?_⟩
        conv => whnf
        refine ⟨fun h2 => ?_, fun h2 => ?_⟩
        · conv => whnf
          exact next M2 _ iS (hcl.fm g4) g3
        · exact absurd rfl h2
      · conv => whnf
        refine ⟨hv 1 (by decide), ?_⟩
        conv => whnf
        refine ⟨hv 2 (by decide), ?_⟩
        conv => whnf
        refine ⟨rfl, rfl, rfl, σ, hcl, ?_⟩
        conv => whnf
        refine ⟨hv 1 (by decide), ?_⟩
        conv => whnf
        refine ⟨hv 2 (by decide), ?_⟩
        conv => whnf
        refine ⟨rfl, rfl, rfl, σ, hmo, (fun j hj q => n5 j hj _ q), fun M2 g3 g4 => ?_⟩
        conv => whnf
        refine ⟨fun h2 => ?_, fun h2 => ?_⟩
        · conv => whnf
          exact next M2 _ iS (hcl.fm g4) g3
        · exact absurd rfl h2
      · conv => whnf
        refine ⟨hv 1 (by decide), ?_⟩
        conv => whnf
        refine ⟨rfl, rfl, rfl, σ, hcl, ?_⟩
        conv => whnf
        refine ⟨hv 1 (by decide), ?_⟩
        conv => whnf
        refine ⟨rfl, rfl, rfl, σ, hmo, n4, fun M2 g3 g4 => ?_⟩
        conv => whnf
        refine ⟨fun h2 => ?_, fun h2 => ?_⟩
        · conv => whnf
          exact next M2 _ iS (hcl.fm g4) g3
        · exact absurd rfl h2
      · conv => whnf
        refine ⟨hv 1 (by decide), ?_⟩
        conv => whnf
        refine ⟨rfl, rfl, rfl, σ, hcl, ?_⟩
        conv => whnf
        refine ⟨hv 1 (by decide), ?_⟩
        conv => whnf
        refine ⟨rfl, rfl, rfl, σ, hmo, fun M2 g3 g4 => ?_⟩
        conv => whnf
        refine ⟨fun h2 => ?_, fun h2 => ?_⟩
        · conv => whnf
          exact next M2 _ iS (hcl.fm g4) g3
        · exact absurd rfl h2
      · conv => whnf
        refine ⟨hv 1 (by decide), ?_⟩
        conv => whnf
        by_cases hb : 0 ≤ SX (nI (6 * i) + 1).toNatClampNeg ∧ SX (nI (6 * i) + 1).toNatClampNeg ≤ 9
        · have hj : (SX (nI (6 * i) + 1).toNatClampNeg).toNatClampNeg < 10 := by
            obtain ⟨j, hj, e⟩ := nI_bd (n := 9) (by decide) hb.1 hb.2
            rw [e, nI_clamp (by omega)]
            omega
          obtain ⟨N, z1, z2, z3, z4, z5⟩ := n7 _ hj
          refine ⟨rfl, rfl, rfl, σ, hcl, fun q => absurd hb q, fun _ => ⟨N, z1, z2, z3, ?_⟩⟩
          conv => whnf
          refine ⟨hv 1 (by decide), ?_⟩
          conv => whnf
          refine ⟨rfl, rfl, rfl, σ, hmo, fun q => absurd hb q, fun _ => ⟨N, z1, z4, z5, fun M2 g3 g4 => ?_⟩⟩
          conv => whnf
          refine ⟨fun h2 => ?_, fun h2 => ?_⟩
          · conv => whnf
            exact next M2 _ iS (hcl.fm g4) g3
          · exact absurd rfl h2
        · refine ⟨rfl, rfl, rfl, σ, hcl, fun _ => ?_, fun q => absurd q hb⟩
          conv => whnf
          refine ⟨hv 1 (by decide), ?_⟩
          conv => whnf
          refine ⟨rfl, rfl, rfl, σ, hmo, fun _ M2 g3 g4 => ?_, fun q => absurd q hb⟩
          conv => whnf
          refine ⟨fun h2 => ?_, fun h2 => ?_⟩
          · conv => whnf
            exact next M2 _ iS (hcl.fm g4) g3
          · exact absurd rfl h2
      · conv => whnf
        refine ⟨hv 1 (by decide), ?_⟩
        conv => whnf
        refine ⟨rfl, rfl, rfl, σ, hcl, ?_⟩
        conv => whnf
        refine ⟨hv 1 (by decide), ?_⟩
        conv => whnf
        refine ⟨rfl, rfl, rfl, σ, hmo, n3, fun M2 g3 g4 => ?_⟩
        conv => whnf
        refine ⟨fun h2 => ?_, fun h2 => ?_⟩
        · conv => whnf
          exact next M2 _ iS (hcl.fm g4) g3
        · exact absurd rfl h2
      · conv => whnf
        refine ⟨hv 1 (by decide), ?_⟩
        conv => whnf
        refine ⟨hv 2 (by decide), ?_⟩
        conv => whnf
        refine ⟨rfl, rfl, rfl, σ, hcl, fun M1 g1 g2 => ?_⟩
        conv => whnf
        refine ⟨hv 1 (by decide), ?_⟩
        conv => whnf
        refine ⟨hv 2 (by decide), ?_⟩
        conv => whnf
        refine ⟨rfl, rfl, rfl, σ, hmo.fn g2, n2 _, fun M2 g3 g4 => ?_⟩
        conv => whnf
        refine ⟨fun h2 => ?_, fun h2 => ?_⟩
        · conv => whnf
          exact next M2 _ iS (g1.fm g4) g3
        · exact absurd rfl h2
      · conv => whnf
        refine ⟨hv 1 (by decide), ?_⟩
        conv => whnf
        refine ⟨hv 2 (by decide), ?_⟩
        conv => whnf
        refine ⟨rfl, rfl, rfl, σ, hcl, ?_⟩
        conv => whnf
        refine ⟨hv 1 (by decide), ?_⟩
        conv => whnf
        refine ⟨hv 2 (by decide), ?_⟩
        conv => whnf
        refine ⟨rfl, rfl, rfl, σ, hmo, (fun q j hj => n5 j hj _ q), fun M2 g3 g4 => ?_⟩
        conv => whnf
        refine ⟨fun h2 => ?_, fun h2 => ?_⟩
        · conv => whnf
          exact next M2 _ iS (hcl.fm g4) g3
        · exact absurd rfl h2
      · conv => whnf
        exact next M σ iS hcl hmo
