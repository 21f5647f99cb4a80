/-! the model: strip -/
theorem foldl_plus {α : Type} (g : α → Int32) (l : List α) (z : Int32) : l.foldl (fun a x => a + g x) z = z + l.foldl (fun a x => a + g x) 0 := by
  induction l generalizing z with
  | nil => exact (Int32.add_zero z).symm
  | cons x t ih =>
    rw [List.foldl_cons, List.foldl_cons, ih, ih (0 + g x)]
    rw [Int32.zero_add, Int32.add_assoc]
theorem lwt_cons (x : Lay) (t : List Lay) : lwt (x :: t) = x.2.1 * x.2.2 + lwt t := by
  unfold lwt
  rw [List.foldl_cons, foldl_plus (fun x : Lay => x.2.1 * x.2.2) t, Int32.zero_add]
theorem lth_cons (x : Lay) (t : List Lay) : lth (x :: t) = x.2.2 + lth t := by
  unfold lth
  rw [List.foldl_cons, foldl_plus (fun x : Lay => x.2.2) t, Int32.zero_add]
def dW (k : Int32) (l : List Lay) : Int32 := lwt l - lwt (lDk k l)
def dN (k : Int32) (l : List Lay) : Int32 := nI l.length - nI (lDk k l).length
theorem i32_a1 (x a b : Int32) : (x + a) - b = (a - b) + x := by
  rw [Int32.sub_eq_add_neg, Int32.sub_eq_add_neg]
  ac_rfl
theorem i32_a2 (x a b : Int32) : (x + a) - (x + b) = a - b := by
  rw [Int32.sub_eq_add_neg, Int32.neg_add, Int32.sub_eq_add_neg, Int32.sub_eq_add_neg]
  have : x + a + (-x + -b) = (x + -x) + (a + -b) := by ac_rfl
  rw [this, Int32.add_right_neg, Int32.zero_add]
theorem dW_yes {k : Int32} {x : Lay} (t : List Lay) (h : x.1 = k) : dW k (x :: t) = dW k t + x.2.1 * x.2.2 := by
  unfold dW
  rw [lDk_c1 _ h, lwt_cons, i32_a1]
theorem dW_no {k : Int32} {x : Lay} (t : List Lay) (h : ¬ x.1 = k) : dW k (x :: t) = dW k t := by
  unfold dW
  rw [lDk_c2 _ h, lwt_cons, lwt_cons, i32_a2]
theorem dN_yes {k : Int32} {x : Lay} (t : List Lay) (h : x.1 = k) : dN k (x :: t) = dN k t + 1 := by
  unfold dN
  rw [lDk_c1 _ h, List.length_cons, ← nI_1, Int32.add_comm, i32_a1]
theorem dN_no {k : Int32} {x : Lay} (t : List Lay) (h : ¬ x.1 = k) : dN k (x :: t) = dN k t := by
  unfold dN
  rw [lDk_c2 _ h, List.length_cons, List.length_cons, ← nI_1, ← nI_1, Int32.add_comm _ 1, Int32.add_comm _ 1, i32_a2]
theorem cSum_sub (f g : Col → Int32) (C : Cru) : ∀ n, cSum f C n - cSum g C n = cSum (fun c => f c - g c) C n
  | 0 => by
    show (0 : Int32) - 0 = 0
    decide
  | n + 1 => by
    show cSum f C n + f (C n) - (cSum g C n + g (C n)) = cSum (fun c => f c - g c) C n + (f (C n) - g (C n))
    rw [← cSum_sub f g C n, i32_ac]
theorem cSum_map (f : Col → Int32) (g : Col → Col) (C : Cru) : ∀ n, cSum f (fun b => g (C b)) n = cSum (fun c => f (g c)) C n
  | 0 => rfl
  | n + 1 => by
    show cSum f (fun b => g (C b)) n + f (g (C n)) = cSum (fun c => f (g c)) C n + f (g (C n))
    rw [cSum_map f g C n]
theorem stAcc_acc (S : St) (k : Nat) (x y : Int32) : stAcc (stAcc S k x) k y = stAcc S k (x + y) := by
  unfold stAcc
  dsimp only
  congr 5
  funext i
  split
  · rw [Int32.add_assoc]
  · rfl
theorem cSet_set (C : Cru) (b : Nat) (c d : Col) : cSet (cSet C b c) b d = cSet C b d := by
  funext i
  unfold cSet
  split <;> rfl
theorem nI_m1s (m : Nat) : nI m + (-1) = nI m - 1 := m1_sub m
def f_X7_strip : gF := fun av M post => match av with
  | [.inr (.inl (7, p)), .inl k] => p = 926 ∧ ∃ σ, moR M σ ∧ mQ M (oStrip σ k) post
  | _ => False
theorem lk_X7_strip (l : Launch) : gLinks l RX7 2 [(gTn f_X7_in, 0, 0, 99), (gTn f_X7_act, 0, 0, 7), (gTn f_X7_of, 0, 0, 7), (gTn f_X7_kindOf, 0, 0, 7), (gTn f_X7_weightOf, 0, 0, 7), (gTn f_X7_takeOut, 0, 0, 7)] pX7_strip := And.intro gf_RX7_31 (And.intro ⟨gTn f_X7_in, 99, yX7_in, cX7_in, 3, (some .boolean), 0, rfl, yi_yX7_in, ok_X7_in l, by decide, Or.inl ml_RX7_38, sm_yX7_in⟩ (And.intro kc_RX7_71 (And.intro ⟨gTn f_X7_act, 7, yX7_act, cX7_act, 2, none, 0, _, rfl, by decide, yi_yX7_act, ok_X7_act l, by decide, by decide, rfl, rfl, ml_RX7_73, im_yX7_act, se_yX7_act⟩ (And.intro ⟨gTn f_X7_of, 7, yX7_of, cX7_of, 3, (some .int), 0, _, rfl, by decide, yi_yX7_of, ok_X7_of l, by decide, by decide, rfl, rfl, ml_RX7_50, im_yX7_of, se_yX7_of⟩ (And.intro ⟨gTn f_X7_kindOf, 7, yX7_kindOf, cX7_kindOf, 3, (some .int), 1, _, rfl, by decide, yi_yX7_kindOf, ok_X7_kindOf l, by decide, by decide, rfl, rfl, ml_RX7_83, im_yX7_kindOf, se_yX7_kindOf⟩ (And.intro gf_RX7_7 (And.intro ⟨gTn f_X7_weightOf, 7, yX7_weightOf, cX7_weightOf, 3, (some .int), 1, _, rfl, by decide, yi_yX7_weightOf, ok_X7_weightOf l, by decide, by decide, rfl, rfl, ml_RX7_53, im_yX7_weightOf, se_yX7_weightOf⟩ (And.intro ⟨gTn f_X7_takeOut, 7, yX7_takeOut, cX7_takeOut, 4, none, 1, _, rfl, by decide, yi_yX7_takeOut, ok_X7_takeOut l, by decide, by decide, rfl, rfl, ml_RX7_63, im_yX7_takeOut, se_yX7_takeOut⟩ (trivial)))))))))
theorem ok_X7_strip (l : Launch) : gOK l yX7_strip cX7_strip 5 (some .int) 2 0 0 (gTn f_X7_strip) := by
  refine gM_of (by decide +kernel) pX7_strip_ok (lk_X7_strip l) ?_
  intro SL SX K P av M run h
  unfold f_X7_strip at h
  split at h
  · rename_i p k
    obtain ⟨rfl, σ, hσ0, h⟩ := h
    refine ⟨⟨by simp [gC1], Nat.le_of_ble_eq_true rfl⟩, ?_⟩
    have hσ := hσ0.th
    have f0 := gFm.up M (q := 926) 0 0 (Nat.le_refl _)
    unfold oStrip at h
    refine run [25] 1000 _ _ _ _ _ _ rfl ?_
    conv => whnf
    refine ⟨rfl, rfl, ?_⟩
    conv => whnf
    by_cases hk : 0 ≤ k ∧ k ≤ 2
    · rw [if_pos hk]
      rw [if_pos hk] at h
      have e1 : aLay σ.1.1 - aLay (sStrip σ.1 k).1 = cSum (fun c => dN k c.1) σ.1.1 10 := by
        exact (congrArg (fun z => cSum (fun c => nI c.1.length) σ.1.1 10 - z) (cSum_map (fun c => nI c.1.length) (fun c : Col => (lDk k c.1, c.2)) σ.1.1 10)).trans (cSum_sub _ _ _ _)
      have e2 : aWt σ.1.1 - aWt (sStrip σ.1 k).1 = cSum (fun c => dW k c.1) σ.1.1 10 := by
        exact (congrArg (fun z => cSum (fun c => lwt c.1) σ.1.1 10 - z) (cSum_map (fun c => lwt c.1) (fun c : Col => (lDk k c.1, c.2)) σ.1.1 10)).trans (cSum_sub _ _ _ _)
      rw [e1, e2] at h
      refine ⟨fun h1 => ?_, fun h1 => ?_⟩
      · conv => whnf
        refine ⟨rfl, rfl, rfl, _, _, hσ.2.1, hσ.1, fun M1 g1 g2 => ?_⟩
        have k1 := hσ.act g1 g2
        conv => whnf
        refine upto (n := 10) (A := fun i => ∀ M' u, msR (M' 927) (stAcc (cUp σ.1.1 (fun c => (lDk k c.1, c.2)) i, σ.1.2) 1 (cSum (fun c => dW k c.1) σ.1.1 i)) → (∀ r, r ≠ 927 → M' r = M1 r) → K 25 [some (.inr (.inl (7, 926))), some (.inl k), some (.inl (cSum (fun c => dN k c.1) σ.1.1 i)), some (.inl (nI i)), u] [] M' gB0) ?_ (fun i hi ih => ?_) 0 (Nat.zero_le _) M1 none (by rw [cUp_0, show cSum (fun c => dW k c.1) σ.1.1 0 = 0 from rfl, stAcc_0]; exact k1.1) (fun _ _ => rfl)
        · intro M' u h2 h3
          refine run [25] 1000 _ _ _ _ _ _ rfl ?_
          conv => whnf
          refine ⟨fun h4 => ?_, fun h4 => ?_⟩
          · conv => whnf
            refine ⟨rfl, h M' (k1.st ?_ h3) ((f0.tr g2.fm).tr (fun r a => h3 r (by omega)))⟩
            exact msR.up (S := (stAcc σ.1 1 (cSum (fun c => dW k c.1) σ.1.1 10))) h2
          · exact absurd (nI_le (Nat.le_refl 10) (by decide)) h4
        · intro M' u h2 h3
          have c2 : mcR (M' 927) (26 * i) (σ.1.1 i) := by
            have := h2.1 i hi
            rw [show (stAcc (cUp σ.1.1 (fun c => (lDk k c.1, c.2)) i, σ.1.2) 1 (cSum (fun c => dW k c.1) σ.1.1 i)).1 i = σ.1.1 i from cUp_at σ.1.1 (fun c => (lDk k c.1, c.2)) i] at this
            exact this
          have h8 := c2.1
          have down : ∀ m, m ≤ (σ.1.1 i).1.length → ∀ M', msR (M' 927) (stAcc (cSet (cUp σ.1.1 (fun c => (lDk k c.1, c.2)) i) i ((σ.1.1 i).1.take m ++ lDk k ((σ.1.1 i).1.drop m), (σ.1.1 i).2), σ.1.2) 1 (cSum (fun c => dW k c.1) σ.1.1 i + dW k ((σ.1.1 i).1.drop m))) → (∀ r, r ≠ 927 → M' r = M1 r) → K 41 [some (.inr (.inl (7, 926))), some (.inl k), some (.inl (cSum (fun c => dN k c.1) σ.1.1 i + dN k ((σ.1.1 i).1.drop m))), some (.inl (nI i)), some (.inl (nI m - 1))] [] M' gB0 := by
            intro m
            induction m with
            | zero =>
              intro hm M' q1 q2
              refine run [25] 1000 _ _ _ _ _ _ rfl ?_
              conv => whnf
              refine ⟨fun h3 => ?_, fun h3 => ?_⟩
              · conv => whnf
                rw [nI_1]
                refine ih M' _ ?_ q2
                rw [← cUp_step]
                exact q1
              · exact absurd nI_sub_neg h3
            | succ m ihm =>
              intro hm M' q1 q2
              have hdrop : (σ.1.1 i).1.drop m = (σ.1.1 i).1[m] :: (σ.1.1 i).1.drop (m + 1) := List.drop_eq_getElem_cons (by omega)
              have hat := lDk_at (k := k) (l := (σ.1.1 i).1) (m := m) (by omega)
              have cc : mcR (M' 927) (26 * i) ((σ.1.1 i).1.take (m + 1) ++ lDk k ((σ.1.1 i).1.drop (m + 1)), (σ.1.1 i).2) := by
                have := q1.1 i hi
                rw [show (stAcc (cSet (cUp σ.1.1 (fun c => (lDk k c.1, c.2)) i) i ((σ.1.1 i).1.take (m + 1) ++ lDk k ((σ.1.1 i).1.drop (m + 1)), (σ.1.1 i).2), σ.1.2) 1 (cSum (fun c => dW k c.1) σ.1.1 i + dW k ((σ.1.1 i).1.drop (m + 1)))).1 i = ((σ.1.1 i).1.take (m + 1) ++ lDk k ((σ.1.1 i).1.drop (m + 1)), (σ.1.1 i).2) from if_pos rfl] at this
                exact this
              have hl := cc.2.2.2 m _ hat
              rw [nI_pred]
              refine run [25, 41] 1000 _ _ _ _ _ _ rfl ?_
              conv => whnf
              refine ⟨fun h3 => ?_, fun h3 => ?_⟩
              · exact absurd h3 (nI_pos (nI_lt8 (by omega)))
              · conv => whnf
                refine ⟨rfl, rfl, rfl, i, m, hi, by omega, rfl, rfl, ?_⟩
                rw [hl.1]
                conv => whnf
                refine ⟨fun h4 => ?_, fun h4 => ?_⟩
                · conv => whnf
                  rw [m1_sub]
                  have := ihm (by omega) M' (by rw [← lDk_no (by omega) h4, hdrop, dW_no _ h4]; exact q1) q2
                  rw [hdrop, dN_no _ h4] at this
                  exact this
                · conv => whnf
                  refine ⟨vp_in_nI (n := 267) (by decide) (by decide), ?_⟩
                  conv => whnf
                  refine ⟨rfl, rfl, rfl, i, m, hi, by omega, rfl, rfl, ?_⟩
                  rw [hl.2.1, hl.2.2]
                  conv => whnf
                  refine ⟨vp_in_nI (n := 267) (by decide) (by decide), ?_⟩
                  conv => whnf
                  have s2 := q1.accM (k := 1) (by decide) ((σ.1.1 i).1[m].2.1 * (σ.1.1 i).1[m].2.2)
                  rw [stAcc_acc] at s2
                  have c3 := s2.1 i hi
                  rw [show (stAcc (cSet (cUp σ.1.1 (fun c => (lDk k c.1, c.2)) i) i ((σ.1.1 i).1.take (m + 1) ++ lDk k ((σ.1.1 i).1.drop (m + 1)), (σ.1.1 i).2), σ.1.2) 1 (cSum (fun c => dW k c.1) σ.1.1 i + dW k ((σ.1.1 i).1.drop (m + 1)) + (σ.1.1 i).1[m].2.1 * (σ.1.1 i).1[m].2.2)).1 i = ((σ.1.1 i).1.take (m + 1) ++ lDk k ((σ.1.1 i).1.drop (m + 1)), (σ.1.1 i).2) from if_pos rfl] at c3
                  refine ⟨rfl, rfl, rfl, i, m, _, hi, rfl, rfl, c3, (List.getElem?_eq_some_iff.mp hat).1, fun M3 g3 g4 => ?_⟩
                  have s3 := s2.colM (b := i) hi g3 g4
                  conv => whnf
                  rw [m1_sub]
                  have := ihm (by omega) M3 ?_ (fun r a => (g4.1 r a).trans ((gUp_row a).trans (q2 r a)))
                  · rw [hdrop, dN_yes _ h4, ← Int32.add_assoc] at this
                    exact this
                  · rw [hdrop, dW_yes _ h4, ← Int32.add_assoc, ← hdrop, ← lDk_yes (by omega) h4]
                    unfold stCol at s3
                    rw [show (cSet (stAcc (cSet (cUp σ.1.1 (fun c => (lDk k c.1, c.2)) i) i ((σ.1.1 i).1.take (m + 1) ++ lDk k ((σ.1.1 i).1.drop (m + 1)), (σ.1.1 i).2), σ.1.2) 1 (cSum (fun c => dW k c.1) σ.1.1 i + dW k ((σ.1.1 i).1.drop (m + 1)) + (σ.1.1 i).1[m].2.1 * (σ.1.1 i).1[m].2.2)).1 i) = cSet (cSet (cUp σ.1.1 (fun c => (lDk k c.1, c.2)) i) i ((σ.1.1 i).1.take (m + 1) ++ lDk k ((σ.1.1 i).1.drop (m + 1)), (σ.1.1 i).2)) i from rfl, cSet_set] at s3
                    exact s3
          refine run [25, 41] 1000 _ _ _ _ _ _ rfl ?_
          conv => whnf
          refine ⟨fun h4 => ?_, fun h4 => ?_⟩
          · exact absurd h4 (nI_ge hi (by decide))
          · conv => whnf
            refine ⟨rfl, rfl, rfl, i, 0, hi, by decide, rfl, rfl, ?_⟩
            rw [show M' 927 (26 * i + 0) = nI (σ.1.1 i).1.length from c2.2.1]
            conv => whnf
            have d0 : dW k [] = 0 := by
              show (0 : Int32) - 0 = 0
              decide
            have d1 : dN k [] = 0 := by
              show nI 0 - nI 0 = 0
              decide
            have := down (σ.1.1 i).1.length (Nat.le_refl _) M' (by
              rw [List.drop_length, List.take_length, d0, Int32.add_zero, show lDk k [] = [] from rfl, List.append_nil, show (((σ.1.1 i).1, (σ.1.1 i).2) : Col) = cUp σ.1.1 (fun c => (lDk k c.1, c.2)) i i from (cUp_at σ.1.1 (fun c => (lDk k c.1, c.2)) i).symm, cSet_same]
              exact h2) h3
            rw [List.drop_length, d1, Int32.add_zero] at this
            exact this
      · exact absurd h1 (by decide)
    · rw [if_neg hk]
      rw [if_neg hk] at h
      refine ⟨fun h1 => ?_, fun h1 => ?_⟩
      · exact absurd rfl h1
      · conv => whnf
        exact ⟨rfl, h.no hσ f0 rfl⟩
  · exact h.elim
