/-! bounds: a step, steps -/
theorem lim.down {a1 a2 n : Int} (h : lim a1 a2 (n + 1)) (hn : 0 ≤ n) : lim a1 a2 n := by
  obtain ⟨l1, l2, l3, l4, l5⟩ := h
  exact ⟨l1, l2, hn, by omega, by omega⟩
theorem step_ok {a1 a2 n : Int} {S : St} (h : gOk2 a1 a2 n S.1) (hn : 0 ≤ n) (hl : lim a1 a2 (n + 1)) (hT : sOk S.2.2.2.1) : mGood (mIceN S 10) ∧ mStep S = stAdd (sStep S) 1 ∧ gOk2 a1 a2 (n + 1) (sStep S).1 ∧ (sStep S).2.1 = S.2.1 ∧ (sStep S).2.2.2.1 = S.2.2.2.1 := by
  obtain ⟨i1, i2, i3, i4, i5, i6⟩ := iceN_ok h (hl.down hn) hT 10 (Nat.le_refl 10)
  have g1 : gOk2 a1 a2 (n + 1) (sIceN S 10).1 := ⟨i3, by rw [i5]; exact h.2⟩
  have T1 : sOk (sIceN S 10).2.2.2.1 := by rw [i2]; exact hT
  obtain ⟨-, -, -, -, e1, e2, -⟩ := id T1
  have ek := fun k hk => (erN_ok g1 hl T1 k hk)
  obtain ⟨q1, q2, q3, q4⟩ := ek 10 (Nat.le_refl 10)
  have htk : ∀ b, b < 10 → mTak (sIceN S 10).1 b ((sIceN S 10).2.2.2.1 3) = eT (sIceN S 10).1 ((sIceN S 10).2.2.2.1 3) b := fun b hb => (eT_eq g1 hl hb e1 e2).1
  have hmk : ∀ k, k ≤ 10 → mErN (sIceN S 10) (fun b => mTak (sIceN S 10).1 b ((sIceN S 10).2.2.2.1 3)) (eV (sIceN S 10).1) k = mErN (sIceN S 10) (eT (sIceN S 10).1 ((sIceN S 10).2.2.2.1 3)) (eV (sIceN S 10).1) k := by
    intro k
    induction k with
    | zero => intro _; rfl
    | succ k ih =>
      intro hk
      unfold mErN
      rw [ih (by omega), htk k (by omega)]
  have g2 : gOk2 a1 a2 (n + 1) (erN (sIceN S 10) (eT (sIceN S 10).1 ((sIceN S 10).2.2.2.1 3)) (eV (sIceN S 10).1) 10).1.1 := by
    refine ⟨fun b hb => ?_, Int.le_trans q2.2.1 g1.2⟩
    obtain ⟨b1, b2, b3, b4, b5⟩ := q2.1 b hb
    obtain ⟨c1, c2, c3, c4, c5, c6⟩ := g1.1 b hb
    have qn := (g1.1 b hb).num (g1.num hl hb) hl
    have eg := qn.2.2.2.1
    have hle := gTw_le (G := fun b => 4000 * (a1 + a2) + 500 * (n + 1) + 1 - (ltop ((sIceN S 10).1 b)).toInt) (b := b) (by show 0 ≤ 4000 * (a1 + a2) + 500 * (n + 1) + 1 - (ltop ((sIceN S 10).1 b)).toInt; rw [eg]; omega) 10
    rw [eg] at hle
    exact ⟨b1, b2, by rw [b3]; exact c3, by rw [b3]; exact c4, by rw [b4]; exact c5, by rw [b3]; omega⟩
  have T2 : sOk (erN (sIceN S 10) (eT (sIceN S 10).1 ((sIceN S 10).2.2.2.1 3)) (eV (sIceN S 10).1) 10).1.2.2.2.1 := by rw [q4]; exact T1
  obtain ⟨f1, f2, f3, f4, f5, f6⟩ := flN_ok g2 hl T2 10 (Nat.le_refl 10)
  have eS : sStep S = sFlN (erN (sIceN S 10) (eT (sIceN S 10).1 ((sIceN S 10).2.2.2.1 3)) (eV (sIceN S 10).1) 10).1 10 := rfl
  refine ⟨?_, ?_, ?_, ?_, ?_⟩
  · rw [i1]
    intro k hk hp
    rw [htk k hk] at hp
    rw [hmk k (by omega), (ek k (by omega)).1]
    obtain ⟨p1, -⟩ := (ek k (by omega)).2.1.2.2 k (Nat.le_refl k) hk hp
    obtain ⟨y, y1, -⟩ := p1 _ (Nat.le_refl _)
    exact (List.getElem?_eq_some_iff.mp y1).1
  · show stAdd (mFlN (mErN (mIceN S 10) (fun b => mTak (mIceN S 10).1 b ((mIceN S 10).2.2.2.1 3)) (eV (mIceN S 10).1) 10).1 10) 1 = _
    rw [i1, hmk 10 (Nat.le_refl 10), q1, f1, eS]
  · rw [eS]
    exact ⟨f3, by rw [f5]; exact g2.2⟩
  · rw [eS]
    exact f6.trans (q3.trans i6)
  · rw [eS]
    exact f2.trans (q4.trans i2)
theorem sIceN_add (S : St) (x : Int32) : ∀ k, sIceN (stAdd S x) k = stAdd (sIceN S k) x
  | 0 => rfl
  | k + 1 => by
    show sIce (sIceN (stAdd S x) k) k = stAdd (sIce (sIceN S k) k) x
    rw [sIceN_add S x k]
    rfl
theorem sEr_add (S : St) (x : Int32) (pl : Nat → Nat) (b : Nat) (tk : Int32) (v : Nat) : sEr (stAdd S x) pl b tk v = (stAdd (sEr S pl b tk v).1 x, (sEr S pl b tk v).2) := by
  unfold sEr
  rw [show (stAdd S x).1 = S.1 from rfl]
  cases (S.1 b).1[pl b]? with
  | none => rfl
  | some y => rfl
theorem erN_add (S : St) (x : Int32) (tk : Nat → Int32) (v : Nat → Nat) : ∀ k, erN (stAdd S x) tk v k = (stAdd (erN S tk v k).1 x, (erN S tk v k).2)
  | 0 => rfl
  | k + 1 => by
    show (if 0 < tk k then sEr (erN (stAdd S x) tk v k).1 (erN (stAdd S x) tk v k).2 k (tk k) (v k) else erN (stAdd S x) tk v k) = (stAdd (if 0 < tk k then sEr (erN S tk v k).1 (erN S tk v k).2 k (tk k) (v k) else erN S tk v k).1 x, (if 0 < tk k then sEr (erN S tk v k).1 (erN S tk v k).2 k (tk k) (v k) else erN S tk v k).2)
    rw [erN_add S x tk v k]
    by_cases h : 0 < tk k
    · rw [if_pos h, if_pos h]
      exact sEr_add _ _ _ _ _ _
    · rw [if_neg h, if_neg h]
theorem sFlN_add (S : St) (x : Int32) : ∀ k, sFlN (stAdd S x) k = stAdd (sFlN S k) x
  | 0 => rfl
  | k + 1 => by
    show sFl (sFlN (stAdd S x) k) k = stAdd (sFl (sFlN S k) k) x
    rw [sFlN_add S x k]
    rfl
theorem sStep_add (S : St) (x : Int32) : sStep (stAdd S x) = stAdd (sStep S) x := by
  unfold sStep
  rw [sIceN_add]
  show sFlN (erN (stAdd (sIceN S 10) x) (eT (sIceN S 10).1 ((sIceN S 10).2.2.2.1 3)) (eV (sIceN S 10).1) 10).1 10 = _
  rw [erN_add, sFlN_add]
theorem stAdd_add (S : St) (x y : Int32) : stAdd (stAdd S x) y = stAdd S (x + y) := by
  unfold stAdd
  dsimp only
  rw [Int32.add_assoc]
theorem stepN_ok {a1 a2 n : Int} {S : St} (h : gOk2 a1 a2 n S.1) (hn : 0 ≤ n) (hT : sOk S.2.2.2.1) : ∀ k : Nat, lim a1 a2 (n + k) → (∀ i, i < k → mGood (mIceN (mStepN S i) 10)) ∧ mStepN S k = stAdd (sStepN S k) (nI k) ∧ gOk2 a1 a2 (n + k) (sStepN S k).1 ∧ (sStepN S k).2.1 = S.2.1 ∧ (sStepN S k).2.2.2.1 = S.2.2.2.1 := by
  intro k
  induction k with
  | zero =>
    intro hl
    refine ⟨fun i hi => absurd hi (Nat.not_lt_zero i), ?_, by rw [show n + ((0 : Nat) : Int) = n by omega]; exact h, rfl, rfl⟩
    show S = stAdd S (nI 0)
    unfold stAdd
    rw [show nI 0 = (0 : Int32) from rfl, Int32.add_zero]
  | succ k ih =>
    intro hl
    have e : n + ((k + 1 : Nat) : Int) = n + (k : Int) + 1 := by omega
    rw [e] at hl ⊢
    obtain ⟨i1, i2, i3, i4, i5⟩ := ih (hl.down (by omega))
    have sk := step_ok (S := stAdd (sStepN S k) (nI k)) i3 (by omega) hl (by show sOk (sStepN S k).2.2.2.1; rw [i5]; exact hT)
    rw [sStep_add] at sk
    obtain ⟨s1, s2, s3, s4, s5⟩ := sk
    have e2 : sStepN S (k + 1) = sStep (sStepN S k) := by rw [sStepN]
    have e3 : mStepN S (k + 1) = mStep (mStepN S k) := by rw [mStepN]
    rw [e2, e3, i2, s2, stAdd_add, nI_1]
    have s3 : gOk2 a1 a2 (n + (k : Int) + 1) (sStep (sStepN S k)).1 := by
      generalize sStep (sStepN S k) = Z at s3
      exact s3
    have s4 : (sStep (sStepN S k)).2.1 = (sStepN S k).2.1 := by
      generalize sStep (sStepN S k) = Z at s4
      exact s4
    have s5 : (sStep (sStepN S k)).2.2.2.1 = (sStepN S k).2.2.2.1 := by
      generalize sStep (sStepN S k) = Z at s5
      exact s5
    refine ⟨fun i hi => ?_, rfl, s3, s4.trans i4, s5.trans i5⟩
    by_cases a : i < k
    · exact i1 i a
    · obtain rfl : i = k := by omega
      rw [i2]
      exact s1
