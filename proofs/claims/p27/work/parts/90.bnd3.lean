/-! bounds: the stages of ice and floating over all blocks -/
theorem col_eta (S : St) (b : Nat) : stCol S b (S.1 b) = S := stCol_same S b
theorem mIce_eq {a1 a2 n : Int} {S : St} {b : Nat} (h : cOk a1 a2 n (S.1 b)) (hN : sI xN (S.1 b).1 ≤ 128000 * a1) (hl : lim a1 a2 n) (hT : sOk S.2.2.2.1) : mIce S b = sIce S b := by
  have hn := h.num hN hl
  obtain ⟨q1, q2, -⟩ := h
  obtain ⟨-, -, -, -, -, -, hT0, hT15, -⟩ := hn
  obtain ⟨T1, T1', T2, T2', -⟩ := hT
  cases hc : S.1 b with
  | mk l base =>
    rw [hc] at q1 q2 hT0 hT15
    have q1 : lOk l := q1
    have q2 : l.length ≤ 8 := q2
    have hT15 : sI xT l ≤ 15000000 := hT15
    have same : stAcc (stAcc (stCol S b (l, base)) 2 ((0 : Int32) * 9)) 3 ((0 : Int32) * 9) = S := by
      rw [z9, stAcc_0, stAcc_0, ← hc]
      exact col_eta S b
    cases l with
    | nil =>
      have e1 : sIce S b = S := by
        unfold sIce
        rw [hc]
        exact same
      have e2 : mIce S b = S := by
        unfold mIce
        rw [if_neg (fun q => q.1 (by rw [hc]))]
        unfold mMlt
        rw [hc]
      rw [e1, e2]
    | cons x t =>
      have vx := q1 x List.mem_cons_self
      have nx := vOk_num vx
      have nt := lOk_num q1.tail
      have eT : sI xT (x :: t) = xT x + sI xT t := rfl
      have ex : xT x = x.2.2.toInt := rfl
      have q2 : t.length + 1 ≤ 8 := q2
      have pI : pIce (x :: t, base) S.2.2.2.1 = if S.2.2.2.1 0 < ltop (x :: t, base) then (((pGrow (x :: t) (S.2.2.2.1 1)).1, base), (pGrow (x :: t) (S.2.2.2.1 1)).2, 0) else if x.1 = 0 then ((lThin (x :: t) 0 (if x.2.2 < S.2.2.2.1 2 then x.2.2 else S.2.2.2.1 2), base), 0, (if x.2.2 < S.2.2.2.1 2 then x.2.2 else S.2.2.2.1 2)) else ((x :: t, base), 0, 0) := rfl
      have pG : pGrow (x :: t) (S.2.2.2.1 1) = if x.1 = 0 then ((x.1, x.2.1, x.2.2 + S.2.2.2.1 1) :: t, S.2.2.2.1 1) else if t.length < 7 ∧ 0 < S.2.2.2.1 1 then ((0, 9, S.2.2.2.1 1) :: x :: t, S.2.2.2.1 1) else (x :: t, 0) := rfl
      have ic : icy (x :: t) = decide (x.1 = 0) := rfl
      unfold sIce mIce
      rw [hc, pI]
      by_cases htop : S.2.2.2.1 0 < ltop (x :: t, base)
      · rw [if_pos htop, if_pos ⟨by simp, htop⟩, pG]
        unfold mFrz
        rw [hc]
        dsimp only
        rw [ic]
        by_cases hx : x.1 = 0
        · rw [if_pos (by simpa using hx), if_pos hx]
          have es : (x.2.2 + S.2.2.2.1 1).toInt = x.2.2.toInt + (S.2.2.2.1 1).toInt := ti_add (by omega) (by omega)
          have eg : lGr (x :: t) 0 (S.2.2.2.1 1) = (x.1, x.2.1, x.2.2 + S.2.2.2.1 1) :: t := by
            show (if x.2.2 + S.2.2.2.1 1 = 0 then t else (x.1, x.2.1, x.2.2 + S.2.2.2.1 1) :: t) = _
            refine if_neg (fun q => ?_)
            rw [q] at es
            have : (0 : Int32).toInt = 0 := rfl
            omega
          rw [eg, z9, stAcc_0, Int32.mul_comm 9]
        · rw [if_neg (by simpa using hx), if_neg hx]
          by_cases hg : t.length < 7 ∧ 0 < S.2.2.2.1 1
          · rw [if_pos hg, if_pos ⟨by show t.length + 1 < 8; omega, hg.2⟩, z9, stAcc_0, Int32.mul_comm 9]
            rfl
          · rw [if_neg hg, if_neg (fun q => hg ⟨by have := q.1; show t.length < 7; have : t.length + 1 < 8 := this; omega, q.2⟩)]
            exact same.symm
      · rw [if_neg htop, if_neg (fun q => htop q.2)]
        unfold mMlt
        rw [hc]
        dsimp only
        by_cases hx : x.1 = 0
        · rw [if_pos hx, if_pos hx]
          have eby : (if S.2.2.2.1 2 < x.2.2 then S.2.2.2.1 2 else x.2.2) = (if x.2.2 < S.2.2.2.1 2 then x.2.2 else S.2.2.2.1 2) := by
            by_cases a : S.2.2.2.1 2 < x.2.2
            · rw [if_pos a, if_neg (Int32.not_lt.mpr (Int32.le_of_lt a))]
            · rw [if_neg a]
              by_cases c : x.2.2 < S.2.2.2.1 2
              · rw [if_pos c]
              · rw [if_neg c]
                exact Int32.le_antisymm (Int32.not_lt.mp a) (Int32.not_lt.mp c)
          rw [eby]
          generalize hby : (if x.2.2 < S.2.2.2.1 2 then x.2.2 else S.2.2.2.1 2) = by'
          have b1 : 0 ≤ by'.toInt ∧ by'.toInt ≤ x.2.2.toInt := by
            rw [← hby]
            split
            · omega
            · rename_i a
              have := Int32.le_iff_toInt_le.mp (Int32.not_lt.mp a)
              omega
          have es : (x.2.2 - by').toInt = x.2.2.toInt - by'.toInt := ti_sub (by omega) (by omega)
          have e0 : (0 : Int32).toInt = 0 := rfl
          have el : lGr (x :: t) 0 (-by') = lThin (x :: t) 0 by' := by
            show (if x.2.2 + -by' = 0 then t else (x.1, x.2.1, x.2.2 + -by') :: t) = (if x.2.2 - by' ≤ 0 then t else (x.1, x.2.1, x.2.2 - by') :: t)
            rw [← Int32.sub_eq_add_neg]
            by_cases z : x.2.2 - by' = 0
            · rw [if_pos z, if_pos (by rw [z]; exact Int32.le_refl 0)]
            · rw [if_neg z, if_neg (fun q => ?_)]
              have := i32_le0.mp q
              exact z (Int32.toInt_inj.mp (by rw [e0]; omega))
          rw [el, z9]
          show stCol (stAcc S 3 (9 * by')) b _ = stAcc (stAcc (stCol S b _) 2 0) 3 (by' * 9)
          rw [stAcc_0, Int32.mul_comm 9]
          rfl
        · rw [if_neg hx, if_neg hx]
          exact same.symm
theorem iceN_ok {a1 a2 n : Int} {S : St} (h : gOk2 a1 a2 n S.1) (hl : lim a1 a2 n) (hT : sOk S.2.2.2.1) : ∀ k, k ≤ 10 → mIceN S k = sIceN S k ∧ (sIceN S k).2.2.2.1 = S.2.2.2.1 ∧ (∀ b, b < k → cOk a1 a2 (n + 1) ((sIceN S k).1 b)) ∧ (∀ b, k ≤ b → (sIceN S k).1 b = S.1 b) ∧ nS (sIceN S k).1 10 = nS S.1 10 ∧ (sIceN S k).2.1 = S.2.1
  | 0, _ => ⟨rfl, rfl, fun b hb => absurd hb (Nat.not_lt_zero b), fun _ _ => rfl, rfl, rfl⟩
  | k + 1, hk => by
    obtain ⟨e1, e2, e3, e4, e5, e6⟩ := iceN_ok h hl hT k (by omega)
    have hc := h.1 k (by omega)
    have hN := h.num hl (b := k) (by omega)
    have ek := e4 k (Nat.le_refl k)
    have hp := pIce_ok (T := S.2.2.2.1) hc hN hl hT
    have es : (sIceN S (k + 1)).1 = cSet (sIceN S k).1 k (pIce ((sIceN S k).1 k) (sIceN S k).2.2.2.1).1 := rfl
    rw [ek, e2] at es
    refine ⟨?_, e2, fun b hb => ?_, fun b hb => ?_, ?_, e6⟩
    · show mIce (mIceN S k) k = sIce (sIceN S k) k
      rw [e1]
      exact mIce_eq (by rw [ek]; exact hc) (by rw [ek]; exact hN) hl (by rw [e2]; exact hT)
    · rw [es]
      unfold cSet
      by_cases e : b = k
      · rw [if_pos e]; exact hp.1
      · rw [if_neg e]; exact e3 b (by omega)
    · rw [es]
      unfold cSet
      rw [if_neg (by omega)]
      exact e4 b (by omega)
    · rw [es, nS_set _ _ _ 10 (by omega), ek, hp.2, e5]
      omega
theorem flN_ok {a1 a2 n : Int} {S : St} (h : gOk2 a1 a2 n S.1) (hl : lim a1 a2 n) (hT : sOk S.2.2.2.1) : ∀ k, k ≤ 10 → mFlN S k = sFlN S k ∧ (sFlN S k).2.2.2.1 = S.2.2.2.1 ∧ (∀ b, b < k → cOk a1 a2 n ((sFlN S k).1 b)) ∧ (∀ b, k ≤ b → (sFlN S k).1 b = S.1 b) ∧ nS (sFlN S k).1 10 = nS S.1 10 ∧ (sFlN S k).2.1 = S.2.1
  | 0, _ => ⟨rfl, rfl, fun b hb => absurd hb (Nat.not_lt_zero b), fun _ _ => rfl, rfl, rfl⟩
  | k + 1, hk => by
    obtain ⟨e1, e2, e3, e4, e5, e6⟩ := flN_ok h hl hT k (by omega)
    have hc := h.1 k (by omega)
    have hN := h.num hl (b := k) (by omega)
    have ek := e4 k (Nat.le_refl k)
    obtain ⟨-, -, -, -, -, -, r1, r2⟩ := id hT
    obtain ⟨f1, f2⟩ := hc.fl hN hl r1 r2
    have es : (sFlN S (k + 1)).1 = cSet (sFlN S k).1 k (((sFlN S k).1 k).1, fld ((sFlN S k).1 k).2 (lbal ((sFlN S k).1 k).1) ((sFlN S k).2.2.2.1 4)) := rfl
    rw [ek, e2] at es
    refine ⟨?_, e2, fun b hb => ?_, fun b hb => ?_, ?_, e6⟩
    · show mFl (mFlN S k) k = sFl (sFlN S k) k
      rw [e1]
      exact mFl_sFl (by rw [ek, e2]; exact f1)
    · rw [es]
      unfold cSet
      by_cases e : b = k
      · rw [if_pos e]; exact f2
      · rw [if_neg e]; exact e3 b (by omega)
    · rw [es]
      unfold cSet
      rw [if_neg (by omega)]
      exact e4 b (by omega)
    · rw [es, nS_set _ _ _ 10 (by omega), ek, e5]
      show nS S.1 10 - sI xN (S.1 k).1 + sI xN (S.1 k).1 = nS S.1 10
      omega
