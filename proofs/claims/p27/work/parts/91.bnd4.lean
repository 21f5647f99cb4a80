/-! bounds: what erosion takes, what is laid -/
theorem cLow_spec {C : Cru} {b v : Nat} (hb : b < 10) (h : cLow C b = some v) : ltop (C v) < ltop (C b) ∧ (v + 1 = b ∨ v = b + 1) ∧ v < 10 := by
  have h10 := cLow_lt hb h
  unfold cLow at h
  split at h
  · rename_i h1
    split at h
    · rename_i h2
      cases h
      exact ⟨Int32.lt_trans h2.2 h1.2, Or.inr rfl, h10⟩
    · cases h
      exact ⟨h1.2, Or.inl (by omega), h10⟩
  · split at h
    · rename_i h2
      cases h
      exact ⟨h2.2, Or.inr rfl, h10⟩
    · cases h
theorem tk_pure {tb tv e t : Int32} (d1 : 0 < tb.toInt - tv.toInt) (d2 : tb.toInt - tv.toInt ≤ 10737000) (e1 : 0 ≤ e.toInt) (e2 : e.toInt ≤ 200) (t1 : 0 ≤ t.toInt) : (if (tb - tv) * e / 1000 < t then (tb - tv) * e / 1000 else t) = lTk tb tv e t ∧ 0 ≤ (lTk tb tv e t).toInt ∧ (lTk tb tv e t).toInt ≤ t.toInt ∧ 5 * (lTk tb tv e t).toInt ≤ tb.toInt - tv.toInt := by
  have ea : (tb - tv).toInt = tb.toInt - tv.toInt := ti_sub (by omega) (by omega)
  have m1 := Int.mul_le_mul_of_nonneg_left e2 (show 0 ≤ tb.toInt - tv.toInt by omega)
  have m0 := Int.mul_nonneg (show 0 ≤ tb.toInt - tv.toInt by omega) e1
  have ep : ((tb - tv) * e).toInt = (tb.toInt - tv.toInt) * e.toInt := by
    rw [ti_mul (by rw [ea]; omega) (by rw [ea]; omega), ea]
  have eq : ((tb - tv) * e / 1000).toInt = (tb.toInt - tv.toInt) * e.toInt / 1000 := by
    rw [Int32.toInt_div_of_ne_right _ _ (by decide), ep]
    exact td_pos m0
  have es : (tb.toInt64 - tv.toInt64).toInt = tb.toInt - tv.toInt := by
    rw [Int64.toInt_sub, Int32.toInt_toInt64, Int32.toInt_toInt64]
    generalize tb.toInt - tv.toInt = z at *
    exact Int.bmod_eq_of_le (by omega) (by omega)
  have e64 : ((tb.toInt64 - tv.toInt64) * e.toInt64 / Int64.ofNat 1000).toInt = (tb.toInt - tv.toInt) * e.toInt / 1000 := by
    have e1 : ((tb.toInt64 - tv.toInt64) * e.toInt64).toInt = (tb.toInt - tv.toInt) * e.toInt := by
      rw [Int64.toInt_mul, es, Int32.toInt_toInt64]
      generalize (tb.toInt - tv.toInt) * e.toInt = z at *
      exact Int.bmod_eq_of_le (by omega) (by omega)
    rw [Int64.toInt_div_of_ne_right _ _ (by decide), e1]
    exact td_pos m0
  unfold lTk
  generalize hz : (tb.toInt - tv.toInt) * e.toInt = z at *
  have tl : (t.toInt64 < (tb.toInt64 - tv.toInt64) * e.toInt64 / Int64.ofNat 1000) ↔ t.toInt < z / 1000 := by
    rw [Int64.lt_iff_toInt_lt, Int32.toInt_toInt64, e64]
  have ml : ((tb - tv) * e / 1000 < t) ↔ z / 1000 < t.toInt := by
    rw [Int32.lt_iff_toInt_lt, eq]
  have lz : (((tb.toInt64 - tv.toInt64) * e.toInt64 / Int64.ofNat 1000).toInt32).toInt = z / 1000 := by
    rw [Int64.toInt_toInt32, e64]
    exact Int.bmod_eq_of_le (by omega) (by omega)
  by_cases c : t.toInt < z / 1000
  · rw [if_pos (tl.mpr c), if_neg (fun q => by have := ml.mp q; omega), Int32.toInt32_toInt64]
    exact ⟨rfl, t1, Int.le_refl _, by omega⟩
  · rw [if_neg (fun q => c (tl.mp q))]
    refine ⟨Int32.toInt_inj.mp ?_, by rw [lz]; omega, by rw [lz]; omega, by rw [lz]; omega⟩
    rw [lz]
    by_cases c2 : z / 1000 < t.toInt
    · rw [if_pos (ml.mpr c2), eq]
    · rw [if_neg (fun q => c2 (ml.mp q))]
      omega
theorem tak_eq {a1 a2 n : Int} {C : Cru} {b v : Nat} {e : Int32} {x : Lay} {t : List Lay} (h : gOk2 a1 a2 n C) (hl : lim a1 a2 n) (hb : b < 10) (e1 : 0 ≤ e.toInt) (e2 : e.toInt ≤ 200) (hv : cLow C b = some v) (hx : (C b).1 = x :: t) (hi : ¬ x.1 = 0) : mTak C b e = cTk C b v e ∧ 0 ≤ (cTk C b v e).toInt ∧ (cTk C b v e).toInt ≤ x.2.2.toInt ∧ 5 * (cTk C b v e).toInt ≤ (ltop (C b)).toInt - (ltop (C v)).toInt := by
  obtain ⟨s1, s2, s3⟩ := cLow_spec hb hv
  have nb := (h.1 b hb).num (h.num hl hb) hl
  have nv := (h.1 v s3).num (h.num hl s3) hl
  obtain ⟨-, -, b3, b4, -, b6⟩ := h.1 b hb
  obtain ⟨-, -, v3, v4, -, v6⟩ := h.1 v s3
  have s1 := Int32.lt_iff_toInt_lt.mp s1
  have vx : vOk x := (h.1 b hb).1 x (by rw [hx]; exact List.mem_cons_self)
  have l := hl
  obtain ⟨l1, l2, l3, l4, l5⟩ := l
  have tx := vx.2
  have D2 : (ltop (C b)).toInt - (ltop (C v)).toInt ≤ 10737000 := by
    rw [nb.2.2.2.1, nv.2.2.2.1]
    have := nv.2.2.2.2.2.2.1
    omega
  have key := tk_pure (tb := ltop (C b)) (tv := ltop (C v)) (e := e) (t := x.2.2) (by omega) D2 e1 e2 (by omega)
  have ec : cTk C b v e = lTk (ltop (C b)) (ltop (C v)) e x.2.2 := by
    unfold cTk
    rw [hx]
  have em : mTak C b e = if (ltop (C b) - ltop (C v)) * e / 1000 < x.2.2 then (ltop (C b) - ltop (C v)) * e / 1000 else x.2.2 := by
    unfold mTak
    rw [hx, hv]
    dsimp only
    rw [if_neg hi]
  rw [ec, em]
  exact key
theorem eT_eq {a1 a2 n : Int} {C : Cru} {b : Nat} {e : Int32} (h : gOk2 a1 a2 n C) (hl : lim a1 a2 n) (hb : b < 10) (e1 : 0 ≤ e.toInt) (e2 : e.toInt ≤ 200) : mTak C b e = eT C e b ∧ (0 < eT C e b → ∃ v x t, cLow C b = some v ∧ v < 10 ∧ (v + 1 = b ∨ v = b + 1) ∧ (C b).1 = x :: t ∧ ¬ x.1 = 0 ∧ (eT C e b).toInt ≤ x.2.2.toInt ∧ 5 * (eT C e b).toInt ≤ (ltop (C b)).toInt - (ltop (C v)).toInt) := by
  have z0 : ¬ (0 : Int32) < 0 := by decide
  cases hx : (C b).1 with
  | nil =>
    have q1 : mTak C b e = 0 := by unfold mTak; rw [hx]
    have q2 : eT C e b = 0 := by unfold eT cWhy; rw [hx, if_pos rfl, if_neg (by decide)]
    rw [q1, q2]
    exact ⟨rfl, fun q => absurd q z0⟩
  | cons x t =>
    have ic : icy (x :: t) = decide (x.1 = 0) := rfl
    by_cases hi : x.1 = 0
    · have q1 : mTak C b e = 0 := by unfold mTak; rw [hx]; dsimp only; rw [if_pos hi]
      have q2 : eT C e b = 0 := by
                            have w : cWhy C b e = 2 := by (unfold cWhy; rw [hx, if_neg (show ¬ (x :: t) = [] from List.cons_ne_nil _ _), ic, if_pos (by simpa using hi)])
                            unfold eT; rw [w, if_neg (by decide)]
      rw [q1, q2]
      exact ⟨rfl, fun q => absurd q z0⟩
    · cases hv : cLow C b with
      | none =>
        have q1 : mTak C b e = 0 := by unfold mTak; rw [hx, hv]; dsimp only; rw [if_neg hi]
        have q2 : eT C e b = 0 := by
          have w : cWhy C b e = 3 := by (unfold cWhy; rw [hx, hv, if_neg (show ¬ (x :: t) = [] from List.cons_ne_nil _ _), ic, if_neg (by simpa using hi)])
          unfold eT; rw [w, if_neg (by decide)]
        rw [q1, q2]
        exact ⟨rfl, fun q => absurd q z0⟩
      | some v =>
        obtain ⟨k1, k2, k3, k4⟩ := tak_eq h hl hb e1 e2 hv hx hi
        obtain ⟨s1, s2, s3⟩ := cLow_spec hb hv
        have q2 : eT C e b = cTk C b v e := by
          have w : cWhy C b e = if cTk C b v e = 0 then 4 else 0 := by (unfold cWhy; rw [hx, hv, if_neg (show ¬ (x :: t) = [] from List.cons_ne_nil _ _), ic, if_neg (by simpa using hi)])
          unfold eT
          rw [w, hv]
          by_cases z : cTk C b v e = 0
          · rw [if_pos z, if_neg (by decide), z]
          · rw [if_neg z, if_pos rfl]
            rfl
        rw [q2]
        exact ⟨k1, fun _ => ⟨v, x, t, rfl, s3, s2, rfl, hi, k3, k4⟩⟩
theorem thin_ok {l : List Lay} {j : Nat} {x : Lay} {tk : Int32} (hj : l[j]? = some x) (h : lOk l) (hi : ¬ x.1 = 0) (t1 : 0 < tk.toInt) (t2 : tk.toInt ≤ x.2.2.toInt) : lGr l j (-tk) = lThin l j tk ∧ lOk (lThin l j tk) ∧ (lThin l j tk).length ≤ l.length ∧ sI xI (lThin l j tk) = sI xI l ∧ sI xN (lThin l j tk) = sI xN l - x.2.1.toInt * tk.toInt ∧ sI xT (lThin l j tk) ≤ sI xT l := by
  have hlt : j < l.length := (List.getElem?_eq_some_iff.mp hj).1
  have hx : l[j] = x := (List.getElem?_eq_some_iff.mp hj).2
  have vx : vOk x := h x (by rw [← hx]; exact List.getElem_mem hlt)
  have xb : x.2.2.toInt < 2 ^ 31 := Int32.toInt_lt x.2.2
  have es : (x.2.2 - tk).toInt = x.2.2.toInt - tk.toInt := ti_sub (by omega) (by omega)
  have e0 : (0 : Int32).toInt = 0 := rfl
  have xi : xI x = 0 := if_neg hi
  have xn : xN x = x.2.1.toInt * x.2.2.toInt := if_neg hi
  have xt : xT x = x.2.2.toInt := rfl
  have el : lThin l j tk = if x.2.2 - tk ≤ 0 then l.eraseIdx j else l.set j (x.1, x.2.1, x.2.2 - tk) := by
    unfold lThin
    rw [hj]
  have eg : lGr l j (-tk) = if x.2.2 - tk = 0 then l.eraseIdx j else l.set j (x.1, x.2.1, x.2.2 - tk) := by
    unfold lGr
    rw [hj]
    dsimp only
    rw [← Int32.sub_eq_add_neg]
  rw [el, eg]
  by_cases z : x.2.2 - tk = 0
  · rw [if_pos z, if_pos (by rw [z]; exact Int32.le_refl 0)]
    rw [z, e0] at es
    have et : tk.toInt = x.2.2.toInt := by omega
    refine ⟨rfl, h.erase j, by rw [List.length_eraseIdx]; split <;> omega, ?_, ?_, ?_⟩
    · rw [sI_erase _ _ _ hlt, hx, xi]; omega
    · rw [sI_erase _ _ _ hlt, hx, xn, et]
    · rw [sI_erase _ _ _ hlt, hx, xt]; omega
  · have nz : ¬ x.2.2 - tk ≤ 0 := fun q => by
      have := i32_le0.mp q
      exact z (Int32.toInt_inj.mp (by rw [e0]; omega))
    rw [if_neg z, if_neg nz]
    have p1 : 1 ≤ (x.2.2 - tk).toInt := by
      have : ¬ (x.2.2 - tk).toInt ≤ 0 := fun q => nz (i32_le0.mpr q)
      omega
    have yi : xI (x.1, x.2.1, x.2.2 - tk) = 0 := if_neg hi
    have yn : xN (x.1, x.2.1, x.2.2 - tk) = x.2.1.toInt * x.2.2.toInt - x.2.1.toInt * tk.toInt := by
      refine (if_neg hi).trans ?_
      show x.2.1.toInt * (x.2.2 - tk).toInt = _
      rw [es, Int.mul_sub]
    have yt : xT (x.1, x.2.1, x.2.2 - tk) = x.2.2.toInt - tk.toInt := es
    refine ⟨rfl, h.set j ⟨vx.1, p1⟩, by rw [List.length_set]; exact Nat.le_refl _, ?_, ?_, ?_⟩
    · rw [sI_set _ _ _ _ hlt, hx, xi, yi]; omega
    · rw [sI_set _ _ _ _ hlt, hx, xn, yn]; omega
    · rw [sI_set _ _ _ _ hlt, hx, xt, yt]; omega
/-- a block that is still to be eroded -/
def pend (l : List Lay) (p : Nat) (tk : Int) : Prop := (∀ j, j ≤ p → ∃ y, l[j]? = some y ∧ ¬ y.1 = 0) ∧ ∃ y, l[p]? = some y ∧ tk ≤ y.2.2.toInt
theorem lfb_0 {l : List Lay} {y : Lay} (h : l[0]? = some y) (hy : ¬ y.1 = 0) : lfb l = 0 := by
  cases l with
  | nil => cases h
  | cons x t =>
    cases h
    unfold lfb
    rw [List.takeWhile_cons, if_neg (by simpa using hy)]
    rfl
theorem lay_ok {l : List Lay} {pl : Nat} {th : Int32} (h : lOk l) (h8 : l.length ≤ 8) (t1 : 0 ≤ th.toInt) (t2 : th.toInt ≤ 1000000000) (hT : sI xT l ≤ 1000000000) :
    mLay l pl th = pLay l pl th ∧ lOk (pLay l pl th).1 ∧ (pLay l pl th).1.length ≤ 8 ∧ sI xI (pLay l pl th).1 = sI xI l ∧ sI xN (pLay l pl th).1 ≤ sI xN l + 22 * th.toInt ∧ sI xT (pLay l pl th).1 ≤ sI xT l + th.toInt ∧ ∀ tk, pend l pl tk → pend (pLay l pl th).1 (pLay l pl th).2.2 tk := by
  have new : lOk (pNew l pl th).1 ∧ (pNew l pl th).1.length ≤ 8 ∧ sI xI (pNew l pl th).1 = sI xI l ∧ sI xN (pNew l pl th).1 ≤ sI xN l + 22 * th.toInt ∧ sI xT (pNew l pl th).1 ≤ sI xT l + th.toInt ∧ ∀ tk, pend l pl tk → pend (pNew l pl th).1 (pNew l pl th).2.2 tk := by
    unfold pNew
    by_cases c : 8 ≤ l.length ∨ th = 0
    · rw [if_pos c]
      exact ⟨h, h8, rfl, by show sI xN l ≤ _; omega, by show sI xT l ≤ _; omega, fun tk q => q⟩
    · rw [if_neg c]
      have hlt : l.length < 8 := Nat.lt_of_not_le (fun q => c (Or.inl q))
      have p1 : 1 ≤ th.toInt := by
        have : ¬ th.toInt = 0 := fun q => c (Or.inr (Int32.toInt_inj.mp q))
        omega
      have hf := lfb_le l
      have vy : vOk (1, 22, th) := ⟨Or.inr (Or.inl ⟨rfl, rfl⟩), p1⟩
      have yi : xI (1, 22, th) = 0 := if_neg (show ¬ (1 : Int32) = 0 by decide)
      have yn : xN (1, 22, th) = 22 * th.toInt := if_neg (show ¬ (1 : Int32) = 0 by decide)
      have yt : xT (1, 22, th) = th.toInt := rfl
      refine ⟨h.insert hf vy, ?_, ?_, ?_, ?_, fun tk q => ?_⟩
      · show (l.insertIdx (lfb l) (1, 22, th)).length ≤ 8
        rw [List.length_insertIdx_of_le_length hf]
        omega
      · show sI xI (l.insertIdx (lfb l) (1, 22, th)) = _
        rw [sI_insert _ _ _ _ hf, yi]
        omega
      · show sI xN (l.insertIdx (lfb l) (1, 22, th)) ≤ _
        rw [sI_insert _ _ _ _ hf, yn]
        omega
      · show sI xT (l.insertIdx (lfb l) (1, 22, th)) ≤ _
        rw [sI_insert _ _ _ _ hf, yt]
        omega
      · obtain ⟨y0, q0, q1⟩ := q.1 0 (Nat.zero_le _)
        have z := lfb_0 q0 q1
        show pend (l.insertIdx (lfb l) (1, 22, th)) (if lfb l ≤ pl then pl + 1 else pl) tk
        rw [z, if_pos (Nat.zero_le _), List.insertIdx_zero]
        refine ⟨fun j hj => ?_, ?_⟩
        · cases j with
          | zero => exact ⟨_, rfl, (show ¬ (1 : Int32) = 0 by decide)⟩
          | succ i => exact q.1 i (by omega)
        · exact q.2
  cases hx : l[lfb l]? with
  | none =>
    have e1 : pLay l pl th = pNew l pl th := by unfold pLay; rw [hx]
    have e2 : mLay l pl th = pNew l pl th := by unfold mLay; rw [hx]
    rw [e1, e2]
    exact ⟨rfl, new⟩
  | some x =>
    by_cases h1 : x.1 = 1
    · have hlt : lfb l < l.length := (List.getElem?_eq_some_iff.mp hx).1
      have hxe : l[lfb l] = x := (List.getElem?_eq_some_iff.mp hx).2
      have vx : vOk x := h x (by rw [← hxe]; exact List.getElem_mem hlt)
      have n0 : ¬ x.1 = 0 := by rw [h1]; decide
      have d22 : x.2.1 = 22 := by
        rcases vx.1 with ⟨a, _⟩ | ⟨_, b⟩ | ⟨a, _⟩
        · exact absurd a n0
        · exact b
        · rw [h1] at a; exact absurd a (by decide)
      have hle := sI_at xT l h.nnT hlt
      rw [hxe] at hle
      have hle : x.2.2.toInt ≤ sI xT l := hle
      have tx := vx.2
      have es : (x.2.2 + th).toInt = x.2.2.toInt + th.toInt := ti_add (by omega) (by omega)
      have e1 : pLay l pl th = (l.set (lfb l) (x.1, x.2.1, x.2.2 + th), th, pl) := by
        unfold pLay
        rw [hx]
        dsimp only
        rw [if_pos h1]
      have e2 : mLay l pl th = (l.set (lfb l) (x.1, x.2.1, x.2.2 + th), th, pl) := by
        unfold mLay
        rw [hx]
        dsimp only
        rw [if_pos h1]
        unfold lGr
        rw [hx]
        dsimp only
        rw [if_neg (fun q => by rw [q] at es; have : (0 : Int32).toInt = 0 := rfl; omega)]
      rw [e1, e2]
      have yi : xI (x.1, x.2.1, x.2.2 + th) = 0 := if_neg n0
      have yn : xN (x.1, x.2.1, x.2.2 + th) = 22 * (x.2.2.toInt + th.toInt) := by
        refine (if_neg n0).trans ?_
        show x.2.1.toInt * (x.2.2 + th).toInt = _
        rw [es, d22]
        rfl
      have yt : xT (x.1, x.2.1, x.2.2 + th) = x.2.2.toInt + th.toInt := es
      have xi : xI x = 0 := if_neg n0
      have xn : xN x = 22 * x.2.2.toInt := by
        refine (if_neg n0).trans ?_
        show x.2.1.toInt * x.2.2.toInt = _
        rw [d22]
        rfl
      have xt : xT x = x.2.2.toInt := rfl
      refine ⟨rfl, h.set _ ⟨vx.1, by show 1 ≤ (x.2.2 + th).toInt; omega⟩, by show (l.set _ _).length ≤ 8; rw [List.length_set]; exact h8, ?_, ?_, ?_, fun tk q => ⟨fun j hj => ?_, ?_⟩⟩
      · show sI xI (l.set _ _) = _
        rw [sI_set _ _ _ _ hlt, hxe, xi, yi]; omega
      · show sI xN (l.set _ _) ≤ _
        rw [sI_set _ _ _ _ hlt, hxe, xn, yn]; omega
      · show sI xT (l.set _ _) ≤ _
        rw [sI_set _ _ _ _ hlt, hxe, xt, yt]; omega
      · show ∃ y, (l.set (lfb l) (x.1, x.2.1, x.2.2 + th))[j]? = some y ∧ ¬ y.1 = 0
        by_cases ej : lfb l = j
        · subst ej
          exact ⟨_, List.getElem?_set_self hlt, n0⟩
        · rw [List.getElem?_set_ne ej]
          exact q.1 j hj
      · show ∃ y, (l.set (lfb l) (x.1, x.2.1, x.2.2 + th))[pl]? = some y ∧ tk ≤ y.2.2.toInt
        obtain ⟨y, y1, y2⟩ := q.2
        by_cases ej : lfb l = pl
        · rw [ej] at hx
          rw [hx] at y1
          cases y1
          rw [ej] at hlt ⊢
          exact ⟨_, List.getElem?_set_self hlt, by show tk ≤ (x.2.2 + th).toInt; omega⟩
        · rw [List.getElem?_set_ne ej]
          exact ⟨y, y1, y2⟩
    · have e1 : pLay l pl th = pNew l pl th := by unfold pLay; rw [hx]; dsimp only; rw [if_neg h1]
      have e2 : mLay l pl th = pNew l pl th := by unfold mLay; rw [hx]; dsimp only; rw [if_neg h1]
      rw [e1, e2]
      exact ⟨rfl, new⟩
