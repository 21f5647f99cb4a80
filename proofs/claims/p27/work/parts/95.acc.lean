/-! the accounts tell the sum of the weights -/
def accS (S : St) : Int32 := S.2.2.2.2.1 0 - S.2.2.2.2.1 1 + S.2.2.2.2.1 2 - S.2.2.2.2.1 3 - (S.2.2.2.2.1 4 - S.2.2.2.2.1 5)
def accI (S : St) : Prop := aWt S.1 = accS S
theorem r32a (a b c : Int32) : a + b - (c + b) = a - c := by grind
theorem accS_0 (S : St) (x : Int32) : accS (stAcc S 0 x) = accS S + x := by
  show (S.2.2.2.2.1 0 + x) - S.2.2.2.2.1 1 + S.2.2.2.2.1 2 - S.2.2.2.2.1 3 - (S.2.2.2.2.1 4 - S.2.2.2.2.1 5) = S.2.2.2.2.1 0 - S.2.2.2.2.1 1 + S.2.2.2.2.1 2 - S.2.2.2.2.1 3 - (S.2.2.2.2.1 4 - S.2.2.2.2.1 5) + x
  grind
theorem accS_1 (S : St) (x : Int32) : accS (stAcc S 1 x) = accS S - x := by
  show S.2.2.2.2.1 0 - (S.2.2.2.2.1 1 + x) + S.2.2.2.2.1 2 - S.2.2.2.2.1 3 - (S.2.2.2.2.1 4 - S.2.2.2.2.1 5) = S.2.2.2.2.1 0 - S.2.2.2.2.1 1 + S.2.2.2.2.1 2 - S.2.2.2.2.1 3 - (S.2.2.2.2.1 4 - S.2.2.2.2.1 5) - x
  grind
theorem accS_2 (S : St) (x : Int32) : accS (stAcc S 2 x) = accS S + x := by
  show S.2.2.2.2.1 0 - S.2.2.2.2.1 1 + (S.2.2.2.2.1 2 + x) - S.2.2.2.2.1 3 - (S.2.2.2.2.1 4 - S.2.2.2.2.1 5) = S.2.2.2.2.1 0 - S.2.2.2.2.1 1 + S.2.2.2.2.1 2 - S.2.2.2.2.1 3 - (S.2.2.2.2.1 4 - S.2.2.2.2.1 5) + x
  grind
theorem accS_3 (S : St) (x : Int32) : accS (stAcc S 3 x) = accS S - x := by
  show S.2.2.2.2.1 0 - S.2.2.2.2.1 1 + S.2.2.2.2.1 2 - (S.2.2.2.2.1 3 + x) - (S.2.2.2.2.1 4 - S.2.2.2.2.1 5) = S.2.2.2.2.1 0 - S.2.2.2.2.1 1 + S.2.2.2.2.1 2 - S.2.2.2.2.1 3 - (S.2.2.2.2.1 4 - S.2.2.2.2.1 5) - x
  grind
theorem accS_4 (S : St) (x : Int32) : accS (stAcc S 4 x) = accS S - x := by
  show S.2.2.2.2.1 0 - S.2.2.2.2.1 1 + S.2.2.2.2.1 2 - S.2.2.2.2.1 3 - ((S.2.2.2.2.1 4 + x) - S.2.2.2.2.1 5) = S.2.2.2.2.1 0 - S.2.2.2.2.1 1 + S.2.2.2.2.1 2 - S.2.2.2.2.1 3 - (S.2.2.2.2.1 4 - S.2.2.2.2.1 5) - x
  grind
theorem accS_5 (S : St) (x : Int32) : accS (stAcc S 5 x) = accS S + x := by
  show S.2.2.2.2.1 0 - S.2.2.2.2.1 1 + S.2.2.2.2.1 2 - S.2.2.2.2.1 3 - (S.2.2.2.2.1 4 - (S.2.2.2.2.1 5 + x)) = S.2.2.2.2.1 0 - S.2.2.2.2.1 1 + S.2.2.2.2.1 2 - S.2.2.2.2.1 3 - (S.2.2.2.2.1 4 - S.2.2.2.2.1 5) + x
  grind
theorem cSum_lt {f : Col → Int32} {C D : Cru} : ∀ n, (∀ b, b < n → f (C b) = f (D b)) → cSum f C n = cSum f D n
  | 0, _ => rfl
  | n + 1, h => by
    show cSum f C n + f (C n) = cSum f D n + f (D n)
    rw [cSum_lt n (fun b hb => h b (by omega)), h n (by omega)]
theorem cSum_set (f : Col → Int32) (C : Cru) (b : Nat) (c : Col) : ∀ n, b < n → cSum f (cSet C b c) n = cSum f C n - f (C b) + f c
  | 0, h => absurd h (Nat.not_lt_zero b)
  | n + 1, h => by
    show cSum f (cSet C b c) n + f (cSet C b c n) = cSum f C n + f (C n) - f (C b) + f c
    by_cases e : b = n
    · subst e
      rw [cSum_lt (C := cSet C b c) (D := C) b (fun i hi => by rw [show cSet C b c i = C i from if_neg (by omega)]), show cSet C b c b = c from if_pos rfl]
      grind
    · rw [cSum_set f C b c n (by omega), show cSet C b c n = C n from if_neg (by omega)]
      grind
theorem aWt_set (C : Cru) {b : Nat} (hb : b < 10) (c : Col) : aWt (cSet C b c) = aWt C - lwt (C b).1 + lwt c.1 := cSum_set (fun c => lwt c.1) C b c 10 hb
def wX (x : Lay) : Int32 := x.2.1 * x.2.2
theorem lwt_c (x : Lay) (t : List Lay) : lwt (x :: t) = wX x + lwt t := lwt_cons x t
theorem lwt_ins (y : Lay) : ∀ (l : List Lay) (i : Nat), i ≤ l.length → lwt (l.insertIdx i y) = lwt l + wX y
  | l, 0, _ => by
    rw [List.insertIdx_zero, lwt_c, Int32.add_comm]
  | [], i + 1, h => by simp at h
  | x :: t, i + 1, h => by
    rw [List.insertIdx_succ_cons, lwt_c, lwt_c, lwt_ins y t i (by simpa using h), Int32.add_assoc]
theorem lwt_era : ∀ {l : List Lay} {i : Nat} {x : Lay}, l[i]? = some x → lwt (l.eraseIdx i) = lwt l - wX x
  | [], _, _, h => by simp at h
  | x :: t, 0, y, h => by
    simp at h
    subst h
    rw [List.eraseIdx_cons_zero, lwt_c]
    grind
  | x :: t, i + 1, y, h => by
    rw [List.eraseIdx_cons_succ, lwt_c, lwt_c, lwt_era (l := t) (i := i) (x := y) (by simpa using h)]
    grind
theorem lwt_sett (y : Lay) : ∀ {l : List Lay} {i : Nat} {x : Lay}, l[i]? = some x → lwt (l.set i y) = lwt l - wX x + wX y
  | [], _, _, h => by simp at h
  | x :: t, 0, z, h => by
    simp at h
    subst h
    rw [List.set_cons_zero, lwt_c, lwt_c]
    grind
  | x :: t, i + 1, z, h => by
    rw [List.set_cons_succ, lwt_c, lwt_c, lwt_sett y (l := t) (i := i) (x := z) (by simpa using h)]
    grind
theorem lwt_thin {l : List Lay} {j : Nat} {x : Lay} {tk : Int32} (hj : l[j]? = some x) (t1 : 0 ≤ tk.toInt) (t2 : tk.toInt ≤ x.2.2.toInt) (hx : 1 ≤ x.2.2.toInt) : lwt (lThin l j tk) = lwt l - x.2.1 * tk := by
  have xb : x.2.2.toInt < 2 ^ 31 := Int32.toInt_lt x.2.2
  have es : (x.2.2 - tk).toInt = x.2.2.toInt - tk.toInt := ti_sub (by omega) (by omega)
  unfold lThin
  rw [hj]
  show lwt (if x.2.2 - tk ≤ 0 then l.eraseIdx j else l.set j (x.1, x.2.1, x.2.2 - tk)) = lwt l - x.2.1 * tk
  by_cases z : x.2.2 - tk ≤ 0
  · rw [if_pos z]
    have z1 : (x.2.2 - tk).toInt ≤ 0 := Int32.le_iff_toInt_le.mp z
    have e : tk = x.2.2 := Int32.toInt_inj.mp (by omega)
    rw [lwt_era hj, e]
    rfl
  · rw [if_neg z, lwt_sett _ hj]
    show lwt l - x.2.1 * x.2.2 + x.2.1 * (x.2.2 - tk) = _
    grind
theorem vOk_9 {x : Lay} (h : vOk x) (h0 : x.1 = 0) : x.2.1 = 9 := by
  rcases h.1 with a | a | a
  · exact a.2
  · exact absurd (h0.symm.trans a.1) (by decide)
  · exact absurd (h0.symm.trans a.1) (by decide)
theorem vOk_22 {x : Lay} (h : vOk x) (h0 : x.1 = 1) : x.2.1 = 22 := by
  rcases h.1 with a | a | a
  · exact absurd (h0.symm.trans a.1) (by decide)
  · exact a.2
  · exact absurd (h0.symm.trans a.1) (by decide)
theorem pGrow_wt {l : List Lay} (h : lOk l) (g : Int32) : lwt (pGrow l g).1 = lwt l + (pGrow l g).2 * 9 := by
  have e0 : lwt [] = 0 := rfl
  unfold pGrow
  split
  · rename_i x t
    by_cases h0 : x.1 = 0
    · have h9 := vOk_9 (h x List.mem_cons_self) h0
      rw [if_pos h0, lwt_c, lwt_c]
      show x.2.1 * (x.2.2 + g) + lwt t = x.2.1 * x.2.2 + lwt t + g * 9
      rw [h9]
      grind
    · rw [if_neg h0]
      split
      · rw [lwt_c]
        show 9 * g + lwt (x :: t) = lwt (x :: t) + g * 9
        grind
      · show lwt (x :: t) = lwt (x :: t) + 0 * 9
        grind
  · split
    · rw [lwt_c]
      show 9 * g + lwt [] = lwt [] + g * 9
      grind
    · show lwt [] = lwt [] + 0 * 9
      grind
theorem pIce_wt {c : Col} {T : Nat → Int32} (h : lOk c.1) (hT : 0 ≤ (T 2).toInt) : lwt (pIce c T).1.1 = lwt c.1 + (pIce c T).2.1 * 9 - (pIce c T).2.2 * 9 := by
  unfold pIce
  split
  · show lwt c.1 = lwt c.1 + 0 * 9 - 0 * 9
    grind
  · rename_i x t hc
    split
    · show lwt (pGrow c.1 (T 1)).1 = lwt c.1 + (pGrow c.1 (T 1)).2 * 9 - 0 * 9
      rw [pGrow_wt h]
      grind
    · split
      · rename_i h0
        have vx := h x (by rw [hc]; exact List.mem_cons_self)
        have h9 := vOk_9 vx h0
        have hm : 0 ≤ (if x.2.2 < T 2 then x.2.2 else T 2).toInt ∧ (if x.2.2 < T 2 then x.2.2 else T 2).toInt ≤ x.2.2.toInt := by
          have := vx.2
          by_cases q : x.2.2 < T 2
          · rw [if_pos q]; omega
          · rw [if_neg q]
            have := Int32.le_iff_toInt_le.mp (Int32.not_lt.mp q)
            omega
        show lwt (lThin c.1 0 (if x.2.2 < T 2 then x.2.2 else T 2)) = lwt c.1 + 0 * 9 - (if x.2.2 < T 2 then x.2.2 else T 2) * 9
        rw [lwt_thin (x := x) (by rw [hc]; rfl) hm.1 hm.2 vx.2, h9]
        grind
      · show lwt c.1 = lwt c.1 + 0 * 9 - 0 * 9
        grind
theorem accI_ice {S : St} {b : Nat} (hb : b < 10) (h : accI S) (hl : lOk (S.1 b).1) (hT : 0 ≤ (S.2.2.2.1 2).toInt) : accI (sIce S b) := by
  have e1 : aWt (sIce S b).1 = aWt S.1 - lwt (S.1 b).1 + lwt (pIce (S.1 b) S.2.2.2.1).1.1 := aWt_set S.1 hb _
  have e2 : accS (sIce S b) = accS S + (pIce (S.1 b) S.2.2.2.1).2.1 * 9 - (pIce (S.1 b) S.2.2.2.1).2.2 * 9 := by
    unfold sIce
    rw [accS_3, accS_2]
    rfl
  have e3 := pIce_wt (T := S.2.2.2.1) hl hT
  unfold accI at h ⊢
  rw [e1, e2, e3, h]
  grind
theorem pLay_wt {l : List Lay} (h : lOk l) (pl : Nat) (th : Int32) : lwt (pLay l pl th).1 = lwt l + (pLay l pl th).2.1 * 22 := by
  have hf : lfb l ≤ l.length := List.IsPrefix.length_le (List.takeWhile_prefix _)
  have new : lwt (pNew l pl th).1 = lwt l + (pNew l pl th).2.1 * 22 := by
    unfold pNew
    split
    · show lwt l = lwt l + 0 * 22
      grind
    · show lwt (l.insertIdx (lfb l) (1, 22, th)) = lwt l + th * 22
      rw [lwt_ins _ l _ hf]
      show lwt l + 22 * th = _
      grind
  unfold pLay
  split
  · rename_i x hx
    split
    · rename_i h1
      have h22 := vOk_22 (h x (List.mem_of_getElem? hx)) h1
      show lwt (l.set (lfb l) (x.1, x.2.1, x.2.2 + th)) = lwt l + th * 22
      rw [lwt_sett _ hx]
      show lwt l - x.2.1 * x.2.2 + x.2.1 * (x.2.2 + th) = _
      rw [h22]
      grind
    · exact new
  · exact new
theorem accI_er {S : St} {pl : Nat → Nat} {b v : Nat} {tk : Int32} {x : Lay} (hb : b < 10) (hv : v < 10) (h : accI S) (hx : (S.1 b).1[pl b]? = some x) (t1 : 0 ≤ tk.toInt) (t2 : tk.toInt ≤ x.2.2.toInt) (vx : 1 ≤ x.2.2.toInt) (hl : lOk ((cSet S.1 b (lThin (S.1 b).1 (pl b) tk, (S.1 b).2)) v).1) : accI (sEr S pl b tk v).1 := by
  unfold sEr
  rw [hx]
  show accI (stAcc (stCol (stAcc (stCol S b (lThin (S.1 b).1 (pl b) tk, (S.1 b).2)) 4 (tk * x.2.1)) v ((pLay ((cSet S.1 b (lThin (S.1 b).1 (pl b) tk, (S.1 b).2)) v).1 (pl v) (tk * x.2.1 / 22)).1, ((cSet S.1 b (lThin (S.1 b).1 (pl b) tk, (S.1 b).2)) v).2)) 5 ((pLay ((cSet S.1 b (lThin (S.1 b).1 (pl b) tk, (S.1 b).2)) v).1 (pl v) (tk * x.2.1 / 22)).2.1 * 22))
  have e1 : aWt (cSet S.1 b (lThin (S.1 b).1 (pl b) tk, (S.1 b).2)) = aWt S.1 - lwt (S.1 b).1 + lwt (lThin (S.1 b).1 (pl b) tk) := aWt_set S.1 hb _
  rw [lwt_thin hx t1 t2 vx] at e1
  generalize hD : cSet S.1 b (lThin (S.1 b).1 (pl b) tk, (S.1 b).2) = D at hl e1 ⊢
  have e2 := pLay_wt hl (pl v) (tk * x.2.1 / 22)
  generalize hP : pLay (D v).1 (pl v) (tk * x.2.1 / 22) = P at e2 ⊢
  have e3 : aWt (cSet D v (P.1, (D v).2)) = aWt D - lwt (D v).1 + lwt P.1 := aWt_set D hv _
  unfold accI at h ⊢
  rw [accS_5]
  show aWt (cSet (cSet S.1 b (lThin (S.1 b).1 (pl b) tk, (S.1 b).2)) v (P.1, (D v).2)) = accS (stAcc (stCol S b (lThin (S.1 b).1 (pl b) tk, (S.1 b).2)) 4 (tk * x.2.1)) + P.2.1 * 22
  rw [hD, e3, e1, e2, accS_4, h]
  show accS S - lwt (S.1 b).1 + (lwt (S.1 b).1 - x.2.1 * tk) - lwt (D v).1 + (lwt (D v).1 + P.2.1 * 22) = accS S - tk * x.2.1 + P.2.1 * 22
  grind
theorem accI_fl {S : St} {b : Nat} (hb : b < 10) (h : accI S) : accI (sFl S b) := by
  have e1 : aWt (sFl S b).1 = aWt S.1 - lwt (S.1 b).1 + lwt (S.1 b).1 := aWt_set S.1 hb _
  unfold accI at h ⊢
  rw [e1, h]
  show accS S - lwt (S.1 b).1 + lwt (S.1 b).1 = accS S
  grind
theorem accI_flN {S : St} (h : accI S) : ∀ k, k ≤ 10 → accI (sFlN S k)
  | 0, _ => h
  | k + 1, hk => accI_fl (by omega) (accI_flN h k (by omega))
theorem accI_iceN {a1 a2 n : Int} {S : St} (h : gOk2 a1 a2 n S.1) (hl : lim a1 a2 n) (hT : sOk S.2.2.2.1) (hA : accI S) : ∀ k, k ≤ 10 → accI (sIceN S k)
  | 0, _ => hA
  | k + 1, hk => by
    obtain ⟨e1, e2, e3, e4, e5, e6⟩ := iceN_ok h hl hT k (by omega)
    refine accI_ice (by omega) (accI_iceN h hl hT hA k (by omega)) ?_ ?_
    · rw [e4 k (Nat.le_refl k)]
      exact (h.1 k (by omega)).1
    · rw [e2]
      exact hT.2.2.1
theorem accI_erN {a1 a2 n : Int} {S : St} (h : gOk2 a1 a2 n S.1) (hl : lim a1 a2 n) (hT : sOk S.2.2.2.1) (hA : accI S) : ∀ k, k ≤ 10 → accI (erN S (eT S.1 (S.2.2.2.1 3)) (eV S.1) k).1
  | 0, _ => hA
  | k + 1, hk => by
    have ih := accI_erN h hl hT hA k (by omega)
    obtain ⟨-, i2, -, -⟩ := erN_ok h hl hT k (by omega)
    obtain ⟨-, -, -, -, t1, t2, -⟩ := id hT
    by_cases hp : 0 < eT S.1 (S.2.2.2.1 3) k
    · have m2 : erN S (eT S.1 (S.2.2.2.1 3)) (eV S.1) (k + 1) = sEr (erN S (eT S.1 (S.2.2.2.1 3)) (eV S.1) k).1 (erN S (eT S.1 (S.2.2.2.1 3)) (eV S.1) k).2 k (eT S.1 (S.2.2.2.1 3) k) (eV S.1 k) := if_pos hp
      obtain ⟨v, x, t, hv, hv10, hvb, hx, hi, q1, q2⟩ := (eT_eq h hl (by omega) t1 t2).2 hp
      have ev : eV S.1 k = v := by unfold eV; rw [hv]; rfl
      have hp0 : 0 < (eT S.1 (S.2.2.2.1 3) k).toInt := Int32.lt_iff_toInt_lt.mp hp
      obtain ⟨j1, -, j3⟩ := i2
      obtain ⟨pk, y, py, pt⟩ := j3 k (Nat.le_refl k) (by omega) hp
      have lk := (j1 k (by omega)).1
      have hyi : ¬ y.1 = 0 := by
        obtain ⟨y2, w1, w2⟩ := pk _ (Nat.le_refl _)
        rw [py] at w1
        cases w1
        exact w2
      rw [m2, ev]
      refine accI_er (by omega) hv10 ih py (by omega) pt (lk y (List.mem_of_getElem? py)).2 ?_
      unfold cSet
      split
      · exact (thin_ok py lk hyi hp0 pt).2.1
      · exact (j1 v hv10).1
    · have m2 : erN S (eT S.1 (S.2.2.2.1 3)) (eV S.1) (k + 1) = erN S (eT S.1 (S.2.2.2.1 3)) (eV S.1) k := if_neg hp
      rw [m2]
      exact ih
theorem accI_step {a1 a2 n : Int} {S : St} (h : gOk2 a1 a2 n S.1) (hn : 0 ≤ n) (hl : lim a1 a2 (n + 1)) (hT : sOk S.2.2.2.1) (hA : accI S) : accI (sStep S) := by
  obtain ⟨i1, i2, i3, i4, i5, i6⟩ := iceN_ok h (hl.down hn) hT 10 (Nat.le_refl 10)
  have g1 : gOk2 a1 a2 (n + 1) (sIceN S 10).1 := ⟨i3, by rw [i5]; exact h.2⟩
  have T1 : sOk (sIceN S 10).2.2.2.1 := by rw [i2]; exact hT
  have q1 := accI_iceN h (hl.down hn) hT hA 10 (Nat.le_refl 10)
  have q2 := accI_erN g1 hl T1 q1 10 (Nat.le_refl 10)
  have eS : sStep S = sFlN (erN (sIceN S 10) (eT (sIceN S 10).1 ((sIceN S 10).2.2.2.1 3)) (eV (sIceN S 10).1) 10).1 10 := rfl
  rw [eS]
  exact accI_flN q2 10 (Nat.le_refl 10)
theorem accI_stepN {a1 a2 n : Int} {S : St} (h : gOk2 a1 a2 n S.1) (hn : 0 ≤ n) (hT : sOk S.2.2.2.1) (hA : accI S) : ∀ k : Nat, lim a1 a2 (n + k) → accI (sStepN S k)
  | 0, _ => hA
  | k + 1, hl => by
    have e : n + ((k + 1 : Nat) : Int) = n + (k : Int) + 1 := by omega
    rw [e] at hl
    have l0 := hl.down (by omega)
    have ih := accI_stepN h hn hT hA k l0
    obtain ⟨-, -, i3, -, i5⟩ := stepN_ok h hn hT k l0
    have e2 : sStepN S (k + 1) = sStep (sStepN S k) := by rw [sStepN]
    rw [e2]
    generalize sStepN S k = Z at ih i3 i5 ⊢
    exact accI_step i3 (by omega) hl (by rw [i5]; exact hT) ih
