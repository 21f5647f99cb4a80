/-! the invariant of reachable states; the acts as functions of the present state -/
def gdS (a1 a2 n : Int) (S : St) : Prop := gOk2 a1 a2 n S.1 ∧ (∀ j, j < 2 → gOk2 a1 a2 n (S.2.1 j)) ∧ sOk S.2.2.2.1 ∧ S.2.2.2.2.2.toInt = n
def okS (N : Nat) (S : St) : Prop := ∃ a1 a2 n : Int, gdS a1 a2 n S ∧ 0 ≤ a1 ∧ 0 ≤ a2 ∧ 0 ≤ n ∧ 7 * (a1 + a2) + n ≤ 7 * N
def good (N : Nat) (S : St) : Prop := okS N S ∧ accI S ∧ -100000 ≤ (S.2.2.2.1 0).toInt
theorem okS.mono {N N' : Nat} {S : St} (h : okS N S) (hm : N ≤ N') : okS N' S := by
  obtain ⟨a1, a2, n, q1, q2, q3, q4, q6⟩ := h
  exact ⟨a1, a2, n, q1, q2, q3, q4, by omega⟩
theorem good.mono {N N' : Nat} {S : St} (h : good N S) (hm : N ≤ N') : good N' S := ⟨h.1.mono hm, h.2⟩
def σ0 : Wd := (((fun _ => ([], 0)), (fun _ _ => ([], 0)), (fun _ => 0), (fun k => (gSl 2).getD k 0), (fun _ => 0), 0), [], (fun _ => 0), 0)
theorem good0 : good 0 σ0.1 := by
  have g : gOk2 0 0 0 (fun _ => (([], 0) : Col)) := by
    have c0 : cOk 0 0 0 (([], 0) : Col) := ⟨fun x hx => (by cases hx), Nat.zero_le _, by decide, by decide, by decide, by decide⟩
    refine ⟨fun b _ => c0, ?_⟩
    decide
  refine ⟨⟨0, 0, 0, ⟨g, fun _ _ => g, ?_, rfl⟩, by decide, by decide, by decide, by decide⟩, ?_, ?_⟩
  · show sOk (fun k => (gSl 2).getD k 0)
    exact ⟨by decide, by decide, by decide, by decide, by decide, by decide, by decide, by decide⟩
  · show aWt (fun _ => ([], 0)) = (0 : Int32) - 0 + 0 - 0 - (0 - 0)
    decide
  · show -100000 ≤ ((gSl 2).getD 0 0).toInt
    decide
theorem okS_lim {N : Nat} {a1 a2 n k : Int} (hN : N < 16) (q2 : 0 ≤ a1) (q3 : 0 ≤ a2) (q4 : 0 ≤ n) (q6 : 7 * (a1 + a2) + n ≤ 7 * N) (hk : 0 ≤ k) (hk2 : k ≤ 100) : lim a1 a2 (n + k) := ⟨q2, q3, by omega, by omega, by omega⟩
theorem okS_lim0 {N : Nat} {a1 a2 n : Int} (hN : N < 16) (q2 : 0 ≤ a1) (q3 : 0 ≤ a2) (q4 : 0 ≤ n) (q6 : 7 * (a1 + a2) + n ≤ 7 * N) : lim a1 a2 n := ⟨q2, q3, by omega, by omega, by omega⟩
/-! what the calls make of a crust -/
theorem cOk.erase {a1 a2 n : Int} {c : Col} (h : cOk a1 a2 n c) {j : Nat} (hj : j < c.1.length) : cOk a1 a2 n (c.1.eraseIdx j, c.2) ∧ sI xN (c.1.eraseIdx j) ≤ sI xN c.1 := by
  obtain ⟨q1, q2, q3, q4, q5, q6⟩ := h
  have v := vOk_num (q1 c.1[j] (List.getElem_mem hj))
  have eI := sI_erase xI c.1 j hj
  have eT := sI_erase xT c.1 j hj
  have eN := sI_erase xN c.1 j hj
  refine ⟨⟨q1.erase j, ?_, q3, q4, ?_, ?_⟩, by omega⟩
  · show (c.1.eraseIdx j).length ≤ 8
    rw [List.length_eraseIdx]
    split <;> omega
  · show sI xI (c.1.eraseIdx j) ≤ _
    omega
  · show sI xT (c.1.eraseIdx j) - c.2.toInt ≤ _
    omega
theorem cOk.filter {a1 a2 n : Int} {c : Col} (h : cOk a1 a2 n c) (k : Int32) : cOk a1 a2 n (lDk k c.1, c.2) ∧ sI xN (lDk k c.1) ≤ sI xN c.1 := by
  obtain ⟨q1, q2, q3, q4, q5, q6⟩ := h
  have eI := sI_filter xI (fun x => !decide (x.1 = k)) c.1 q1.nnI
  have eT := sI_filter xT (fun x => !decide (x.1 = k)) c.1 q1.nnT
  have eN := sI_filter xN (fun x => !decide (x.1 = k)) c.1 q1.nnN
  refine ⟨⟨fun x hx => q1 x (List.mem_filter.mp hx).1, Nat.le_trans (List.length_filter_le _ _) q2, q3, q4, Int.le_trans eI q5, ?_⟩, eN⟩
  have e : sI xT (lDk k c.1) ≤ sI xT c.1 := eT
  show sI xT (lDk k c.1) - c.2.toInt ≤ _
  omega
theorem cOk.insert {a1 a2 n : Int} {c : Col} (h : cOk a1 a2 n c) {j : Nat} (hj : j ≤ c.1.length) (h8 : c.1.length < 8) {x : Lay} (hx : vL0 x) : ∃ k1 k2 : Int, 0 ≤ k1 ∧ 0 ≤ k2 ∧ k1 + k2 = 1 ∧ cOk (a1 + k1) (a2 + k2) n (c.1.insertIdx j x, c.2) ∧ sI xN (c.1.insertIdx j x) ≤ sI xN c.1 + 128000 * k1 := by
  obtain ⟨q1, q2, q3, q4, q5, q6⟩ := h
  have t1 : 1 ≤ x.2.2.toInt := Int32.le_iff_toInt_le.mp hx.2.1
  have t2 : x.2.2.toInt ≤ 4000 := Int32.le_iff_toInt_le.mp hx.2.2
  have vx : vOk x := ⟨hx.1, t1⟩
  have v := vOk_num vx
  have eI := sI_insert xI x c.1 j hj
  have eT := sI_insert xT x c.1 j hj
  have eN := sI_insert xN x c.1 j hj
  have ex : xT x = x.2.2.toInt := rfl
  have hl : (c.1.insertIdx j x).length ≤ 8 := by
    rw [List.length_insertIdx_of_le_length hj]
    omega
  by_cases hi : x.1 = 0
  · have xi : xI x = x.2.2.toInt := if_pos hi
    have xn : xN x = 0 := if_pos hi
    refine ⟨0, 1, by decide, by decide, by decide, ⟨q1.insert hj vx, hl, q3, ?_, ?_, ?_⟩, by omega⟩
    · show 33 * c.2.toInt ≤ _
      omega
    · show sI xI (c.1.insertIdx j x) ≤ _
      omega
    · show sI xT (c.1.insertIdx j x) - c.2.toInt ≤ _
      omega
  · have xi : xI x = 0 := if_neg hi
    refine ⟨1, 0, by decide, by decide, by decide, ⟨q1.insert hj vx, hl, q3, ?_, ?_, ?_⟩, by omega⟩
    · show 33 * c.2.toInt ≤ _
      omega
    · show sI xI (c.1.insertIdx j x) ≤ _
      omega
    · show sI xT (c.1.insertIdx j x) - c.2.toInt ≤ _
      omega
theorem gOk2.set {a1 a2 n : Int} {C : Cru} (h : gOk2 a1 a2 n C) {b : Nat} (hb : b < 10) {c : Col} {k1 k2 : Int} (k10 : 0 ≤ k1) (k20 : 0 ≤ k2) (hc : cOk (a1 + k1) (a2 + k2) n c) (hN : sI xN c.1 ≤ sI xN (C b).1 + 128000 * k1) : gOk2 (a1 + k1) (a2 + k2) n (cSet C b c) := by
  refine ⟨fun i hi => ?_, ?_⟩
  · unfold cSet
    by_cases e : i = b
    · rw [if_pos e]; exact hc
    · rw [if_neg e]; exact (h.1 i hi).mono (by omega) (by omega) (Int.le_refl n)
  · rw [nS_set C b c 10 hb]
    have := h.2
    omega
theorem nS_map {C D : Cru} : ∀ k, (∀ b, b < k → sI xN (D b).1 ≤ sI xN (C b).1) → nS D k ≤ nS C k
  | 0, _ => Int.le_refl 0
  | k + 1, h => by
    have a := nS_map (C := C) (D := D) k (fun b hb => h b (by omega))
    have b := h k (by omega)
    show nS D k + sI xN (D k).1 ≤ nS C k + sI xN (C k).1
    omega
theorem gOk2.map {a1 a2 n : Int} {C : Cru} (h : gOk2 a1 a2 n C) (f : Col → Col) (hf : ∀ b, b < 10 → cOk a1 a2 n (f (C b)) ∧ sI xN (f (C b)).1 ≤ sI xN (C b).1) : gOk2 a1 a2 n (fun b => f (C b)) :=
  ⟨fun b hb => (hf b hb).1, Int.le_trans (nS_map 10 (fun b hb => (hf b hb).2)) h.2⟩
/-! an act: its answer, and the state that it leaves, or none -/
abbrev Xo : Type := Int32 × Option St
def lft (σ : Wd) (x : Xo) : Op := match x.2 with
  | none => (x.1, σ)
  | some S => (x.1, wAct σ S)
def xGood (N : Nat) (x : Xo) : Prop := match x.2 with
  | none => x.1 ≤ -100000001
  | some S => ¬ x.1 ≤ -100000001 ∧ good (N + 1) S
theorem big_of {x : Int32} (h : -100000 ≤ x.toInt) : ¬ x ≤ -100000001 := fun q => by
  have := Int32.le_iff_toInt_le.mp q
  rw [show ((-100000001 : Int32)).toInt = -100000001 from by decide] at this
  omega
theorem cSum_rng {f : Col → Int32} {C : Cru} {m : Int} (hm : m ≤ 1000) : ∀ n, n ≤ 10 → (∀ b, b < n → 0 ≤ (f (C b)).toInt ∧ (f (C b)).toInt ≤ m) → 0 ≤ (cSum f C n).toInt ∧ (cSum f C n).toInt ≤ m * n
  | 0, _, _ => ⟨by show 0 ≤ (0 : Int32).toInt; decide, by show (0 : Int32).toInt ≤ _; rw [show (0 : Int32).toInt = 0 from rfl]; omega⟩
  | n + 1, hn, h => by
    obtain ⟨i1, i2⟩ := cSum_rng hm n (by omega) (fun b hb => h b (by omega))
    obtain ⟨j1, j2⟩ := h n (by omega)
    have hb : m * n ≤ 10000 := by
      have h0 : 0 ≤ m := by omega
      calc m * n ≤ m * 10 := Int.mul_le_mul_of_nonneg_left (by omega) h0
        _ ≤ 10000 := by omega
    have e : (cSum f C n + f (C n)).toInt = (cSum f C n).toInt + (f (C n)).toInt := ti_add (by omega) (by omega)
    have e2 : m * ((n + 1 : Nat) : Int) = m * n + m := by push_cast; rw [Int.mul_add, Int.mul_one]
    show 0 ≤ (cSum f C n + f (C n)).toInt ∧ (cSum f C n + f (C n)).toInt ≤ _
    rw [e, e2]
    exact ⟨by omega, by omega⟩
theorem aLay_rng {C : Cru} (h : ∀ b, b < 10 → (C b).1.length ≤ 8) : 0 ≤ (aLay C).toInt ∧ (aLay C).toInt ≤ 80 := by
  have := cSum_rng (f := fun c => nI c.1.length) (C := C) (m := 8) (by decide) 10 (Nat.le_refl 10) (fun b hb => by
    have h8 := h b hb
    show 0 ≤ (nI (C b).1.length).toInt ∧ (nI (C b).1.length).toInt ≤ 8
    rw [nI_toInt (by omega)]
    omega)
  exact ⟨this.1, by have := this.2; show (cSum _ C 10).toInt ≤ 80; omega⟩
theorem gOk2.len {a1 a2 n : Int} {C : Cru} (h : gOk2 a1 a2 n C) : ∀ b, b < 10 → (C b).1.length ≤ 8 := fun b hb => (h.1 b hb).2.1
def xAdd (S : St) (b l k d t : Int32) : Xo :=
  if ¬ (0 ≤ b ∧ b ≤ 9) ∨ ¬ (0 ≤ k ∧ k ≤ 2) ∨ ¬ (1 ≤ t ∧ t ≤ 9999) then (-100000001, none)
  else if ¬ (0 ≤ l ∧ l ≤ nI (S.1 b.toNatClampNeg).1.length) ∨ ¬ (lLi k ≤ d ∧ d ≤ lHv k) then (-100000001, none)
  else if 8 ≤ (S.1 b.toNatClampNeg).1.length then (-100000003, none)
  else (nI ((S.1 b.toNatClampNeg).1.length + 1), some (stAcc (stCol S b.toNatClampNeg ((S.1 b.toNatClampNeg).1.insertIdx l.toNatClampNeg (k, d, t), (S.1 b.toNatClampNeg).2)) 0 (d * t)))
theorem oAdd_x (σ : Wd) (b l k d t : Int32) : oAdd σ b l k d t = lft σ (xAdd σ.1 b l k d t) := by
  unfold oAdd xAdd
  split
  · rfl
  · split
    · rfl
    · split <;> rfl
def xRem (S : St) (b l : Int32) : Xo :=
  if (0 ≤ b ∧ b ≤ 9) ∧ 0 ≤ l then match (S.1 b.toNatClampNeg).1[l.toNatClampNeg]? with
    | none => (-100000001, none)
    | some x => (x.2.2, some (stCol (stAcc S 1 (x.2.1 * x.2.2)) b.toNatClampNeg ((S.1 b.toNatClampNeg).1.eraseIdx l.toNatClampNeg, (S.1 b.toNatClampNeg).2)))
  else (-100000001, none)
theorem oRem_x (σ : Wd) (b l : Int32) : oRem σ b l = lft σ (xRem σ.1 b l) := by
  unfold oRem xRem
  by_cases h : (0 ≤ b ∧ b ≤ 9) ∧ 0 ≤ l
  · rw [if_pos h, if_pos h]
    cases hx : (σ.1.1 b.toNatClampNeg).1[l.toNatClampNeg]? <;> rfl
  · rw [if_neg h, if_neg h]
    rfl
def xStrip (S : St) (k : Int32) : Xo :=
  if 0 ≤ k ∧ k ≤ 2 then (aLay S.1 - aLay (sStrip S k).1, some (stAcc (sStrip S k) 1 (aWt S.1 - aWt (sStrip S k).1))) else (-100000001, none)
theorem oStrip_x (σ : Wd) (k : Int32) : oStrip σ k = lft σ (xStrip σ.1 k) := by
  unfold oStrip xStrip
  split <;> rfl
def xSettle (S : St) : Xo := (cSum (fun c => if c.2 = lbal c.1 then 0 else 1) S.1 10, some (stMap S (fun c => (c.1, lbal c.1))))
theorem oSettle_x (σ : Wd) : oSettle σ = lft σ (xSettle σ.1) := rfl
def xSet (S : St) (k v : Int32) : Xo :=
  if (0 ≤ k ∧ k ≤ 4) ∧ sLo k ≤ v ∧ v ≤ sHg k then (S.2.2.2.1 k.toNatClampNeg, some (stSet S k.toNatClampNeg v)) else (-100000001, none)
theorem oSet_x (σ : Wd) (k v : Int32) : oSet σ k v = lft σ (xSet σ.1 k v) := by
  unfold oSet xSet
  split <;> rfl
def xRun (S : St) (n : Int32) : Xo :=
  if ¬ (1 ≤ n ∧ n ≤ 50) then (-100000001, none)
  else if 1000 < S.2.2.2.2.2 + n then (-100000003, none)
  else (S.2.2.2.2.2 + n, some (stAdd (sStepN S n.toNatClampNeg) n))
theorem oRun_x (σ : Wd) (n : Int32) : oRun σ n = lft σ (xRun σ.1 n) := by
  unfold oRun xRun
  split
  · rfl
  · split <;> rfl
def xTake (S : St) (p : Int32) : Xo :=
  if 0 ≤ p ∧ p ≤ 1 then (aLay S.1, some (stSnap S p.toNatClampNeg)) else (-100000001, none)
theorem oTake_x (σ : Wd) (p : Int32) : oTake σ p = lft σ (xTake σ.1 p) := by
  unfold oTake xTake
  split <;> rfl
def xRest (S : St) (p : Int32) : Xo :=
  if 0 ≤ p ∧ p ≤ 1 then
    if S.2.2.1 p.toNatClampNeg = 0 then (-100000002, none)
    else (aLay (S.2.1 p.toNatClampNeg), some (stBack S p.toNatClampNeg))
  else (-100000001, none)
theorem oRest_x (σ : Wd) (p : Int32) : oRest σ p = lft σ (xRest σ.1 p) := by
  unfold oRest xRest
  split
  · split <;> rfl
  · rfl
/-! each act keeps the invariant -/
theorem le_err1 : (-100000001 : Int32) ≤ -100000001 := by decide
theorem le_err2 : (-100000002 : Int32) ≤ -100000001 := by decide
theorem le_err3 : (-100000003 : Int32) ≤ -100000001 := by decide
theorem nI_big {m : Nat} (h : m < 1000) : ¬ nI m ≤ -100000001 := big_of (by rw [nI_toInt (by omega)]; omega)
theorem add_good {N : Nat} {S : St} (h : good N S) (b l k d t : Int32) (h4 : t ≤ 4000) : xGood N (xAdd S b l k d t) := by
  unfold xAdd
  by_cases c1 : ¬ (0 ≤ b ∧ b ≤ 9) ∨ ¬ (0 ≤ k ∧ k ≤ 2) ∨ ¬ (1 ≤ t ∧ t ≤ 9999)
  · rw [if_pos c1]
    exact le_err1
  · rw [if_neg c1]
    by_cases c2 : ¬ (0 ≤ l ∧ l ≤ nI (S.1 b.toNatClampNeg).1.length) ∨ ¬ (lLi k ≤ d ∧ d ≤ lHv k)
    · rw [if_pos c2]
      exact le_err1
    · rw [if_neg c2]
      by_cases c3 : 8 ≤ (S.1 b.toNatClampNeg).1.length
      · rw [if_pos c3]
        exact le_err3
      · rw [if_neg c3]
        have hb : 0 ≤ b ∧ b ≤ 9 := Decidable.of_not_not (fun q => c1 (Or.inl q))
        have hk : 0 ≤ k ∧ k ≤ 2 := Decidable.of_not_not (fun q => c1 (Or.inr (Or.inl q)))
        have ht : 1 ≤ t ∧ t ≤ 9999 := Decidable.of_not_not (fun q => c1 (Or.inr (Or.inr q)))
        have hl : 0 ≤ l ∧ l ≤ nI (S.1 b.toNatClampNeg).1.length := Decidable.of_not_not (fun q => c2 (Or.inl q))
        have hd : lLi k ≤ d ∧ d ≤ lHv k := Decidable.of_not_not (fun q => c2 (Or.inr q))
        obtain ⟨j, hj, rfl⟩ := nI_bd (n := 9) (by decide) hb.1 hb.2
        have e : (nI j).toNatClampNeg = j := nI_clamp (by omega)
        rw [e] at hl c3 ⊢
        obtain ⟨i, hi, rfl⟩ := nI_bd (n := (S.1 j).1.length) (by omega) hl.1 hl.2
        have e2 : (nI i).toNatClampNeg = i := nI_clamp (by omega)
        rw [e2]
        have hv : vL0 (k, d, t) := by
          refine ⟨?_, ht.1, h4⟩
          rcases kd3 hk with rfl | rfl | rfl
          · exact Or.inl ⟨rfl, Int32.le_antisymm hd.2 hd.1⟩
          · exact Or.inr (Or.inl ⟨rfl, Int32.le_antisymm hd.2 hd.1⟩)
          · exact Or.inr (Or.inr ⟨rfl, hd⟩)
        obtain ⟨⟨a1, a2, n, ⟨g1, g2, g3, g4⟩, q2, q3, q4, q6⟩, hA, h0⟩ := h
        obtain ⟨k1, k2, i1, i2, i3, i4, i5⟩ := (g1.1 j (by omega)).insert hi (by omega) hv
        refine ⟨nI_big (by omega), ⟨a1 + k1, a2 + k2, n, ⟨g1.set (by omega) i1 i2 i4 i5, fun m hm => (g2 m hm).mono (by omega) (by omega) (Int.le_refl n), g3, g4⟩, by omega, by omega, q4, by omega⟩, ?_, h0⟩
        unfold accI at hA ⊢
        rw [accS_0]
        show aWt (cSet S.1 j ((S.1 j).1.insertIdx i (k, d, t), (S.1 j).2)) = accS S + d * t
        rw [aWt_set S.1 (by omega), lwt_ins _ _ _ hi, hA]
        show accS S - lwt (S.1 j).1 + (lwt (S.1 j).1 + d * t) = _
        grind
theorem rem_good {N : Nat} {S : St} (h : good N S) (b l : Int32) : xGood N (xRem S b l) := by
  unfold xRem
  by_cases c1 : (0 ≤ b ∧ b ≤ 9) ∧ 0 ≤ l
  · rw [if_pos c1]
    obtain ⟨j, hj, rfl⟩ := nI_bd (n := 9) (by decide) c1.1.1 c1.1.2
    have e : (nI j).toNatClampNeg = j := nI_clamp (by omega)
    rw [e]
    cases hx : (S.1 j).1[l.toNatClampNeg]? with
    | none => exact le_err1
    | some x =>
      have hlt := (List.getElem?_eq_some_iff.mp hx).1
      obtain ⟨⟨a1, a2, n, ⟨g1, g2, g3, g4⟩, q2, q3, q4, q6⟩, hA, h0⟩ := h
      obtain ⟨i1, i2⟩ := (g1.1 j (by omega)).erase hlt
      have g := g1.set (b := j) (by omega) (k1 := 0) (k2 := 0) (Int.le_refl 0) (Int.le_refl 0) (by rw [Int.add_zero, Int.add_zero]; exact i1) (by show sI xN ((S.1 j).1.eraseIdx l.toNatClampNeg) ≤ _; omega)
      rw [Int.add_zero, Int.add_zero] at g
      have vx := ((g1.1 j (by omega)).1 x (List.mem_of_getElem? hx)).2
      refine ⟨big_of (by show -100000 ≤ x.2.2.toInt; omega), ⟨a1, a2, n, ⟨g, g2, g3, g4⟩, q2, q3, q4, by omega⟩, ?_, h0⟩
      unfold accI at hA ⊢
      show aWt (cSet S.1 j ((S.1 j).1.eraseIdx l.toNatClampNeg, (S.1 j).2)) = accS (stAcc S 1 (x.2.1 * x.2.2))
      rw [accS_1, aWt_set S.1 (by omega), lwt_era hx, hA]
      show accS S - lwt (S.1 j).1 + (lwt (S.1 j).1 - x.2.1 * x.2.2) = _
      grind
  · rw [if_neg c1]
    exact le_err1
theorem strip_good {N : Nat} {S : St} (h : good N S) (k : Int32) : xGood N (xStrip S k) := by
  unfold xStrip
  by_cases c1 : 0 ≤ k ∧ k ≤ 2
  · rw [if_pos c1]
    obtain ⟨⟨a1, a2, n, ⟨g1, g2, g3, g4⟩, q2, q3, q4, q6⟩, hA, h0⟩ := h
    have gm := g1.map (fun c => (lDk k c.1, c.2)) (fun b hb => (g1.1 b hb).filter k)
    have r1 := aLay_rng g1.len
    have r2 := aLay_rng gm.len
    refine ⟨big_of ?_, ⟨a1, a2, n, ⟨gm, g2, g3, g4⟩, q2, q3, q4, by omega⟩, ?_, h0⟩
    · show -100000 ≤ (aLay S.1 - aLay (fun b => (lDk k (S.1 b).1, (S.1 b).2))).toInt
      rw [ti_sub (by omega) (by omega)]
      omega
    · unfold accI at hA ⊢
      rw [accS_1]
      show aWt (sStrip S k).1 = accS S - (aWt S.1 - aWt (sStrip S k).1)
      rw [hA]
      grind
  · rw [if_neg c1]
    exact le_err1
theorem settle_good {N : Nat} {S : St} (hN : N < 15) (h : good N S) : xGood N (xSettle S) := by
  obtain ⟨⟨a1, a2, n, ⟨g1, g2, g3, g4⟩, q2, q3, q4, q6⟩, hA, h0⟩ := h
  have l0 : lim a1 a2 n := okS_lim0 (by omega) q2 q3 q4 q6
  refine ⟨big_of ?_, ⟨a1, a2, n, ⟨g1.map (fun c => (c.1, lbal c.1)) (fun b hb => ⟨cOk.bal (g1.1 b hb).1 (g1.1 b hb).2.1 (g1.1 b hb).2.2.2.2.1 (g1.num l0 hb) l0, Int.le_refl _⟩), g2, g3, g4⟩, q2, q3, q4, by omega⟩, ?_, h0⟩
  · have := (cSum_rng (f := fun c => if c.2 = lbal c.1 then 0 else 1) (C := S.1) (m := 1) (by decide) 10 (Nat.le_refl 10) (fun b hb => by
      show 0 ≤ (if (S.1 b).2 = lbal (S.1 b).1 then (0 : Int32) else 1).toInt ∧ (if (S.1 b).2 = lbal (S.1 b).1 then (0 : Int32) else 1).toInt ≤ 1
      split <;> exact ⟨by decide, by decide⟩)).1
    show -100000 ≤ (cSum (fun c => if c.2 = lbal c.1 then 0 else 1) S.1 10).toInt
    omega
  · exact hA
theorem set_good {N : Nat} {S : St} (h : good N S) (k v : Int32) : xGood N (xSet S k v) := by
  unfold xSet
  by_cases c1 : (0 ≤ k ∧ k ≤ 4) ∧ sLo k ≤ v ∧ v ≤ sHg k
  · rw [if_pos c1]
    obtain ⟨⟨a1, a2, n, ⟨g1, g2, g3, g4⟩, q2, q3, q4, q6⟩, hA, h0⟩ := h
    obtain ⟨j, hj, rfl⟩ := nI_bd (n := 4) (by decide) c1.1.1 c1.1.2
    rw [nI_clamp (by omega)]
    have lo := Int32.le_iff_toInt_le.mp c1.2.1
    have hg := Int32.le_iff_toInt_le.mp c1.2.2
    obtain ⟨t1, t2, t3, t4, t5, t6, t7, t8⟩ := g3
    have gs : sOk (fun i => if i = j then v else S.2.2.2.1 i) ∧ -100000 ≤ (S.2.2.2.1 j).toInt ∧ -100000 ≤ (if 0 = j then v else S.2.2.2.1 0).toInt := by
      unfold sOk
      rcases (by omega : j = 0 ∨ j = 1 ∨ j = 2 ∨ j = 3 ∨ j = 4) with rfl | rfl | rfl | rfl | rfl
      · have lo : -5000 ≤ v.toInt := lo
        exact ⟨⟨t1, t2, t3, t4, t5, t6, t7, t8⟩, h0, by show -100000 ≤ v.toInt; omega⟩
      · exact ⟨⟨lo, hg, t3, t4, t5, t6, t7, t8⟩, by omega, h0⟩
      · exact ⟨⟨t1, t2, lo, hg, t5, t6, t7, t8⟩, by omega, h0⟩
      · exact ⟨⟨t1, t2, t3, t4, lo, hg, t7, t8⟩, by omega, h0⟩
      · exact ⟨⟨t1, t2, t3, t4, t5, t6, lo, hg⟩, by omega, h0⟩
    exact ⟨big_of gs.2.1, ⟨a1, a2, n, ⟨g1, g2, gs.1, g4⟩, q2, q3, q4, by omega⟩, hA, gs.2.2⟩
  · rw [if_neg c1]
    exact le_err1
theorem run_good {N : Nat} {S : St} (hN : N < 15) (h : good N S) (m : Nat) (hm : m ≤ 7) : xGood N (xRun S (nI m)) := by
  unfold xRun
  by_cases c1 : ¬ (1 ≤ nI m ∧ nI m ≤ 50)
  · rw [if_pos c1]
    exact le_err1
  · rw [if_neg c1]
    by_cases c2 : 1000 < S.2.2.2.2.2 + nI m
    · rw [if_pos c2]
      exact le_err3
    · rw [if_neg c2]
      have em : (nI m).toInt = (m : Int) := nI_toInt (by omega)
      rw [nI_clamp (by omega)]
      obtain ⟨⟨a1, a2, n, ⟨g1, g2, g3, g4⟩, q2, q3, q4, q6⟩, hA, h0⟩ := h
      have lk : lim a1 a2 (n + m) := okS_lim (by omega : N < 16) q2 q3 q4 q6 (by omega) (by omega)
      obtain ⟨-, -, s3, s4, s5⟩ := stepN_ok g1 q4 g3 m lk
      have sA := accI_stepN g1 q4 g3 hA m lk
      have e1 : (S.2.2.2.2.2 + nI m).toInt = n + m := by rw [ti_add (by rw [g4, em]; omega) (by rw [g4, em]; omega), g4, em]
      have e6 := sStepN_steps S m
      refine ⟨big_of (by show -100000 ≤ (S.2.2.2.2.2 + nI m).toInt; omega), ⟨a1, a2, n + m, ⟨s3, fun j hj => ?_, ?_, ?_⟩, q2, q3, by omega, by omega⟩, sA, ?_⟩
      · show gOk2 a1 a2 (n + m) ((sStepN S m).2.1 j)
        rw [s4]
        exact (g2 j hj).mono (Int.le_refl a1) (Int.le_refl a2) (by omega)
      · show sOk (sStepN S m).2.2.2.1
        rw [s5]
        exact g3
      · show ((sStepN S m).2.2.2.2.2 + nI m).toInt = n + m
        rw [e6]
        exact e1
      · show -100000 ≤ ((sStepN S m).2.2.2.1 0).toInt
        rw [s5]
        exact h0
theorem take_good {N : Nat} {S : St} (h : good N S) (p : Int32) : xGood N (xTake S p) := by
  unfold xTake
  by_cases c1 : 0 ≤ p ∧ p ≤ 1
  · rw [if_pos c1]
    obtain ⟨⟨a1, a2, n, ⟨g1, g2, g3, g4⟩, q2, q3, q4, q6⟩, hA, h0⟩ := h
    have r1 := aLay_rng g1.len
    refine ⟨big_of (by show -100000 ≤ (aLay S.1).toInt; omega), ⟨a1, a2, n, ⟨g1, fun j hj => ?_, g3, g4⟩, q2, q3, q4, by omega⟩, hA, h0⟩
    show gOk2 a1 a2 n (if j = p.toNatClampNeg then S.1 else S.2.1 j)
    split
    · exact g1
    · exact g2 j hj
  · rw [if_neg c1]
    exact le_err1
theorem rest_good {N : Nat} {S : St} (h : good N S) (p : Int32) : xGood N (xRest S p) := by
  unfold xRest
  by_cases c1 : 0 ≤ p ∧ p ≤ 1
  · rw [if_pos c1]
    by_cases c2 : S.2.2.1 p.toNatClampNeg = 0
    · rw [if_pos c2]
      exact le_err2
    · rw [if_neg c2]
      obtain ⟨j, hj, rfl⟩ := nI_bd (n := 1) (by decide) c1.1 c1.2
      rw [nI_clamp (by omega)]
      obtain ⟨⟨a1, a2, n, ⟨g1, g2, g3, g4⟩, q2, q3, q4, q6⟩, hA, h0⟩ := h
      have r1 := aLay_rng (g2 j (by omega)).len
      refine ⟨big_of (by show -100000 ≤ (aLay (S.2.1 j)).toInt; omega), ⟨a1, a2, n, ⟨g2 j (by omega), g2, g3, g4⟩, q2, q3, q4, by omega⟩, ?_, h0⟩
      unfold accI at hA ⊢
      unfold stBack
      rw [accS_0]
      show aWt (S.2.1 j) = accS (stAcc S 1 (aWt S.1)) + aWt (S.2.1 j)
      rw [accS_1, hA]
      grind
  · rw [if_neg c1]
    exact le_err1
