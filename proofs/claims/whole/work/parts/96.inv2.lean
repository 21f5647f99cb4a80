/-! every call keeps the invariant -/
theorem okS.acc {t N : Nat} {S : St} (h : okS t N S) (k : Nat) (x : Int32) : okS t N (stAcc S k x) := h
theorem inv_add {σ : Wd} {N : Nat} (h : inv σ N) (b l k d t : Int32) : inv (oAdd σ b l k d t).2 (N + 1) := by
  unfold oAdd
  by_cases c1 : ¬ (0 ≤ b ∧ b ≤ 9) ∨ ¬ (0 ≤ k ∧ k ≤ 2) ∨ ¬ (1 ≤ t ∧ t ≤ 9999)
  · rw [if_pos c1]
    exact h.next
  · rw [if_neg c1]
    by_cases c2 : ¬ (0 ≤ l ∧ l ≤ nI (σ.1.1 b.toNatClampNeg).1.length) ∨ ¬ (lLi k ≤ d ∧ d ≤ lHv k)
    · rw [if_pos c2]
      exact h.next
    · rw [if_neg c2]
      by_cases c3 : 8 ≤ (σ.1.1 b.toNatClampNeg).1.length
      · rw [if_pos c3]
        exact h.next
      · rw [if_neg c3]
        have hb : 0 ≤ b ∧ b ≤ 9 := Decidable.of_not_not (fun q => c1 (Or.inl q))
        have hk : 0 ≤ k ∧ k ≤ 2 := Decidable.of_not_not (fun q => c1 (Or.inr (Or.inl q)))
        have ht : 1 ≤ t ∧ t ≤ 9999 := Decidable.of_not_not (fun q => c1 (Or.inr (Or.inr q)))
        have hl : 0 ≤ l ∧ l ≤ nI (σ.1.1 b.toNatClampNeg).1.length := Decidable.of_not_not (fun q => c2 (Or.inl q))
        have hd : lLi k ≤ d ∧ d ≤ lHv k := Decidable.of_not_not (fun q => c2 (Or.inr q))
        obtain ⟨j, hj, rfl⟩ := nI_bd (n := 9) (by decide) hb.1 hb.2
        have e : (nI j).toNatClampNeg = j := nI_clamp (by omega)
        rw [e] at hl c3 ⊢
        obtain ⟨i, hi, rfl⟩ := nI_bd (n := (σ.1.1 j).1.length) (by omega) hl.1 hl.2
        have e2 : (nI i).toNatClampNeg = i := nI_clamp (by omega)
        rw [e2]
        have hv : vL0 (k, d, t) := by
          refine ⟨?_, ht⟩
          rcases kd3 hk with rfl | rfl | rfl
          · exact Or.inl ⟨rfl, Int32.le_antisymm hd.2 hd.1⟩
          · exact Or.inr (Or.inl ⟨rfl, Int32.le_antisymm hd.2 hd.1⟩)
          · exact Or.inr (Or.inr ⟨rfl, hd⟩)
        refine h.keep ?_
        obtain ⟨a1, a2, n, ⟨g1, g2, g3, g4⟩, q2, q3, q4, q5, q6⟩ := h.1
        obtain ⟨k1, k2, i1, i2, i3, i4, i5⟩ := (g1.1 j (by omega)).insert hi (by omega) hv
        exact ⟨a1 + k1, a2 + k2, n, ⟨g1.set (by omega) i1 i2 i4 i5, fun m hm => (g2 m hm).mono (by omega) (by omega) (Int.le_refl n), g3, g4⟩, by omega, by omega, q4, q5, by omega⟩
theorem inv_rem {σ : Wd} {N : Nat} (h : inv σ N) (b l : Int32) : inv (oRem σ b l).2 (N + 1) := by
  unfold oRem
  by_cases c1 : (0 ≤ b ∧ b ≤ 9) ∧ 0 ≤ l
  · rw [if_pos c1]
    obtain ⟨j, hj, rfl⟩ := nI_bd (n := 9) (by decide) c1.1.1 c1.1.2
    have e : (nI j).toNatClampNeg = j := nI_clamp (by omega)
    rw [e]
    cases hx : (σ.1.1 j).1[l.toNatClampNeg]? with
    | none => exact h.next
    | some x =>
      refine h.keep ?_
      have hlt := (List.getElem?_eq_some_iff.mp hx).1
      obtain ⟨a1, a2, n, ⟨g1, g2, g3, g4⟩, q2, q3, q4, q5, q6⟩ := h.1
      obtain ⟨i1, i2⟩ := (g1.1 j (by omega)).erase hlt
      have g := g1.set (b := j) (by omega) (k1 := 0) (k2 := 0) (Int.le_refl 0) (Int.le_refl 0) (by rw [Int.add_zero, Int.add_zero]; exact i1) (by show sI xN ((σ.1.1 j).1.eraseIdx l.toNatClampNeg) ≤ _; omega)
      rw [Int.add_zero, Int.add_zero] at g
      exact ⟨a1, a2, n, ⟨g, g2, g3, g4⟩, q2, q3, q4, q5, by omega⟩
  · rw [if_neg c1]
    exact h.next
theorem inv_strip {σ : Wd} {N : Nat} (h : inv σ N) (k : Int32) : inv (oStrip σ k).2 (N + 1) := by
  unfold oStrip
  by_cases c1 : 0 ≤ k ∧ k ≤ 2
  · rw [if_pos c1]
    refine h.keep ?_
    obtain ⟨a1, a2, n, ⟨g1, g2, g3, g4⟩, q2, q3, q4, q5, q6⟩ := h.1
    exact ⟨a1, a2, n, ⟨g1.map (fun c => (lDk k c.1, c.2)) (fun b hb => (g1.1 b hb).filter k), g2, g3, g4⟩, q2, q3, q4, q5, by omega⟩
  · rw [if_neg c1]
    exact h.next
theorem inv_settle {σ : Wd} {N : Nat} (h : inv σ N) (hN : N < 512) : inv (oSettle σ).2 (N + 1) := by
  unfold oSettle
  refine h.keep ?_
  obtain ⟨a1, a2, n, ⟨g1, g2, g3, g4⟩, q2, q3, q4, q5, q6⟩ := h.1
  have l0 : lim a1 a2 n := by
    have := okS.lim (S := σ.1) hN q2 q3 q4 q5 q6 (Int.le_refl 0) (by decide)
    rw [Int.add_zero] at this
    exact this
  exact ⟨a1, a2, n, ⟨g1.map (fun c => (c.1, lbal c.1)) (fun b hb => ⟨cOk.bal (g1.1 b hb).1 (g1.1 b hb).2.1 (g1.1 b hb).2.2.2.2.1 (g1.num l0 hb) l0, Int.le_refl _⟩), g2, g3, g4⟩, q2, q3, q4, q5, by omega⟩
theorem inv_set {σ : Wd} {N : Nat} (h : inv σ N) (k v : Int32) : inv (oSet σ k v).2 (N + 1) := by
  unfold oSet
  by_cases c1 : (0 ≤ k ∧ k ≤ 4) ∧ sLo k ≤ v ∧ v ≤ sHg k
  · rw [if_pos c1]
    refine h.keep ?_
    obtain ⟨a1, a2, n, ⟨g1, g2, g3, g4⟩, q2, q3, q4, q5, q6⟩ := h.1
    obtain ⟨j, hj, rfl⟩ := nI_bd (n := 4) (by decide) c1.1.1 c1.1.2
    rw [nI_clamp (by omega)]
    have lo := Int32.le_iff_toInt_le.mp c1.2.1
    have hg := Int32.le_iff_toInt_le.mp c1.2.2
    obtain ⟨t1, t2, t3, t4, t5, t6, t7, t8⟩ := g3
    have gs : sOk (fun i => if i = j then v else σ.1.2.2.2.1 i) := by
      unfold sOk
      rcases (by omega : j = 0 ∨ j = 1 ∨ j = 2 ∨ j = 3 ∨ j = 4) with rfl | rfl | rfl | rfl | rfl
      · exact ⟨t1, t2, t3, t4, t5, t6, t7, t8⟩
      · exact ⟨lo, hg, t3, t4, t5, t6, t7, t8⟩
      · exact ⟨t1, t2, lo, hg, t5, t6, t7, t8⟩
      · exact ⟨t1, t2, t3, t4, lo, hg, t7, t8⟩
      · exact ⟨t1, t2, t3, t4, t5, t6, lo, hg⟩
    exact ⟨a1, a2, n, ⟨g1, g2, gs, g4⟩, q2, q3, q4, q5, by omega⟩
  · rw [if_neg c1]
    exact h.next
theorem inv_run {σ : Wd} {N : Nat} (h : inv σ N) (hN : N < 512) (k : Int32) : inv (oRun σ k).2 (N + 1) := by
  unfold oRun
  by_cases c1 : ¬ (1 ≤ k ∧ k ≤ 50)
  · rw [if_pos c1]
    exact h.next
  · rw [if_neg c1]
    by_cases c2 : 1000 < σ.1.2.2.2.2.2 + k
    · rw [if_pos c2]
      exact h.next
    · rw [if_neg c2]
      refine h.keep ?_
      have hk := Decidable.of_not_not c1
      obtain ⟨m, hm, rfl⟩ := nI_bd (n := 50) (by decide) (Int32.le_trans (by decide) hk.1) hk.2
      have em : (nI m).toInt = (m : Int) := nI_toInt (by omega)
      rw [nI_clamp (by omega)]
      obtain ⟨a1, a2, n, ⟨g1, g2, g3, g4⟩, q2, q3, q4, q5, q6⟩ := h.1
      obtain ⟨-, -, s3, s4, s5⟩ := stepN_ok g1 q4 g3 m (okS.lim (S := σ.1) hN q2 q3 q4 q5 q6 (by omega) (by omega))
      have e1 : (σ.1.2.2.2.2.2 + nI m).toInt = n + m := by rw [ti_add (by rw [g4, em]; omega) (by rw [g4, em]; omega), g4, em]
      have le : n + m ≤ 1000 := by
        have : (σ.1.2.2.2.2.2 + nI m).toInt ≤ 1000 := Int32.le_iff_toInt_le.mp (Int32.not_lt.mp c2)
        omega
      refine ⟨a1, a2, n + m, ⟨s3, fun j hj => ?_, ?_, ?_⟩, q2, q3, by omega, le, by omega⟩
      · show gOk2 a1 a2 (n + m) ((sStepN σ.1 m).2.1 j)
        rw [s4]
        exact (g2 j hj).mono (Int.le_refl a1) (Int.le_refl a2) (by omega)
      · show sOk (sStepN σ.1 m).2.2.2.1
        rw [s5]
        exact g3
      · show ((sStepN σ.1 m).2.2.2.2.2 + nI m).toInt = n + m
        rw [sStepN_steps]
        exact e1
theorem inv_take {σ : Wd} {N : Nat} (h : inv σ N) (p : Int32) : inv (oTake σ p).2 (N + 1) := by
  unfold oTake
  by_cases c1 : 0 ≤ p ∧ p ≤ 1
  · rw [if_pos c1]
    refine h.keep ?_
    obtain ⟨a1, a2, n, ⟨g1, g2, g3, g4⟩, q2, q3, q4, q5, q6⟩ := h.1
    refine ⟨a1, a2, n, ⟨g1, fun j hj => ?_, g3, g4⟩, q2, q3, q4, q5, by omega⟩
    show gOk2 a1 a2 n (if j = p.toNatClampNeg then σ.1.1 else σ.1.2.1 j)
    split
    · exact g1
    · exact g2 j hj
  · rw [if_neg c1]
    exact h.next
theorem inv_rest {σ : Wd} {N : Nat} (h : inv σ N) (p : Int32) : inv (oRest σ p).2 (N + 1) := by
  unfold oRest
  by_cases c1 : 0 ≤ p ∧ p ≤ 1
  · rw [if_pos c1]
    by_cases c2 : σ.1.2.2.1 p.toNatClampNeg = 0
    · rw [if_pos c2]
      exact h.next
    · rw [if_neg c2]
      refine h.keep ?_
      obtain ⟨j, hj, rfl⟩ := nI_bd (n := 1) (by decide) c1.1 c1.2
      rw [nI_clamp (by omega)]
      obtain ⟨a1, a2, n, ⟨g1, g2, g3, g4⟩, q2, q3, q4, q5, q6⟩ := h.1
      exact ⟨a1, a2, n, ⟨g2 j (by omega), g2, g3, g4⟩, q2, q3, q4, q5, by omega⟩
  · rw [if_neg c1]
    exact h.next
theorem inv_undo {σ : Wd} {N : Nat} (h : inv σ N) : inv (oUndo σ).2 (N + 1) := by
  unfold oUndo
  cases hl : σ.2.1.getLast? with
  | none => exact h.next
  | some S =>
    have hm : S ∈ σ.2.1 := List.mem_of_getLast? hl
    show inv (S, σ.2.1.dropLast, σ.2.2) (N + 1)
    refine ⟨(h.2 S hm).mono (by show (50 : Int) * σ.2.2.2 + 50 * N ≤ 50 * σ.2.2.2 + 50 * ((N + 1 : Nat) : Int); omega), fun T hT => ?_⟩
    have hT : T ∈ σ.2.1.dropLast := hT
    exact (h.2 T (List.dropLast_subset _ hT)).mono (by show (50 : Int) * σ.2.2.2 + 50 * N ≤ 50 * σ.2.2.2 + 50 * ((N + 1 : Nat) : Int); omega)
theorem inv_app {σ : Wd} {N : Nat} (h : inv σ N) (c : Int32) : inv (oApp σ c).2 (N + 1) := by
  unfold oApp
  by_cases c1 : ¬ (1 ≤ c ∧ c ≤ 255)
  · rw [if_pos c1]
    exact h.next
  · rw [if_neg c1]
    by_cases c2 : 140 ≤ σ.2.2.2
    · rw [if_pos c2]
      exact h.next
    · rw [if_neg c2]
      exact ⟨h.1.mono (by show (50 : Int) * ((σ.2.2.2 + 1 : Nat) : Int) + 50 * N ≤ 50 * σ.2.2.2 + 50 * ((N + 1 : Nat) : Int); omega), fun S hS => (h.2 S hS).mono (by show (50 : Int) * ((σ.2.2.2 + 1 : Nat) : Int) + 50 * N ≤ 50 * σ.2.2.2 + 50 * ((N + 1 : Nat) : Int); omega)⟩
theorem inv_clr {σ : Wd} {N : Nat} (h : inv σ N) : inv (oClr σ).2 (N + 1) := by
  unfold oClr
  exact ⟨h.1.mono (by show (50 : Int) * ((0 : Nat) : Int) + 50 * N ≤ 50 * σ.2.2.2 + 50 * ((N + 1 : Nat) : Int); omega), fun S hS => (h.2 S hS).mono (by show (50 : Int) * ((0 : Nat) : Int) + 50 * N ≤ 50 * σ.2.2.2 + 50 * ((N + 1 : Nat) : Int); omega)⟩
theorem inv_load {σ : Wd} {N : Nat} (h : inv σ N) (hN : N < 512) : inv (oLoad σ).2 (N + 1) := by
  unfold oLoad
  cases hp : pText σ.2.2.1 σ.2.2.2 σ.1 with
  | inl e => exact h.next
  | inr r =>
    obtain ⟨S', i⟩ := r
    obtain ⟨a1, a2, n, g, q2, q3, q4, q5, q6⟩ := h.1
    obtain ⟨k1, k2, i1, i2, i3, i4⟩ := pIt_ok 140 (Nat.zero_le σ.2.2.2) g q2 q3 q4 q5 (by omega) hp
    have kp := inv.keep h (S := σ.1) (h.1.mono (by omega))
    refine ⟨⟨a1 + k1, a2 + k2, n, i4, by omega, by omega, q4, q5, ?_⟩, fun T hT => ?_⟩
    · show 50 * (a1 + k1 + (a2 + k2) + ((0 : Nat) : Int)) + n ≤ 50 * ((N + 1 : Nat) : Int)
      omega
    · exact (kp.2 T hT).mono (by show (50 : Int) * ((0 : Nat) : Int) + 50 * ((N + 1 : Nat) : Int) ≤ 50 * σ.2.2.2 + 50 * ((N + 1 : Nat) : Int); omega)
theorem inv_all : lwInv inv := ⟨inv0, fun σ N h hN _ => ⟨inv_need h hN, h.next, fun b l k d t => inv_add h b l k d t, fun b l => inv_rem h b l, fun k => inv_strip h k, inv_settle h hN, fun k v => inv_set h k v, fun k => inv_run h hN k, fun p => inv_take h p, fun p => inv_rest h p, inv_undo h, fun c => inv_app h c, inv_clr h, inv_load h hN⟩⟩
theorem whole_start {p : Program} {e : Env} {s : State} {m : MethodId} {below : List Frame} {meth : Method} {c : Code} (l : Launch) (hflags : l.flags = flags0) {b L : Nat} {xs : Nat → Int32} (hL : L ≤ 3072) (C0 : lw_At p s m meth c b L xs) : W p l e room_1 s m #[Value.ref b] below meth c s.heap [] 0 0 (lw_Z below #[Value.ref b] s) (entryFrame m ([Value.ref b] : List Value).toArray 4) := whole_start_open inv inv_all l hL C0
