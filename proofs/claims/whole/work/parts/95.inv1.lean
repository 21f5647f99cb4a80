/-! the invariant of reachable worlds -/
def gdS (a1 a2 n : Int) (S : St) : Prop := gOk2 a1 a2 n S.1 ∧ (∀ j, j < 2 → gOk2 a1 a2 n (S.2.1 j)) ∧ sOk S.2.2.2.1 ∧ S.2.2.2.2.2.toInt = n
def okS (t N : Nat) (S : St) : Prop := ∃ a1 a2 n : Int, gdS a1 a2 n S ∧ 0 ≤ a1 ∧ 0 ≤ a2 ∧ 0 ≤ n ∧ n ≤ 1000 ∧ 50 * (a1 + a2 + t) + n ≤ 50 * N
def inv (σ : Wd) (N : Nat) : Prop := okS σ.2.2.2 N σ.1 ∧ ∀ S ∈ σ.2.1, okS σ.2.2.2 N S
theorem okS.mono {t N t' N' : Nat} {S : St} (h : okS t N S) (hm : (50 : Int) * t' + 50 * N ≤ 50 * t + 50 * N') : okS t' N' S := by
  obtain ⟨a1, a2, n, q1, q2, q3, q4, q5, q6⟩ := h
  exact ⟨a1, a2, n, q1, q2, q3, q4, q5, by omega⟩
theorem inv.keep {σ : Wd} {N : Nat} (h : inv σ N) {S : St} (hS : okS σ.2.2.2 (N + 1) S) : inv (wAct σ S) (N + 1) := by
  have m : ∀ T, okS σ.2.2.2 N T → okS σ.2.2.2 (N + 1) T := fun T q => q.mono (by omega)
  refine ⟨hS, fun T hT => m T ?_⟩
  have hT : T ∈ (if σ.2.1.length = 5 then σ.2.1.tail else σ.2.1) ++ [σ.1] := hT
  rcases List.mem_append.mp hT with a | a
  · split at a
    · exact h.2 T (List.mem_of_mem_tail a)
    · exact h.2 T a
  · rw [List.mem_singleton.mp a]
    exact h.1
theorem inv.next {σ : Wd} {N : Nat} (h : inv σ N) : inv σ (N + 1) := ⟨h.1.mono (by omega), fun S hS => (h.2 S hS).mono (by omega)⟩
theorem inv0 : inv σ0 0 := by
  have g : gOk2 0 0 0 (fun _ => (([], 0) : Col)) := by
    have c0 : cOk 0 0 0 (([], 0) : Col) := ⟨fun x hx => (by cases hx), Nat.zero_le _, by decide, by decide, by decide, by decide⟩
    refine ⟨fun b _ => c0, ?_⟩
    decide
  refine ⟨⟨0, 0, 0, ⟨g, fun _ _ => g, ?_, rfl⟩, by decide, by decide, by decide, by decide, by decide⟩, fun S hS => (by cases hS)⟩
  show sOk (fun k => (gSl 2).getD k 0)
  exact ⟨by decide, by decide, by decide, by decide, by decide, by decide, by decide, by decide⟩
theorem okS.lim {t N : Nat} {S : St} {a1 a2 n k : Int} (hN : N < 512) (q2 : 0 ≤ a1) (q3 : 0 ≤ a2) (q4 : 0 ≤ n) (q5 : n ≤ 1000) (q6 : 50 * (a1 + a2 + t) + n ≤ 50 * N) (hk : 0 ≤ k) (hk2 : k ≤ 100) : lim a1 a2 (n + k) := ⟨q2, q3, by omega, by omega, by omega⟩
theorem inv_need {σ : Wd} {N : Nat} (h : inv σ N) (hN : N < 512) : lwNeed σ := by
  obtain ⟨a1, a2, n, ⟨g1, g2, g3, g4⟩, q2, q3, q4, q5, q6⟩ := h.1
  have l0 : lim a1 a2 n := by
    have := okS.lim (S := σ.1) hN q2 q3 q4 q5 q6 (Int.le_refl 0) (by decide)
    rw [Int.add_zero] at this
    exact this
  have ok : ∀ m : Nat, m ≤ 100 → mOk σ.1 m := fun m hm => by
    obtain ⟨s1, s2, -⟩ := stepN_ok g1 q4 g3 m (okS.lim (S := σ.1) hN q2 q3 q4 q5 q6 (by omega) (by omega))
    exact ⟨s1, s2⟩
  have N_ := fun j (hj : j < 10) => g1.num l0 hj
  refine ⟨fun k hk => ?_, fun k hk => ?_, fun j hj => licw_lic (g1.1 j hj).1, fun j v hj hv x t hx hi => ?_, fun j hj d hd => mPr_eq (g1.1 j hj) (N_ j hj) l0 hd, fun j hj y => mDn_eq (g1.1 j hj) (N_ j hj) l0 y, fun j hj => bal_steps (g1.1 j hj) (N_ j hj) l0 g3.2.2.2.2.2.2.1 g3.2.2.2.2.2.2.2⟩
  · obtain ⟨m, hm, rfl⟩ := nI_bd (n := 50) (by decide) (Int32.le_trans (by decide) hk.1) hk.2
    rw [nI_clamp (by omega)]
    exact ok m (by omega)
  · obtain ⟨m, hm, rfl⟩ := nI_bd (n := 100) (by decide) hk.1 hk.2
    rw [nI_clamp (by omega)]
    exact ok m hm
  · obtain ⟨-, -, -, -, e1, e2, -⟩ := id g3
    rw [(tak_eq g1 l0 hj e1 e2 hv hx hi).1]
/-! what the calls make of a crust -/
theorem cOk.erase {a1 a2 n : Int} {c : Col} (h : cOk a1 a2 n c) {j : Nat} (hj : j < c.1.length) : cOk a1 a2 n (c.1.eraseIdx j, c.2) ∧ sI xN (c.1.eraseIdx j) ≤ sI xN c.1 := by
  obtain ⟨q1, q2, q3, q4, q5, q6⟩ := h
  have v := vOk_num (q1 c.1[j] (List.getElem_mem hj))
  have eI := sI_erase xI c.1 j hj
  have eT := sI_erase xT c.1 j hj
  have eN := sI_erase xN c.1 j hj
  refine ⟨⟨q1.erase j, ?_, q3, q4, ?_, ?_⟩, by omega⟩
  · show (c.1.eraseIdx j).length ≤ 8
    rw [List.length_eraseIdx]
    split <;> omega
  · show sI xI (c.1.eraseIdx j) ≤ _
    omega
  · show sI xT (c.1.eraseIdx j) - c.2.toInt ≤ _
    omega
theorem cOk.filter {a1 a2 n : Int} {c : Col} (h : cOk a1 a2 n c) (k : Int32) : cOk a1 a2 n (lDk k c.1, c.2) ∧ sI xN (lDk k c.1) ≤ sI xN c.1 := by
  obtain ⟨q1, q2, q3, q4, q5, q6⟩ := h
  have eI := sI_filter xI (fun x => !decide (x.1 = k)) c.1 q1.nnI
  have eT := sI_filter xT (fun x => !decide (x.1 = k)) c.1 q1.nnT
  have eN := sI_filter xN (fun x => !decide (x.1 = k)) c.1 q1.nnN
  refine ⟨⟨fun x hx => q1 x (List.mem_filter.mp hx).1, Nat.le_trans (List.length_filter_le _ _) q2, q3, q4, Int.le_trans eI q5, ?_⟩, eN⟩
  have e : sI xT (lDk k c.1) ≤ sI xT c.1 := eT
  show sI xT (lDk k c.1) - c.2.toInt ≤ _
  omega
theorem cOk.insert {a1 a2 n : Int} {c : Col} (h : cOk a1 a2 n c) {j : Nat} (hj : j ≤ c.1.length) (h8 : c.1.length < 8) {x : Lay} (hx : vL0 x) : ∃ k1 k2 : Int, 0 ≤ k1 ∧ 0 ≤ k2 ∧ k1 + k2 = 1 ∧ cOk (a1 + k1) (a2 + k2) n (c.1.insertIdx j x, c.2) ∧ sI xN (c.1.insertIdx j x) ≤ sI xN c.1 + 319968 * k1 := by
  obtain ⟨q1, q2, q3, q4, q5, q6⟩ := h
  have t1 : 1 ≤ x.2.2.toInt := Int32.le_iff_toInt_le.mp hx.2.1
  have t2 : x.2.2.toInt ≤ 9999 := Int32.le_iff_toInt_le.mp hx.2.2
  have vx : vOk x := ⟨hx.1, t1⟩
  have v := vOk_num vx
  have eI := sI_insert xI x c.1 j hj
  have eT := sI_insert xT x c.1 j hj
  have eN := sI_insert xN x c.1 j hj
  have ex : xT x = x.2.2.toInt := rfl
  have hl : (c.1.insertIdx j x).length ≤ 8 := by
    rw [List.length_insertIdx_of_le_length hj]
    omega
  by_cases hi : x.1 = 0
  · have xi : xI x = x.2.2.toInt := if_pos hi
    have xn : xN x = 0 := if_pos hi
    refine ⟨0, 1, by decide, by decide, by decide, ⟨q1.insert hj vx, hl, q3, ?_, ?_, ?_⟩, by omega⟩
    · show 33 * c.2.toInt ≤ _
      omega
    · show sI xI (c.1.insertIdx j x) ≤ _
      omega
    · show sI xT (c.1.insertIdx j x) - c.2.toInt ≤ _
      omega
  · have xi : xI x = 0 := if_neg hi
    refine ⟨1, 0, by decide, by decide, by decide, ⟨q1.insert hj vx, hl, q3, ?_, ?_, ?_⟩, by omega⟩
    · show 33 * c.2.toInt ≤ _
      omega
    · show sI xI (c.1.insertIdx j x) ≤ _
      omega
    · show sI xT (c.1.insertIdx j x) - c.2.toInt ≤ _
      omega
theorem gOk2.set {a1 a2 n : Int} {C : Cru} (h : gOk2 a1 a2 n C) {b : Nat} (hb : b < 10) {c : Col} {k1 k2 : Int} (k10 : 0 ≤ k1) (k20 : 0 ≤ k2) (hc : cOk (a1 + k1) (a2 + k2) n c) (hN : sI xN c.1 ≤ sI xN (C b).1 + 319968 * k1) : gOk2 (a1 + k1) (a2 + k2) n (cSet C b c) := by
  refine ⟨fun i hi => ?_, ?_⟩
  · unfold cSet
    by_cases e : i = b
    · rw [if_pos e]; exact hc
    · rw [if_neg e]; exact (h.1 i hi).mono (by omega) (by omega) (Int.le_refl n)
  · rw [nS_set C b c 10 hb]
    have := h.2
    omega
theorem nS_map {C D : Cru} : ∀ k, (∀ b, b < k → sI xN (D b).1 ≤ sI xN (C b).1) → nS D k ≤ nS C k
  | 0, _ => Int.le_refl 0
  | k + 1, h => by
    have a := nS_map (C := C) (D := D) k (fun b hb => h b (by omega))
    have b := h k (by omega)
    show nS D k + sI xN (D k).1 ≤ nS C k + sI xN (C k).1
    omega
theorem gOk2.map {a1 a2 n : Int} {C : Cru} (h : gOk2 a1 a2 n C) (f : Col → Col) (hf : ∀ b, b < 10 → cOk a1 a2 n (f (C b)) ∧ sI xN (f (C b)).1 ≤ sI xN (C b).1) : gOk2 a1 a2 n (fun b => f (C b)) :=
  ⟨fun b hb => (hf b hb).1, Int.le_trans (nS_map 10 (fun b hb => (hf b hb).2)) h.2⟩
/-- layers that a text gives -/
theorem text_num : ∀ (l : List Lay), (∀ x ∈ l, vL0 x) → lOk l ∧ ∃ k1 k2 : Int, 0 ≤ k1 ∧ 0 ≤ k2 ∧ k1 + k2 = l.length ∧ sI xI l ≤ 9999 * k2 ∧ sI xN l ≤ 319968 * k1
  | [], _ => ⟨fun x hx => (by cases hx), 0, 0, by decide, by decide, rfl, by decide, by decide⟩
  | x :: t, h => by
    have hx := h x List.mem_cons_self
    have t1 : 1 ≤ x.2.2.toInt := Int32.le_iff_toInt_le.mp hx.2.1
    have t2 : x.2.2.toInt ≤ 9999 := Int32.le_iff_toInt_le.mp hx.2.2
    have vx : vOk x := ⟨hx.1, t1⟩
    have v := vOk_num vx
    have ex : xT x = x.2.2.toInt := rfl
    obtain ⟨i1, k1, k2, i2, i3, i4, i5, i6⟩ := text_num t (fun y hy => h y (List.mem_cons_of_mem _ hy))
    have eI : sI xI (x :: t) = xI x + sI xI t := rfl
    have eN : sI xN (x :: t) = xN x + sI xN t := rfl
    have el : ((x :: t).length : Int) = t.length + 1 := by simp
    refine ⟨fun y hy => ?_, ?_⟩
    · rcases List.mem_cons.mp hy with rfl | hy
      · exact vx
      · exact i1 y hy
    · by_cases hi : x.1 = 0
      · have xi : xI x = x.2.2.toInt := if_pos hi
        have xn : xN x = 0 := if_pos hi
        exact ⟨k1, k2 + 1, i2, by omega, by omega, by omega, by omega⟩
      · have xi : xI x = 0 := if_neg hi
        exact ⟨k1 + 1, k2, by omega, i3, by omega, by omega, by omega⟩
theorem load_ok {a1 a2 n : Int} {S : St} {b : Nat} {l : List Lay} (h : gdS a1 a2 n S) (hb : b < 10) (hv : ∀ x ∈ l, vL0 x) (h8 : l.length ≤ 8) (h1 : 0 ≤ a1) (h2 : 0 ≤ a2) (h3 : 0 ≤ n) (h4 : n ≤ 1000) (h5 : 50 * (a1 + a2 + l.length) + n ≤ 25700) : ∃ k1 k2 : Int, 0 ≤ k1 ∧ 0 ≤ k2 ∧ k1 + k2 = l.length ∧ gdS (a1 + k1) (a2 + k2) n (sLoad S b l) := by
  obtain ⟨i1, k1, k2, i2, i3, i4, i5, i6⟩ := text_num l hv
  obtain ⟨g1, g2, g3, g4⟩ := h
  have hn := sI_nn xN _ (g1.1 b hb).1.nnN
  have hl : lim (a1 + k1) (a2 + k2) n := ⟨by omega, by omega, h3, by omega, by omega⟩
  have hc : cOk (a1 + k1) (a2 + k2) n (l, lbal l) := cOk.bal (c := (l, lbal l)) i1 h8 (by show sI xI l ≤ _; omega) (by show sI xN l ≤ _; omega) hl
  refine ⟨k1, k2, i2, i3, i4, ?_, fun j hj => (g2 j hj).mono (by omega) (by omega) (Int.le_refl n), g3, g4⟩
  show gOk2 (a1 + k1) (a2 + k2) n (cSet S.1 b (l, lbal l))
  exact g1.set hb i2 i3 hc (by show sI xN l ≤ _; omega)
theorem pIt_ok {t : Nat → Int32} {m : Nat} : ∀ (f : Nat) {S S' : St} {p i i' : Nat} {a1 a2 n : Int}, p ≤ m → gdS a1 a2 n S → 0 ≤ a1 → 0 ≤ a2 → 0 ≤ n → n ≤ 1000 → 50 * (a1 + a2 + ((m : Int) - p)) + n ≤ 25700 → pIt t m f S p i = .inr (S', i') → ∃ k1 k2 : Int, 0 ≤ k1 ∧ 0 ≤ k2 ∧ k1 + k2 ≤ (m : Int) - p ∧ gdS (a1 + k1) (a2 + k2) n S'
  | 0, S, S', p, i, i', a1, a2, n, hp, hS, h1, h2, h3, h4, h5, h => by
    unfold pIt at h
    injection h with h
    injection h with e1 e2
    subst e1
    exact ⟨0, 0, Int.le_refl 0, Int.le_refl 0, by omega, by rw [Int.add_zero, Int.add_zero]; exact hS⟩
  | f + 1, S, S', p, i, i', a1, a2, n, hp, hS, h1, h2, h3, h4, h5, h => by
    have z := skp_le (t := t) hp
    unfold pIt at h
    split at h
    · injection h with h
      injection h with e1 e2
      subst e1
      exact ⟨0, 0, Int.le_refl 0, Int.le_refl 0, by omega, by rw [Int.add_zero, Int.add_zero]; exact hS⟩
    · split at h
      · cases h
      · rename_i p2 S2 hq
        obtain ⟨b, l, b10, rfl, hv, h8, q1, q2⟩ := pItem_inr z.2 hq
        obtain ⟨k1, k2, i1, i2, i3, i4⟩ := load_ok hS b10 hv h8 h1 h2 h3 h4 (by omega)
        obtain ⟨j1, j2, m1, m2, m3, m4⟩ := pIt_ok f q2 i4 (by omega) (by omega) h3 h4 (by omega) h
        exact ⟨k1 + j1, k2 + j2, by omega, by omega, by omega, by rw [← Int.add_assoc, ← Int.add_assoc]; exact m4⟩
