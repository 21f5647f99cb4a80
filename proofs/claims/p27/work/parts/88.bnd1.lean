/-! bounds: sums over layers, as whole numbers -/
def vOk (x : Lay) : Prop := ((x.1 = 0 ∧ x.2.1 = 9) ∨ (x.1 = 1 ∧ x.2.1 = 22) ∨ (x.1 = 2 ∧ 24 ≤ x.2.1 ∧ x.2.1 ≤ 32)) ∧ 1 ≤ x.2.2.toInt
def xW (x : Lay) : Int := x.2.1.toInt * x.2.2.toInt
def xT (x : Lay) : Int := x.2.2.toInt
def xI (x : Lay) : Int := if x.1 = 0 then x.2.2.toInt else 0
def xN (x : Lay) : Int := if x.1 = 0 then 0 else xW x
def sI (f : Lay → Int) : List Lay → Int
  | [] => 0
  | x :: t => f x + sI f t
theorem sI_append (f : Lay → Int) : ∀ (a b : List Lay), sI f (a ++ b) = sI f a + sI f b
  | [], b => (Int.zero_add _).symm
  | x :: a, b => by
    show f x + sI f (a ++ b) = f x + sI f a + sI f b
    rw [sI_append f a b]
    omega
theorem sI_erase (f : Lay → Int) : ∀ (l : List Lay) (j : Nat) (h : j < l.length), sI f (l.eraseIdx j) = sI f l - f l[j]
  | x :: t, 0, _ => by
    show sI f t = f x + sI f t - f x
    omega
  | x :: t, j + 1, h => by
    have h' : j < t.length := Nat.lt_of_succ_lt_succ h
    have := sI_erase f t j h'
    show f x + sI f (t.eraseIdx j) = f x + sI f t - f t[j]
    omega
theorem sI_insert (f : Lay → Int) (y : Lay) : ∀ (l : List Lay) (j : Nat), j ≤ l.length → sI f (l.insertIdx j y) = sI f l + f y
  | l, 0, _ => by
    rw [List.insertIdx_zero]
    show f y + sI f l = _
    omega
  | x :: t, j + 1, h => by
    have := sI_insert f y t j (Nat.le_of_succ_le_succ h)
    rw [List.insertIdx_succ_cons]
    show f x + sI f (t.insertIdx j y) = f x + sI f t + f y
    omega
theorem sI_set (f : Lay → Int) (y : Lay) : ∀ (l : List Lay) (j : Nat) (h : j < l.length), sI f (l.set j y) = sI f l - f l[j] + f y
  | x :: t, 0, _ => by
    show f y + sI f t = f x + sI f t - f x + f y
    omega
  | x :: t, j + 1, h => by
    have h' : j < t.length := Nat.lt_of_succ_lt_succ h
    have := sI_set f y t j h'
    show f x + sI f (t.set j y) = f x + sI f t - f t[j] + f y
    omega
theorem sI_nn (f : Lay → Int) : ∀ (l : List Lay), (∀ x ∈ l, 0 ≤ f x) → 0 ≤ sI f l
  | [], _ => Int.le_refl 0
  | x :: t, h => by
    have := sI_nn f t (fun y hy => h y (List.mem_cons_of_mem _ hy))
    have := h x List.mem_cons_self
    show 0 ≤ f x + sI f t
    omega
theorem sI_filter (f : Lay → Int) (p : Lay → Bool) : ∀ (l : List Lay), (∀ x ∈ l, 0 ≤ f x) → sI f (l.filter p) ≤ sI f l
  | [], _ => Int.le_refl 0
  | x :: t, h => by
    have h1 := sI_filter f p t (fun y hy => h y (List.mem_cons_of_mem _ hy))
    have h2 := h x List.mem_cons_self
    rw [List.filter_cons]
    split
    · show f x + sI f (t.filter p) ≤ f x + sI f t
      omega
    · show _ ≤ f x + sI f t
      omega
theorem sI_at (f : Lay → Int) (l : List Lay) (h : ∀ x ∈ l, 0 ≤ f x) {j : Nat} (hj : j < l.length) : f l[j] ≤ sI f l := by
  have h1 := sI_erase f l j hj
  have h2 := sI_nn f (l.eraseIdx j) (fun x hx => h x (List.mem_of_mem_eraseIdx hx))
  omega
/-- a layer's numbers -/
theorem vOk_num {x : Lay} (h : vOk x) : 1 ≤ xT x ∧ 0 ≤ xI x ∧ xI x ≤ xT x ∧ 0 ≤ xN x ∧ xW x = xN x + 9 * xI x ∧ 22 * xT x - 22 * xI x ≤ xN x ∧ 66 * xT x ≤ 2 * xW x + 48 * xI x + xN x ∧ xN x ≤ 32 * xT x - 32 * xI x := by
  obtain ⟨hk, ht⟩ := h
  unfold xN xI xW xT
  have t9 : (9 : Int32).toInt = 9 := rfl
  have t22 : (22 : Int32).toInt = 22 := rfl
  rcases hk with ⟨a, b⟩ | ⟨a, b⟩ | ⟨a, b, c⟩
  · rw [if_pos a, if_pos a, b, t9]
    omega
  · have n0 : ¬ x.1 = 0 := by rw [a]; decide
    rw [if_neg n0, if_neg n0, b, t22]
    omega
  · have n0 : ¬ x.1 = 0 := by rw [a]; decide
    rw [if_neg n0, if_neg n0]
    have b1 : 24 ≤ x.2.1.toInt := Int32.le_iff_toInt_le.mp b
    have c1 : x.2.1.toInt ≤ 32 := Int32.le_iff_toInt_le.mp c
    have p1 := Int.mul_le_mul_of_nonneg_right b1 (show 0 ≤ x.2.2.toInt by omega)
    have p2 := Int.mul_le_mul_of_nonneg_right c1 (show 0 ≤ x.2.2.toInt by omega)
    generalize x.2.1.toInt * x.2.2.toInt = p at *
    omega
theorem vOk_dens {x : Lay} (h : vOk x) : 9 ≤ x.2.1.toInt ∧ x.2.1.toInt ≤ 32 := by
  rcases h.1 with ⟨a, b⟩ | ⟨a, b⟩ | ⟨a, b, c⟩
  · rw [b]; decide
  · rw [b]; decide
  · exact ⟨by have : 24 ≤ x.2.1.toInt := Int32.le_iff_toInt_le.mp b; omega, Int32.le_iff_toInt_le.mp c⟩
def lOk (l : List Lay) : Prop := ∀ x ∈ l, vOk x
theorem lOk.tail {x : Lay} {t : List Lay} (h : lOk (x :: t)) : lOk t := fun y hy => h y (List.mem_cons_of_mem _ hy)
theorem lOk_num : ∀ {l : List Lay}, lOk l → (l.length : Int) ≤ sI xT l ∧ 0 ≤ sI xI l ∧ sI xI l ≤ sI xT l ∧ 0 ≤ sI xN l ∧ sI xW l = sI xN l + 9 * sI xI l ∧ 22 * sI xT l - 22 * sI xI l ≤ sI xN l ∧ 66 * sI xT l ≤ 2 * sI xW l + 48 * sI xI l + sI xN l ∧ sI xN l ≤ 32 * sI xT l - 32 * sI xI l
  | [], _ => by
    show ((0 : Nat) : Int) ≤ 0 ∧ (0 : Int) ≤ 0 ∧ (0 : Int) ≤ 0 ∧ (0 : Int) ≤ 0 ∧ (0 : Int) = 0 + 9 * 0 ∧ (22 : Int) * 0 - 22 * 0 ≤ 0 ∧ (66 : Int) * 0 ≤ 2 * 0 + 48 * 0 + 0 ∧ (0 : Int) ≤ 32 * 0 - 32 * 0
    omega
  | x :: t, h => by
    have h1 := vOk_num (h x List.mem_cons_self)
    have h2 := lOk_num h.tail
    show ((t.length + 1 : Nat) : Int) ≤ xT x + sI xT t ∧ 0 ≤ xI x + sI xI t ∧ xI x + sI xI t ≤ xT x + sI xT t ∧ 0 ≤ xN x + sI xN t ∧ xW x + sI xW t = (xN x + sI xN t) + 9 * (xI x + sI xI t) ∧ 22 * (xT x + sI xT t) - 22 * (xI x + sI xI t) ≤ xN x + sI xN t ∧ 66 * (xT x + sI xT t) ≤ 2 * (xW x + sI xW t) + 48 * (xI x + sI xI t) + (xN x + sI xN t) ∧ xN x + sI xN t ≤ 32 * (xT x + sI xT t) - 32 * (xI x + sI xI t)
    omega
theorem lOk.nnT {l : List Lay} (h : lOk l) : ∀ x ∈ l, 0 ≤ xT x := fun x hx => by have := vOk_num (h x hx); omega
theorem lOk.nnW {l : List Lay} (h : lOk l) : ∀ x ∈ l, 0 ≤ xW x := fun x hx => by have := vOk_num (h x hx); omega
theorem lOk.nnN {l : List Lay} (h : lOk l) : ∀ x ∈ l, 0 ≤ xN x := fun x hx => by have := vOk_num (h x hx); omega
theorem lOk.nnI {l : List Lay} (h : lOk l) : ∀ x ∈ l, 0 ≤ xI x := fun x hx => by have := vOk_num (h x hx); omega
theorem lOk.erase {l : List Lay} (h : lOk l) (j : Nat) : lOk (l.eraseIdx j) := fun x hx => h x (List.mem_of_mem_eraseIdx hx)
theorem lOk.set {l : List Lay} (h : lOk l) (j : Nat) {y : Lay} (hy : vOk y) : lOk (l.set j y) := fun x hx => by
  rcases List.mem_or_eq_of_mem_set hx with a | a
  · exact h x a
  · rw [a]; exact hy
theorem lOk.insert {l : List Lay} (h : lOk l) {j : Nat} (hj : j ≤ l.length) {y : Lay} (hy : vOk y) : lOk (l.insertIdx j y) := fun x hx => by
  rcases (List.mem_insertIdx hj).mp hx with a | a
  · rw [a]; exact hy
  · exact h x a
theorem lwt_toInt : ∀ {l : List Lay}, lOk l → sI xW l ≤ 2147483647 → (lwt l).toInt = sI xW l
  | [], _, _ => rfl
  | x :: t, h, hb => by
    have hv := h x List.mem_cons_self
    have n1 := vOk_num hv
    have n2 := sI_nn xW t h.tail.nnW
    have hb : xW x + sI xW t ≤ 2147483647 := hb
    have ih := lwt_toInt h.tail (by omega)
    have nx : 0 ≤ xW x := h.nnW x List.mem_cons_self
    have e1 : (x.2.1 * x.2.2).toInt = xW x := ti_mul (by show -2147483648 ≤ xW x; omega) (by show xW x ≤ 2147483647; omega)
    rw [lwt_cons, ti_add (by rw [e1, ih]; omega) (by rw [e1, ih]; omega), e1, ih]
    rfl
theorem lth_toInt : ∀ {l : List Lay}, lOk l → sI xT l ≤ 2147483647 → (lth l).toInt = sI xT l
  | [], _, _ => rfl
  | x :: t, h, hb => by
    have nx : 0 ≤ xT x := h.nnT x List.mem_cons_self
    have n2 := sI_nn xT t h.tail.nnT
    have hb : xT x + sI xT t ≤ 2147483647 := hb
    have ih := lth_toInt h.tail (by omega)
    have e1 : x.2.2.toInt = xT x := rfl
    rw [lth_cons, ti_add (by rw [e1, ih]; omega) (by rw [e1, ih]; omega), e1, ih]
    rfl
theorem ti_div33 {a : Int32} (h : 0 ≤ a.toInt) : (a / 33).toInt = a.toInt / 33 := by
  rw [Int32.toInt_div_of_ne_right _ _ (by decide)]
  exact Int.tdiv_eq_ediv_of_nonneg h
theorem licw_go : ∀ (l : List Lay) (z : Int32), lOk l → l.foldl (fun a x => if x.1 = 0 then a + x.2.1 * x.2.2 else a) (z * 9) = l.foldl (fun a x => if x.1 = 0 then a + x.2.2 else a) z * 9
  | [], _, _ => rfl
  | x :: t, z, h => by
    rw [List.foldl_cons, List.foldl_cons]
    by_cases a : x.1 = 0
    · rw [if_pos a, if_pos a]
      have d9 : x.2.1 = 9 := by
        rcases (h x List.mem_cons_self).1 with ⟨_, b⟩ | ⟨b, _⟩ | ⟨b, _⟩
        · exact b
        · rw [b] at a; exact absurd a (by decide)
        · rw [b] at a; exact absurd a (by decide)
      rw [d9, show z * 9 + 9 * x.2.2 = (z + x.2.2) * 9 from by rw [Int32.add_mul, Int32.mul_comm 9]]
      exact licw_go t _ h.tail
    · rw [if_neg a, if_neg a]
      exact licw_go t _ h.tail
theorem licw_lic {l : List Lay} (h : lOk l) : licw l = lic l * 9 := by
  have := licw_go l 0 h
  rw [show (0 : Int32) * 9 = 0 from by decide] at this
  exact this
/-! a column and a crust within their bounds: a1 layers of sediment or rock and a2 of ice were added, n steps made -/
def cOk (a1 a2 n : Int) (c : Col) : Prop := lOk c.1 ∧ c.1.length ≤ 8 ∧ 0 ≤ c.2.toInt ∧ 33 * c.2.toInt ≤ 128000 * a1 + 9 * (4000 * a2 + 500 * n) ∧ sI xI c.1 ≤ 4000 * a2 + 500 * n ∧ sI xT c.1 - c.2.toInt ≤ 4000 * (a1 + a2) + 500 * n + 1
def nS (C : Cru) : Nat → Int
  | 0 => 0
  | k + 1 => nS C k + sI xN (C k).1
def gOk2 (a1 a2 n : Int) (C : Cru) : Prop := (∀ b, b < 10 → cOk a1 a2 n (C b)) ∧ nS C 10 ≤ 128000 * a1
def lim (a1 a2 n : Int) : Prop := 0 ≤ a1 ∧ 0 ≤ a2 ∧ 0 ≤ n ∧ n ≤ 1100 ∧ 50 * (a1 + a2) + n ≤ 25700
theorem cOk.mono {a1 a2 n b1 b2 m : Int} {c : Col} (h : cOk a1 a2 n c) (h1 : a1 ≤ b1) (h2 : a2 ≤ b2) (h3 : n ≤ m) : cOk b1 b2 m c := by
  obtain ⟨q1, q2, q3, q4, q5, q6⟩ := h
  exact ⟨q1, q2, q3, by omega, by omega, by omega⟩
theorem gOk2.mono {a1 a2 n b1 b2 m : Int} {C : Cru} (h : gOk2 a1 a2 n C) (h1 : a1 ≤ b1) (h2 : a2 ≤ b2) (h3 : n ≤ m) : gOk2 b1 b2 m C := ⟨fun b hb => (h.1 b hb).mono h1 h2 h3, by have := h.2; omega⟩
theorem nS_nn {C : Cru} (h : ∀ b, b < 10 → lOk (C b).1) : ∀ k, k ≤ 10 → 0 ≤ nS C k
  | 0, _ => Int.le_refl 0
  | k + 1, hk => by
    have a := nS_nn h k (by omega)
    have b := sI_nn xN _ (h k (by omega)).nnN
    show 0 ≤ nS C k + sI xN (C k).1
    omega
theorem nS_at {C : Cru} (h : ∀ b, b < 10 → lOk (C b).1) {b : Nat} : ∀ k, k ≤ 10 → b < k → sI xN (C b).1 ≤ nS C k
  | 0, _, hb => absurd hb (Nat.not_lt_zero b)
  | k + 1, hk, hb => by
    have a := nS_nn h k (by omega)
    have q := sI_nn xN _ (h k (by omega)).nnN
    show _ ≤ nS C k + sI xN (C k).1
    by_cases e : b = k
    · subst e; omega
    · have := nS_at h (b := b) k (by omega) (by omega)
      omega
theorem nS_lt {C D : Cru} : ∀ k, (∀ b, b < k → C b = D b) → nS C k = nS D k
  | 0, _ => rfl
  | k + 1, h => by
    show nS C k + sI xN (C k).1 = nS D k + sI xN (D k).1
    rw [nS_lt k (fun b hb => h b (by omega)), h k (by omega)]
theorem nS_set (C : Cru) (b : Nat) (c : Col) : ∀ k, b < k → nS (cSet C b c) k = nS C k - sI xN (C b).1 + sI xN c.1
  | 0, hb => absurd hb (Nat.not_lt_zero b)
  | k + 1, hb => by
    show nS (cSet C b c) k + sI xN (cSet C b c k).1 = nS C k + sI xN (C k).1 - _ + _
    by_cases e : b = k
    · subst e
      rw [nS_lt (C := cSet C b c) (D := C) b (fun j hj => if_neg (by omega)), show cSet C b c b = c from if_pos rfl]
      omega
    · rw [nS_set C b c k (by omega), show cSet C b c k = C k from if_neg (fun q => e q.symm)]
      omega
/-- a block's numbers -/
theorem cOk.num {a1 a2 n : Int} {c : Col} (h : cOk a1 a2 n c) (hN : sI xN c.1 ≤ 128000 * a1) (hl : lim a1 a2 n) : (lwt c.1).toInt = sI xW c.1 ∧ (lth c.1).toInt = sI xT c.1 ∧ (lbal c.1).toInt = sI xW c.1 / 33 ∧ (ltop c).toInt = sI xT c.1 - c.2.toInt ∧ 0 ≤ sI xW c.1 ∧ sI xW c.1 ≤ 128000 * a1 + 9 * (4000 * a2 + 500 * n) ∧ 0 ≤ sI xT c.1 ∧ sI xT c.1 ≤ 15000000 ∧ c.2.toInt ≤ 5200000 := by
  obtain ⟨q1, q2, q3, q4, q5, q6⟩ := h
  obtain ⟨l1, l2, l3, l4, l5⟩ := hl
  have m := lOk_num q1
  have eW := lwt_toInt q1 (by omega)
  have eT := lth_toInt q1 (by omega)
  have eB : (lbal c.1).toInt = sI xW c.1 / 33 := by
    unfold lbal
    rw [ti_div33 (by rw [eW]; omega), eW]
  refine ⟨eW, eT, eB, ?_, by omega, by omega, by omega, by omega, by omega⟩
  unfold ltop
  rw [ti_sub (by rw [eT]; omega) (by rw [eT]; omega), eT]
theorem gOk2.num {a1 a2 n : Int} {C : Cru} (h : gOk2 a1 a2 n C) (hl : lim a1 a2 n) {b : Nat} (hb : b < 10) : sI xN (C b).1 ≤ 128000 * a1 := by
  have := nS_at (fun b hb => (h.1 b hb).1) 10 (Nat.le_refl 10) hb
  have := h.2
  omega
/-- a block that is in balance -/
theorem cOk.bal {a1 a2 n : Int} {c : Col} (h1 : lOk c.1) (h2 : c.1.length ≤ 8) (hI : sI xI c.1 ≤ 4000 * a2 + 500 * n) (hN : sI xN c.1 ≤ 128000 * a1) (hl : lim a1 a2 n) : cOk a1 a2 n (c.1, lbal c.1) := by
  obtain ⟨l1, l2, l3, l4, l5⟩ := hl
  have m := lOk_num h1
  have eW := lwt_toInt h1 (by omega)
  have eB : (lbal c.1).toInt = sI xW c.1 / 33 := by
    unfold lbal
    rw [ti_div33 (by rw [eW]; omega), eW]
  refine ⟨h1, h2, ?_, ?_, hI, ?_⟩
  · show 0 ≤ (lbal c.1).toInt
    rw [eB]; omega
  · show 33 * (lbal c.1).toInt ≤ _
    rw [eB]; omega
  · show sI xT c.1 - (lbal c.1).toInt ≤ _
    rw [eB]; omega
