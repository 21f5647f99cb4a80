/-! what isRight finds, of a state that is good -/
theorem sI_take (f : Lay → Int) : ∀ {l : List Lay} {k : Nat} (hk : k < l.length), sI f (l.take (k + 1)) = sI f (l.take k) + f l[k]
  | [], _, hk => absurd hk (Nat.not_lt_zero _)
  | x :: t, 0, _ => by
    show f x + sI f [] = 0 + f x
    show f x + 0 = 0 + f x
    omega
  | x :: t, k + 1, hk => by
    have hk : k < t.length := by simpa using hk
    have ih := sI_take f (l := t) (k := k) hk
    show f x + sI f (t.take (k + 1)) = f x + sI f (t.take k) + f t[k]
    omega
theorem sI_take_le {l : List Lay} (h : lOk l) {i : Nat} : ∀ d : Nat, i + d ≤ l.length → sI xT (l.take i) + d ≤ sI xT (l.take (i + d))
  | 0, _ => by show sI xT (l.take i) + 0 ≤ sI xT (l.take i); omega
  | d + 1, hd => by
    have ih := sI_take_le h (i := i) d (by omega)
    have e := sI_take xT (l := l) (k := i + d) (by omega)
    have v := (vOk_num (h _ (List.getElem_mem (show i + d < l.length by omega)))).1
    show sI xT (l.take i) + ((d + 1 : Nat) : Int) ≤ sI xT (l.take (i + d + 1))
    omega
theorem lup_num {c : Col} (h : lOk c.1) (ht : (ltop c).toInt = sI xT c.1 - c.2.toInt) (h1 : sI xT c.1 ≤ 15000000) (h2 : 0 ≤ c.2.toInt) (h3 : c.2.toInt ≤ 15000000) : ∀ k, k ≤ c.1.length → (lup c k).toInt = sI xT c.1 - c.2.toInt - sI xT (c.1.take k)
  | 0, _ => by
    show (ltop c).toInt = sI xT c.1 - c.2.toInt - 0
    omega
  | k + 1, hk => by
    have ih := lup_num h ht h1 h2 h3 k (by omega)
    have e := sI_take xT (l := c.1) (k := k) (by omega)
    have ev : xT c.1[k] = (c.1[k]).2.2.toInt := rfl
    have a0 := sI_take_le h (i := 0) (k + 1) (by omega)
    have a1 := sI_take_le h (i := k + 1) (c.1.length - (k + 1)) (by omega)
    rw [Nat.add_sub_cancel' hk, List.take_length] at a1
    rw [Nat.zero_add] at a0
    have z0 : sI xT (c.1.take 0) = 0 := rfl
    have b0 := sI_take_le h (i := 0) k (by omega)
    rw [Nat.zero_add] at b0
    rw [lup_step (by omega), ti_sub (by omega) (by omega), ih]
    omega
theorem mDnN_at {c : Col} (h : lOk c.1) (ht : (ltop c).toInt = sI xT c.1 - c.2.toInt) (h1 : sI xT c.1 ≤ 15000000) (h2 : 0 ≤ c.2.toInt) (h3 : c.2.toInt ≤ 15000000) {k : Nat} (hk : k < c.1.length) : ∀ d, k + 1 + d ≤ c.1.length → mDnN c (lup c k - 1) (k + 1 + d) = (c.1[k]).2.1
  | 0, _ => by
    have lk := lup_num h ht h1 h2 h3
    have e := sI_take xT hk
    have v := (vOk_num (h _ (List.getElem_mem hk))).1
    have ev : xT c.1[k] = (c.1[k]).2.2.toInt := rfl
    have z0 : sI xT (c.1.take 0) = 0 := rfl
    have b0 := sI_take_le h (i := 0) k (by omega)
    rw [Nat.zero_add] at b0
    have a1 := sI_take_le h (i := k + 1) (c.1.length - (k + 1)) (by omega)
    rw [Nat.add_sub_cancel' (show k + 1 ≤ c.1.length from hk), List.take_length] at a1
    have ek := lk k (by omega)
    rw [mDnN_step hk, if_pos]
    refine ⟨Int32.le_iff_toInt_le.mpr ?_, Int32.le_refl _⟩
    rw [ti_sub (by omega) (by omega), ti_sub (by rw [show ((1 : Int32)).toInt = 1 from rfl]; omega) (by rw [show ((1 : Int32)).toInt = 1 from rfl]; omega), show ((1 : Int32)).toInt = 1 from rfl]
    omega
  | d + 1, hd => by
    have ih := mDnN_at h ht h1 h2 h3 hk d (by omega)
    have lk := lup_num h ht h1 h2 h3
    have ek := lk k (by omega)
    have em := lk (k + 1 + d) (by omega)
    have z0 : sI xT (c.1.take 0) = 0 := rfl
    have b0 := sI_take_le h (i := 0) k (by omega)
    have b1 := sI_take_le h (i := 0) (k + 1 + d) (by omega)
    have b2 := sI_take_le h (i := k) (1 + d) (by omega)
    rw [Nat.zero_add] at b0 b1
    rw [← Nat.add_assoc] at b2
    have a1 := sI_take_le h (i := k + 1 + d) (c.1.length - (k + 1 + d)) (by omega)
    rw [Nat.add_sub_cancel' (show k + 1 + d ≤ c.1.length by omega), List.take_length] at a1
    show mDnN c (lup c k - 1) (k + 1 + d + 1) = _
    rw [mDnN_step (show k + 1 + d < c.1.length by omega), if_neg, ih]
    rintro ⟨-, q⟩
    have q := Int32.le_iff_toInt_le.mp q
    have o1 : ((1 : Int32)).toInt = 1 := rfl
    rw [ti_sub (by rw [o1]; omega) (by rw [o1]; omega), ti_sub (by rw [o1]; omega) (by rw [o1]; omega), ek, em] at q
    omega
def rCol (S : St) (b : Nat) : Prop :=
  (S.1 b).1.length ≤ 8 ∧ (∀ k (hk : k < (S.1 b).1.length), vOk (S.1 b).1[k] ∧ (lup (S.1 b) k ≤ 99999 → (-99999 ≤ lup (S.1 b) k - 1 ∧ lup (S.1 b) k - 1 ≤ 99999) ∧ ldens (S.1 b) (lup (S.1 b) k - 1) = ((S.1 b).1[k]).2.1)) ∧
  lup (S.1 b) (S.1 b).1.length = -(S.1 b).2 ∧ licw (S.1 b).1 = lic (S.1 b).1 * 9 ∧
  ∃ N, N ≤ 1000000 ∧ itF (lbal (S.1 b).1) (S.2.2.2.1 4) (S.1 b).2 N = lbal (S.1 b).1 ∧ ∀ i, i < N → ¬ itF (lbal (S.1 b).1) (S.2.2.2.1 4) (S.1 b).2 i = lbal (S.1 b).1
def rOk (S : St) : Prop := (∀ b, b < 10 → rCol S b) ∧ accI S
theorem rOk_of {N : Nat} {S : St} (hN : N < 16) (h : good N S) : rOk S := by
  obtain ⟨⟨a1, a2, n, ⟨g1, g2, g3, g4⟩, q2, q3, q4, q6⟩, hA, h0⟩ := h
  refine ⟨fun b hb => ?_, hA⟩
  have l0 : lim a1 a2 n := okS_lim0 hN q2 q3 q4 q6
  have hc := g1.1 b hb
  have hN := g1.num l0 hb
  obtain ⟨-, -, -, et, -, -, t0, t1, b1⟩ := hc.num hN l0
  have hd := mDn_eq hc hN l0
  obtain ⟨M, m1, m2, m3, -, -⟩ := bal_steps hc hN l0 g3.2.2.2.2.2.2.1 g3.2.2.2.2.2.2.2
  obtain ⟨c1, c2, c3, c4, c5, c6⟩ := hc
  unfold rCol
  generalize S.1 b = c at *
  have bb : c.2.toInt ≤ 90000 := by omega
  have lk := lup_num c1 et t1 c3 (by omega)
  have en : (-c.2).toInt = -c.2.toInt := by
    rw [Int32.toInt_neg]
    exact Int.bmod_eq_of_le (by omega) (by omega)
  refine ⟨c2, fun k hk => ⟨c1 _ (List.getElem_mem hk), fun hle => ⟨?_, ?_⟩⟩, ?_, licw_lic c1, M, m1, m2, m3⟩
  · have ek := lk k (by omega)
    have hle := Int32.le_iff_toInt_le.mp hle
    rw [show ((99999 : Int32)).toInt = 99999 from rfl] at hle
    have a1 := sI_take_le c1 (i := k) (c.1.length - k) (by omega)
    rw [Nat.add_sub_cancel' (show k ≤ c.1.length by omega), List.take_length] at a1
    have o1 : ((1 : Int32)).toInt = 1 := rfl
    have es : (lup c k - 1).toInt = (lup c k).toInt - 1 := ti_sub (by rw [o1]; omega) (by rw [o1]; omega)
    refine ⟨Int32.le_iff_toInt_le.mpr ?_, Int32.le_iff_toInt_le.mpr ?_⟩
    · rw [es, show ((-99999 : Int32)).toInt = -99999 from by decide]
      omega
    · rw [es, show ((99999 : Int32)).toInt = 99999 from rfl]
      omega
  · rw [← hd]
    have e := mDnN_at c1 et t1 c3 (by omega) hk (c.1.length - (k + 1)) (by omega)
    rw [Nat.add_sub_cancel' (show k + 1 ≤ c.1.length from hk)] at e
    exact e
  · refine Int32.toInt_inj.mp ?_
    rw [lk _ (Nat.le_refl _), en, List.take_length]
    omega
