/-! bounds: pressures, densities, steps to balance -/
def clp (th ab : Int32) : Int32 := if (if th < ab then th else ab) < 0 then 0 else (if th < ab then th else ab)
def mPA : List Lay → Int32 → Int32
  | [], _ => 0
  | x :: r, ab => x.2.1 * clp x.2.2 ab + mPA r (ab - x.2.2)
theorem lup_step {c : Col} {k : Nat} (hk : k < c.1.length) : lup c (k + 1) = lup c k - c.1[k].2.2 := by
  unfold lup
  rw [foldl_take _ _ (List.getElem?_eq_getElem hk)]
theorem mPrN_all (c : Col) (d : Int32) : mPr c d = (if d ≤ c.2 then 0 else 33 * (d - c.2)) + mPA c.1 (d + ltop c) := by
  have key := upto (n := c.1.length) (A := fun k => mPr c d = mPrN c d k + mPA (c.1.drop k) (d + lup c k)) (by
    rw [List.drop_length]
    exact (Int32.add_zero _).symm) (fun k hk ih => by
    rw [mPrN_step hk, lup_step hk] at ih
    rw [List.drop_eq_getElem_cons hk]
    show mPr c d = mPrN c d k + (c.1[k].2.1 * clp c.1[k].2.2 (d + lup c k) + mPA (c.1.drop (k + 1)) (d + lup c k - c.1[k].2.2))
    rw [← Int32.add_assoc, ih, Int32.sub_eq_add_neg, Int32.sub_eq_add_neg, Int32.add_assoc d]
    rfl) 0 (Nat.zero_le _)
  exact key
theorem mPA_0 : ∀ (l : List Lay) (ab : Int32), lOk l → ab.toInt ≤ 0 → -2000000000 ≤ ab.toInt - sI xT l → mPA l ab = 0
  | [], _, _, _, _ => rfl
  | x :: r, ab, h, h1, h2 => by
    have vx := (h x List.mem_cons_self).2
    have h2 : -2000000000 ≤ ab.toInt - (xT x + sI xT r) := h2
    have ex : xT x = x.2.2.toInt := rfl
    have nr := sI_nn xT r h.tail.nnT
    have es : (ab - x.2.2).toInt = ab.toInt - x.2.2.toInt := ti_sub (by omega) (by omega)
    have n1 : ¬ x.2.2 < ab := fun q => by
      have := Int32.lt_iff_toInt_lt.mp q
      omega
    have ec : clp x.2.2 ab = 0 := by
      unfold clp
      rw [if_neg n1]
      by_cases z : ab < 0
      · rw [if_pos z]
      · rw [if_neg z]
        have : ¬ ab.toInt < 0 := fun q => z (Int32.lt_iff_toInt_lt.mpr q)
        exact Int32.toInt_inj.mp (show ab.toInt = 0 by omega)
    show x.2.1 * clp x.2.2 ab + mPA r (ab - x.2.2) = 0
    rw [ec, mPA_0 r (ab - x.2.2) h.tail (by omega) (by omega), Int32.mul_zero, Int32.add_zero]
theorem prAt_eq : ∀ (l : List Lay) (ab s : Int32), lOk l → ab.toInt ≤ 2000000000 → -2000000000 ≤ ab.toInt - sI xT l → prAt l ab s = s + mPA l ab
  | [], _, s, _, _, _ => (Int32.add_zero s).symm
  | x :: r, ab, s, h, h1, h2 => by
    have vx := (h x List.mem_cons_self).2
    have h2' : -2000000000 ≤ ab.toInt - (xT x + sI xT r) := h2
    have ex : xT x = x.2.2.toInt := rfl
    have nr := sI_nn xT r h.tail.nnT
    have xb : x.2.2.toInt < 2 ^ 31 := Int32.toInt_lt x.2.2
    by_cases z : 0 < ab
    · have z1 : 0 < ab.toInt := Int32.lt_iff_toInt_lt.mp z
      have es : (ab - x.2.2).toInt = ab.toInt - x.2.2.toInt := ti_sub (by omega) (by omega)
      have ec : clp x.2.2 ab = (if x.2.2 < ab then x.2.2 else ab) := by
        unfold clp
        refine if_neg (fun q => ?_)
        have q := Int32.lt_iff_toInt_lt.mp q
        have q0 : (0 : Int32).toInt = 0 := rfl
        rw [q0] at q
        split at q <;> omega
      show (if 0 < ab then prAt r (ab - x.2.2) (s + x.2.1 * (if x.2.2 < ab then x.2.2 else ab)) else s) = s + (x.2.1 * clp x.2.2 ab + mPA r (ab - x.2.2))
      rw [if_pos z, prAt_eq r _ _ h.tail (by omega) (by omega), ec, Int32.add_assoc]
    · have z1 : ab.toInt ≤ 0 := by
        have : ¬ 0 < ab.toInt := fun q => z (Int32.lt_iff_toInt_lt.mpr q)
        omega
      show (if 0 < ab then prAt r (ab - x.2.2) (s + x.2.1 * (if x.2.2 < ab then x.2.2 else ab)) else s) = s + mPA (x :: r) ab
      rw [if_neg z, mPA_0 (x :: r) ab h z1 h2, Int32.add_zero]
theorem mPr_eq {a1 a2 n : Int} {c : Col} {d : Int32} (h : cOk a1 a2 n c) (hN : sI xN c.1 ≤ 128000 * a1) (hl : lim a1 a2 n) (hd : 0 ≤ d ∧ d ≤ 40009) : mPr c d = lpr c d := by
  have q := h.num hN hl
  obtain ⟨-, -, -, et, -, -, t0, t1, b1⟩ := q
  have b0 := h.2.2.1
  have d0 : 0 ≤ d.toInt := Int32.le_iff_toInt_le.mp hd.1
  have d1 : d.toInt ≤ 40009 := Int32.le_iff_toInt_le.mp hd.2
  have ea : (d + ltop c).toInt = d.toInt + (sI xT c.1 - c.2.toInt) := by rw [ti_add (by rw [et]; omega) (by rw [et]; omega), et]
  have es : (d - c.2).toInt = d.toInt - c.2.toInt := ti_sub (by omega) (by omega)
  rw [mPrN_all]
  unfold lpr
  rw [prAt_eq c.1 (d + ltop c) 0 h.1 (by rw [ea]; omega) (by rw [ea]; omega), Int32.zero_add, Int32.add_comm]
  congr 1
  by_cases z : d ≤ c.2
  · have z1 := Int32.le_iff_toInt_le.mp z
    rw [if_pos z]
    by_cases y : d - c.2 < 0
    · rw [if_pos y]
      decide
    · rw [if_neg y]
      have : ¬ (d - c.2).toInt < 0 := fun q => y (Int32.lt_iff_toInt_lt.mpr q)
      have e0 : d - c.2 = 0 := Int32.toInt_inj.mp (show (d - c.2).toInt = 0 by omega)
      rw [e0]
      decide
  · have z1 : ¬ d.toInt ≤ c.2.toInt := fun q => z (Int32.le_iff_toInt_le.mpr q)
    rw [if_neg z, if_neg (fun q => by
      have q : (d - c.2).toInt < 0 := Int32.lt_iff_toInt_lt.mp q
      omega)]
/-! densities -/
def mDs (y : Int32) : List Lay → Int32 → Int32 → Int32
  | [], _, v => v
  | x :: r, up, v => mDs y r (up - x.2.2) (if up - x.2.2 ≤ y ∧ y ≤ up - 1 then x.2.1 else v)
theorem mDn_all (c : Col) (y : Int32) : mDn c y = mDs y c.1 (ltop c) (if y < -c.2 then 33 else 0) := by
  have key := upto (n := c.1.length) (A := fun k => mDn c y = mDs y (c.1.drop k) (lup c k) (mDnN c y k)) (by
    rw [List.drop_length]
    rfl) (fun k hk ih => by
    rw [mDnN_step hk, lup_step hk] at ih
    rw [List.drop_eq_getElem_cons hk]
    exact ih) 0 (Nat.zero_le _)
  exact key
theorem sI_reverse (f : Lay → Int) : ∀ l : List Lay, sI f l.reverse = sI f l
  | [] => rfl
  | x :: t => by
    rw [List.reverse_cons, sI_append, sI_reverse f t]
    show sI f t + (f x + 0) = f x + sI f t
    omega
theorem dnAt_app (y : Int32) (b : List Lay) : ∀ (a : List Lay) (lo lo2 : Int32), lOk a → -2000000000 ≤ lo.toInt → lo.toInt + sI xT a ≤ 2000000000 → lo2.toInt = lo.toInt + sI xT a → dnAt y (a ++ b) lo = if y < lo2 then (if a = [] then dnAt y b lo else dnAt y a lo) else dnAt y b lo2
  | [], lo, lo2, _, _, _, he => by
    have : lo2 = lo := Int32.toInt_inj.mp (by rw [he]; show lo.toInt + 0 = lo.toInt; omega)
    subst this
    rw [if_pos rfl]
    split <;> rfl
  | x :: a, lo, lo2, h, h1, h2, he => by
    have vx := (h x List.mem_cons_self).2
    have ex : xT x = x.2.2.toInt := rfl
    have h2 : lo.toInt + (xT x + sI xT a) ≤ 2000000000 := h2
    have he : lo2.toInt = lo.toInt + (xT x + sI xT a) := he
    have na := sI_nn xT a h.tail.nnT
    have es : (lo + x.2.2).toInt = lo.toInt + x.2.2.toInt := ti_add (by omega) (by omega)
    have ih := dnAt_app y b a (lo + x.2.2) lo2 h.tail (by omega) (by omega) (by omega)
    rw [if_neg (List.cons_ne_nil x a)]
    show (if y < lo + x.2.2 then x.2.1 else dnAt y (a ++ b) (lo + x.2.2)) = if y < lo2 then (if y < lo + x.2.2 then x.2.1 else dnAt y a (lo + x.2.2)) else dnAt y b lo2
    by_cases z : y < lo + x.2.2
    · have z1 := Int32.lt_iff_toInt_lt.mp z
      rw [if_pos z, if_pos z, if_pos (Int32.lt_iff_toInt_lt.mpr (by omega))]
    · rw [if_neg z, if_neg z, ih]
      by_cases w : y < lo2
      · rw [if_pos w, if_pos w]
        by_cases e : a = []
        · subst e
          exfalso
          have : lo2 = lo + x.2.2 := Int32.toInt_inj.mp (by rw [he, es]; show _ + (_ + 0) = _; omega)
          rw [this] at w
          exact z w
        · rw [if_neg e]
      · rw [if_neg w, if_neg w]
theorem dnAt_hi (y : Int32) : ∀ (a : List Lay) (lo : Int32), lOk a → -2000000000 ≤ lo.toInt → lo.toInt + sI xT a ≤ 2000000000 → lo.toInt + sI xT a ≤ y.toInt → dnAt y a lo = 0
  | [], _, _, _, _, _ => rfl
  | x :: a, lo, h, h1, h2, h3 => by
    have vx := (h x List.mem_cons_self).2
    have ex : xT x = x.2.2.toInt := rfl
    have h2 : lo.toInt + (xT x + sI xT a) ≤ 2000000000 := h2
    have h3 : lo.toInt + (xT x + sI xT a) ≤ y.toInt := h3
    have na := sI_nn xT a h.tail.nnT
    have es : (lo + x.2.2).toInt = lo.toInt + x.2.2.toInt := ti_add (by omega) (by omega)
    show (if y < lo + x.2.2 then x.2.1 else dnAt y a (lo + x.2.2)) = 0
    rw [if_neg (fun q => by
      have q := Int32.lt_iff_toInt_lt.mp q
      omega)]
    exact dnAt_hi y a _ h.tail (by omega) (by omega) (by omega)
theorem mDs_ok (y : Int32) : ∀ (l : List Lay) (lo up v : Int32), lOk l → -2000000000 ≤ lo.toInt → lo.toInt + sI xT l ≤ 2000000000 → up.toInt = lo.toInt + sI xT l → (lo.toInt ≤ y.toInt → y.toInt < up.toInt → mDs y l up v = dnAt y l.reverse lo) ∧ ((y.toInt < lo.toInt ∨ up.toInt ≤ y.toInt) → mDs y l up v = v)
  | [], lo, up, v, _, _, _, he => by
    have he : up.toInt = lo.toInt + 0 := he
    exact ⟨fun a b => by omega, fun _ => rfl⟩
  | x :: r, lo, up, v, h, h1, h2, he => by
    have vx := (h x List.mem_cons_self).2
    have ex : xT x = x.2.2.toInt := rfl
    have h2 : lo.toInt + (xT x + sI xT r) ≤ 2000000000 := h2
    have he : up.toInt = lo.toInt + (xT x + sI xT r) := he
    have na := sI_nn xT r h.tail.nnT
    have em : (up - x.2.2).toInt = up.toInt - x.2.2.toInt := ti_sub (by omega) (by omega)
    have e1 : (up - 1).toInt = up.toInt - 1 := ti_sub (by show _ ≤ up.toInt - 1; omega) (by show up.toInt - 1 ≤ _; omega)
    have ihv := fun v => mDs_ok y r lo (up - x.2.2) v h.tail h1 (by omega) (by omega)
    have hr : lOk r.reverse := fun z hz => h.tail z (List.mem_reverse.mp hz)
    refine ⟨fun a b => ?_, fun a => ?_⟩
    · show mDs y r (up - x.2.2) (if up - x.2.2 ≤ y ∧ y ≤ up - 1 then x.2.1 else v) = dnAt y (x :: r).reverse lo
      rw [List.reverse_cons, dnAt_app y [x] r.reverse lo (up - x.2.2) hr h1 (by rw [sI_reverse]; omega) (by rw [sI_reverse]; omega)]
      by_cases z : y < up - x.2.2
      · have z1 := Int32.lt_iff_toInt_lt.mp z
        rw [if_pos z, if_neg (fun q => by
          have := Int32.le_iff_toInt_le.mp q.1
          omega)]
        by_cases e : r = []
        · subst e
          exfalso
          have : sI xT ([] : List Lay) = 0 := rfl
          omega
        · rw [if_neg (fun q => e (by simpa using q))]
          exact (ihv v).1 a (by omega)
      · have z1 : ¬ y.toInt < (up - x.2.2).toInt := fun q => z (Int32.lt_iff_toInt_lt.mpr q)
        rw [if_neg z, if_pos ⟨Int32.le_iff_toInt_le.mpr (by omega), Int32.le_iff_toInt_le.mpr (by omega)⟩, (ihv _).2 (Or.inr (by omega))]
        show x.2.1 = if y < up - x.2.2 + x.2.2 then x.2.1 else 0
        have eu : (up - x.2.2 + x.2.2).toInt = up.toInt := by rw [ti_add (by omega) (by omega)]; omega
        rw [if_pos (Int32.lt_iff_toInt_lt.mpr (by omega))]
    · show mDs y r (up - x.2.2) (if up - x.2.2 ≤ y ∧ y ≤ up - 1 then x.2.1 else v) = v
      rw [if_neg (fun q => by
        have q1 := Int32.le_iff_toInt_le.mp q.1
        have q2 := Int32.le_iff_toInt_le.mp q.2
        omega)]
      exact (ihv v).2 (by omega)
theorem mDn_eq {a1 a2 n : Int} {c : Col} (h : cOk a1 a2 n c) (hN : sI xN c.1 ≤ 128000 * a1) (hl : lim a1 a2 n) (y : Int32) : mDn c y = ldens c y := by
  have q := h.num hN hl
  obtain ⟨-, -, -, et, -, -, t0, t1, b1⟩ := q
  have b0 := h.2.2.1
  have en : (-c.2).toInt = -c.2.toInt := by
    rw [Int32.toInt_neg]
    exact Int.bmod_eq_of_le (by omega) (by omega)
  have m := fun v => mDs_ok y c.1 (-c.2) (ltop c) v h.1 (by omega) (by omega) (by rw [et, en]; omega)
  rw [mDn_all]
  unfold ldens
  by_cases z : y < -c.2
  · have z1 := Int32.lt_iff_toInt_lt.mp z
    rw [if_pos z, if_pos z]
    exact (m 33).2 (Or.inl z1)
  · have z1 : ¬ y.toInt < (-c.2).toInt := fun q => z (Int32.lt_iff_toInt_lt.mpr q)
    rw [if_neg z, if_neg z]
    by_cases w : y.toInt < (ltop c).toInt
    · exact (m 0).1 (by omega) w
    · rw [(m 0).2 (Or.inr (by omega)), dnAt_hi y c.1.reverse (-c.2) (fun z hz => h.1 z (List.mem_reverse.mp hz)) (by omega) (by rw [sI_reverse]; omega) (by rw [sI_reverse]; omega)]
/-! steps to balance -/
def muF (f : Int) : Int := if -1000 < f ∧ f < 1000 then (if f < 0 then -f else f) else (if f < 0 then (-f) / 10 else f / 10) + 1000
theorem muF_neg {f g : Int} (h1 : f ≤ g) (h2 : f < g) (h3 : g ≤ 0) (h4 : f ≤ -1000 → f + 10 ≤ g) : muF g + 1 ≤ muF f := by
  unfold muF
  split <;> split <;> split <;> split <;> omega
theorem muF_pos {f g : Int} (h1 : 0 ≤ g) (h2 : g < f) (h4 : 1000 ≤ f → g + 10 ≤ f) : muF g + 1 ≤ muF f := by
  unfold muF
  split <;> split <;> split <;> split <;> omega
theorem muF_0 {f : Int} (h : muF f ≤ 0) : f = 0 := by
  unfold muF at h
  split at h <;> split at h <;> omega
theorem itF_succ (b r : Int32) : ∀ (n : Nat) (d : Int32), itF b r d (n + 1) = itF b r (fld d b r) n
  | 0, _ => rfl
  | n + 1, d => by
    show fld (itF b r d (n + 1)) b r = fld (itF b r (fld d b r) n) b r
    rw [itF_succ b r n d]
theorem mItF_succ (b r : Int32) : ∀ (n : Nat) (d : Int32), mItF b r d (n + 1) = mItF b r (mFld d b r) n
  | 0, _ => rfl
  | n + 1, d => by
    show mFld (mItF b r d (n + 1)) b r = mFld (mItF b r (mFld d b r) n) b r
    rw [mItF_succ b r n d]
theorem it_end {b r : Int32} (b0 : 0 ≤ b.toInt) (b1 : b.toInt ≤ 5200000) (r1 : 1 ≤ r.toInt) (r2 : r.toInt ≤ 100) : ∀ (m : Nat) (d : Int32), 0 ≤ d.toInt → d.toInt ≤ 5200000 → muF (b.toInt - d.toInt) ≤ m → ∃ N, N ≤ m ∧ itF b r d N = b ∧ (∀ i, i < N → ¬ itF b r d i = b) ∧ ∀ i, i ≤ N → mItF b r d i = itF b r d i
  | 0, d, d0, d1, hm => by
    have := muF_0 hm
    have e : d = b := Int32.toInt_inj.mp (by omega)
    subst e
    exact ⟨0, Nat.le_refl 0, rfl, fun i hi => absurd hi (Nat.not_lt_zero i), fun i hi => by rw [show i = 0 by omega]; rfl⟩
  | m + 1, d, d0, d1, hm => by
    by_cases e : d = b
    · subst e
      exact ⟨0, Nat.zero_le _, rfl, fun i hi => absurd hi (Nat.not_lt_zero i), fun i hi => by rw [show i = 0 by omega]; rfl⟩
    · have ne : ¬ d.toInt = b.toInt := fun q => e (Int32.toInt_inj.mp q)
      obtain ⟨f1, -, f3, f4⟩ := fld_num (d := d) (b := b) (r := r) d0 (by omega) b0 (by omega) r1 r2
      have hm : muF (b.toInt - d.toInt) ≤ (m : Int) + 1 := by omega
      have nxt : 0 ≤ (fld d b r).toInt ∧ (fld d b r).toInt ≤ 5200000 ∧ muF (b.toInt - (fld d b r).toInt) ≤ m := by
        generalize (fld d b r).toInt = g at *
        by_cases z : d.toInt < b.toInt
        · obtain ⟨g1, g2, g3⟩ := f3 z
          have := muF_pos (f := b.toInt - d.toInt) (g := b.toInt - g) (by omega) (by omega) (by omega)
          exact ⟨by omega, by omega, by omega⟩
        · obtain ⟨g1, g2, g3⟩ := f4 (by omega)
          have := muF_neg (f := b.toInt - d.toInt) (g := b.toInt - g) (by omega) (by omega) (by omega) (by omega)
          exact ⟨by omega, by omega, by omega⟩
      obtain ⟨N, i1, i2, i3, i4⟩ := it_end b0 b1 r1 r2 m (fld d b r) nxt.1 nxt.2.1 nxt.2.2
      refine ⟨N + 1, by omega, by rw [itF_succ]; exact i2, fun i hi => ?_, fun i hi => ?_⟩
      · cases i with
        | zero => exact e
        | succ i => rw [itF_succ]; exact i3 i (by omega)
      · cases i with
        | zero => rfl
        | succ i => rw [itF_succ, mItF_succ, f1]; exact i4 i (by omega)
theorem bal_steps {a1 a2 n : Int} {c : Col} {r : Int32} (h : cOk a1 a2 n c) (hN : sI xN c.1 ≤ 128000 * a1) (hl : lim a1 a2 n) (r1 : 1 ≤ r.toInt) (r2 : r.toInt ≤ 100) : ∃ N, N ≤ 1000000 ∧ itF (lbal c.1) r c.2 N = lbal c.1 ∧ (∀ i, i < N → ¬ itF (lbal c.1) r c.2 i = lbal c.1) ∧ mItF (lbal c.1) r c.2 N = lbal c.1 ∧ (∀ i, i < N → ¬ mItF (lbal c.1) r c.2 i = lbal c.1) := by
  have hb := cOk.bal h.1 h.2.1 h.2.2.2.2.1 hN hl
  have q := (h.num hN hl).2.2.2.2.2.2.2.2
  have q2 := (hb.num hN hl).2.2.2.2.2.2.2.2
  have q2 : (lbal c.1).toInt ≤ 5200000 := q2
  have p3 : 0 ≤ (lbal c.1).toInt := hb.2.2.1
  have hmu : muF ((lbal c.1).toInt - c.2.toInt) ≤ ((1000000 : Nat) : Int) := by
    have b0 := h.2.2.1
    unfold muF
    split <;> split <;> omega
  obtain ⟨N, i1, i2, i3, i4⟩ := it_end p3 q2 r1 r2 1000000 c.2 h.2.2.1 q hmu
  exact ⟨N, i1, i2, i3, (i4 N (Nat.le_refl N)).trans i2, fun i hi => by rw [i4 i (by omega)]; exact i3 i hi⟩
