/-! bounds: floating, ice -/
def sOk (T : Nat → Int32) : Prop := 0 ≤ (T 1).toInt ∧ (T 1).toInt ≤ 500 ∧ 0 ≤ (T 2).toInt ∧ (T 2).toInt ≤ 500 ∧ 0 ≤ (T 3).toInt ∧ (T 3).toInt ≤ 200 ∧ 1 ≤ (T 4).toInt ∧ (T 4).toInt ≤ 100
theorem td_pos {x k : Int} (h : 0 ≤ x) : x.tdiv k = x / k := Int.tdiv_eq_ediv_of_nonneg h
theorem td_neg {x k : Int} (h : x < 0) : x.tdiv k = -((-x) / k) := by
  have e : x = -(-x) := by omega
  rw [e, Int.neg_tdiv, Int.neg_neg, td_pos (by omega)]
theorem l64 {a r : Int32} {k : Nat} (hk : 0 < k) (hk2 : k ≤ 1000) (h1 : -2147483647 ≤ a.toInt * r.toInt) (h2 : a.toInt * r.toInt ≤ 2147483647) : (a.toInt64 * r.toInt64 / Int64.ofNat k).toInt = (a.toInt * r.toInt).tdiv k := by
  have ek : (Int64.ofNat k).toInt = (k : Int) := Int64.toInt_ofNat_of_lt (by omega)
  have e1 : (a.toInt64 * r.toInt64).toInt = a.toInt * r.toInt := by
    rw [Int64.toInt_mul, Int32.toInt_toInt64, Int32.toInt_toInt64]
    generalize a.toInt * r.toInt = z at *
    exact Int.bmod_eq_of_le (by omega) (by omega)
  have hne : Int64.ofNat k ≠ -1 := fun q => by
    rw [q] at ek
    have : (-1 : Int64).toInt = -1 := rfl
    omega
  rw [Int64.toInt_div_of_ne_right _ _ hne, e1, ek]
theorem fl_move {a r : Int32} (h1 : -20000000 ≤ a.toInt) (h2 : a.toInt ≤ 20000000) (r1 : 1 ≤ r.toInt) (r2 : r.toInt ≤ 100) : (a.toInt64 * r.toInt64 / Int64.ofNat 100).toInt32 = a * r / 100 ∧ (a * r / 100).toInt = (a.toInt * r.toInt).tdiv 100 ∧ -2000000000 ≤ a.toInt * r.toInt ∧ a.toInt * r.toInt ≤ 2000000000 := by
  have b1 := Int.mul_le_mul_of_nonneg_right h1 (show 0 ≤ r.toInt by omega)
  have b2 := Int.mul_le_mul_of_nonneg_right h2 (show 0 ≤ r.toInt by omega)
  have c1 : -2000000000 ≤ a.toInt * r.toInt := by omega
  have c2 : a.toInt * r.toInt ≤ 2000000000 := by omega
  have e1 : (a * r).toInt = a.toInt * r.toInt := ti_mul (by omega) (by omega)
  have e2 : (a * r / 100).toInt = (a.toInt * r.toInt).tdiv 100 := by
    rw [Int32.toInt_div_of_ne_right _ _ (by decide), e1]
    rfl
  have e3 := l64 (a := a) (r := r) (k := 100) (by decide) (by decide) (by omega) (by omega)
  refine ⟨Int32.toInt_inj.mp ?_, e2, c1, c2⟩
  rw [Int64.toInt_toInt32, e3, e2]
  generalize a.toInt * r.toInt = z at *
  have : z.tdiv ((100 : Nat) : Int) = z.tdiv 100 := rfl
  rw [this]
  by_cases hz : 0 ≤ z
  · rw [td_pos hz]
    exact Int.bmod_eq_of_le (by omega) (by omega)
  · rw [td_neg (by omega)]
    exact Int.bmod_eq_of_le (by omega) (by omega)
theorem flI_neg {D B P m G : Int} (hF : B - D < 0) (p1 : P ≤ B - D) (p2 : (B - D) * 100 ≤ P) (hm : m = -((-P) / 100)) (hG : (m = 0 ∧ G = D + -1) ∨ (¬ m = 0 ∧ G = D + m)) : (B = D → G = D) ∧ (D < B → D < G ∧ G ≤ B ∧ (1000 ≤ B - D → D + 10 ≤ G)) ∧ (B < D → B ≤ G ∧ G < D ∧ (B - D ≤ -1000 → G ≤ D - 10)) := by
  refine ⟨fun q => by omega, fun q => by omega, fun _ => ⟨by omega, by omega, fun _ => by omega⟩⟩
theorem flI_pos {D B P m G : Int} (hF : 0 < B - D) (p1 : B - D ≤ P) (p2 : P ≤ (B - D) * 100) (hm : m = P / 100) (hG : (m = 0 ∧ G = D + 1) ∨ (¬ m = 0 ∧ G = D + m)) : (B = D → G = D) ∧ (D < B → D < G ∧ G ≤ B ∧ (1000 ≤ B - D → D + 10 ≤ G)) ∧ (B < D → B ≤ G ∧ G < D ∧ (B - D ≤ -1000 → G ≤ D - 10)) := by
  refine ⟨fun q => by omega, fun _ => ⟨by omega, by omega, fun _ => by omega⟩, fun q => by omega⟩
theorem flI_0 {D B G : Int} (hF : B - D = 0) (hG : G = D + 0) : (B = D → G = D) ∧ (D < B → D < G ∧ G ≤ B ∧ (1000 ≤ B - D → D + 10 ≤ G)) ∧ (B < D → B ≤ G ∧ G < D ∧ (B - D ≤ -1000 → G ≤ D - 10)) := by
  refine ⟨fun q => by omega, fun q => by omega, fun q => by omega⟩
theorem fld_num {d b r : Int32} (d1 : 0 ≤ d.toInt) (d2 : d.toInt ≤ 10000000) (b1 : 0 ≤ b.toInt) (b2 : b.toInt ≤ 10000000) (r1 : 1 ≤ r.toInt) (r2 : r.toInt ≤ 100) :
    mFld d b r = fld d b r ∧ (b.toInt = d.toInt → (fld d b r).toInt = d.toInt) ∧ (d.toInt < b.toInt → d.toInt < (fld d b r).toInt ∧ (fld d b r).toInt ≤ b.toInt ∧ (1000 ≤ b.toInt - d.toInt → d.toInt + 10 ≤ (fld d b r).toInt)) ∧ (b.toInt < d.toInt → b.toInt ≤ (fld d b r).toInt ∧ (fld d b r).toInt < d.toInt ∧ (b.toInt - d.toInt ≤ -1000 → (fld d b r).toInt ≤ d.toInt - 10)) := by
  have ea : (b - d).toInt = b.toInt - d.toInt := ti_sub (by omega) (by omega)
  obtain ⟨m1, m2, m3, m4⟩ := fl_move (a := b - d) (r := r) (by omega) (by omega) r1 r2
  have t1 : (1 : Int32).toInt = 1 := rfl
  have tm1 : (-1 : Int32).toInt = -1 := rfl
  have t0 : (0 : Int32).toInt = 0 := rfl
  have key : ∀ z : Int32, -20000000 ≤ z.toInt → z.toInt ≤ 20000000 → (d + z).toInt = d.toInt + z.toInt := fun z z1 z2 => ti_add (by omega) (by omega)
  rw [ea] at m2 m3 m4
  have g1 : 0 ≤ b.toInt - d.toInt → b.toInt - d.toInt ≤ (b.toInt - d.toInt) * r.toInt ∧ (b.toInt - d.toInt) * r.toInt ≤ (b.toInt - d.toInt) * 100 := fun q => ⟨by
    have := Int.mul_le_mul_of_nonneg_left r1 q
    omega, Int.mul_le_mul_of_nonneg_left r2 q⟩
  have g2 : b.toInt - d.toInt ≤ 0 → (b.toInt - d.toInt) * r.toInt ≤ b.toInt - d.toInt ∧ (b.toInt - d.toInt) * 100 ≤ (b.toInt - d.toInt) * r.toInt := fun q => ⟨by
    have := Int.mul_le_mul_of_nonpos_left q r1
    omega, Int.mul_le_mul_of_nonpos_left q r2⟩
  unfold mFld fld
  rw [m1]
  generalize hP : (b.toInt - d.toInt) * r.toInt = P at *
  rcases Int.lt_trichotomy (b.toInt - d.toInt) 0 with hF | hF | hF
  · -- below
    have l0 : b - d < 0 := Int32.lt_iff_toInt_lt.mpr (by rw [ea, t0]; omega)
    have n0 : ¬ 0 < b - d := fun q => by
      have := Int32.lt_iff_toInt_lt.mp q
      rw [ea, t0] at this
      omega
    obtain ⟨p1, p2⟩ := g2 (by omega)
    have hm : (((b - d) * r / 100)).toInt = -((-P) / 100) := by rw [m2]; exact td_neg (by omega)
    by_cases h0 : (b - d) * r / 100 = 0
    · rw [if_pos h0, if_pos h0, if_neg n0, if_pos l0, if_pos l0]
      have e := key (-1) (by rw [tm1]; omega) (by rw [tm1]; omega)
      rw [tm1] at e
      rw [h0, t0] at hm
      exact ⟨rfl, flI_neg hF p1 p2 hm (Or.inl ⟨rfl, e⟩)⟩
    · rw [if_neg h0, if_neg h0]
      have hz : -20000000 ≤ ((b - d) * r / 100).toInt ∧ ((b - d) * r / 100).toInt ≤ 20000000 := by
        generalize ((b - d) * r / 100).toInt = z at hm
        omega
      have e := key ((b - d) * r / 100) hz.1 hz.2
      have hne : ¬ ((b - d) * r / 100).toInt = 0 := fun q => h0 (Int32.toInt_inj.mp q)
      exact ⟨rfl, flI_neg hF p1 p2 hm (Or.inr ⟨hne, e⟩)⟩
  · have e0 : b - d = 0 := Int32.toInt_inj.mp (by rw [ea, t0]; omega)
    rw [e0]
    have h0 : (0 : Int32) * r / 100 = 0 := by rw [Int32.zero_mul]; decide
    rw [if_pos h0, if_pos h0, if_neg (by decide), if_neg (by decide), if_neg (by decide), if_pos rfl]
    have e := key 0 (by decide) (by decide)
    rw [t0] at e
    exact ⟨rfl, flI_0 hF e⟩
  · have l0 : 0 < b - d := Int32.lt_iff_toInt_lt.mpr (by rw [ea, t0]; omega)
    have n0 : ¬ b - d < 0 := fun q => by
      have := Int32.lt_iff_toInt_lt.mp q
      rw [ea, t0] at this
      omega
    have ne : ¬ b - d = 0 := fun q => by
      rw [q, t0] at ea
      omega
    obtain ⟨p1, p2⟩ := g1 (by omega)
    have hm : (((b - d) * r / 100)).toInt = P / 100 := by rw [m2]; exact td_pos (by omega)
    by_cases h0 : (b - d) * r / 100 = 0
    · rw [if_pos h0, if_pos h0, if_pos l0, if_neg n0, if_neg ne]
      have e := key 1 (by rw [t1]; omega) (by rw [t1]; omega)
      rw [t1] at e
      rw [h0, t0] at hm
      exact ⟨rfl, flI_pos hF p1 p2 hm (Or.inl ⟨rfl, e⟩)⟩
    · rw [if_neg h0, if_neg h0]
      have hz : -20000000 ≤ ((b - d) * r / 100).toInt ∧ ((b - d) * r / 100).toInt ≤ 20000000 := by
        generalize ((b - d) * r / 100).toInt = z at hm
        omega
      have e := key ((b - d) * r / 100) hz.1 hz.2
      have hne : ¬ ((b - d) * r / 100).toInt = 0 := fun q => h0 (Int32.toInt_inj.mp q)
      exact ⟨rfl, flI_pos hF p1 p2 hm (Or.inr ⟨hne, e⟩)⟩
theorem cOk.fl {a1 a2 n : Int} {c : Col} {r : Int32} (h : cOk a1 a2 n c) (hN : sI xN c.1 ≤ 128000 * a1) (hl : lim a1 a2 n) (r1 : 1 ≤ r.toInt) (r2 : r.toInt ≤ 100) : mFld c.2 (lbal c.1) r = fld c.2 (lbal c.1) r ∧ cOk a1 a2 n (c.1, fld c.2 (lbal c.1) r) := by
  have hb := cOk.bal h.1 h.2.1 h.2.2.2.2.1 hN hl
  have hn := h.num hN hl
  have hn2 := hb.num hN hl
  have hb2 : (lbal c.1).toInt ≤ 5200000 := hn2.2.2.2.2.2.2.2.2
  obtain ⟨q1, q2, q3, q4, q5, q6⟩ := h
  obtain ⟨p1, p2, p3, p4, p5, p6⟩ := hb
  have p3 : 0 ≤ (lbal c.1).toInt := p3
  have p4 : 33 * (lbal c.1).toInt ≤ _ := p4
  have p6 : sI xT c.1 - (lbal c.1).toInt ≤ _ := p6
  obtain ⟨f1, f2, f3, f4⟩ := fld_num (d := c.2) (b := lbal c.1) (r := r) q3 (by omega) p3 (by omega) r1 r2
  refine ⟨f1, q1, q2, ?_, ?_, q5, ?_⟩
  · show 0 ≤ (fld c.2 (lbal c.1) r).toInt
    omega
  · show 33 * (fld c.2 (lbal c.1) r).toInt ≤ _
    omega
  · show sI xT c.1 - (fld c.2 (lbal c.1) r).toInt ≤ _
    omega
theorem mFl_sFl {S : St} {b : Nat} (h : mFld (S.1 b).2 (lbal (S.1 b).1) (S.2.2.2.1 4) = fld (S.1 b).2 (lbal (S.1 b).1) (S.2.2.2.1 4)) : mFl S b = sFl S b := by
  unfold mFl sFl
  rw [h]
/-- ice in a column -/
theorem i32_le0 {z : Int32} : z ≤ 0 ↔ z.toInt ≤ 0 := Int32.le_iff_toInt_le
theorem pIce_ok {a1 a2 n : Int} {c : Col} {T : Nat → Int32} (h : cOk a1 a2 n c) (hN : sI xN c.1 ≤ 128000 * a1) (hl : lim a1 a2 n) (hT : sOk T) : cOk a1 a2 (n + 1) (pIce c T).1 ∧ sI xN (pIce c T).1.1 = sI xN c.1 := by
  have hm := h.mono (Int.le_refl a1) (Int.le_refl a2) (show n ≤ n + 1 by omega)
  have hn := h.num hN hl
  obtain ⟨l, b⟩ := c
  obtain ⟨q1, q2, q3, q4, q5, q6⟩ := h
  obtain ⟨T1, T1', T2, T2', -⟩ := hT
  have q1 : lOk l := q1
  have q2 : l.length ≤ 8 := q2
  have q3 : 0 ≤ b.toInt := q3
  have q4 : 33 * b.toInt ≤ _ := q4
  have q5 : sI xI l ≤ _ := q5
  have q6 : sI xT l - b.toInt ≤ _ := q6
  obtain ⟨-, -, -, -, -, -, hT0, hT15, -⟩ := hn
  have hT15 : sI xT l ≤ 15000000 := hT15
  cases l with
  | nil => exact ⟨hm, rfl⟩
  | cons x t =>
    have vx := q1 x List.mem_cons_self
    have nx := vOk_num vx
    have nt := lOk_num q1.tail
    have eT : sI xT (x :: t) = xT x + sI xT t := rfl
    have eI : sI xI (x :: t) = xI x + sI xI t := rfl
    have ex : xT x = x.2.2.toInt := rfl
    show cOk a1 a2 (n + 1) (if T 0 < ltop (x :: t, b) then (((pGrow (x :: t) (T 1)).1, b), (pGrow (x :: t) (T 1)).2, 0) else if x.1 = 0 then ((lThin (x :: t) 0 (if x.2.2 < T 2 then x.2.2 else T 2), b), 0, (if x.2.2 < T 2 then x.2.2 else T 2)) else ((x :: t, b), 0, 0) : Col × Int32 × Int32).1 ∧ sI xN (if T 0 < ltop (x :: t, b) then (((pGrow (x :: t) (T 1)).1, b), (pGrow (x :: t) (T 1)).2, 0) else if x.1 = 0 then ((lThin (x :: t) 0 (if x.2.2 < T 2 then x.2.2 else T 2), b), 0, (if x.2.2 < T 2 then x.2.2 else T 2)) else ((x :: t, b), 0, 0) : Col × Int32 × Int32).1.1 = sI xN (x :: t)
    by_cases htop : T 0 < ltop (x :: t, b)
    · rw [if_pos htop]
      by_cases hx : x.1 = 0
      · have eg : (pGrow (x :: t) (T 1)).1 = (x.1, x.2.1, x.2.2 + T 1) :: t := by
          show (if x.1 = 0 then ((x.1, x.2.1, x.2.2 + T 1) :: t, T 1) else if t.length < 7 ∧ 0 < T 1 then ((0, 9, T 1) :: x :: t, T 1) else (x :: t, 0) : List Lay × Int32).1 = _
          rw [if_pos hx]
        rw [eg]
        have es : (x.2.2 + T 1).toInt = x.2.2.toInt + (T 1).toInt := ti_add (by omega) (by omega)
        have y0 : xI (x.1, x.2.1, x.2.2 + T 1) = x.2.2.toInt + (T 1).toInt := (if_pos hx).trans es
        have y1 : xI x = x.2.2.toInt := if_pos hx
        have yT : xT (x.1, x.2.1, x.2.2 + T 1) = x.2.2.toInt + (T 1).toInt := es
        have z0 : xN (x.1, x.2.1, x.2.2 + T 1) = 0 := if_pos hx
        have z1 : xN x = 0 := if_pos hx
        refine ⟨⟨fun y hy => ?_, q2, q3, hm.2.2.2.1, ?_, ?_⟩, ?_⟩
        · rcases List.mem_cons.mp hy with rfl | hy
          · exact ⟨vx.1, by show 1 ≤ (x.2.2 + T 1).toInt; omega⟩
          · exact q1 y (List.mem_cons_of_mem _ hy)
        · show xI (x.1, x.2.1, x.2.2 + T 1) + sI xI t ≤ _
          omega
        · show xT (x.1, x.2.1, x.2.2 + T 1) + sI xT t - b.toInt ≤ _
          omega
        · show xN (x.1, x.2.1, x.2.2 + T 1) + sI xN t = xN x + sI xN t
          omega
      · by_cases hg : t.length < 7 ∧ 0 < T 1
        · have eg : (pGrow (x :: t) (T 1)).1 = (0, 9, T 1) :: x :: t := by
            show (if x.1 = 0 then ((x.1, x.2.1, x.2.2 + T 1) :: t, T 1) else if t.length < 7 ∧ 0 < T 1 then ((0, 9, T 1) :: x :: t, T 1) else (x :: t, 0) : List Lay × Int32).1 = _
            rw [if_neg hx, if_pos hg]
          rw [eg]
          have g0 : 0 < (T 1).toInt := Int32.lt_iff_toInt_lt.mp hg.2
          have y0 : xI (0, 9, T 1) = (T 1).toInt := if_pos rfl
          have yT : xT (0, 9, T 1) = (T 1).toInt := rfl
          have z0 : xN (0, 9, T 1) = 0 := if_pos rfl
          refine ⟨⟨fun y hy => ?_, ?_, q3, hm.2.2.2.1, ?_, ?_⟩, ?_⟩
          · rcases List.mem_cons.mp hy with rfl | hy
            · exact ⟨Or.inl ⟨rfl, rfl⟩, by show 1 ≤ (T 1).toInt; omega⟩
            · exact q1 y hy
          · show t.length + 1 + 1 ≤ 8
            omega
          · show xI (0, 9, T 1) + sI xI (x :: t) ≤ _
            omega
          · show xT (0, 9, T 1) + sI xT (x :: t) - b.toInt ≤ _
            omega
          · show xN (0, 9, T 1) + sI xN (x :: t) = sI xN (x :: t)
            omega
        · have eg : (pGrow (x :: t) (T 1)).1 = x :: t := by
            show (if x.1 = 0 then ((x.1, x.2.1, x.2.2 + T 1) :: t, T 1) else if t.length < 7 ∧ 0 < T 1 then ((0, 9, T 1) :: x :: t, T 1) else (x :: t, 0) : List Lay × Int32).1 = _
            rw [if_neg hx, if_neg hg]
          rw [eg]
          exact ⟨hm, rfl⟩
    · rw [if_neg htop]
      by_cases hx : x.1 = 0
      · rw [if_pos hx]
        have y1 : xI x = x.2.2.toInt := if_pos hx
        have z1 : xN x = 0 := if_pos hx
        generalize hby : (if x.2.2 < T 2 then x.2.2 else T 2) = by'
        have b1 : 0 ≤ by'.toInt ∧ by'.toInt ≤ x.2.2.toInt := by
          rw [← hby]
          split
          · omega
          · rename_i a
            have := Int32.le_iff_toInt_le.mp (Int32.not_lt.mp a)
            omega
        have es : (x.2.2 - by').toInt = x.2.2.toInt - by'.toInt := ti_sub (by omega) (by omega)
        show cOk a1 a2 (n + 1) (lThin (x :: t) 0 by', b) ∧ sI xN (lThin (x :: t) 0 by') = sI xN (x :: t)
        have el : lThin (x :: t) 0 by' = if x.2.2 - by' ≤ 0 then t else (x.1, x.2.1, x.2.2 - by') :: t := rfl
        rw [el]
        by_cases h0 : x.2.2 - by' ≤ 0
        · rw [if_pos h0]
          refine ⟨⟨q1.tail, Nat.le_of_succ_le q2, q3, hm.2.2.2.1, ?_, ?_⟩, ?_⟩
          · show sI xI t ≤ _
            omega
          · show sI xT t - b.toInt ≤ _
            omega
          · show sI xN t = xN x + sI xN t
            omega
        · rw [if_neg h0]
          have h1 : ¬ (x.2.2 - by').toInt ≤ 0 := fun q => h0 (i32_le0.mpr q)
          have y0 : xI (x.1, x.2.1, x.2.2 - by') = x.2.2.toInt - by'.toInt := (if_pos hx).trans es
          have yT : xT (x.1, x.2.1, x.2.2 - by') = x.2.2.toInt - by'.toInt := es
          have z0 : xN (x.1, x.2.1, x.2.2 - by') = 0 := if_pos hx
          refine ⟨⟨fun y hy => ?_, q2, q3, hm.2.2.2.1, ?_, ?_⟩, ?_⟩
          · rcases List.mem_cons.mp hy with rfl | hy
            · exact ⟨vx.1, by show 1 ≤ (x.2.2 - by').toInt; omega⟩
            · exact q1 y (List.mem_cons_of_mem _ hy)
          · show xI (x.1, x.2.1, x.2.2 - by') + sI xI t ≤ _
            omega
          · show xT (x.1, x.2.1, x.2.2 - by') + sI xT t - b.toInt ≤ _
            omega
          · show xN (x.1, x.2.1, x.2.2 - by') + sI xN t = xN x + sI xN t
            omega
      · rw [if_neg hx]
        exact ⟨hm, rfl⟩
