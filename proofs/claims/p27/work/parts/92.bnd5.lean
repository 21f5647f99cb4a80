/-! bounds: erosion over all blocks, a step, steps -/
def gTw (G : Nat → Int) (b k : Nat) : Int := (if 1 ≤ b ∧ b ≤ k then G b else 0) + (if b + 1 < k then G b else 0)
theorem gTw_mono {G : Nat → Int} {b : Nat} (h : 0 ≤ G b) (k : Nat) : gTw G b k ≤ gTw G b (k + 1) := by
  unfold gTw
  split <;> split <;> split <;> split <;> omega
theorem gTw_hit {G : Nat → Int} {v k : Nat} (h : v + 1 = k ∨ v = k + 1) : gTw G v (k + 1) = gTw G v k + G v := by
  unfold gTw
  split <;> split <;> split <;> split <;> omega
theorem gTw_le {G : Nat → Int} {b : Nat} (h : 0 ≤ G b) (k : Nat) : gTw G b k ≤ 2 * G b := by
  unfold gTw
  split <;> split <;> omega
def erI (C : Cru) (G : Nat → Int) (tk : Nat → Int32) (k : Nat) (S : St) (pl : Nat → Nat) : Prop :=
  (∀ b, b < 10 → lOk (S.1 b).1 ∧ (S.1 b).1.length ≤ 8 ∧ (S.1 b).2 = (C b).2 ∧ sI xI (S.1 b).1 = sI xI (C b).1 ∧ 3 * sI xT (S.1 b).1 ≤ 3 * sI xT (C b).1 + gTw G b k) ∧ nS S.1 10 ≤ nS C 10 ∧ ∀ b, k ≤ b → b < 10 → 0 < tk b → pend (S.1 b).1 (pl b) (tk b).toInt
theorem ti_div22 {a : Int32} (h : 0 ≤ a.toInt) : (a / 22).toInt = a.toInt / 22 := by
  rw [Int32.toInt_div_of_ne_right _ _ (by decide)]
  exact Int.tdiv_eq_ediv_of_nonneg h
theorem er_step {C : Cru} {G : Nat → Int} {tk : Nat → Int32} {k v : Nat} {S : St} {pl : Nat → Nat} (hI : erI C G tk k S pl) (hk : k < 10) (hv : v < 10) (hvk : v + 1 = k ∨ v = k + 1) (hG : ∀ b, b < 10 → 0 ≤ G b ∧ G b ≤ 30000000) (hT0 : ∀ b, b < 10 → sI xT (C b).1 ≤ 15000000) (hp : 0 < tk k) (ht : (tk k).toInt ≤ 15000000) (h5 : 5 * (tk k).toInt ≤ G v) :
    mEr S pl k (tk k) v = sEr S pl k (tk k) v ∧ erI C G tk (k + 1) (sEr S pl k (tk k) v).1 (sEr S pl k (tk k) v).2 ∧ (sEr S pl k (tk k) v).1.2.1 = S.2.1 ∧ (sEr S pl k (tk k) v).1.2.2.2.1 = S.2.2.2.1 := by
  obtain ⟨i1, i2, i3⟩ := hI
  have hp0 : 0 < (tk k).toInt := Int32.lt_iff_toInt_lt.mp hp
  obtain ⟨pk1, y, py, pt⟩ := i3 k (Nat.le_refl k) hk hp
  have hyi : ¬ y.1 = 0 := by
    obtain ⟨y2, q1, q2⟩ := pk1 (pl k) (Nat.le_refl _)
    rw [py] at q1
    cases q1
    exact q2
  obtain ⟨c1, c2, c3, c4, c5⟩ := i1 k hk
  obtain ⟨v1, v2, v3, v4, v5⟩ := i1 v hv
  have vy : vOk y := c1 y (List.mem_of_getElem? py)
  obtain ⟨d1, d2⟩ := vOk_dens vy
  obtain ⟨t1, t2, t3, t4, t5, t6⟩ := thin_ok py c1 hyi hp0 pt
  have m1 := Int.mul_le_mul_of_nonneg_left d2 (show 0 ≤ (tk k).toInt by omega)
  have m0 := Int.mul_nonneg (show 0 ≤ (tk k).toInt by omega) (show 0 ≤ y.2.1.toInt by omega)
  have ew : (tk k * y.2.1).toInt = (tk k).toInt * y.2.1.toInt := ti_mul (by omega) (by omega)
  have ed : (tk k * y.2.1 / 22).toInt = (tk k).toInt * y.2.1.toInt / 22 := by
    rw [ti_div22 (by rw [ew]; exact m0), ew]
  have hGv := hG v hv
  have hT0v := hT0 v hv
  have hgl := gTw_le (G := G) (b := v) hGv.1 k
  have hne : ¬ v = k := by omega
  have hDv : ∀ c : Col, cSet S.1 k c v = S.1 v := fun c => if_neg hne
  have t5' : sI xN (lThin (S.1 k).1 (pl k) (tk k)) = sI xN (S.1 k).1 - (tk k).toInt * y.2.1.toInt := by rw [t5, Int.mul_comm]
  generalize hP : (tk k).toInt * y.2.1.toInt = P at *
  obtain ⟨l1, l2, l3, l4, l5, l6, l7⟩ := lay_ok (l := (S.1 v).1) (pl := pl v) (th := tk k * y.2.1 / 22) v1 v2 (by rw [ed]; omega) (by rw [ed]; omega) (by omega)
  rw [ed] at l5 l6
  have eS : sEr S pl k (tk k) v = (stAcc (stCol (stAcc (stCol S k (lThin (S.1 k).1 (pl k) (tk k), (S.1 k).2)) 4 (tk k * y.2.1)) v ((pLay (S.1 v).1 (pl v) (tk k * y.2.1 / 22)).1, (S.1 v).2)) 5 ((pLay (S.1 v).1 (pl v) (tk k * y.2.1 / 22)).2.1 * 22), fun j => if j = v then (pLay (S.1 v).1 (pl v) (tk k * y.2.1 / 22)).2.2 else pl j) := by
    unfold sEr
    rw [py]
    dsimp only
    rw [hDv]
  have eM : mEr S pl k (tk k) v = sEr S pl k (tk k) v := by
    rw [eS]
    unfold mEr
    rw [py]
    dsimp only
    rw [t1, hDv, l1, Int32.mul_comm 22]
    rfl
  have eC : (sEr S pl k (tk k) v).1.1 = cSet (cSet S.1 k (lThin (S.1 k).1 (pl k) (tk k), (S.1 k).2)) v ((pLay (S.1 v).1 (pl v) (tk k * y.2.1 / 22)).1, (S.1 v).2) := by
    rw [eS]
    rfl
  refine ⟨eM, ⟨fun b hb => ?_, ?_, fun b hb hb2 hb3 => ?_⟩, by rw [eS]; rfl, by rw [eS]; rfl⟩
  · rw [eC]
    by_cases ev : b = v
    · subst ev
      rw [show cSet (cSet S.1 k (lThin (S.1 k).1 (pl k) (tk k), (S.1 k).2)) b ((pLay (S.1 b).1 (pl b) (tk k * y.2.1 / 22)).1, (S.1 b).2) b = ((pLay (S.1 b).1 (pl b) (tk k * y.2.1 / 22)).1, (S.1 b).2) from if_pos rfl]
      refine ⟨l2, l3, v3, l4.trans v4, ?_⟩
      show 3 * sI xT (pLay (S.1 b).1 (pl b) (tk k * y.2.1 / 22)).1 ≤ _
      rw [gTw_hit hvk]
      omega
    · rw [show cSet (cSet S.1 k (lThin (S.1 k).1 (pl k) (tk k), (S.1 k).2)) v ((pLay (S.1 v).1 (pl v) (tk k * y.2.1 / 22)).1, (S.1 v).2) b = cSet S.1 k (lThin (S.1 k).1 (pl k) (tk k), (S.1 k).2) b from if_neg ev]
      have hmono := gTw_mono (G := G) (b := b) (hG b hb).1 k
      by_cases ek : b = k
      · subst ek
        rw [show cSet S.1 b (lThin (S.1 b).1 (pl b) (tk b), (S.1 b).2) b = (lThin (S.1 b).1 (pl b) (tk b), (S.1 b).2) from if_pos rfl]
        refine ⟨t2, Nat.le_trans t3 c2, c3, t4.trans c4, ?_⟩
        show 3 * sI xT (lThin (S.1 b).1 (pl b) (tk b)) ≤ _
        omega
      · rw [show cSet S.1 k (lThin (S.1 k).1 (pl k) (tk k), (S.1 k).2) b = S.1 b from if_neg ek]
        obtain ⟨b1, b2, b3, b4, b5⟩ := i1 b hb
        exact ⟨b1, b2, b3, b4, by omega⟩
  · rw [eC, nS_set _ _ _ 10 hv, nS_set _ _ _ 10 hk, hDv]
    show nS S.1 10 - sI xN (S.1 k).1 + sI xN (lThin (S.1 k).1 (pl k) (tk k)) - sI xN (S.1 v).1 + sI xN (pLay (S.1 v).1 (pl v) (tk k * y.2.1 / 22)).1 ≤ _
    omega
  · have hbk : ¬ b = k := by omega
    have q := i3 b (by omega) hb2 hb3
    rw [eC, eS]
    by_cases ev : b = v
    · subst ev
      rw [show cSet (cSet S.1 k (lThin (S.1 k).1 (pl k) (tk k), (S.1 k).2)) b ((pLay (S.1 b).1 (pl b) (tk k * y.2.1 / 22)).1, (S.1 b).2) b = ((pLay (S.1 b).1 (pl b) (tk k * y.2.1 / 22)).1, (S.1 b).2) from if_pos rfl]
      show pend (pLay (S.1 b).1 (pl b) (tk k * y.2.1 / 22)).1 (if b = b then (pLay (S.1 b).1 (pl b) (tk k * y.2.1 / 22)).2.2 else pl b) _
      rw [if_pos rfl]
      exact l7 _ q
    · rw [show cSet (cSet S.1 k (lThin (S.1 k).1 (pl k) (tk k), (S.1 k).2)) v ((pLay (S.1 v).1 (pl v) (tk k * y.2.1 / 22)).1, (S.1 v).2) b = cSet S.1 k (lThin (S.1 k).1 (pl k) (tk k), (S.1 k).2) b from if_neg ev, show cSet S.1 k (lThin (S.1 k).1 (pl k) (tk k), (S.1 k).2) b = S.1 b from if_neg hbk]
      show pend (S.1 b).1 (if b = v then _ else pl b) _
      rw [if_neg ev]
      exact q
theorem erI.next {C : Cru} {G : Nat → Int} {tk : Nat → Int32} {k : Nat} {S : St} {pl : Nat → Nat} (hI : erI C G tk k S pl) (hG : ∀ b, b < 10 → 0 ≤ G b) : erI C G tk (k + 1) S pl := by
  refine ⟨fun b hb => ?_, hI.2.1, fun b h1 h2 h3 => hI.2.2 b (by omega) h2 h3⟩
  obtain ⟨b1, b2, b3, b4, b5⟩ := hI.1 b hb
  have := gTw_mono (G := G) (b := b) (hG b hb) k
  exact ⟨b1, b2, b3, b4, by omega⟩
theorem erN_ok {a1 a2 n : Int} {S : St} (h : gOk2 a1 a2 n S.1) (hl : lim a1 a2 n) (hT : sOk S.2.2.2.1) : ∀ k, k ≤ 10 → mErN S (eT S.1 (S.2.2.2.1 3)) (eV S.1) k = erN S (eT S.1 (S.2.2.2.1 3)) (eV S.1) k ∧ erI S.1 (fun b => 4000 * (a1 + a2) + 500 * n + 1 - (ltop (S.1 b)).toInt) (eT S.1 (S.2.2.2.1 3)) k (erN S (eT S.1 (S.2.2.2.1 3)) (eV S.1) k).1 (erN S (eT S.1 (S.2.2.2.1 3)) (eV S.1) k).2 ∧ (erN S (eT S.1 (S.2.2.2.1 3)) (eV S.1) k).1.2.1 = S.2.1 ∧ (erN S (eT S.1 (S.2.2.2.1 3)) (eV S.1) k).1.2.2.2.1 = S.2.2.2.1 := by
  obtain ⟨-, -, -, -, e1, e2, -⟩ := id hT
  obtain ⟨l1, l2, l3, l4, l5⟩ := id hl
  have hG : ∀ b, b < 10 → 0 ≤ 4000 * (a1 + a2) + 500 * n + 1 - (ltop (S.1 b)).toInt ∧ 4000 * (a1 + a2) + 500 * n + 1 - (ltop (S.1 b)).toInt ≤ 30000000 := fun b hb => by
    have q := (h.1 b hb).num (h.num hl hb) hl
    obtain ⟨-, -, q3, q4, -, q6⟩ := h.1 b hb
    rw [q.2.2.2.1]
    have := q.2.2.2.2.2.2
    omega
  have hT0 : ∀ b, b < 10 → sI xT (S.1 b).1 ≤ 15000000 := fun b hb => ((h.1 b hb).num (h.num hl hb) hl).2.2.2.2.2.2.2.1
  intro k
  induction k with
  | zero =>
    intro _
    refine ⟨rfl, ⟨fun b hb => ?_, Int.le_refl _, fun b _ hb hp => ?_⟩, rfl, rfl⟩
    · obtain ⟨q1, q2, -⟩ := h.1 b hb
      have := gTw_mono (G := fun b => 4000 * (a1 + a2) + 500 * n + 1 - (ltop (S.1 b)).toInt) (b := b) (hG b hb).1 0
      refine ⟨q1, q2, rfl, rfl, ?_⟩
      have z : gTw (fun b => 4000 * (a1 + a2) + 500 * n + 1 - (ltop (S.1 b)).toInt) b 0 = 0 := by
        unfold gTw
        rw [if_neg (by omega), if_neg (by omega)]
        rfl
      rw [z]
      show 3 * sI xT (S.1 b).1 ≤ _
      omega
    · obtain ⟨v, x, t, hv, hv10, hvb, hx, hi, q1, -⟩ := (eT_eq h hl hb e1 e2).2 hp
      show pend (S.1 b).1 0 _
      rw [hx]
      exact ⟨fun j hj => ⟨x, by rw [show j = 0 by omega]; rfl, hi⟩, x, rfl, q1⟩
  | succ k ih =>
    intro hk
    obtain ⟨i1, i2, i3, i4⟩ := ih (by omega)
    by_cases hp : 0 < eT S.1 (S.2.2.2.1 3) k
    · obtain ⟨v, x, t, hv, hv10, hvb, hx, hi, q1, q2⟩ := (eT_eq h hl (by omega) e1 e2).2 hp
      have ev : eV S.1 k = v := by unfold eV; rw [hv]; rfl
      have m1 : mErN S (eT S.1 (S.2.2.2.1 3)) (eV S.1) (k + 1) = mEr (mErN S (eT S.1 (S.2.2.2.1 3)) (eV S.1) k).1 (mErN S (eT S.1 (S.2.2.2.1 3)) (eV S.1) k).2 k (eT S.1 (S.2.2.2.1 3) k) v := (if_pos hp).trans (by rw [ev])
      have m2 : erN S (eT S.1 (S.2.2.2.1 3)) (eV S.1) (k + 1) = sEr (erN S (eT S.1 (S.2.2.2.1 3)) (eV S.1) k).1 (erN S (eT S.1 (S.2.2.2.1 3)) (eV S.1) k).2 k (eT S.1 (S.2.2.2.1 3) k) v := (if_pos hp).trans (by rw [ev])
      have hxt := hT0 k (by omega)
      have vx : x.2.2.toInt ≤ sI xT (S.1 k).1 := by
        have := sI_at xT (S.1 k).1 (h.1 k (by omega)).1.nnT (j := 0) (by rw [hx]; exact Nat.succ_pos _)
        have e : (S.1 k).1[0]'(by rw [hx]; exact Nat.succ_pos _) = x := by simp [hx]
        rw [e] at this
        exact this
      have gk := (hG k (by omega)).1
      obtain ⟨s1, s2, s3, s4⟩ := er_step i2 (by omega) hv10 (by omega) hG hT0 hp (by omega) (by show _ ≤ 4000 * (a1 + a2) + 500 * n + 1 - (ltop (S.1 v)).toInt; omega)
      rw [m1, m2, i1]
      exact ⟨s1, s2, s3.trans i3, s4.trans i4⟩
    · have m1 : mErN S (eT S.1 (S.2.2.2.1 3)) (eV S.1) (k + 1) = mErN S (eT S.1 (S.2.2.2.1 3)) (eV S.1) k := if_neg hp
      have m2 : erN S (eT S.1 (S.2.2.2.1 3)) (eV S.1) (k + 1) = erN S (eT S.1 (S.2.2.2.1 3)) (eV S.1) k := if_neg hp
      rw [m1, m2]
      exact ⟨i1, i2.next (fun b hb => (hG b hb).1), i3, i4⟩
