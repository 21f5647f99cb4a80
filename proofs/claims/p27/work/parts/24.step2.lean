/-! Stepper: erosion and floating -/
def eT (C : Cru) (e : Int32) (b : Nat) : Int32 := if cWhy C b e = 0 then cTk C b ((cLow C b).getD 0) e else 0
theorem cWhy_0 {C : Cru} {b : Nat} {e : Int32} (h : cWhy C b e = 0) : ¬ (C b).1 = [] ∧ ¬ icy (C b).1 = true ∧ ∃ v, cLow C b = some v ∧ ¬ cTk C b v e = 0 := by
  unfold cWhy at h
  split at h
  · exact absurd h (by decide)
  · rename_i h1
    split at h
    · exact absurd h (by decide)
    · rename_i h2
      split at h
      · exact absurd h (by decide)
      · rename_i v h3
        split at h
        · exact absurd h (by decide)
        · rename_i h4
          exact ⟨h1, h2, v, h3, h4⟩
def f_X4_findErosion : gF := fun av M post => match av with
  | [.inr (.inl (4, w)), .inr (.inl (3, p))] => ∃ S, stR M p S ∧ (w + 4 ≤ p ∨ p + 131 ≤ w) ∧ ∀ M', (∀ b, b < 10 → M' (w + 2) b = eT S.1 (S.2.2.2.1 3) b ∧ M' (w + 3) b = nI 0 ∧ (cWhy S.1 b (S.2.2.2.1 3) = 0 → M' (w + 1) b = nI ((cLow S.1 b).getD 0))) → gFn M M' w 4 → post none M'
  | _ => False
theorem lk_X4_findErosion (l : Launch) : gLinks l RX4 4 [(gTn f_X1_reason, 0, 0, 1), (gTn f_X1_lowerNeighbor, 0, 0, 1), (gTn f_X1_takenBetween, 0, 0, 1)] pX4_findErosion := And.intro gf_RX4_45 (And.intro gf_RX4_18 (And.intro gf_RX4_15 (And.intro gf_RX4_21 (And.intro ⟨gTn f_X1_reason, 1, yX1_reason, cX1_reason, 4, (some .int), 3, _, rfl, by decide, yi_yX1_reason, ok_X1_reason l, by decide, by decide, rfl, rfl, ml_RX4_90, im_yX1_reason, se_yX1_reason⟩ (And.intro gf_RX4_9 (And.intro gf_RX4_21 (And.intro ⟨gTn f_X1_lowerNeighbor, 1, yX1_lowerNeighbor, cX1_lowerNeighbor, 4, (some .int), 2, _, rfl, by decide, yi_yX1_lowerNeighbor, ok_X1_lowerNeighbor l, by decide, by decide, rfl, rfl, ml_RX4_93, im_yX1_lowerNeighbor, se_yX1_lowerNeighbor⟩ (And.intro gf_RX4_15 (And.intro gf_RX4_21 (And.intro gf_RX4_9 (And.intro ⟨gTn f_X1_takenBetween, 1, yX1_takenBetween, cX1_takenBetween, 6, (some .int), 2, _, rfl, by decide, yi_yX1_takenBetween, ok_X1_takenBetween l, by decide, by decide, rfl, rfl, ml_RX4_97, im_yX1_takenBetween, se_yX1_takenBetween⟩ (trivial))))))))))))
theorem ok_X4_findErosion (l : Launch) : gOK l yX4_findErosion cX4_findErosion 4 none 4 0 0 (gTn f_X4_findErosion) := by
  refine gM_of (by decide +kernel) pX4_findErosion_ok (lk_X4_findErosion l) ?_
  intro SL SX K P av M run h
  unfold f_X4_findErosion at h
  split at h
  · rename_i w p
    obtain ⟨S, hS, hd, h⟩ := h
    refine ⟨⟨by simp [gC1], Nat.le_of_ble_eq_true rfl⟩, ?_⟩
    have t3 := hS.2.2.2.1 3 (by decide)
    refine run [9] 1000 _ _ _ _ _ _ rfl ?_
    conv => whnf
    refine ⟨vp_in_nI (n := 3) (by decide) (by decide), ?_⟩
    conv => whnf
    rw [show M (p + 45) (3 : Int32).toNatClampNeg = S.2.2.2.1 3 from t3]
    generalize S.2.2.2.1 3 = er at h
    refine upto (n := 10) (A := fun k => ∀ M', (∀ b, b < k → M' (w + 2) b = eT S.1 er b ∧ M' (w + 3) b = nI 0 ∧ (cWhy S.1 b er = 0 → M' (w + 1) b = nI ((cLow S.1 b).getD 0))) → gFn M M' w 4 → K 9 [some (.inr (.inl (4, w))), some (.inr (.inl (3, p))), some (.inl er), some (.inl (nI k))] [] M' gB0) ?_ (fun k hk ih => ?_) 0 (Nat.zero_le _) M (fun b hb => absurd hb (Nat.not_lt_zero b)) (gFn.rf _ _ _)
    · intro M' h1 h2
      refine run [9] 1000 _ _ _ _ _ _ rfl ?_
      conv => whnf
      refine ⟨fun h3 => ?_, fun h3 => ?_⟩
      · conv => whnf
        exact ⟨rfl, h M' h1 h2⟩
      · exact absurd (nI_le (Nat.le_refl 10) (by decide)) h3
    · intro M' h1 h2
      have e : (nI k).toNatClampNeg = k := nI_clamp (by omega)
      refine run [9] 1000 _ _ _ _ _ _ rfl ?_
      conv => whnf
      refine ⟨fun h3 => ?_, fun h3 => ?_⟩
      · exact absurd h3 (nI_ge hk (by decide))
      · conv => whnf
        refine ⟨vp_in_nI (by omega) (by decide), ?_⟩
        conv => whnf
        refine ⟨vp_in_nI (by omega) (by decide), ?_⟩
        conv => whnf
        rw [e]
        have f1 : gFn M' (gUp (gUp M' (w + 3) k 0) (w + 2) k 0) w 4 := (gFn.up (by omega) (by omega)).tr (gFn.up (by omega) (by omega))
        have a2 : gUp (gUp M' (w + 3) k 0) (w + 2) k 0 (w + 2) k = 0 := gUp_same _ _ _ _
        have a3 : gUp (gUp M' (w + 3) k 0) (w + 2) k 0 (w + 3) k = 0 := (gUp_ne (Or.inl (by omega))).trans (gUp_same _ _ _ _)
        have ao : ∀ r b, b ≠ k → gUp (gUp M' (w + 3) k 0) (w + 2) k 0 r b = M' r b := fun r b hb => (gUp_ne (Or.inr hb)).trans (gUp_ne (Or.inr hb))
        generalize gUp (gUp M' (w + 3) k 0) (w + 2) k 0 = M1 at f1 a2 a3 ao ⊢
        have hS1 := hS.fn (h2.tr f1) (by omega)
        refine ⟨rfl, rfl, S.1, k, hS1.1, hk, rfl, ?_⟩
        conv => whnf
        refine ⟨fun h4 => ?_, fun h4 => ?_⟩
        · conv => whnf
          rw [nI_1]
          refine ih M1 (fun b hb => ?_) (h2.tr f1)
          by_cases hbk : b = k
          · subst hbk
            refine ⟨?_, a3, fun q => absurd q h4⟩
            rw [a2, eT, if_neg h4]
          · rw [ao _ b hbk, ao _ b hbk, ao _ b hbk]
            exact h1 b (by omega)
        · obtain ⟨n1, n2, v, n3, n4⟩ := cWhy_0 h4
          have hv := cLow_lt hk n3
          conv => whnf
          refine ⟨rfl, rfl, S.1, k, hS1.1, hk, rfl, ?_⟩
          conv => whnf
          refine ⟨vp_in_nI (by omega) (by decide), ?_⟩
          conv => whnf
          rw [e]
          refine ⟨vp_in_nI (by omega) (by decide), ?_⟩
          conv => whnf
          rw [gUp_same, n3]
          have hS2 := hS1.fn (gFn.up (M := M1) (p := w) (n := 4) (q := w + 1) (k := k) (x := oN (some v)) (by omega) (by omega)) (by omega)
          refine ⟨rfl, rfl, S.1, k, v, hS2.1, hk, hv, n1, rfl, rfl, ?_⟩
          conv => whnf
          refine ⟨vp_in_nI (by omega) (by decide), ?_⟩
          conv => whnf
          try rw [e]
          rw [nI_1]
          refine ih _ (fun b hb => ?_) (h2.tr (f1.tr ((gFn.up (by omega) (by omega)).tr (gFn.up (by omega) (by omega)))))
          by_cases hbk : b = k
          · subst hbk
            refine ⟨?_, ?_, fun q => ?_⟩
            · rw [gUp_same, eT, if_pos h4, n3]
              rfl
            · rw [gUp_ne (Or.inl (by omega)), gUp_ne (Or.inl (by omega))]
              exact a3
            · rw [gUp_ne (Or.inl (by omega)), gUp_same, n3]
              rfl
          · rw [gUp_ne (Or.inr hbk), gUp_ne (Or.inr hbk), gUp_ne (Or.inr hbk), gUp_ne (Or.inr hbk), gUp_ne (Or.inr hbk), gUp_ne (Or.inr hbk), ao _ b hbk, ao _ b hbk, ao _ b hbk]
            exact h1 b (by omega)
  · exact h.elim
/-- sediment laid down: the layers, how much stays, where the losing layer is then -/
def pNew (l : List Lay) (pl : Nat) (th : Int32) : List Lay × Int32 × Nat := if 8 ≤ l.length ∨ th = 0 then (l, 0, pl) else (l.insertIdx (lfb l) (1, 22, th), th, if lfb l ≤ pl then pl + 1 else pl)
def pLay (l : List Lay) (pl : Nat) (th : Int32) : List Lay × Int32 × Nat := match l[lfb l]? with
  | some x => if x.1 = 1 then (l.set (lfb l) (x.1, x.2.1, x.2.2 + th), th, pl) else pNew l pl th
  | none => pNew l pl th
theorem pLay_pl (l : List Lay) (pl : Nat) (th : Int32) : (pLay l pl th).2.2 ≤ pl + 1 := by
  unfold pLay pNew
  split <;> (try split) <;> (try split) <;> (try split) <;> simp only [] <;> omega
def f_X4_laidDown : gF := fun av M post => match av with
  | [.inr (.inl (4, w)), .inr (.inl (0, q)), .inl v, .inl th] => ∃ p S b pl, stR M p S ∧ b < 10 ∧ (w + 4 ≤ p ∨ p + 131 ≤ w) ∧ q = p + 1 + 1 + 1 + 4 * b ∧ v = nI b ∧ pl < 1000 ∧ M (w + 3) b = nI pl ∧
      ∀ M', stR M' p (stCol S b ((pLay (S.1 b).1 pl th).1, (S.1 b).2)) → M' (w + 3) b = nI (pLay (S.1 b).1 pl th).2.2 → (∀ j, j ≠ b → M' (w + 3) j = M (w + 3) j) → (∀ r, r ≠ w + 3 → (r < p ∨ p + 131 ≤ r) → M' r = M r) → post (some (.inl (pLay (S.1 b).1 pl th).2.1)) M'
  | _ => False
theorem lk_X4_laidDown (l : Launch) : gLinks l RX4 2 [(gTn f_X0_firstBelowIce, 0, 0, 0), (gTn f_X0_hasLayer, 0, 0, 0), (gTn f_X0_insert, 0, 0, 0)] pX4_laidDown := And.intro ⟨gTn f_X0_firstBelowIce, 0, yX0_firstBelowIce, cX0_firstBelowIce, 2, (some .int), 0, _, rfl, by decide, yi_yX0_firstBelowIce, ok_X0_firstBelowIce l, by decide, by decide, rfl, rfl, ml_RX4_115, im_yX0_firstBelowIce, se_yX0_firstBelowIce⟩ (And.intro ⟨gTn f_X0_hasLayer, 0, yX0_hasLayer, cX0_hasLayer, 2, (some .boolean), 1, _, rfl, by decide, yi_yX0_hasLayer, ok_X0_hasLayer l, by decide, by decide, rfl, rfl, ml_RX4_101, im_yX0_hasLayer, se_yX0_hasLayer⟩ (And.intro gf_RX4_118 (And.intro gf_RX4_70 (And.intro gf_RX4_54 (And.intro ⟨gTn f_X0_insert, 0, yX0_insert, cX0_insert, 6, none, 1, _, rfl, by decide, yi_yX0_insert, ok_X0_insert l, by decide, by decide, rfl, rfl, ml_RX4_86, im_yX0_insert, se_yX0_insert⟩ (And.intro gf_RX4_18 (And.intro gf_RX4_18 (trivial))))))))
theorem ok_X4_laidDown (l : Launch) : gOK l yX4_laidDown cX4_laidDown 5 (some .int) 2 0 0 (gTn f_X4_laidDown) := by
  refine gM_of (by decide +kernel) pX4_laidDown_ok (lk_X4_laidDown l) ?_
  intro SL SX K P av M run h
  unfold f_X4_laidDown at h
  split at h
  · rename_i w q v th
    obtain ⟨p, S, b, pl, hS, hb, hd, rfl, rfl, hpl, hp, h⟩ := h
    refine ⟨⟨by simp [gC1], Nat.le_of_ble_eq_true rfl⟩, ?_⟩
    have hc := hS.1 b hb
    have hk8 := hc.1
    have hfl := lfb_le (S.1 b).1
    have e : (nI b).toNatClampNeg = b := nI_clamp (by omega)
    have e2 : (nI (lfb (S.1 b).1)).toNatClampNeg = lfb (S.1 b).1 := nI_clamp (nI_lt8 (by omega))
    have new : (pLay (S.1 b).1 pl th = pNew (S.1 b).1 pl th) → K 39 [some (.inr (.inl (4, w))), some (.inr (.inl (0, p + 1 + 1 + 1 + 4 * b))), some (.inl (nI b)), some (.inl th), some (.inl (nI (lfb (S.1 b).1)))] [] M gB0 := by
      intro hnew
      rw [hnew] at h
      unfold pNew at h
      have same : (8 ≤ (S.1 b).1.length ∨ th = 0) → P (some (.inl 0)) M := fun q => by
        rw [if_pos q] at h
        exact h M (by rw [stCol_same]; exact hS) hp (fun _ _ => rfl) (fun _ _ _ => rfl)
      refine run [] 1000 _ _ _ _ _ _ rfl ?_
      conv => whnf
      rw [show M (p + 1 + 1 + 1 + 4 * b) 3 = nI (S.1 b).1.length from hc.2.1]
      refine ⟨fun h1 => ?_, fun h1 => ?_⟩
      · conv => whnf
        refine ⟨rfl, same (Or.inl ?_)⟩
        rcases Nat.lt_or_ge (S.1 b).1.length 8 with q | q
        · exact absurd h1 (nI_ge q (by decide))
        · exact q
      · have h8 : (S.1 b).1.length < 8 := by
          rcases Nat.lt_or_ge (S.1 b).1.length 8 with q | q
          · exact q
          · exact absurd (nI_le q (nI_lt8 hk8)) h1
        conv => whnf
        refine ⟨fun h2 => ?_, fun h2 => ?_⟩
        · conv => whnf
          rw [if_neg (fun q => q.elim (fun q => by omega) h2)] at h
          refine ⟨rfl, rfl, S.1 b, lfb (S.1 b).1, hc, h8, hfl, rfl, fun M1 g1 g2 => ?_⟩
          have hS1 := hS.col hb g1 g2
          have a1 : M1 (w + 3) = M (w + 3) := g2 _ (by omega)
          conv => whnf
          refine ⟨vp_in_nI (by omega) (by decide), ?_⟩
          conv => whnf
          rw [e, a1, hp]
          refine ⟨fun h3 => ?_, fun h3 => ?_⟩
          · conv => whnf
            refine ⟨rfl, h M1 hS1 ?_ (fun j hj => by rw [a1]) (fun r h4 h5 => g2 r (by omega))⟩
            rw [a1, hp, if_neg]
            exact fun q => Int32.not_lt.mpr (nI_le q (by omega)) h3
          · conv => whnf
            refine ⟨vp_in_nI (by omega) (by decide), ?_⟩
            conv => whnf
            refine ⟨vp_in_nI (by omega) (by decide), ?_⟩
            conv => whnf
            rw [e, a1, hp, nI_1]
            refine ⟨rfl, h _ (hS1.fn (gFn.up (p := w) (n := 4) (by omega) (by omega)) (by omega)) ?_ (fun j hj => ?_) (fun r h4 h5 => ?_)⟩
            · rw [gUp_same, if_pos]
              rcases Nat.lt_or_ge pl (lfb (S.1 b).1) with q | q
              · exact absurd (nI_lt q (nI_lt8 (by omega))) h3
              · exact q
            · rw [gUp_ne (Or.inr hj), a1]
            · rw [gUp_row h4]
              exact g2 r (by omega)
        · conv => whnf
          exact ⟨rfl, same (Or.inr h2)⟩
    refine run [39] 1000 _ _ _ _ _ _ rfl ?_
    conv => whnf
    refine ⟨rfl, rfl, S.1 b, hc, ?_⟩
    conv => whnf
    refine ⟨rfl, rfl, S.1 b, hc, ?_⟩
    conv => whnf
    rw [nI_toInt (nI_lt8 (by omega))]
    by_cases hlt : lfb (S.1 b).1 < (S.1 b).1.length
    · rw [if_pos ⟨by omega, by omega⟩]
      have hlay := hc.lay hlt
      have hat : (S.1 b).1[lfb (S.1 b).1]? = some (S.1 b).1[lfb (S.1 b).1] := List.getElem?_eq_getElem hlt
      refine ⟨fun h1 => ?_, fun h1 => ?_⟩
      · exact absurd h1 (by decide)
      · conv => whnf
        refine ⟨vp_in_nI (by omega) (by decide), ?_⟩
        conv => whnf
        rw [e2, show M (p + 1 + 1 + 1 + 4 * b + 1) (lfb (S.1 b).1) = _ from hlay.1]
        refine ⟨fun h2 => ?_, fun h2 => ?_⟩
        · conv => whnf
          refine new ?_
          unfold pLay
          rw [hat]
          show (if _ then _ else _) = _
          rw [if_neg h2]
        · conv => whnf
          refine ⟨vp_in_nI (by omega) (by decide), ?_⟩
          conv => whnf
          refine ⟨vp_in_nI (by omega) (by decide), ?_⟩
          conv => whnf
          rw [e2, show M (p + 1 + 1 + 1 + 4 * b + 3) (lfb (S.1 b).1) = _ from hlay.2.2]
          have heq : pLay (S.1 b).1 pl th = ((S.1 b).1.set (lfb (S.1 b).1) ((S.1 b).1[lfb (S.1 b).1].1, (S.1 b).1[lfb (S.1 b).1].2.1, (S.1 b).1[lfb (S.1 b).1].2.2 + th), th, pl) := by
            unfold pLay
            rw [hat]
            show (if _ then _ else _) = _
            rw [if_pos h2]
          rw [heq] at h
          have g1 := hc.setT hlt ((S.1 b).1[lfb (S.1 b).1].2.2 + th)
          have g2 : gFr M (gUp M (p + 1 + 1 + 1 + 4 * b + 3) (lfb (S.1 b).1) ((S.1 b).1[lfb (S.1 b).1].2.2 + th)) (p + 1 + 1 + 1 + 4 * b) := gFr.up (by omega) (by omega)
          refine ⟨rfl, h _ (hS.col hb g1 g2) ?_ (fun j hj => ?_) (fun r h4 h5 => g2 r (by omega))⟩
          · rw [g2 (w + 3) (by omega)]
            exact hp
          · rw [g2 (w + 3) (by omega)]
    · rw [if_neg (fun q => hlt (by omega))]
      refine ⟨fun h1 => ?_, fun h1 => ?_⟩
      · conv => whnf
        refine new ?_
        unfold pLay
        rw [List.getElem?_eq_none (by omega)]
      · exact absurd rfl h1
  · exact h.elim
def sEr (S : St) (pl : Nat → Nat) (b : Nat) (tk : Int32) (v : Nat) : St × (Nat → Nat) := match (S.1 b).1[pl b]? with
  | none => (S, pl)
  | some x =>
    (stAcc (stCol (stAcc (stCol S b (lThin (S.1 b).1 (pl b) tk, (S.1 b).2)) 4 (tk * x.2.1)) v ((pLay ((cSet S.1 b (lThin (S.1 b).1 (pl b) tk, (S.1 b).2)) v).1 (pl v) (tk * x.2.1 / 22)).1, ((cSet S.1 b (lThin (S.1 b).1 (pl b) tk, (S.1 b).2)) v).2)) 5 ((pLay ((cSet S.1 b (lThin (S.1 b).1 (pl b) tk, (S.1 b).2)) v).1 (pl v) (tk * x.2.1 / 22)).2.1 * 22),
      fun j => if j = v then (pLay ((cSet S.1 b (lThin (S.1 b).1 (pl b) tk, (S.1 b).2)) v).1 (pl v) (tk * x.2.1 / 22)).2.2 else pl j)
def f_X4_erode : gF := fun av M post => match av with
  | [.inr (.inl (4, w)), .inr (.inl (3, p)), .inl v] => ∃ S b u tk pl, stR M p S ∧ b < 10 ∧ u < 10 ∧ (w + 4 ≤ p ∨ p + 131 ≤ w) ∧ v = nI b ∧ M (w + 1) b = nI u ∧ M (w + 2) b = tk ∧ (∀ j, j < 10 → M (w + 3) j = nI (pl j) ∧ pl j < 1000) ∧
      ∀ M', stR M' p (sEr S pl b tk u).1 → (∀ j, j < 10 → M' (w + 3) j = nI ((sEr S pl b tk u).2 j)) → (∀ r, r ≠ w + 3 → (r < p ∨ p + 131 ≤ r) → M' r = M r) → post none M'
  | _ => False
theorem lk_X4_erode (l : Launch) : gLinks l RX4 4 [(gTn f_X0_hasLayer, 0, 0, 0), (gTn f_X6_isBlock, 0, 0, 99), (gTn f_X0_thin, 0, 0, 0), (gTn f_X4_laidDown, 0, 0, 4)] pX4_erode := And.intro gf_RX4_21 (And.intro gf_RX4_27 (And.intro gf_RX4_18 (And.intro gf_RX4_9 (And.intro ⟨gTn f_X0_hasLayer, 0, yX0_hasLayer, cX0_hasLayer, 2, (some .boolean), 1, _, rfl, by decide, yi_yX0_hasLayer, ok_X0_hasLayer l, by decide, by decide, rfl, rfl, ml_RX4_101, im_yX0_hasLayer, se_yX0_hasLayer⟩ (And.intro ⟨gTn f_X6_isBlock, 99, yX6_isBlock, cX6_isBlock, 1, (some .boolean), 1, rfl, yi_yX6_isBlock, ok_X6_isBlock l, by decide, Or.inr ⟨RX6, by simp [gNm]⟩, sm_yX6_isBlock⟩ (And.intro gf_RX4_15 (And.intro gf_RX4_108 (And.intro gf_RX4_15 (And.intro ⟨gTn f_X0_thin, 0, yX0_thin, cX0_thin, 3, none, 3, _, rfl, by decide, yi_yX0_thin, ok_X0_thin l, by decide, by decide, rfl, rfl, ml_RX4_79, im_yX0_thin, se_yX0_thin⟩ (And.intro gf_RX4_83 (And.intro gf_RX4_21 (And.intro gf_RX4_27 (And.intro ⟨gTn f_X4_laidDown, 4, yX4_laidDown, cX4_laidDown, 5, (some .int), 2, _, rfl, by decide, yi_yX4_laidDown, ok_X4_laidDown l, by decide, by decide, rfl, rfl, ml_RX4_111, im_yX4_laidDown, se_yX4_laidDown⟩ (And.intro gf_RX4_83 (trivial)))))))))))))))
theorem ok_X4_erode (l : Launch) : gOK l yX4_erode cX4_erode 8 none 4 0 0 (gTn f_X4_erode) := by
  refine gM_of (by decide +kernel) pX4_erode_ok (lk_X4_erode l) ?_
  intro SL SX K P av M run h
  unfold f_X4_erode at h
  split at h
  · rename_i w p v
    obtain ⟨S, b, u, tk, pl, hS, hb, hu, hd, rfl, hv, ht, hp, h⟩ := h
    refine ⟨⟨by simp [gC1], Nat.le_of_ble_eq_true rfl⟩, ?_⟩
    have hc := hS.1 b hb
    have hk8 := hc.1
    have e : (nI b).toNatClampNeg = b := nI_clamp (by omega)
    have e2 : (nI u).toNatClampNeg = u := nI_clamp (by omega)
    have e3 : (nI (pl b)).toNatClampNeg = pl b := nI_clamp (by have := (hp b hb).2; omega)
    unfold sEr at h
    refine run [] 1000 _ _ _ _ _ _ rfl ?_
    conv => whnf
    refine ⟨⟨vp_in_nI (N := 10) (by omega) (by decide), rfl⟩, ?_⟩
    conv => whnf
    refine ⟨vp_in_nI (by omega) (by decide), ?_⟩
    conv => whnf
    refine ⟨vp_in_nI (by omega) (by decide), ?_⟩
    conv => whnf
    rw [e, (hp b hb).1, hv]
    refine ⟨rfl, rfl, S.1 b, hc, ?_⟩
    conv => whnf
    rw [nI_toInt (by have := (hp b hb).2; omega)]
    by_cases hlt : pl b < (S.1 b).1.length
    · rw [if_pos ⟨by omega, by omega⟩]
      rw [List.getElem?_eq_getElem hlt] at h
      have hlay := hc.lay hlt
      generalize hx : (S.1 b).1[pl b] = x at h hlay
      refine ⟨fun h1 => ?_, fun h1 => ?_⟩
      · exact absurd h1 (by decide)
      · conv => whnf
        refine ⟨rfl, rfl, ?_⟩
        conv => whnf
        rw [if_pos ⟨nI_pos' (by omega), nI_le (b := 9) (by omega) (by decide)⟩]
        refine ⟨fun h2 => ?_, fun h2 => ?_⟩
        · conv => whnf
          refine ⟨vp_in_nI (by omega) (by decide), ?_⟩
          conv => whnf
          refine ⟨vp_in_nI (N := 8) (by omega) (by decide), ?_⟩
          conv => whnf
          refine ⟨vp_in_nI (by omega) (by decide), ?_⟩
          conv => whnf
          rw [e, e3, ht, show M (p + 1 + 1 + (gEl 8).2.1 + (gEl 8).2.2.1 * b + 2) (pl b) = x.2.1 from hlay.2.1]
          refine ⟨rfl, rfl, S.1 b, pl b, hc, hlt, rfl, fun M1 g1 g2 => ?_⟩
          have g2 : gFr M M1 (p + 1 + 1 + 1 + 4 * b) := g2
          have hS1 := hS.col hb g1 g2
          conv => whnf
          refine ⟨vp_in_nI (n := 4) (by decide) (by decide), ?_⟩
          conv => whnf
          refine ⟨vp_in_nI (n := 4) (by decide) (by decide), ?_⟩
          conv => whnf
          rw [show (4 : Int32).toNatClampNeg = 4 from rfl]
          refine ⟨⟨vp_in_nI (N := 10) (by omega) (by decide), rfl⟩, ?_⟩
          conv => whnf
          refine ⟨by decide, ?_⟩
          conv => whnf
          rw [e2]
          have hS2 := hS1.acc (k := 4) (by decide) (tk * x.2.1)
          have a1 : ∀ j, gUp M1 (p + 46) 4 (M1 (p + 46) 4 + tk * x.2.1) (w + 3) j = M (w + 3) j := fun j => by
            rw [gUp_row (by omega), g2 (w + 3) (by omega)]
          refine ⟨rfl, rfl, p, _, u, pl u, hS2, hu, hd, rfl, rfl, (hp u hu).2, (a1 u).trans (hp u hu).1, fun M2 k1 k2 k3 k4 => ?_⟩
          conv => whnf
          refine ⟨vp_in_nI (n := 5) (by decide) (by decide), ?_⟩
          conv => whnf
          refine ⟨vp_in_nI (n := 5) (by decide) (by decide), ?_⟩
          conv => whnf
          refine ⟨rfl, h _ (k1.acc (k := 5) (by decide) _) (fun j hj => ?_) (fun r q1 q2 => ?_)⟩
          · rw [gUp_row (by omega)]
            show M2 (w + 3) j = nI (if j = u then _ else pl j)
            by_cases hju : j = u
            · subst hju
              rw [if_pos rfl]
              exact k2
            · rw [if_neg hju, k3 j hju, a1 j]
              exact (hp j hj).1
          · rw [gUp_row (by omega), k4 r q1 q2, gUp_row (by omega)]
            exact g2 r (by omega)
        · exact absurd h2 (by decide)
    · rw [if_neg (fun q => hlt (by omega))]
      rw [List.getElem?_eq_none (by omega)] at h
      refine ⟨fun h1 => ?_, fun h1 => ?_⟩
      · conv => whnf
        exact ⟨rfl, h M hS (fun j hj => (hp j hj).1) (fun _ _ _ => rfl)⟩
      · exact absurd rfl h1
  · exact h.elim
