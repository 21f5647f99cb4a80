/-! Stepper: a whole step -/
def sIceN (S : St) : Nat → St
  | 0 => S
  | n + 1 => sIce (sIceN S n) n
def erN (S : St) (tk : Nat → Int32) (v : Nat → Nat) : Nat → St × (Nat → Nat)
  | 0 => (S, fun _ => 0)
  | n + 1 => if 0 < tk n then sEr (erN S tk v n).1 (erN S tk v n).2 n (tk n) (v n) else erN S tk v n
def sFl (S : St) (n : Nat) : St := stCol S n ((S.1 n).1, fld (S.1 n).2 (lbal (S.1 n).1) (S.2.2.2.1 4))
def sFlN (S : St) : Nat → St
  | 0 => S
  | n + 1 => sFl (sFlN S n) n
def eV (C : Cru) (b : Nat) : Nat := (cLow C b).getD 0
def sStep (S : St) : St := sFlN (erN (sIceN S 10) (eT (sIceN S 10).1 ((sIceN S 10).2.2.2.1 3)) (eV (sIceN S 10).1) 10).1 10
theorem sEr_pl {S : St} {pl : Nat → Nat} {b : Nat} {tk : Int32} {v n : Nat} (h : ∀ j, pl j ≤ n) : ∀ j, (sEr S pl b tk v).2 j ≤ n + 1 := by
  intro j
  unfold sEr
  split
  · have := h j
    show pl j ≤ n + 1
    omega
  · show (if j = v then _ else pl j) ≤ n + 1
    split
    · refine Nat.le_trans (pLay_pl _ _ _) ?_
      have := h v
      omega
    · have := h j
      omega
theorem erN_pl (S : St) (tk : Nat → Int32) (v : Nat → Nat) : ∀ n j, (erN S tk v n).2 j ≤ n
  | 0, _ => Nat.le_refl 0
  | n + 1, j => by
    unfold erN
    split
    · exact sEr_pl (erN_pl S tk v n) j
    · have := erN_pl S tk v n j
      omega
def gF2 (M M' : gM) (w n p : Nat) : Prop := ∀ r, (r < w ∨ w + n ≤ r) → (r < p ∨ p + 131 ≤ r) → M' r = M r
theorem gF2.rf (M : gM) (w n p : Nat) : gF2 M M w n p := fun _ _ _ => rfl
theorem gF2.tr {M M1 M2 : gM} {w n p : Nat} (h : gF2 M M1 w n p) (h2 : gF2 M1 M2 w n p) : gF2 M M2 w n p := fun r a b => (h2 r a b).trans (h r a b)
theorem gFn.f2r {M M' : gM} {w n p q k : Nat} (h : gFn M M' q k) (h1 : p ≤ q) (h2 : q + k ≤ p + 131) : gF2 M M' w n p := fun r _ b => h r (by omega)
theorem gFn.f2l {M M' : gM} {w n p q k : Nat} (h : gFn M M' q k) (h1 : w ≤ q) (h2 : q + k ≤ w + n) : gF2 M M' w n p := fun r a _ => h r (by omega)
def f_X4_makeStep : gF := fun av M post => match av with
  | [.inr (.inl (4, w)), .inr (.inl (3, p))] => ∃ S, stR M p S ∧ (w + 4 ≤ p ∨ p + 131 ≤ w) ∧ ∀ M', stR M' p (sStep S) → gF2 M M' w 4 p → post none M'
  | _ => False
theorem lk_X4_makeStep (l : Launch) : gLinks l RX4 5 [(gTn f_X4_changeIce, 0, 0, 99), (gTn f_X4_findErosion, 0, 0, 4), (gTn f_X4_erode, 0, 0, 4), (gTn f_X0_floatOnce, 0, 0, 0)] pX4_makeStep := And.intro gf_RX4_21 (And.intro gf_RX4_27 (And.intro ⟨gTn f_X4_changeIce, 99, yX4_changeIce, cX4_changeIce, 3, none, 4, rfl, yi_yX4_changeIce, ok_X4_changeIce l, by decide, Or.inl ml_RX4_33, sm_yX4_changeIce⟩ (And.intro ⟨gTn f_X4_findErosion, 4, yX4_findErosion, cX4_findErosion, 4, none, 4, _, rfl, by decide, yi_yX4_findErosion, ok_X4_findErosion l, by decide, by decide, rfl, rfl, ml_RX4_37, im_yX4_findErosion, se_yX4_findErosion⟩ (And.intro gf_RX4_15 (And.intro ⟨gTn f_X4_erode, 4, yX4_erode, cX4_erode, 8, none, 4, _, rfl, by decide, yi_yX4_erode, ok_X4_erode l, by decide, by decide, rfl, rfl, ml_RX4_41, im_yX4_erode, se_yX4_erode⟩ (And.intro gf_RX4_21 (And.intro gf_RX4_27 (And.intro gf_RX4_45 (And.intro ⟨gTn f_X0_floatOnce, 0, yX0_floatOnce, cX0_floatOnce, 2, none, 3, _, rfl, by decide, yi_yX0_floatOnce, ok_X0_floatOnce l, by decide, by decide, rfl, rfl, ml_RX4_48, im_yX0_floatOnce, se_yX0_floatOnce⟩ (trivial))))))))))
theorem ok_X4_makeStep (l : Launch) : gOK l yX4_makeStep cX4_makeStep 3 none 5 0 0 (gTn f_X4_makeStep) := by
  refine gM_of (by decide +kernel) pX4_makeStep_ok (lk_X4_makeStep l) ?_
  intro SL SX K P av M run h
  unfold f_X4_makeStep at h
  split at h
  · rename_i w p
    obtain ⟨S, hS, hd, h⟩ := h
    refine ⟨⟨by simp [gC1], Nat.le_of_ble_eq_true rfl⟩, ?_⟩
    unfold sStep at h
    have third : ∀ M1 S2, stR M1 p S2 → gF2 M M1 w 4 p → (∀ M', stR M' p (sFlN S2 10) → gF2 M M' w 4 p → P none M') → K 63 [some (.inr (.inl (4, w))), some (.inr (.inl (3, p))), some (.inl (nI 0))] [] M1 gB0 := by
      intro M1 S2 g1 g2 h
      refine upto (n := 10) (A := fun k => ∀ M', stR M' p (sFlN S2 k) → gF2 M M' w 4 p → K 63 [some (.inr (.inl (4, w))), some (.inr (.inl (3, p))), some (.inl (nI k))] [] M' gB0) ?_ (fun k hk ih => ?_) 0 (Nat.zero_le _) M1 g1 g2
      · intro M' h1 h2
        refine run [63] 1000 _ _ _ _ _ _ rfl ?_
        conv => whnf
        refine ⟨fun h3 => ?_, fun h3 => ?_⟩
        · conv => whnf
          exact ⟨rfl, h M' h1 h2⟩
        · exact absurd (nI_le (Nat.le_refl 10) (by decide)) h3
      · intro M' h1 h2
        have e : (nI k).toNatClampNeg = k := nI_clamp (by omega)
        have hc := h1.1 k hk
        have t4 := h1.2.2.2.1 4 (by decide)
        refine run [63] 1000 _ _ _ _ _ _ rfl ?_
        conv => whnf
        refine ⟨fun h3 => ?_, fun h3 => ?_⟩
        · exact absurd h3 (nI_ge hk (by decide))
        · conv => whnf
          refine ⟨⟨vp_in_nI (N := 10) (by omega) (by decide), rfl⟩, ?_⟩
          conv => whnf
          refine ⟨vp_in_nI (n := 4) (by decide) (by decide), ?_⟩
          conv => whnf
          rw [e, show M' (p + 45) (4 : Int32).toNatClampNeg = _ from t4]
          refine ⟨rfl, rfl, _, hc, ?_⟩
          conv => whnf
          rw [nI_1]
          have f0 : ∀ x, gFr M' (gUp M' (p + 1 + 1 + 1 + 4 * k) 4 x) (p + 1 + 1 + 1 + 4 * k) := fun x => gFr.up (Nat.le_refl _) (by omega)
          exact ih _ (h1.col hk (hc.base _) (f0 _)) (h2.tr (((f0 _).fn (p := p) (n := 131) (by omega) (by omega)).f2r (Nat.le_refl _) (Nat.le_refl _)))
    refine run [2] 1000 _ _ _ _ _ _ rfl ?_
    conv => whnf
    refine upto (n := 10) (A := fun k => ∀ M', stR M' p (sIceN S k) → gFn M M' p 131 → K 2 [some (.inr (.inl (4, w))), some (.inr (.inl (3, p))), some (.inl (nI k))] [] M' gB0) ?_ (fun k hk ih => ?_) 0 (Nat.zero_le _) M hS (gFn.rf _ _ _)
    · intro M' h1 h2
      generalize sIceN S 10 = S1 at h h1
      refine run [34] 1000 _ _ _ _ _ _ rfl ?_
      conv => whnf
      refine ⟨fun h3 => ?_, fun h3 => ?_⟩
      · conv => whnf
        refine ⟨rfl, rfl, S1, h1, hd, fun M1 g1 g2 => ?_⟩
        conv => whnf
        have g3 := h1.fn g2 (by omega)
        refine upto (n := 10) (A := fun k => ∀ M', stR M' p (erN S1 (eT S1.1 (S1.2.2.2.1 3)) (eV S1.1) k).1 → (∀ j, j < 10 → M' (w + 3) j = nI ((erN S1 (eT S1.1 (S1.2.2.2.1 3)) (eV S1.1) k).2 j)) → (∀ r, r ≠ w + 3 → (r < p ∨ p + 131 ≤ r) → M' r = M1 r) → K 34 [some (.inr (.inl (4, w))), some (.inr (.inl (3, p))), some (.inl (nI k))] [] M' gB0) ?_ (fun k hk ih => ?_) 0 (Nat.zero_le _) M1 g3 (fun j hj => (g1 j hj).2.1) (fun _ _ _ => rfl)
        · intro M' k1 k2 k3
          refine run [34, 63] 1000 _ _ _ _ _ _ rfl ?_
          conv => whnf
          refine ⟨fun h5 => ?_, fun h5 => ?_⟩
          · conv => whnf
            exact third M' _ k1 ((h2.f2r (Nat.le_refl _) (Nat.le_refl _)).tr ((g2.f2l (Nat.le_refl _) (Nat.le_refl _)).tr (fun r a b => k3 r (by omega) b))) h
          · exact absurd (nI_le (Nat.le_refl 10) (by decide)) h5
        · intro M' k1 k2 k3
          have e : (nI k).toNatClampNeg = k := nI_clamp (by omega)
          obtain ⟨q1, q2, q3⟩ := g1 k hk
          have pl := erN_pl S1 (eT S1.1 (S1.2.2.2.1 3)) (eV S1.1) k
          rw [erN] at ih
          refine run [34] 1000 _ _ _ _ _ _ rfl ?_
          conv => whnf
          refine ⟨fun h5 => ?_, fun h5 => ?_⟩
          · exact absurd h5 (nI_ge hk (by decide))
          · conv => whnf
            refine ⟨vp_in_nI (by omega) (by decide), ?_⟩
            conv => whnf
            rw [e, k3 (w + 2) (by omega) (by omega), q1]
            refine ⟨fun h6 => ?_, fun h6 => ?_⟩
            · rw [if_neg (Int32.not_lt.mpr h6)] at ih
              conv => whnf
              rw [nI_1]
              exact ih M' k1 k2 k3
            · rw [if_pos (Int32.not_le.mp h6)] at ih
              have hy : cWhy S1.1 k (S1.2.2.2.1 3) = 0 := by
                by_cases q : cWhy S1.1 k (S1.2.2.2.1 3) = 0
                · exact q
                · refine absurd ?_ h6
                  rw [eT, if_neg q]
                  exact Int32.le_refl 0
              obtain ⟨-, -, v, n3, -⟩ := cWhy_0 hy
              have hv : eV S1.1 k < 10 := by
                rw [eV, n3]
                exact cLow_lt hk n3
              conv => whnf
              refine ⟨rfl, rfl, _, k, eV S1.1 k, _, _, k1, hk, hv, hd, rfl, ?_, (k3 (w + 2) (by omega) (by omega) ▸ q1 : M' (w + 2) k = _), fun j hj => ⟨k2 j hj, by have := pl j; omega⟩, fun M2 r1 r2 r3 => ?_⟩
              · rw [k3 (w + 1) (by omega) (by omega)]
                exact q3 hy
              · conv => whnf
                rw [nI_1]
                exact ih M2 r1 r2 (fun r a b => (r3 r a b).trans (k3 r a b))
      · exact absurd (nI_le (Nat.le_refl 10) (by decide)) h3
    · intro M' h1 h2
      have e : (nI k).toNatClampNeg = k := nI_clamp (by omega)
      refine run [2] 1000 _ _ _ _ _ _ rfl ?_
      conv => whnf
      refine ⟨fun h3 => ?_, fun h3 => ?_⟩
      · exact absurd h3 (nI_ge hk (by decide))
      · conv => whnf
        refine ⟨⟨vp_in_nI (N := 10) (by omega) (by decide), rfl⟩, ?_⟩
        conv => whnf
        rw [e]
        refine ⟨rfl, rfl, _, k, h1, hk, rfl, fun M2 g1 g2 => ?_⟩
        conv => whnf
        rw [nI_1]
        exact ih M2 g1 (h2.tr g2)
  · exact h.elim
