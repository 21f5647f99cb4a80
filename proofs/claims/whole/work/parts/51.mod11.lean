/-! the model: erosion -/
def mEr (S : St) (pl : Nat → Nat) (b : Nat) (tk : Int32) (v : Nat) : St × (Nat → Nat) := match (S.1 b).1[pl b]? with
  | none => (S, pl)
  | some x =>
    (stAcc (stAcc (stCol (stCol S b (lGr (S.1 b).1 (pl b) (-tk), (S.1 b).2)) v ((mLay ((cSet S.1 b (lGr (S.1 b).1 (pl b) (-tk), (S.1 b).2)) v).1 (pl v) (tk * x.2.1 / 22)).1, ((cSet S.1 b (lGr (S.1 b).1 (pl b) (-tk), (S.1 b).2)) v).2)) 4 (tk * x.2.1)) 5 (22 * (mLay ((cSet S.1 b (lGr (S.1 b).1 (pl b) (-tk), (S.1 b).2)) v).1 (pl v) (tk * x.2.1 / 22)).2.1),
      fun j => if j = v then (mLay ((cSet S.1 b (lGr (S.1 b).1 (pl b) (-tk), (S.1 b).2)) v).1 (pl v) (tk * x.2.1 / 22)).2.2 else pl j)
def mErN (S : St) (tk : Nat → Int32) (v : Nat → Nat) : Nat → St × (Nat → Nat)
  | 0 => (S, fun _ => 0)
  | n + 1 => if 0 < tk n then mEr (mErN S tk v n).1 (mErN S tk v n).2 n (tk n) (v n) else mErN S tk v n
theorem mLay_pl (l : List Lay) (pl : Nat) (th : Int32) : (mLay l pl th).2.2 ≤ pl + 1 := by
  unfold mLay pNew
  split <;> (try split) <;> (try split) <;> (try split) <;> simp only [] <;> omega
theorem mEr_pl {S : St} {pl : Nat → Nat} {b : Nat} {tk : Int32} {v n : Nat} (h : ∀ j, pl j ≤ n) : ∀ j, (mEr S pl b tk v).2 j ≤ n + 1 := by
  intro j
  unfold mEr
  split
  · have := h j
    show pl j ≤ n + 1
    omega
  · show (if j = v then _ else pl j) ≤ n + 1
    split
    · refine Nat.le_trans (mLay_pl _ _ _) ?_
      have := h v
      omega
    · have := h j
      omega
theorem mErN_pl (S : St) (tk : Nat → Int32) (v : Nat → Nat) : ∀ n j, (mErN S tk v n).2 j ≤ n
  | 0, _ => Nat.le_refl 0
  | n + 1, j => by
    unfold mErN
    split
    · exact mEr_pl (mErN_pl S tk v n) j
    · have := mErN_pl S tk v n j
      omega
theorem mTak_pos {C : Cru} {b : Nat} {e : Int32} (h : 0 < mTak C b e) : ∃ v, cLow C b = some v := by
  cases hv : cLow C b with
  | some v => exact ⟨v, rfl⟩
  | none =>
    unfold mTak at h
    rw [hv] at h
    split at h
    · exact absurd (show (0 : Int32) < 0 from h) (by decide)
    · split at h
      · exact absurd (show (0 : Int32) < 0 from h) (by decide)
      · exact absurd (show (0 : Int32) < 0 from h) (by decide)
theorem i32_ac (a b x y : Int32) : (a - b) + (x - y) = (a + x) - (b + y) := by
  rw [Int32.sub_eq_add_neg, Int32.sub_eq_add_neg, Int32.sub_eq_add_neg, Int32.neg_add, Int32.sub_eq_add_neg]
  ac_rfl
theorem msR.acc45 {s : Nat → Int32} {S : St} (h : msR s S) (x y : Int32) : msR (fun z => if z = 272 then s 272 + (x - y) else if z = 271 then s 271 + y else if z = 270 then s 270 + x else s z) (stAcc (stAcc S 4 x) 5 y) := by
  obtain ⟨h1, h2, h3, h4, h5, h6, h7⟩ := h
  have lo : ∀ z, ¬ z = 270 → ¬ z = 271 → ¬ z = 272 → (if z = 272 then s 272 + (x - y) else if z = 271 then s 271 + y else if z = 270 then s 270 + x else s z) = s z := fun z a b c => by rw [if_neg c, if_neg b, if_neg a]
  refine ⟨fun b hb => (h1 b hb).kept fun i hi => lo _ (by omega) (by omega) (by omega), fun j hj b hb => (h2 j hj b hb).kept fun i hi => lo _ (by omega) (by omega) (by omega), fun j hj => (lo _ (by omega) (by omega) (by omega)).trans (h3 j hj), fun i hi => (lo _ (by omega) (by omega) (by omega)).trans (h4 i hi), fun i hi => ?_, ?_, (lo _ (by omega) (by omega) (by omega)).trans h7⟩
  · have e : i = 0 ∨ i = 1 ∨ i = 2 ∨ i = 3 ∨ i = 4 ∨ i = 5 := by omega
    rcases e with rfl | rfl | rfl | rfl | rfl | rfl
    · exact h5 0 hi
    · exact h5 1 hi
    · exact h5 2 hi
    · exact h5 3 hi
    · show s 270 + x = S.2.2.2.2.1 4 + x
      rw [show s 270 = _ from h5 4 hi]
    · show s 271 + y = S.2.2.2.2.1 5 + y
      rw [show s 271 = _ from h5 5 hi]
  · show s 272 + (x - y) = (S.2.2.2.2.1 4 + x) - (S.2.2.2.2.1 5 + y)
    rw [h6, i32_ac]
theorem msR.acc45M {M : gM} {S : St} (h : msR (M 927) S) (x y : Int32) : msR (gUp (gUp (gUp M 927 270 (M 927 270 + x)) 927 271 (gUp M 927 270 (M 927 270 + x) 927 271 + y)) 927 272 (gUp (gUp M 927 270 (M 927 270 + x)) 927 271 (gUp M 927 270 (M 927 270 + x) 927 271 + y) 927 272 + (x - y)) 927) (stAcc (stAcc S 4 x) 5 y) := by
  refine (h.acc45 x y).kept fun z _ => ?_
  by_cases a : z = 272
  · subst a
    rw [gUp_same, if_pos rfl, gUp_ne (Or.inr (by decide)), gUp_ne (Or.inr (by decide))]
  · rw [gUp_ne (Or.inr a), if_neg a]
    by_cases b : z = 271
    · subst b
      rw [gUp_same, if_pos rfl, gUp_ne (Or.inr (by decide))]
    · rw [gUp_ne (Or.inr b), if_neg b]
      by_cases c : z = 270
      · subst c
        rw [gUp_same, if_pos rfl]
      · rw [gUp_ne (Or.inr c), if_neg c]
/-- the rows of the model that a step uses -/
def gFe (M M' : gM) : Prop := ∀ r, r ≠ 927 → (r < 931 ∨ 933 < r) → M' r = M r
def f_X7_erode : gF := fun av M post => match av with
  | [.inr (.inl (7, p))] => p = 926 ∧ ∃ S, msR (M 927) S ∧ (∀ n, n < 10 → 0 < mTak S.1 n (S.2.2.2.1 3) → (mErN S (fun b => mTak S.1 b (S.2.2.2.1 3)) (eV S.1) n).2 n < ((mErN S (fun b => mTak S.1 b (S.2.2.2.1 3)) (eV S.1) n).1.1 n).1.length) ∧ ∀ M', msR (M' 927) (mErN S (fun b => mTak S.1 b (S.2.2.2.1 3)) (eV S.1) 10).1 → gFe M M' → post none M'
  | _ => False
theorem lk_X7_erode (l : Launch) : gLinks l RX7 5 [(gTn f_X7_valleyOf, 0, 0, 7), (gTn f_X7_takenFrom, 0, 0, 7), (gTn f_X7_at, 0, 0, 99), (gTn f_X7_grow, 0, 0, 7), (gTn f_X7_lay, 0, 0, 7)] pX7_erode := And.intro gf_RX7_22 (And.intro ⟨gTn f_X7_valleyOf, 7, yX7_valleyOf, cX7_valleyOf, 5, (some .int), 3, _, rfl, by decide, yi_yX7_valleyOf, ok_X7_valleyOf l, by decide, by decide, rfl, rfl, ml_RX7_116, im_yX7_valleyOf, se_yX7_valleyOf⟩ (And.intro gf_RX7_25 (And.intro ⟨gTn f_X7_takenFrom, 7, yX7_takenFrom, cX7_takenFrom, 3, (some .int), 4, _, rfl, by decide, yi_yX7_takenFrom, ok_X7_takenFrom l, by decide, by decide, rfl, rfl, ml_RX7_119, im_yX7_takenFrom, se_yX7_takenFrom⟩ (And.intro gf_RX7_28 (And.intro gf_RX7_25 (And.intro gf_RX7_7 (And.intro gf_RX7_28 (And.intro ⟨gTn f_X7_at, 99, yX7_at, cX7_at, 2, (some .int), 0, rfl, yi_yX7_at, ok_X7_at l, by decide, Or.inl ml_RX7_42, sm_yX7_at⟩ (And.intro gf_RX7_28 (And.intro gf_RX7_25 (And.intro ⟨gTn f_X7_grow, 7, yX7_grow, cX7_grow, 4, none, 2, _, rfl, by decide, yi_yX7_grow, ok_X7_grow l, by decide, by decide, rfl, rfl, ml_RX7_95, im_yX7_grow, se_yX7_grow⟩ (And.intro gf_RX7_22 (And.intro gf_RX7_25 (And.intro ⟨gTn f_X7_lay, 7, yX7_lay, cX7_lay, 4, (some .int), 3, _, rfl, by decide, yi_yX7_lay, ok_X7_lay l, by decide, by decide, rfl, rfl, ml_RX7_122, im_yX7_lay, se_yX7_lay⟩ (And.intro gf_RX7_7 (And.intro gf_RX7_25 (And.intro gf_RX7_7 (And.intro gf_RX7_7 (And.intro gf_RX7_25 (trivial))))))))))))))))))))
theorem ok_X7_erode (l : Launch) : gOK l yX7_erode cX7_erode 4 none 5 0 0 (gTn f_X7_erode) := by
  refine gM_of (by decide +kernel) pX7_erode_ok (lk_X7_erode l) ?_
  intro SL SX K P av M run h
  unfold f_X7_erode at h
  split at h
  · rename_i p
    obtain ⟨rfl, S, hS, hpl, h⟩ := h
    refine ⟨⟨by simp [gC1], Nat.le_of_ble_eq_true rfl⟩, ?_⟩
    have e3 : ∀ {M' : gM}, msR (M' 927) S → M' 927 263 = S.2.2.2.1 3 := fun q => q.2.2.2.1 3 (by decide)
    have second : ∀ M1, msR (M1 927) S → gFe M M1 → (∀ j, j < 10 → M1 931 j = oN (cLow S.1 j) ∧ M1 932 j = mTak S.1 j (S.2.2.2.1 3) ∧ M1 933 j = nI 0) → ∀ u1 u2, K 45 [some (.inr (.inl (7, 926))), some (.inl (nI 0)), u1, u2] [] M1 gB0 := by
      intro M1 g1 g2 g3 u1 u2
      refine upto (n := 10) (A := fun b => ∀ M' u1 u2, msR (M' 927) (mErN S (fun b => mTak S.1 b (S.2.2.2.1 3)) (eV S.1) b).1 → gFe M M' → (∀ j, j < 10 → M' 931 j = oN (cLow S.1 j) ∧ M' 932 j = mTak S.1 j (S.2.2.2.1 3) ∧ M' 933 j = nI ((mErN S (fun b => mTak S.1 b (S.2.2.2.1 3)) (eV S.1) b).2 j)) → K 45 [some (.inr (.inl (7, 926))), some (.inl (nI b)), u1, u2] [] M' gB0) ?_ (fun b hb ih => ?_) 0 (Nat.zero_le _) M1 u1 u2 g1 g2 g3
      · intro M' u1 u2 h1 h2 h3
        refine run [45] 1000 _ _ _ _ _ _ rfl ?_
        conv => whnf
        refine ⟨fun h4 => ?_, fun h4 => ?_⟩
        · conv => whnf
          exact ⟨rfl, h M' h1 h2⟩
        · exact absurd (nI_le (Nat.le_refl 10) (by decide)) h4
      · intro M' u1 u2 h1 h2 h3
        have e : (nI b).toNatClampNeg = b := nI_clamp (by omega)
        refine run [45] 1000 _ _ _ _ _ _ rfl ?_
        conv => whnf
        refine ⟨fun h4 => ?_, fun h4 => ?_⟩
        · exact absurd h4 (nI_ge hb (by decide))
        · conv => whnf
          refine ⟨vp_in_nI (by omega) (by decide), ?_⟩
          conv => whnf
          rw [e, (h3 b hb).2.1]
          refine ⟨fun h5 => ?_, fun h5 => ?_⟩
          · conv => whnf
            rw [nI_1]
            have e7 : mErN S (fun b => mTak S.1 b (S.2.2.2.1 3)) (eV S.1) (b + 1) = mErN S (fun b => mTak S.1 b (S.2.2.2.1 3)) (eV S.1) b := if_neg (Int32.not_lt.mpr h5)
            exact ih M' _ _ (by rw [e7]; exact h1) h2 (by rw [e7]; exact h3)
          · conv => whnf
            have hpos : 0 < mTak S.1 b (S.2.2.2.1 3) := Int32.not_le.mp h5
            have hlt := hpl b hb hpos
            obtain ⟨v, hv⟩ := mTak_pos hpos
            have hv10 := cLow_lt hb hv
            have ev : eV S.1 b = v := by unfold eV; rw [hv]; rfl
            have e7 : mErN S (fun b => mTak S.1 b (S.2.2.2.1 3)) (eV S.1) (b + 1) = mEr (mErN S (fun b => mTak S.1 b (S.2.2.2.1 3)) (eV S.1) b).1 (mErN S (fun b => mTak S.1 b (S.2.2.2.1 3)) (eV S.1) b).2 b (mTak S.1 b (S.2.2.2.1 3)) v := (if_pos hpos).trans (by rw [ev])
            have pl10 := mErN_pl S (fun b => mTak S.1 b (S.2.2.2.1 3)) (eV S.1) b
            rw [e7] at ih
            have h3b := h3 b hb
            have h3v := (h3 v hv10).2.2
            rw [hv] at h3b
            generalize hpl2 : (mErN S (fun b => mTak S.1 b (S.2.2.2.1 3)) (eV S.1) b).2 = pl at h3 ih hlt pl10 h3b h3v
            generalize hT : (mErN S (fun b => mTak S.1 b (S.2.2.2.1 3)) (eV S.1) b).1 = T at h1 ih hlt
            generalize htk : mTak S.1 b (S.2.2.2.1 3) = tk at ih hpos h3b
            have hc := h1.1 b hb
            have h8 := hc.1
            have hlay := hc.lay hlt
            have pb := pl10 b
            have pv := pl10 v
            unfold mEr at ih
            rw [List.getElem?_eq_getElem hlt] at ih
            dsimp only at ih
            generalize hxx : (T.1 b).1[pl b] = x at ih hlay
            refine ⟨vp_in_nI (by omega) (by decide), ?_⟩
            conv => whnf
            rw [e, h3b.2.2]
            refine ⟨rfl, rfl, b, pl b, rfl, rfl, ?_⟩
            conv => whnf
            rw [nI_1]
            refine ⟨vp_in_nI (by omega) (by decide), ?_⟩
            conv => whnf
            rw [nI_clamp (by omega), hlay.2.1]
            refine ⟨vp_in_nI (by omega) (by decide), ?_⟩
            conv => whnf
            refine ⟨vp_in_nI (by omega) (by decide), ?_⟩
            conv => whnf
            rw [e, h3b.2.2, h3b.2.1]
            refine ⟨rfl, rfl, rfl, b, pl b, _, hb, rfl, rfl, hc, hlt, fun M1 q1 q2 => ?_⟩
            have s1 := h1.colM hb q1 q2
            have c1 := s1.1 v hv10
            have r1 : ∀ r, r ≠ 927 → M1 r = M' r := q2.1
            conv => whnf
            refine ⟨vp_in_nI (by omega) (by decide), ?_⟩
            conv => whnf
            refine ⟨vp_in_nI (by omega) (by decide), ?_⟩
            conv => whnf
            rw [e, r1 931 (by decide), r1 932 (by decide), h3b.1, h3b.2.1]
            refine ⟨by decide, ?_⟩
            conv => whnf
            refine ⟨rfl, rfl, rfl, v, _, pl v, c1, hv10, rfl, by omega, (congrFun (r1 933 (by decide)) v).trans h3v, fun M2 k1 k2 k3 k4 k5 => ?_⟩
            have s2 := s1.col (s' := M2 927) hv10 k1 k5
            have t2 : M2 932 b = tk := by rw [k4 932 (by decide) (by decide), r1 932 (by decide)]; exact h3b.2.1
            generalize hL : mLay ((stCol T b (lGr (T.1 b).1 (pl b) (-tk), (T.1 b).2)).1 v).1 (pl v) (tk * x.2.1 / 22) = L at s2 k2 k1
            have hL2 : mLay ((cSet T.1 b (lGr (T.1 b).1 (pl b) (-tk), (T.1 b).2)) v).1 (pl v) (tk * x.2.1 / 22) = L := hL
            rw [hL2] at ih
            have s3 := s2.acc45M (tk * x.2.1) (22 * L.2.1)
            conv => whnf
            refine ⟨vp_in_nI (n := 270) (by decide) (by decide), ?_⟩
            conv => whnf
            refine ⟨vp_in_nI (by omega) (by decide), ?_⟩
            conv => whnf
            refine ⟨vp_in_nI (n := 270) (by decide) (by decide), ?_⟩
            conv => whnf
            refine ⟨vp_in_nI (n := 271) (by decide) (by decide), ?_⟩
            conv => whnf
            refine ⟨vp_in_nI (n := 271) (by decide) (by decide), ?_⟩
            conv => whnf
            refine ⟨vp_in_nI (n := 272) (by decide) (by decide), ?_⟩
            conv => whnf
            refine ⟨vp_in_nI (by omega) (by decide), ?_⟩
            conv => whnf
            refine ⟨vp_in_nI (n := 272) (by decide) (by decide), ?_⟩
            conv => whnf
            rw [e, nI_1]
            have ih2 := ih _ (some (.inl x.2.1)) (some (.inl L.2.1)) s3 (fun r a1 a2 => by
              rw [gUp_row a1, gUp_row a1, gUp_row a1, k4 r a1 (by omega), r1 r a1]
              exact h2 r a1 a2) (fun j hj => by
              refine ⟨?_, ?_, ?_⟩
              · rw [gUp_row (by decide), gUp_row (by decide), gUp_row (by decide), k4 931 (by decide) (by decide), r1 931 (by decide)]
                exact (h3 j hj).1
              · rw [gUp_row (by decide), gUp_row (by decide), gUp_row (by decide), k4 932 (by decide) (by decide), r1 932 (by decide)]
                exact (h3 j hj).2.1
              · rw [gUp_row (by decide), gUp_row (by decide), gUp_row (by decide)]
                show _ = nI (if j = v then L.2.2 else pl j)
                by_cases hjv : j = v
                · subst hjv
                  rw [if_pos rfl]
                  exact k2
                · rw [if_neg hjv, k3 j hjv, r1 933 (by decide)]
                  exact (h3 j hj).2.2)
            have t3 : gUp (gUp M2 (926 + 1) (Int32.toNatClampNeg 270) (M2 (926 + 1) (Int32.toNatClampNeg 270) + M2 (926 + 6) b * x.2.1)) (926 + 1) (Int32.toNatClampNeg 271) (gUp M2 (926 + 1) (Int32.toNatClampNeg 270) (M2 (926 + 1) (Int32.toNatClampNeg 270) + M2 (926 + 6) b * x.2.1) (926 + 1) (Int32.toNatClampNeg 271) + 22 * L.2.1) (926 + 6) b = tk := by
              rw [gUp_row (by decide), gUp_row (by decide)]
              exact t2
            rw [t3, show M2 (926 + 6) b = tk from t2]
            exact ih2
    -- what is found before
    refine run [2, 45] 1000 _ _ _ _ _ _ rfl ?_
    conv => whnf
    refine upto (n := 10) (A := fun b => ∀ M', M' 927 = M 927 → gFe M M' → (∀ j, j < b → M' 931 j = oN (cLow S.1 j) ∧ M' 932 j = mTak S.1 j (S.2.2.2.1 3) ∧ M' 933 j = nI 0) → K 2 [some (.inr (.inl (7, 926))), some (.inl (nI b)), none, none] [] M' gB0) ?_ (fun b hb ih => ?_) 0 (Nat.zero_le _) M rfl (fun _ _ _ => rfl) (fun j hj => absurd hj (Nat.not_lt_zero j))
    · intro M' h1 h2 h3
      refine run [2, 45] 1000 _ _ _ _ _ _ rfl ?_
      conv => whnf
      refine ⟨fun h4 => ?_, fun h4 => ?_⟩
      · conv => whnf
        exact second M' (by rw [h1]; exact hS) h2 h3 none none
      · exact absurd (nI_le (Nat.le_refl 10) (by decide)) h4
    · intro M' h1 h2 h3
      have e : (nI b).toNatClampNeg = b := nI_clamp (by omega)
      have hS1 : msR (M' 927) S := by rw [h1]; exact hS
      refine run [2] 1000 _ _ _ _ _ _ rfl ?_
      conv => whnf
      refine ⟨fun h4 => ?_, fun h4 => ?_⟩
      · exact absurd h4 (nI_ge hb (by decide))
      · conv => whnf
        refine ⟨rfl, rfl, rfl, S.1, b, hS1.1, hb, rfl, ?_⟩
        conv => whnf
        refine ⟨vp_in_nI (by omega) (by decide), ?_⟩
        conv => whnf
        refine ⟨rfl, rfl, rfl, S.1, b, ?_, hb, rfl, ?_⟩
        · intro i hi
          rw [gUp_row (by decide)]
          exact hS1.1 i hi
        · conv => whnf
          refine ⟨vp_in_nI (by omega) (by decide), ?_⟩
          conv => whnf
          refine ⟨vp_in_nI (by omega) (by decide), ?_⟩
          conv => whnf
          rw [e, nI_1]
          refine ih _ ?_ (fun r a1 a2 => ?_) (fun j hj => ?_)
          · rw [gUp_row (by decide), gUp_row (by decide), gUp_row (by decide)]
            exact h1
          · rw [gUp_row (by omega), gUp_row (by omega), gUp_row (by omega)]
            exact h2 r a1 a2
          · by_cases hjb : j = b
            · subst hjb
              refine ⟨?_, ?_, gUp_same _ _ _ _⟩
              · rw [gUp_row (by decide), gUp_row (by decide)]
                exact gUp_same _ _ _ _
              · rw [gUp_row (by decide), gUp_same, gUp_row (by decide), e3 hS1]
            · have := h3 j (by omega)
              refine ⟨?_, ?_, ?_⟩
              · rw [gUp_row (by decide), gUp_row (by decide), gUp_ne (Or.inr hjb)]
                exact this.1
              · rw [gUp_row (by decide), gUp_ne (Or.inr hjb), gUp_row (by decide)]
                exact this.2.1
              · rw [gUp_ne (Or.inr hjb), gUp_row (by decide), gUp_row (by decide)]
                exact this.2.2
  · exact h.elim
