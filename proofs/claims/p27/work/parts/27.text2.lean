/-! Text: a layer -/
def lLi (k : Int32) : Int32 := if k = 0 then 9 else if k = 1 then 22 else 24
def pL3 (l : List Lay) (k d : Int32) (r : Nat ⊕ (Nat × Int32)) : Nat ⊕ (Nat × List Lay) := match r with
  | .inl e => .inl e
  | .inr (p, v) => .inr (p, l ++ [(k, d, v)])
def pL2 (t : Nat → Int32) (n : Nat) (l : List Lay) (k : Int32) (r : Nat ⊕ (Nat × Int32)) : Nat ⊕ (Nat × List Lay) := match r with
  | .inl e => .inl e
  | .inr (p, d) => if sg t n (skp t n p) = 42 then pL3 l k d (pNum t n 1 9999 (skp t n p + 1)) else .inl (skp t n p)
/-- a layer read from p on, behind the layers l: the place of the error, or where it ends and the layers -/
def pLayer (t : Nat → Int32) (n : Nat) (l : List Lay) (p : Nat) : Nat ⊕ (Nat × List Lay) :=
  if ¬ (0 ≤ kOf (sg t n (skp t n p)) ∧ kOf (sg t n (skp t n p)) ≤ 2) ∨ 8 ≤ l.length then .inl (skp t n p)
  else pL2 t n l (kOf (sg t n (skp t n p))) (if kOf (sg t n (skp t n p)) = 2 then pNum t n 24 32 (skp t n p + 1) else .inr (skp t n p + 1, lLi (kOf (sg t n (skp t n p)))))
theorem sg_lt {t : Nat → Int32} {n p : Nat} (h : ¬ sg t n p = 0) : p < n := by
  unfold sg at h
  split at h
  · assumption
  · exact absurd rfl h
theorem kOf_0 {s : Int32} (h : 0 ≤ kOf s ∧ kOf s ≤ 2) : ¬ s = 0 := fun q => by
  subst q
  exact absurd h.1 (by decide)
theorem pNum_r {t : Nat → Int32} {n p q : Nat} {lo hi v : Int32} (hp : p ≤ n) (h : pNum t n lo hi p = .inr (q, v)) : q ≤ n := by
  unfold pNum at h
  split at h
  · cases h
  · have := (pDig_le (t := t) (v := 0) (skp_le (t := t) hp).2).2
    injection h with h
    rw [h] at this
    exact this
theorem pNum_l {t : Nat → Int32} {n p e : Nat} {lo hi : Int32} (hp : p ≤ n) (h : pNum t n lo hi p = .inl e) : e ≤ n := by
  unfold pNum at h
  split at h
  · injection h with h
    subst h
    exact (skp_le (t := t) hp).2
  · cases h
theorem nI_m1 {e : Nat} (h : e < 2 ^ 31) : ¬ nI e = -1 := fun q => by
  have := nI_pos' h
  rw [q] at this
  exact absurd this (by decide)
/-- all but the text at w and n cells from q on is as it was -/
def gF3 (M M' : gM) (w q n : Nat) : Prop := ∀ r, (r < w ∨ w + 2 ≤ r) → (r < q ∨ q + n ≤ r) → M' r = M r
theorem gF3.rf (M : gM) (w q n : Nat) : gF3 M M w q n := fun _ _ _ => rfl
theorem gF3.tr {M M1 M2 : gM} {w q n : Nat} (h : gF3 M M1 w q n) (h2 : gF3 M1 M2 w q n) : gF3 M M2 w q n := fun r a b => (h2 r a b).trans (h r a b)
theorem gF3.up {M M' : gM} {w q n : Nat} (h : gF3 M M' w q n) (k : Nat) (x : Int32) : gF3 M (gUp M' w k x) w q n := fun r a b => (gUp_row (by omega)).trans (h r a b)
theorem gF3.fn {M M1 M2 : gM} {w q n p k : Nat} (h : gF3 M M1 w q n) (h2 : gFn M1 M2 p k) (h3 : q ≤ p) (h4 : p + k ≤ q + n) : gF3 M M2 w q n := fun r a b => (h2 r (by omega)).trans (h r a b)
theorem gF3.mono {M M' : gM} {w q n p k : Nat} (h : gF3 M M' w q n) (h1 : p ≤ q) (h2 : q + n ≤ p + k) : gF3 M M' w p k := fun r a b => h r a (by omega)
theorem colR.upw {M : gM} {w q : Nat} {c : Col} (h : colR M q c) (hd : w + 2 ≤ q ∨ q + 4 ≤ w) (k : Nat) (x : Int32) : colR (gUp M w k x) q c := h.fn (gFn.up (p := w) (n := 1) (Nat.le_refl _) (by omega)) (by omega)
theorem insertIdx_end {α : Type} (l : List α) (x : α) : l.insertIdx l.length x = l ++ [x] := by
  induction l with
  | nil => rfl
  | cons a t ih =>
    rw [List.length_cons, List.insertIdx_succ_cons, ih]
    rfl
theorem vi0 : vp_in 0 3 := show ¬ ((0 : Int32) < 0 ∨ 3 ≤ (0 : Int32).toNatClampNeg) from by decide
theorem vi1 : vp_in 1 3 := show ¬ ((1 : Int32) < 0 ∨ 3 ≤ (1 : Int32).toNatClampNeg) from by decide
theorem vi2 : vp_in 2 3 := show ¬ ((2 : Int32) < 0 ∨ 3 ≤ (2 : Int32).toNatClampNeg) from by decide
def f_X5_readLayer : gF := fun av M post => match av with
  | [.inr (.inl (5, w)), .inr (.inl (0, q))] => ∃ t n p C, txR M w t n p (-1) ∧ colR M q C ∧ (w + 2 ≤ q ∨ q + 4 ≤ w) ∧ (match pLayer t n C.1 p with
    | .inl e => ∀ M' p', txR M' w t n p' (nI e) → colR M' q C → gF3 M M' w q 4 → post none M'
    | .inr (p', l') => ∀ M', txR M' w t n p' (-1) → colR M' q (l', C.2) → gF3 M M' w q 4 → post none M')
  | _ => False
theorem lk_X5_readLayer (l : Launch) : gLinks l RX5 2 [(gTn f_X5_nextSign, 0, 0, 5), (gTn f_X5_kindOf, 0, 0, 99), (gTn f_X6_isKind, 0, 0, 99), (gTn f_X5_fail, 0, 0, 5), (gTn f_X5_readNumber, 0, 0, 5), (gTn f_X5_expect, 0, 0, 5), (gTn f_X5_isWrong, 0, 0, 5), (gTn f_X0_insert, 0, 0, 0)] pX5_readLayer := And.intro ⟨gTn f_X5_nextSign, 5, yX5_nextSign, cX5_nextSign, 1, (some .int), 0, _, rfl, by decide, yi_yX5_nextSign, ok_X5_nextSign l, by decide, by decide, rfl, rfl, ml_RX5_26, im_yX5_nextSign, se_yX5_nextSign⟩ (And.intro ⟨gTn f_X5_kindOf, 99, yX5_kindOf, cX5_kindOf, 1, (some .int), 0, rfl, yi_yX5_kindOf, ok_X5_kindOf l, by decide, Or.inl ml_RX5_78, sm_yX5_kindOf⟩ (And.intro ⟨gTn f_X6_isKind, 99, yX6_isKind, cX6_isKind, 1, (some .boolean), 1, rfl, yi_yX6_isKind, ok_X6_isKind l, by decide, Or.inr ⟨RX6, by simp [gNm]⟩, sm_yX6_isKind⟩ (And.intro gf_RX5_65 (And.intro gf_RX5_19 (And.intro ⟨gTn f_X5_fail, 5, yX5_fail, cX5_fail, 2, none, 0, _, rfl, by decide, yi_yX5_fail, ok_X5_fail l, by decide, by decide, rfl, rfl, ml_RX5_38, im_yX5_fail, se_yX5_fail⟩ (And.intro gf_RX5_19 (And.intro gf_RX5_19 (And.intro gs_RX5_85 (And.intro gs_RX5_85 (And.intro gs_RX5_88 (And.intro ⟨gTn f_X5_readNumber, 5, yX5_readNumber, cX5_readNumber, 6, (some .int), 1, _, rfl, by decide, yi_yX5_readNumber, ok_X5_readNumber l, by decide, by decide, rfl, rfl, ml_RX5_91, im_yX5_readNumber, se_yX5_readNumber⟩ (And.intro ⟨gTn f_X5_expect, 5, yX5_expect, cX5_expect, 2, none, 1, _, rfl, by decide, yi_yX5_expect, ok_X5_expect l, by decide, by decide, rfl, rfl, ml_RX5_42, im_yX5_expect, se_yX5_expect⟩ (And.intro ⟨gTn f_X5_readNumber, 5, yX5_readNumber, cX5_readNumber, 6, (some .int), 1, _, rfl, by decide, yi_yX5_readNumber, ok_X5_readNumber l, by decide, by decide, rfl, rfl, ml_RX5_91, im_yX5_readNumber, se_yX5_readNumber⟩ (And.intro ⟨gTn f_X5_isWrong, 5, yX5_isWrong, cX5_isWrong, 1, (some .boolean), 0, _, rfl, by decide, yi_yX5_isWrong, ok_X5_isWrong l, by decide, by decide, rfl, rfl, ml_RX5_22, im_yX5_isWrong, se_yX5_isWrong⟩ (And.intro gf_RX5_65 (And.intro ⟨gTn f_X0_insert, 0, yX0_insert, cX0_insert, 6, none, 1, _, rfl, by decide, yi_yX0_insert, ok_X0_insert l, by decide, by decide, rfl, rfl, ml_RX5_95, im_yX0_insert, se_yX0_insert⟩ (trivial)))))))))))))))))
theorem ok_X5_readLayer (l : Launch) : gOK l yX5_readLayer cX5_readLayer 5 none 2 0 0 (gTn f_X5_readLayer) := by
  refine gM_of (by decide +kernel) pX5_readLayer_ok (lk_X5_readLayer l) ?_
  intro SL SX K P av M run h
  unfold f_X5_readLayer at h
  split at h
  · rename_i w q
    obtain ⟨t, n, p, C, hx, hC, hd, h⟩ := h
    refine ⟨⟨by simp [gC1], Nat.le_of_ble_eq_true rfl⟩, ?_⟩
    have hs := skp_le (t := t) hx.2.1
    have hn := hx.1
    -- an error before the sign between density and thickness
    have bad69 : ∀ M1 p1 e k d, txR M1 w t n p1 (nI e) → e ≤ n → P none M1 → K 69 [some (.inr (.inl (5, w))), some (.inr (.inl (0, q))), some (.inl k), some (.inl d), none] [] M1 gB0 := by
      intro M1 p1 e k d g1 g2 g3
      have ne := nI_m1 (e := e) (by omega)
      refine run [69] 1000 _ _ _ _ _ _ rfl ?_
      conv => whnf
      refine ⟨rfl, rfl, t, n, p1, _, g1, fun _ => ?_, fun a => absurd a ne⟩
      conv => whnf
      refine ⟨rfl, rfl, t, n, p1, _, g1, fun _ => ?_, fun a => absurd a ne⟩
      conv => whnf
      refine ⟨rfl, rfl, ?_⟩
      conv => whnf
      rw [g1.2.2.2.2.2, if_neg ne]
      refine ⟨fun h1 => ?_, fun h1 => ?_⟩
      · conv => whnf
        exact ⟨rfl, g3⟩
      · exact absurd h1 (by decide)
    have good69 : ∀ M1 p1 k d, txR M1 w t n p1 (-1) → colR M1 q C → gF3 M M1 w q 4 → C.1.length < 8 → (match pL2 t n C.1 k (.inr (p1, d)) with
        | .inl e => ∀ M' p', txR M' w t n p' (nI e) → colR M' q C → gF3 M M' w q 4 → P none M'
        | .inr (p', l') => ∀ M', txR M' w t n p' (-1) → colR M' q (l', C.2) → gF3 M M' w q 4 → P none M') → K 69 [some (.inr (.inl (5, w))), some (.inr (.inl (0, q))), some (.inl k), some (.inl d), none] [] M1 gB0 := by
      intro M1 p1 k d g1 g2 g3 g8 h
      have hs := skp_le (t := t) g1.2.1
      refine run [69] 1000 _ _ _ _ _ _ rfl ?_
      conv => whnf
      refine ⟨rfl, rfl, t, n, p1, _, g1, fun a => absurd rfl a, fun _ => ?_⟩
      unfold pL2 at h
      dsimp only at h
      by_cases hst : sg t n (skp t n p1) = 42
      · rw [if_pos hst] at h
        rw [if_pos hst]
        have hlt : skp t n p1 < n := sg_lt (by rw [hst]; decide)
        have g4 := g1.pos (q := skp t n p1 + 1) (by omega)
        conv => whnf
        refine ⟨rfl, rfl, t, n, _, _, g4, fun a => absurd rfl a, fun _ => ?_⟩
        cases hp : pNum t n 1 9999 (skp t n p1 + 1) with
        | inl e =>
          rw [hp] at h
          dsimp only [pL3] at h ⊢
          intro v z hz
          have g5 := (g4.pos hz).err (nI e)
          have ne := nI_m1 (e := e) (by have := pNum_l (by omega) hp; omega)
          conv => whnf
          refine ⟨rfl, rfl, ?_⟩
          conv => whnf
          rw [g5.2.2.2.2.2, if_neg ne]
          refine ⟨fun h1 => ?_, fun h1 => ?_⟩
          · conv => whnf
            exact ⟨rfl, h _ _ g5 (((g2.upw hd _ _).upw hd _ _).upw hd _ _) (((g3.up _ _).up _ _).up _ _)⟩
          · exact absurd h1 (by decide)
        | inr r =>
          obtain ⟨z, v⟩ := r
          rw [hp] at h
          dsimp only [pL3] at h ⊢
          have g5 := g4.pos (pNum_r (by omega) hp)
          have g6 := (g2.upw hd 2 (nI (skp t n p1 + 1))).upw hd 2 (nI z)
          conv => whnf
          refine ⟨rfl, rfl, ?_⟩
          conv => whnf
          rw [g5.2.2.2.2.2, if_pos rfl]
          refine ⟨fun h1 => ?_, fun h1 => ?_⟩
          · exact absurd rfl h1
          · conv => whnf
            rw [g6.2.1]
            refine ⟨rfl, rfl, C, C.1.length, g6, g8, Nat.le_refl _, rfl, fun M2 g7 g9 => ?_⟩
            conv => whnf
            rw [insertIdx_end] at g7
            have g9 : gFn _ M2 q 4 := g9.fn (Nat.le_refl _) (Nat.le_refl _)
            exact ⟨rfl, h M2 (g5.fn g9 (by omega)) g7 (((g3.up _ _).up _ _).fn g9 (Nat.le_refl _) (Nat.le_refl _))⟩
      · rw [if_neg hst] at h
        rw [if_neg hst]
        have g4 := (g1.pos hs.2).err (nI (skp t n p1))
        have ne := nI_m1 (e := skp t n p1) (by omega)
        conv => whnf
        refine ⟨rfl, rfl, t, n, _, _, g4, fun _ => ?_, fun a => absurd a ne⟩
        conv => whnf
        refine ⟨rfl, rfl, ?_⟩
        conv => whnf
        rw [g4.2.2.2.2.2, if_neg ne]
        refine ⟨fun h1 => ?_, fun h1 => ?_⟩
        · conv => whnf
          exact ⟨rfl, h _ _ g4 ((g2.upw hd _ _).upw hd _ _) ((g3.up _ _).up _ _)⟩
        · exact absurd h1 (by decide)
    have h1 := hx.pos hs.2
    have c1 := hC.upw hd 2 (nI (skp t n p))
    have f1 := (gF3.rf M w q 4).up 2 (nI (skp t n p))
    unfold pLayer at h
    -- no layer here
    have bad24 : (¬ (0 ≤ kOf (sg t n (skp t n p)) ∧ kOf (sg t n (skp t n p)) ≤ 2) ∨ 8 ≤ C.1.length) → K 24 [some (.inr (.inl (5, w))), some (.inr (.inl (0, q))), some (.inl (kOf (sg t n (skp t n p)))), none, none] [] (gUp M w 2 (nI (skp t n p))) gB0 := by
      intro hb
      rw [if_pos hb] at h
      refine run [24] 1000 _ _ _ _ _ _ rfl ?_
      conv => whnf
      refine ⟨rfl, rfl, ?_⟩
      conv => whnf
      rw [h1.2.2.2.2.2, if_pos rfl, h1.2.2.2.2.1]
      exact ⟨rfl, h _ _ (h1.err _) (c1.upw hd _ _) (f1.up _ _)⟩
    refine run [24, 69] 1000 _ _ _ _ _ _ rfl ?_
    conv => whnf
    refine ⟨rfl, rfl, t, n, p, -1, hx, ?_⟩
    conv => whnf
    refine ⟨rfl, rfl, ?_⟩
    conv => whnf
    refine ⟨rfl, rfl, ?_⟩
    conv => whnf
    by_cases hk : 0 ≤ kOf (sg t n (skp t n p)) ∧ kOf (sg t n (skp t n p)) ≤ 2
    · rw [if_pos hk]
      refine ⟨fun h2 => ?_, fun h2 => ?_⟩
      · exact absurd h2 (by decide)
      · conv => whnf
        rw [c1.2.1]
        refine ⟨fun h3 => ?_, fun h3 => ?_⟩
        · conv => whnf
          have h8 : C.1.length < 8 := by
            rcases Nat.lt_or_ge C.1.length 8 with a | a
            · exact a
            · exact absurd h3 (Int32.not_lt.mpr (nI_le a (by have := c1.1; omega)))
          rw [if_neg (fun a => a.elim (fun b => b hk) (fun b => absurd b (by omega)))] at h
          have hlt : skp t n p < n := sg_lt (kOf_0 hk)
          generalize hkk : kOf (sg t n (skp t n p)) = k at hk h
          have k3 : k = 0 ∨ k = 1 ∨ k = 2 := by
            have a := Int32.le_iff_toInt_le.mp hk.1
            have b := Int32.le_iff_toInt_le.mp hk.2
            have a : 0 ≤ k.toInt := a
            have b : k.toInt ≤ 2 := b
            have : k.toInt = 0 ∨ k.toInt = 1 ∨ k.toInt = 2 := by omega
            rcases this with c | c | c
            · exact Or.inl (Int32.toInt_inj.mp c)
            · exact Or.inr (Or.inl (Int32.toInt_inj.mp c))
            · exact Or.inr (Or.inr (Int32.toInt_inj.mp c))
          rw [h1.2.2.2.2.1, gUp_up, nI_1]
          have h4 := hx.pos (q := skp t n p + 1) (by omega)
          have c4 := hC.upw hd 2 (nI (skp t n p + 1))
          have f4 := (gF3.rf M w q 4).up 2 (nI (skp t n p + 1))
          rcases k3 with rfl | rfl | rfl
          · refine ⟨vi0, ?_⟩
            conv => whnf
            refine ⟨fun h5 => ?_, fun h5 => ?_⟩
            · conv => whnf
              exact good69 _ _ 0 9 h4 c4 f4 h8 h
            · exact absurd h5 (by decide)
          · refine ⟨vi1, ?_⟩
            conv => whnf
            refine ⟨fun h5 => ?_, fun h5 => ?_⟩
            · conv => whnf
              exact good69 _ _ 1 22 h4 c4 f4 h8 h
            · exact absurd h5 (by decide)
          · refine ⟨vi2, ?_⟩
            conv => whnf
            refine ⟨fun h5 => ?_, fun h5 => ?_⟩
            · exact absurd rfl h5
            · conv => whnf
              refine ⟨vi2, ?_⟩
              conv => whnf
              refine ⟨vi2, ?_⟩
              conv => whnf
              refine ⟨rfl, rfl, t, n, _, _, h4, fun a => absurd rfl a, fun _ => ?_⟩
              rw [if_pos rfl] at h
              rw [show (gSl (50 + 0 - 50)).getD (Int32.toNatClampNeg 2) 0 = 24 from rfl, show (gSl (50 + 1 - 50)).getD (Int32.toNatClampNeg 2) 0 = 32 from rfl]
              cases hp : pNum t n 24 32 (skp t n p + 1) with
              | inl e =>
                rw [hp] at h
                dsimp only
                intro v z hz
                conv => whnf
                exact bad69 _ z e 2 v ((h4.pos hz).err (nI e)) (pNum_l (by omega) hp) (h _ _ ((h4.pos hz).err (nI e)) ((c4.upw hd _ _).upw hd _ _) ((f4.up _ _).up _ _))
              | inr r =>
                obtain ⟨z, v⟩ := r
                rw [hp] at h
                dsimp only
                conv => whnf
                exact good69 _ _ 2 v (h4.pos (pNum_r (by omega) hp)) (c4.upw hd _ _) (f4.up _ _) h8 h
        · conv => whnf
          refine bad24 (Or.inr ?_)
          rcases Nat.lt_or_ge C.1.length 8 with a | a
          · exact absurd (nI_lt a (by decide)) h3
          · exact a
    · rw [if_neg hk]
      refine ⟨fun h2 => ?_, fun h2 => ?_⟩
      · conv => whnf
        exact bad24 (Or.inl hk)
      · exact absurd rfl h2
  · exact h.elim
