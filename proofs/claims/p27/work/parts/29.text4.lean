/-! Text: an item -/
theorem nI_bd {v : Int32} {n : Nat} (hn : n < 1000) (h0 : 0 ≤ v) (h1 : v ≤ nI n) : ∃ b, b ≤ n ∧ v = nI b := by
  have a := Int32.le_iff_toInt_le.mp h0
  have b := Int32.le_iff_toInt_le.mp h1
  rw [nI_toInt (by omega)] at b
  have a : 0 ≤ v.toInt := a
  refine ⟨v.toInt.toNat, by omega, ?_⟩
  apply Int32.toInt_inj.mp
  rw [nI_toInt (by omega)]
  omega
theorem colR.nil {M : gM} {q : Nat} {c : Col} (h : colR M q c) : colR (gUp M q 3 0) q ([], c.2) := by
  refine ⟨Nat.zero_le _, gUp_same _ _ _ _, ?_, fun k x hk => by cases hk⟩
  rw [gUp_ne (Or.inr (by decide))]
  exact h.2.2.1
theorem stR.kept {M M' : gM} {p : Nat} {S : St} (h : stR M p S) (hf : ∀ r, p ≤ r → r < p + 131 → M' r = M r) : stR M' p S := by
  obtain ⟨h1, h2, h3, h4, h5, h6⟩ := h
  refine ⟨fun i hi => (h1 i hi).kept fun q a b => hf q (by omega) (by omega), fun j hj i hi => (h2 j hj i hi).kept fun q a b => hf q (by omega) (by omega), fun k hk => ?_, fun k hk => ?_, fun k hk => ?_, ?_⟩
  · rw [hf (p + 44) (by omega) (by omega)]; exact h3 k hk
  · rw [hf (p + 45) (by omega) (by omega)]; exact h4 k hk
  · rw [hf (p + 46) (by omega) (by omega)]; exact h5 k hk
  · rw [hf p (by omega) (by omega)]; exact h6
theorem stR.col2 {M M' : gM} {p b : Nat} {S : St} {c : Col} (h : stR M p S) (hb : b < 10) (hc : colR M' (p + 1 + 1 + 1 + 4 * b) c) (hf : ∀ r, p ≤ r → r < p + 131 → (r < p + 1 + 1 + 1 + 4 * b ∨ p + 1 + 1 + 1 + 4 * b + 3 < r) → M' r = M r) : stR M' p (stCol S b c) := by
  have h1 : stR (fun r => if p ≤ r ∧ r < p + 131 then M' r else M r) p (stCol S b c) := by
    refine h.col hb (hc.kept fun q a b => ?_) (fun q hq => ?_)
    · rw [if_pos ⟨by omega, by omega⟩]
    · show (if _ then _ else _) = _
      split
      · rename_i a
        exact hf q a.1 a.2 (by omega)
      · rfl
  refine h1.kept fun r a b => ?_
  rw [if_pos ⟨a, b⟩]
def sLoad (S : St) (b : Nat) (l : List Lay) : St := stAcc (stCol (stAcc S 1 (lwt (S.1 b).1)) b (l, lbal l)) 0 (lwt l)
def pI2 (t : Nat → Int32) (n : Nat) (S : St) (b : Nat) (r : Nat ⊕ (Nat × List Lay)) : Nat ⊕ (Nat × St) := match r with
  | .inl e => .inl e
  | .inr (p, l) => if sg t n (skp t n p) = 59 then .inr (skp t n p + 1, sLoad S b l) else .inl (skp t n p)
def pI1 (t : Nat → Int32) (n : Nat) (S : St) (b p : Nat) : Nat ⊕ (Nat × St) :=
  if sg t n (skp t n p) = 58 then pI2 t n S b (pLs t n [] (skp t n p + 1)) else .inl (skp t n p)
/-- an item from p on: the place of the error, or where it ends and the state it makes -/
def pItem (t : Nat → Int32) (n : Nat) (S : St) (p : Nat) : Nat ⊕ (Nat × St) :=
  if ¬ (0 ≤ sg t n (skp t n p) - 48 ∧ sg t n (skp t n p) - 48 ≤ 9) then .inl (skp t n p)
  else pI1 t n S (sg t n (skp t n p) - 48).toNatClampNeg (skp t n p + 1)
def pIq (M : gM) (w : Nat) (t : Nat → Int32) (n s : Nat) (post : gM → Prop) (r : Nat ⊕ (Nat × St)) : Prop := match r with
  | .inl e => ∀ M' p', e ≤ n → txR M' w t n p' (nI e) → gF3 M M' w s 131 → post M'
  | .inr (p', S') => ∀ M', txR M' w t n p' (-1) → stR M' s S' → gF3 M M' w s 131 → post M'
def f_X5_readItem : gF := fun av M post => match av with
  | [.inr (.inl (5, w)), .inr (.inl (3, s))] => ∃ t n p S, txR M w t n p (-1) ∧ stR M s S ∧ (w + 2 ≤ s ∨ s + 131 ≤ w) ∧ (∀ k, k < n → t k ≤ 255 ∧ 1 ≤ t k) ∧ pIq M w t n s (post none) (pItem t n S p)
  | _ => False
theorem lk_X5_readItem (l : Launch) : gLinks l RX5 4 [(gTn f_X5_nextSign, 0, 0, 5), (gTn f_X6_isBlock, 0, 0, 99), (gTn f_X5_fail, 0, 0, 5), (gTn f_X5_expect, 0, 0, 5), (gTn f_X0_weight, 0, 0, 0), (gTn f_X5_readLayers, 0, 0, 5), (gTn f_X0_balanceBase, 0, 0, 0)] pX5_readItem := And.intro ⟨gTn f_X5_nextSign, 5, yX5_nextSign, cX5_nextSign, 1, (some .int), 0, _, rfl, by decide, yi_yX5_nextSign, ok_X5_nextSign l, by decide, by decide, rfl, rfl, ml_RX5_26, im_yX5_nextSign, se_yX5_nextSign⟩ (And.intro ⟨gTn f_X6_isBlock, 99, yX6_isBlock, cX6_isBlock, 1, (some .boolean), 1, rfl, yi_yX6_isBlock, ok_X6_isBlock l, by decide, Or.inr ⟨RX6, by simp [gNm]⟩, sm_yX6_isBlock⟩ (And.intro gf_RX5_19 (And.intro ⟨gTn f_X5_fail, 5, yX5_fail, cX5_fail, 2, none, 0, _, rfl, by decide, yi_yX5_fail, ok_X5_fail l, by decide, by decide, rfl, rfl, ml_RX5_38, im_yX5_fail, se_yX5_fail⟩ (And.intro gf_RX5_19 (And.intro gf_RX5_19 (And.intro ⟨gTn f_X5_expect, 5, yX5_expect, cX5_expect, 2, none, 1, _, rfl, by decide, yi_yX5_expect, ok_X5_expect l, by decide, by decide, rfl, rfl, ml_RX5_42, im_yX5_expect, se_yX5_expect⟩ (And.intro gf_RX5_45 (And.intro gf_RX5_51 (And.intro gf_RX5_57 (And.intro ⟨gTn f_X0_weight, 0, yX0_weight, cX0_weight, 3, (some .int), 1, _, rfl, by decide, yi_yX0_weight, ok_X0_weight l, by decide, by decide, rfl, rfl, ml_RX5_60, im_yX0_weight, se_yX0_weight⟩ (And.intro gf_RX5_65 (And.intro ⟨gTn f_X5_readLayers, 5, yX5_readLayers, cX5_readLayers, 3, none, 3, _, rfl, by decide, yi_yX5_readLayers, ok_X5_readLayers l, by decide, by decide, rfl, rfl, ml_RX5_68, im_yX5_readLayers, se_yX5_readLayers⟩ (And.intro ⟨gTn f_X5_expect, 5, yX5_expect, cX5_expect, 2, none, 1, _, rfl, by decide, yi_yX5_expect, ok_X5_expect l, by decide, by decide, rfl, rfl, ml_RX5_42, im_yX5_expect, se_yX5_expect⟩ (And.intro ⟨gTn f_X0_balanceBase, 0, yX0_balanceBase, cX0_balanceBase, 1, none, 3, _, rfl, by decide, yi_yX0_balanceBase, ok_X0_balanceBase l, by decide, by decide, rfl, rfl, ml_RX5_72, im_yX0_balanceBase, se_yX0_balanceBase⟩ (And.intro gf_RX5_57 (And.intro ⟨gTn f_X0_weight, 0, yX0_weight, cX0_weight, 3, (some .int), 1, _, rfl, by decide, yi_yX0_weight, ok_X0_weight l, by decide, by decide, rfl, rfl, ml_RX5_60, im_yX0_weight, se_yX0_weight⟩ (trivial)))))))))))))))))
theorem ok_X5_readItem (l : Launch) : gOK l yX5_readItem cX5_readItem 4 none 4 0 0 (gTn f_X5_readItem) := by
  refine gM_of (by decide +kernel) pX5_readItem_ok (lk_X5_readItem l) ?_
  intro SL SX K P av M run h
  unfold f_X5_readItem at h
  split at h
  · rename_i w s
    obtain ⟨t, n, p, S, hx, hS, hd, htt, h⟩ := h
    refine ⟨⟨by simp [gC1], Nat.le_of_ble_eq_true rfl⟩, ?_⟩
    have hs := skp_le (t := t) hx.2.1
    have hn := hx.1
    -- the end: the base, and the account of what was added
    have end79 : ∀ M1 d b c, b < 10 → colR M1 (s + 1 + 1 + 1 + 4 * b) c → P none (gUp (gUp M1 (s + 1 + 1 + 1 + 4 * b) 4 (lbal c.1)) (s + 46) 0 (gUp M1 (s + 1 + 1 + 1 + 4 * b) 4 (lbal c.1) (s + 46) 0 + lwt c.1)) → K 79 [some (.inr (.inl (5, w))), some (.inr (.inl (3, s))), some (.inl d), some (.inr (.inl (0, s + 1 + 1 + 1 + 4 * b)))] [] M1 gB0 := by
      intro M1 d b c hb g1 g2
      have g3 : colR (gUp M1 (s + 1 + 1 + 1 + 4 * b) 4 (lbal c.1)) (s + 1 + 1 + 1 + 4 * b) (c.1, lbal c.1) := g1.base _
      refine run [79] 1000 _ _ _ _ _ _ rfl ?_
      conv => whnf
      refine ⟨rfl, rfl, c, g1, ?_⟩
      conv => whnf
      refine ⟨vp_in_nI (n := 0) (by decide) (by decide), ?_⟩
      conv => whnf
      refine ⟨rfl, rfl, _, g3, ?_⟩
      conv => whnf
      refine ⟨vp_in_nI (n := 0) (by decide) (by decide), ?_⟩
      conv => whnf
      exact ⟨rfl, g2⟩
    -- an error stands
    have err73 : ∀ M1 d b c p1 e, b < 10 → colR M1 (s + 1 + 1 + 1 + 4 * b) c → txR M1 w t n p1 (nI e) → e ≤ n → gF3 M M1 w s 131 → (∀ M' p', txR M' w t n p' (nI e) → gF3 M M' w s 131 → P none M') → K 73 [some (.inr (.inl (5, w))), some (.inr (.inl (3, s))), some (.inl d), some (.inr (.inl (0, s + 1 + 1 + 1 + 4 * b)))] [] M1 gB0 := by
      intro M1 d b c p1 e hb g1 g2 he g3 h
      have ne := nI_m1 (e := e) (by omega)
      refine run [73, 79] 1000 _ _ _ _ _ _ rfl ?_
      conv => whnf
      refine ⟨rfl, rfl, t, n, p1, _, g2, fun _ => ?_, fun a => absurd a ne⟩
      conv => whnf
      refine end79 M1 d b c hb g1 (h _ p1 ((g2.fn (gFn.up (p := s + 1 + 1 + 1 + 4 * b) (n := 1) (Nat.le_refl _) (by omega)) (by omega)).fn (gFn.up (p := s + 46) (n := 1) (Nat.le_refl _) (by omega)) (by omega)) ((g3.fn (gFn.up (p := s + 1 + 1 + 1 + 4 * b) (n := 1) (Nat.le_refl _) (by omega)) (by omega) (by omega)).fn (gFn.up (p := s + 46) (n := 1) (Nat.le_refl _) (by omega)) (by omega) (by omega)))
    -- behind the sign ':'
    have mid40 : ∀ b M1 p1 er, b < 10 → txR M1 w t n p1 er → stR M1 s S → gF3 M M1 w s 131 → (¬ er = -1 → ∃ e, e ≤ n ∧ er = nI e ∧ ∀ M' p', txR M' w t n p' (nI e) → gF3 M M' w s 131 → P none M') → (er = -1 → pIq M w t n s (P none) (pI2 t n S b (pLs t n [] p1))) → K 40 [some (.inr (.inl (5, w))), some (.inr (.inl (3, s))), some (.inl (nI b)), none] [] M1 gB0 := by
      intro b M1 p1 er hb g1 g2 g3 h0 h
      have e : (nI b).toNatClampNeg = b := nI_clamp (by omega)
      have e1 : (1 : Int32).toNatClampNeg = 1 := rfl
      refine run [40, 73] 1000 _ _ _ _ _ _ rfl ?_
      conv => whnf
      refine ⟨⟨vp_in_nI (N := 10) (by omega) (by decide), rfl⟩, ?_⟩
      conv => whnf
      conv => whnf
      rw [e]
      refine ⟨vp_in_nI (n := 1) (by decide) (by decide), ?_⟩
      conv => whnf
      refine ⟨rfl, rfl, _, g2.1 b hb, ?_⟩
      conv => whnf
      refine ⟨vp_in_nI (n := 1) (by decide) (by decide), ?_⟩
      conv => whnf
      rw [e1]
      have g4 := g2.acc (k := 1) (by decide) (lwt (S.1 b).1)
      have c4 := (g4.1 b hb).nil
      have x4 := g1.fn (gFn.up (p := s + 46) (q := s + 46) (n := 1) (k := 1) (x := M1 (s + 46) 1 + lwt (S.1 b).1) (Nat.le_refl _) (by omega)) (by omega)
      have x5 := x4.fn (gFn.up (p := s + 1 + 1 + 1 + 4 * b) (q := s + 1 + 1 + 1 + 4 * b) (n := 1) (k := 3) (x := 0) (Nat.le_refl _) (by omega)) (by omega)
      have f4 := g3.fn (gFn.up (p := s + 46) (q := s + 46) (n := 1) (k := 1) (x := M1 (s + 46) 1 + lwt (S.1 b).1) (Nat.le_refl _) (by omega)) (by omega) (by omega)
      have f5 := f4.fn (gFn.up (p := s + 1 + 1 + 1 + 4 * b) (q := s + 1 + 1 + 1 + 4 * b) (n := 1) (k := 3) (x := 0) (Nat.le_refl _) (by omega)) (by omega) (by omega)
      refine ⟨rfl, rfl, t, n, p1, er, x5, fun her => ?_, fun her => ⟨_, c4, by show w + 2 ≤ s + 1 + 1 + 1 + 4 * b ∨ s + 1 + 1 + 1 + 4 * b + 4 ≤ w; omega, ?_⟩⟩
      · obtain ⟨e2, he, h01, h02⟩ := h0 her
        subst h01
        conv => whnf
        exact err73 _ _ b _ p1 e2 hb c4 x5 he f5 h02
      · subst her
        have h := h rfl
        cases hp : pLs t n [] p1 with
        | inl e =>
          rw [hp] at h
          show ∀ M' p' l, _
          intro M3 p3 l el a1 a2 a3
          have a3 : gF3 (gUp (gUp M1 (s + 46) 1 (M1 (s + 46) 1 + lwt (S.1 b).1)) (s + 1 + 1 + 1 + 4 * b) 3 0) M3 w (s + 1 + 1 + 1 + 4 * b) 4 := a3
          conv => whnf
          exact err73 M3 _ b _ p3 e hb a2 a1 el (f5.tr (a3.mono (by omega) (by omega))) (fun M' p' x f => h M' p' el x f)
        | inr z =>
          obtain ⟨p3, l⟩ := z
          rw [hp] at h
          show ∀ M', _
          intro M3 a1 a2 a3
          have a2 : colR M3 (s + 1 + 1 + 1 + 4 * b) (l, (S.1 b).2) := a2
          have a3 : gF3 (gUp (gUp M1 (s + 46) 1 (M1 (s + 46) 1 + lwt (S.1 b).1)) (s + 1 + 1 + 1 + 4 * b) 3 0) M3 w (s + 1 + 1 + 1 + 4 * b) 4 := a3
          have hs3 := skp_le (t := t) a1.2.1
          have f6 := f5.tr (a3.mono (p := s) (k := 131) (by omega) (by omega))
          conv => whnf
          refine run [79] 1000 _ _ _ _ _ _ rfl ?_
          conv => whnf
          refine ⟨rfl, rfl, t, n, p3, _, a1, fun a => absurd rfl a, fun _ => ?_⟩
          unfold pI2 at h
          dsimp only at h
          by_cases h59 : sg t n (skp t n p3) = 59
          · rw [if_pos h59] at h ⊢
            have hlt : skp t n p3 < n := sg_lt (by rw [h59]; decide)
            conv => whnf
            have c6 : colR (gUp M3 w 2 (nI (skp t n p3 + 1))) (s + 1 + 1 + 1 + 4 * b) (l, (S.1 b).2) := a2.upw (by omega) _ _
            have s7 := g4.col2 (M' := gUp (gUp M3 w 2 (nI (skp t n p3 + 1))) (s + 1 + 1 + 1 + 4 * b) 4 (lbal l)) hb (c6.base _) (fun r b1 b2 b3 => by
              rw [gUp_row (by omega), gUp_row (by omega), a3 r (by omega) (by omega), gUp_row (by omega)])
            refine end79 _ _ b _ hb c6 (h _ (((a1.pos (by omega)).fn (gFn.up (p := s + 1 + 1 + 1 + 4 * b) (n := 1) (Nat.le_refl _) (by omega)) (by omega)).fn (gFn.up (p := s + 46) (n := 1) (Nat.le_refl _) (by omega)) (by omega)) (s7.acc (k := 0) (by decide) (lwt l)) (((f6.up 2 _).fn (gFn.up (p := s + 1 + 1 + 1 + 4 * b) (n := 1) (Nat.le_refl _) (by omega)) (by omega) (by omega)).fn (gFn.up (p := s + 46) (n := 1) (Nat.le_refl _) (by omega)) (by omega) (by omega)))
          · rw [if_neg h59] at h ⊢
            have a9 := (a1.pos hs3.2).err (nI (skp t n p3))
            have ne := nI_m1 (e := skp t n p3) (by omega)
            conv => whnf
            refine end79 _ _ b _ hb ((a2.upw (by omega) _ _).upw (by omega) _ _) (h _ (skp t n p3) hs3.2 ((a9.fn (gFn.up (p := s + 1 + 1 + 1 + 4 * b) (n := 1) (Nat.le_refl _) (by omega)) (by omega)).fn (gFn.up (p := s + 46) (n := 1) (Nat.le_refl _) (by omega)) (by omega)) ((((f6.up 2 _).up 3 _).fn (gFn.up (p := s + 1 + 1 + 1 + 4 * b) (n := 1) (Nat.le_refl _) (by omega)) (by omega) (by omega)).fn (gFn.up (p := s + 46) (n := 1) (Nat.le_refl _) (by omega)) (by omega) (by omega)))
    have h1 := hx.pos hs.2
    have f1 := (gF3.rf M w s 131).up 2 (nI (skp t n p))
    have s1 : stR (gUp M w 2 (nI (skp t n p))) s S := hS.kept fun r a b => gUp_row (by omega)
    unfold pItem at h
    refine run [40] 1000 _ _ _ _ _ _ rfl ?_
    conv => whnf
    refine ⟨rfl, rfl, t, n, p, -1, hx, ?_⟩
    conv => whnf
    refine ⟨rfl, rfl, ?_⟩
    conv => whnf
    by_cases hb : 0 ≤ sg t n (skp t n p) - 48 ∧ sg t n (skp t n p) - 48 ≤ 9
    · rw [if_pos hb]
      rw [if_neg (fun q => q hb)] at h
      obtain ⟨b, hb9, e⟩ := nI_bd (n := 9) (by decide) hb.1 hb.2
      have e2 : (nI b).toNatClampNeg = b := nI_clamp (by omega)
      rw [e, e2] at h
      rw [e]
      refine ⟨fun h2 => ?_, fun h2 => ?_⟩
      · conv => whnf
        rw [h1.2.2.2.2.1, gUp_up, nI_1]
        have hlt : skp t n p < n := sg_lt (fun q => by rw [q] at hb; exact absurd hb.1 (by decide))
        have g4 := hx.pos (q := skp t n p + 1) (by omega)
        have hs4 := skp_le (t := t) g4.2.1
        have f4 := (gF3.rf M w s 131).up 2 (nI (skp t n p + 1))
        have s4 : stR (gUp M w 2 (nI (skp t n p + 1))) s S := hS.kept fun r a b => gUp_row (by omega)
        unfold pI1 at h
        refine ⟨rfl, rfl, t, n, _, _, g4, fun a => absurd rfl a, fun _ => ?_⟩
        by_cases h58 : sg t n (skp t n (skp t n p + 1)) = 58
        · rw [if_pos h58] at h ⊢
          have hlt2 : skp t n (skp t n p + 1) < n := sg_lt (by rw [h58]; decide)
          conv => whnf
          exact mid40 b _ _ _ (by omega) (g4.pos (by omega)) (s4.kept fun r a b => gUp_row (by omega)) (f4.up _ _) (fun a => absurd rfl a) (fun _ => h)
        · rw [if_neg h58] at h ⊢
          conv => whnf
          have ne := nI_m1 (e := skp t n (skp t n p + 1)) (by omega)
          refine mid40 b _ _ _ (by omega) ((g4.pos hs4.2).err _) ((s4.kept fun r a b => gUp_row (by omega)).kept fun r a b => gUp_row (by omega)) ((f4.up _ _).up _ _) (fun _ => ⟨_, hs4.2, rfl, fun M' p' x f => h M' p' hs4.2 x f⟩) (fun a => absurd a ne)
      · exact absurd h2 (by decide)
    · rw [if_neg hb]
      rw [if_pos hb] at h
      refine ⟨fun h2 => ?_, fun h2 => ?_⟩
      · exact absurd rfl h2
      · conv => whnf
        refine ⟨rfl, rfl, ?_⟩
        conv => whnf
        rw [h1.2.2.2.2.2, if_pos rfl, h1.2.2.2.2.1]
        exact ⟨rfl, h _ (skp t n p) hs.2 (h1.err _) (f1.up _ _)⟩
  · exact h.elim
