/-! Text: the whole text -/
def pIt (t : Nat → Int32) (n : Nat) : Nat → St → Nat → Nat → Nat ⊕ (St × Nat)
  | 0, S, _, i => .inr (S, i)
  | f + 1, S, p, i => if sg t n (skp t n p) = 0 then .inr (S, i) else match pItem t n S (skp t n p) with
    | .inl e => .inl e
    | .inr (p', S') => pIt t n f S' p' (i + 1)
/-- the whole text: the place of the error, or the state it makes and the number of items -/
def pText (t : Nat → Int32) (n : Nat) (S : St) : Nat ⊕ (St × Nat) := pIt t n 140 S 0 0
def pTq (M : gM) (w : Nat) (t : Nat → Int32) (n s : Nat) (post : Int32 → gM → Prop) (r : Nat ⊕ (St × Nat)) : Prop := match r with
  | .inl e => ∀ M' p' i, e ≤ n → txR M' w t n p' (nI e) → gF3 M M' w s 131 → post i M'
  | .inr (S', i) => ∀ M' p', txR M' w t n p' (-1) → stR M' s S' → gF3 M M' w s 131 → post (nI i) M'
/-- a text that is not being read -/
def txL (M : gM) (w : Nat) (t : Nat → Int32) (n : Nat) : Prop := n ≤ 140 ∧ (∀ k, k < n → M (w + 1) k = t k) ∧ M w 1 = nI n
theorem txL.start {M : gM} {w : Nat} {t : Nat → Int32} {n : Nat} (h : txL M w t n) : txR (gUp (gUp M w 2 (nI 0)) w 3 (-1)) w t n 0 (-1) := by
  obtain ⟨h1, h2, h3⟩ := h
  refine ⟨h1, Nat.zero_le _, fun k hk => ?_, ?_, ?_, gUp_same _ _ _ _⟩
  · rw [gUp_row (by omega), gUp_row (by omega)]; exact h2 k hk
  · rw [gUp_ne (Or.inr (by decide)), gUp_ne (Or.inr (by decide))]; exact h3
  · rw [gUp_ne (Or.inr (by decide))]; exact gUp_same _ _ _ _
theorem txR.toL {M : gM} {w : Nat} {t : Nat → Int32} {n p : Nat} {er : Int32} (h : txR M w t n p er) : txL M w t n := ⟨h.1, h.2.2.1, h.2.2.2.1⟩
def f_X5_readInto : gF := fun av M post => match av with
  | [.inr (.inl (5, w)), .inr (.inl (3, s))] => ∃ t n S, txL M w t n ∧ stR M s S ∧ (w + 2 ≤ s ∨ s + 131 ≤ w) ∧ (∀ k, k < n → t k ≤ 255 ∧ 1 ≤ t k) ∧ pTq M w t n s (fun i => post (some (.inl i))) (pText t n S)
  | _ => False
theorem lk_X5_readInto (l : Launch) : gLinks l RX5 5 [(gTn f_X5_isWrong, 0, 0, 5), (gTn f_X5_nextSign, 0, 0, 5), (gTn f_X5_readItem, 0, 0, 5)] pX5_readInto := And.intro gf_RX5_19 (And.intro gf_RX5_15 (And.intro ⟨gTn f_X5_isWrong, 5, yX5_isWrong, cX5_isWrong, 1, (some .boolean), 0, _, rfl, by decide, yi_yX5_isWrong, ok_X5_isWrong l, by decide, by decide, rfl, rfl, ml_RX5_22, im_yX5_isWrong, se_yX5_isWrong⟩ (And.intro ⟨gTn f_X5_nextSign, 5, yX5_nextSign, cX5_nextSign, 1, (some .int), 0, _, rfl, by decide, yi_yX5_nextSign, ok_X5_nextSign l, by decide, by decide, rfl, rfl, ml_RX5_26, im_yX5_nextSign, se_yX5_nextSign⟩ (And.intro ⟨gTn f_X5_readItem, 5, yX5_readItem, cX5_readItem, 4, none, 4, _, rfl, by decide, yi_yX5_readItem, ok_X5_readItem l, by decide, by decide, rfl, rfl, ml_RX5_30, im_yX5_readItem, se_yX5_readItem⟩ (trivial)))))
theorem ok_X5_readInto (l : Launch) : gOK l yX5_readInto cX5_readInto 3 (some .int) 5 0 0 (gTn f_X5_readInto) := by
  refine gM_of (by decide +kernel) pX5_readInto_ok (lk_X5_readInto l) ?_
  intro SL SX K P av M run h
  unfold f_X5_readInto at h
  split at h
  · rename_i w s
    obtain ⟨t, n, S, hx, hS, hd, htt, h⟩ := h
    refine ⟨⟨by simp [gC1], Nat.le_of_ble_eq_true rfl⟩, ?_⟩
    have hn := hx.1
    have h1 := hx.start
    have f1 := ((gF3.rf M w s 131).up 2 (nI 0)).up 3 (-1)
    have s1 : stR (gUp (gUp M w 2 (nI 0)) w 3 (-1)) s S := (hS.kept fun r a b => gUp_row (by omega)).kept fun r a b => gUp_row (by omega)
    unfold pText at h
    have eloop : ∀ M1 p1 e k, txR M1 w t n p1 (nI e) → e ≤ n → (∀ i, P (some (.inl i)) M1) → K 12 [some (.inr (.inl (5, w))), some (.inr (.inl (3, s))), some (.inl k)] [] M1 gB0 := by
      intro M1 p1 e k g1 ge g2
      have ne := nI_m1 (e := e) (by omega)
      refine run [12] 1000 _ _ _ _ _ _ rfl ?_
      conv => whnf
      refine ⟨fun h1 => ?_, fun h1 => ?_⟩
      · conv => whnf
        exact ⟨rfl, g2 _⟩
      · conv => whnf
        refine ⟨rfl, rfl, ?_⟩
        conv => whnf
        rw [g1.2.2.2.2.2, if_neg ne]
        refine ⟨fun h2 => ?_, fun h2 => ?_⟩
        · conv => whnf
          exact ⟨rfl, g2 _⟩
        · exact absurd h2 (by decide)
    have loop : ∀ f k, k + f = 140 → ∀ M1 p1 S1, txR M1 w t n p1 (-1) → stR M1 s S1 → gF3 M M1 w s 131 → pTq M w t n s (fun i => P (some (.inl i))) (pIt t n f S1 p1 k) → K 12 [some (.inr (.inl (5, w))), some (.inr (.inl (3, s))), some (.inl (nI k))] [] M1 gB0 := by
      intro f
      induction f with
      | zero =>
        intro k hk M1 p1 S1 g1 g2 g3 h
        refine run [12] 1000 _ _ _ _ _ _ rfl ?_
        conv => whnf
        refine ⟨fun h1 => ?_, fun h1 => ?_⟩
        · conv => whnf
          exact ⟨rfl, h _ _ g1 g2 g3⟩
        · exact absurd (show ((140 : Int32) ≤ nI k) from nI_le (a := 140) (by omega) (by omega)) h1
      | succ f ih =>
        intro k hk M1 p1 S1 g1 g2 g3 h
        have hs := skp_le (t := t) g1.2.1
        refine run [12] 1000 _ _ _ _ _ _ rfl ?_
        conv => whnf
        refine ⟨fun h1 => ?_, fun h1 => ?_⟩
        · exact absurd h1 (nI_ge (b := 140) (by omega) (by omega))
        · conv => whnf
          refine ⟨rfl, rfl, ?_⟩
          conv => whnf
          rw [g1.2.2.2.2.2, if_pos rfl]
          refine ⟨fun h2 => ?_, fun h2 => ?_⟩
          · exact absurd rfl h2
          · conv => whnf
            refine ⟨rfl, rfl, t, n, p1, -1, g1, ?_⟩
            conv => whnf
            have g4 := g1.pos hs.2
            have s4 : stR (gUp M1 w 2 (nI (skp t n p1))) s S1 := g2.kept fun r a b => gUp_row (by omega)
            unfold pIt at h
            refine ⟨fun h3 => ?_, fun h3 => ?_⟩
            · conv => whnf
              rw [if_pos h3] at h
              exact ⟨rfl, h _ _ g4 s4 (g3.up _ _)⟩
            · conv => whnf
              rw [if_neg h3] at h
              refine ⟨rfl, rfl, t, n, _, S1, g4, s4, hd, htt, ?_⟩
              cases hp : pItem t n S1 (skp t n p1) with
              | inl e =>
                rw [hp] at h
                show ∀ M' p', _
                intro M2 p2 el e1 e3
                conv => whnf
                exact eloop M2 p2 e _ e1 el (fun i => h M2 p2 i el e1 ((g3.up _ _).tr e3))
              | inr z =>
                obtain ⟨p2, S2⟩ := z
                rw [hp] at h
                show ∀ M', _
                intro M2 e1 e2 e3
                conv => whnf
                rw [nI_1]
                exact ih (k + 1) (by omega) M2 p2 S2 e1 e2 ((g3.up _ _).tr e3) h
    refine run [12] 1000 _ _ _ _ _ _ rfl ?_
    conv => whnf
    exact loop 140 0 rfl _ 0 S h1 s1 f1 h
  · exact h.elim
