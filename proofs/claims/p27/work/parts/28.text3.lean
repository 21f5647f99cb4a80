/-! Text: layers, items, the whole text -/
theorem pLayer_l {t : Nat → Int32} {n p e : Nat} {l : List Lay} (hp : p ≤ n) (h : pLayer t n l p = .inl e) : e ≤ n := by
  have hs := (skp_le (t := t) hp).2
  unfold pLayer at h
  split at h
  · injection h with h
    omega
  · rename_i hk
    have hlt : skp t n p < n := sg_lt (kOf_0 (Decidable.of_not_not (fun q => hk (Or.inl q))))
    have tl : ∀ r, (∀ x, r = .inl x → x ≤ n) → (∀ q v, r = .inr (q, v) → q ≤ n) → pL2 t n l (kOf (sg t n (skp t n p))) r = .inl e → e ≤ n := by
      intro r h1 h2 h
      unfold pL2 at h
      cases r with
      | inl x =>
        injection h with h
        exact h ▸ h1 x rfl
      | inr z =>
        obtain ⟨q, d⟩ := z
        have hq := h2 q d rfl
        dsimp only at h
        have hs := (skp_le (t := t) hq).2
        split at h
        · rename_i h42
          have : skp t n q < n := sg_lt (by rw [h42]; decide)
          unfold pL3 at h
          split at h
          · rename_i e2 he
            injection h with h
            exact h ▸ pNum_l (by omega) he
          · cases h
        · injection h with h
          omega
    refine tl _ (fun x hx => ?_) (fun q v hx => ?_) h
    · split at hx
      · exact pNum_l (by omega) hx
      · cases hx
    · split at hx
      · exact pNum_r (by omega) hx
      · injection hx with hx
        injection hx with hx _
        omega
def pLm (t : Nat → Int32) (n : Nat) : Nat → List Lay → Nat → Nat ⊕ (Nat × List Lay)
  | 0, l, p => .inr (p, l)
  | f + 1, l, p => if sg t n (skp t n p) = 43 then (match pLayer t n l (skp t n p + 1) with
    | .inl e => .inl e
    | .inr (p', l') => pLm t n f l' p') else .inr (skp t n p, l)
/-- the layers of a block, up to the sign that ends them -/
def pLs (t : Nat → Int32) (n : Nat) (l : List Lay) (p : Nat) : Nat ⊕ (Nat × List Lay) := if sg t n (skp t n p) = 59 then .inr (skp t n p, l) else match pLayer t n l (skp t n p) with
  | .inl e => .inl e
  | .inr (p', l') => pLm t n 140 l' p'
/-- what is asked of the world behind a piece of the reader that makes layers -/
def pLq (M : gM) (w : Nat) (t : Nat → Int32) (n q : Nat) (b : Int32) (post : gM → Prop) (r : Nat ⊕ (Nat × List Lay)) : Prop := match r with
  | .inl e => ∀ M' p' l, e ≤ n → txR M' w t n p' (nI e) → colR M' q (l, b) → gF3 M M' w q 4 → post M'
  | .inr (p', l') => ∀ M', txR M' w t n p' (-1) → colR M' q (l', b) → gF3 M M' w q 4 → post M'
theorem pLq_mv {M M1 : gM} {w : Nat} {t : Nat → Int32} {n q : Nat} {b : Int32} {post : gM → Prop} {r : Nat ⊕ (Nat × List Lay)} (h : pLq M w t n q b post r) (hf : gF3 M M1 w q 4) : pLq M1 w t n q b post r := by
  cases r with
  | inl e => exact fun M' p' l a1 a2 a3 a4 => h M' p' l a1 a2 a3 (hf.tr a4)
  | inr z => exact fun M' a2 a3 a4 => h M' a2 a3 (hf.tr a4)
def f_X5_readLayers : gF := fun av M post => match av with
  | [.inr (.inl (5, w)), .inr (.inl (0, q))] => ∃ t n p er, txR M w t n p er ∧ (¬ er = -1 → post none M) ∧ (er = -1 → ∃ C, colR M q C ∧ (w + 2 ≤ q ∨ q + 4 ≤ w) ∧ pLq M w t n q C.2 (post none) (pLs t n C.1 p))
  | _ => False
theorem lk_X5_readLayers (l : Launch) : gLinks l RX5 3 [(gTn f_X5_isWrong, 0, 0, 5), (gTn f_X5_nextSign, 0, 0, 5), (gTn f_X5_readLayer, 0, 0, 5)] pX5_readLayers := And.intro ⟨gTn f_X5_isWrong, 5, yX5_isWrong, cX5_isWrong, 1, (some .boolean), 0, _, rfl, by decide, yi_yX5_isWrong, ok_X5_isWrong l, by decide, by decide, rfl, rfl, ml_RX5_22, im_yX5_isWrong, se_yX5_isWrong⟩ (And.intro ⟨gTn f_X5_nextSign, 5, yX5_nextSign, cX5_nextSign, 1, (some .int), 0, _, rfl, by decide, yi_yX5_nextSign, ok_X5_nextSign l, by decide, by decide, rfl, rfl, ml_RX5_26, im_yX5_nextSign, se_yX5_nextSign⟩ (And.intro ⟨gTn f_X5_readLayer, 5, yX5_readLayer, cX5_readLayer, 5, none, 2, _, rfl, by decide, yi_yX5_readLayer, ok_X5_readLayer l, by decide, by decide, rfl, rfl, ml_RX5_75, im_yX5_readLayer, se_yX5_readLayer⟩ (And.intro ⟨gTn f_X5_isWrong, 5, yX5_isWrong, cX5_isWrong, 1, (some .boolean), 0, _, rfl, by decide, yi_yX5_isWrong, ok_X5_isWrong l, by decide, by decide, rfl, rfl, ml_RX5_22, im_yX5_isWrong, se_yX5_isWrong⟩ (And.intro ⟨gTn f_X5_nextSign, 5, yX5_nextSign, cX5_nextSign, 1, (some .int), 0, _, rfl, by decide, yi_yX5_nextSign, ok_X5_nextSign l, by decide, by decide, rfl, rfl, ml_RX5_26, im_yX5_nextSign, se_yX5_nextSign⟩ (And.intro gf_RX5_19 (And.intro gf_RX5_19 (And.intro ⟨gTn f_X5_readLayer, 5, yX5_readLayer, cX5_readLayer, 5, none, 2, _, rfl, by decide, yi_yX5_readLayer, ok_X5_readLayer l, by decide, by decide, rfl, rfl, ml_RX5_75, im_yX5_readLayer, se_yX5_readLayer⟩ (trivial))))))))
theorem ok_X5_readLayers (l : Launch) : gOK l yX5_readLayers cX5_readLayers 3 none 3 0 0 (gTn f_X5_readLayers) := by
  refine gM_of (by decide +kernel) pX5_readLayers_ok (lk_X5_readLayers l) ?_
  intro SL SX K P av M run h
  unfold f_X5_readLayers at h
  split at h
  · rename_i w q
    obtain ⟨t, n, p, er, hx, h0, h⟩ := h
    refine ⟨⟨by simp [gC1], Nat.le_of_ble_eq_true rfl⟩, ?_⟩
    have hs := skp_le (t := t) hx.2.1
    have hn := hx.1
    have eloop : ∀ M1 p1 e k, txR M1 w t n p1 (nI e) → e ≤ n → P none M1 → K 24 [some (.inr (.inl (5, w))), some (.inr (.inl (0, q))), some (.inl k)] [] M1 gB0 := by
      intro M1 p1 e k g1 ge g2
      have ne := nI_m1 (e := e) (by omega)
      refine run [24] 1000 _ _ _ _ _ _ rfl ?_
      conv => whnf
      refine ⟨fun h1 => ?_, fun h1 => ?_⟩
      · conv => whnf
        exact ⟨rfl, g2⟩
      · conv => whnf
        refine ⟨rfl, rfl, ?_⟩
        conv => whnf
        rw [g1.2.2.2.2.2, if_neg ne]
        refine ⟨fun h2 => ?_, fun h2 => ?_⟩
        · conv => whnf
          exact ⟨rfl, g2⟩
        · exact absurd h2 (by decide)
    have loop : ∀ C : Col, (w + 2 ≤ q ∨ q + 4 ≤ w) → ∀ f k, k + f = 140 → ∀ M1 p1 l, txR M1 w t n p1 (-1) → colR M1 q (l, C.2) → gF3 M M1 w q 4 → pLq M w t n q C.2 (P none) (pLm t n f l p1) → K 24 [some (.inr (.inl (5, w))), some (.inr (.inl (0, q))), some (.inl (nI k))] [] M1 gB0 := by
      intro C hd f
      induction f with
      | zero =>
        intro k hk M1 p1 l g1 g2 g3 h
        refine run [24] 1000 _ _ _ _ _ _ rfl ?_
        conv => whnf
        refine ⟨fun h1 => ?_, fun h1 => ?_⟩
        · conv => whnf
          exact ⟨rfl, h _ g1 g2 g3⟩
        · exact absurd (show ((140 : Int32) ≤ nI k) from nI_le (a := 140) (by omega) (by omega)) h1
      | succ f ih =>
        intro k hk M1 p1 l g1 g2 g3 h
        have hs := skp_le (t := t) g1.2.1
        refine run [24] 1000 _ _ _ _ _ _ rfl ?_
        conv => whnf
        refine ⟨fun h1 => ?_, fun h1 => ?_⟩
        · exact absurd h1 (nI_ge (b := 140) (by omega) (by omega))
        · conv => whnf
          refine ⟨rfl, rfl, ?_⟩
          conv => whnf
          rw [g1.2.2.2.2.2, if_pos rfl]
          refine ⟨fun h2 => ?_, fun h2 => ?_⟩
          · exact absurd rfl h2
          · conv => whnf
            refine ⟨rfl, rfl, t, n, p1, -1, g1, ?_⟩
            conv => whnf
            have g4 := g1.pos hs.2
            unfold pLm at h
            refine ⟨fun h3 => ?_, fun h3 => ?_⟩
            · conv => whnf
              rw [if_neg h3] at h
              exact ⟨rfl, h _ g4 (g2.upw hd _ _) (g3.up _ _)⟩
            · conv => whnf
              have h3 : sg t n (skp t n p1) = 43 := h3
              rw [if_pos h3] at h
              have hlt : skp t n p1 < n := sg_lt (by rw [h3]; decide)
              have g5 := g1.pos (q := skp t n p1 + 1) (by omega)
              rw [g4.2.2.2.2.1, gUp_up, nI_1]
              refine ⟨rfl, rfl, t, n, _, (l, C.2), g5, g2.upw hd _ _, hd, ?_⟩
              cases hp : pLayer t n l (skp t n p1 + 1) with
              | inl e =>
                rw [hp] at h
                dsimp only at h ⊢
                intro M2 p2 e1 e2 e3
                conv => whnf
                have el := pLayer_l (by omega) hp
                exact eloop M2 p2 e _ e1 el (h M2 p2 l el e1 e2 ((g3.up _ _).tr e3))
              | inr z =>
                obtain ⟨p2, l2⟩ := z
                rw [hp] at h
                dsimp only at h ⊢
                intro M2 e1 e2 e3
                conv => whnf
                rw [nI_1]
                exact ih (k + 1) (by omega) M2 p2 l2 e1 e2 ((g3.up _ _).tr e3) h
    refine run [24] 1000 _ _ _ _ _ _ rfl ?_
    conv => whnf
    refine ⟨rfl, rfl, ?_⟩
    conv => whnf
    rw [hx.2.2.2.2.2]
    by_cases her : er = -1
    · subst her
      obtain ⟨C, hC, hd, h⟩ := h rfl
      rw [if_pos rfl]
      refine ⟨fun h1 => ?_, fun h1 => ?_⟩
      · exact absurd rfl h1
      · conv => whnf
        refine ⟨rfl, rfl, t, n, p, -1, hx, ?_⟩
        conv => whnf
        have g1 := hx.pos hs.2
        have c1 := hC.upw hd 2 (nI (skp t n p))
        have f1 := (gF3.rf M w q 4).up 2 (nI (skp t n p))
        unfold pLs at h
        refine ⟨fun h2 => ?_, fun h2 => ?_⟩
        · conv => whnf
          rw [if_neg h2] at h
          refine ⟨rfl, rfl, t, n, _, C, g1, c1, hd, ?_⟩
          cases hp : pLayer t n C.1 (skp t n p) with
          | inl e =>
            rw [hp] at h
            dsimp only at h ⊢
            intro M2 p2 e1 e2 e3
            conv => whnf
            have el := pLayer_l hs.2 hp
            exact eloop M2 p2 e _ e1 el (h M2 p2 C.1 el e1 e2 (f1.tr e3))
          | inr z =>
            obtain ⟨p2, l2⟩ := z
            rw [hp] at h
            dsimp only at h ⊢
            intro M2 e1 e2 e3
            conv => whnf
            exact loop C hd 140 0 rfl M2 p2 l2 e1 e2 (f1.tr e3) h
        · conv => whnf
          have h2 : sg t n (skp t n p) = 59 := h2
          rw [if_pos h2] at h
          exact ⟨rfl, h _ g1 c1 f1⟩
    · rw [if_neg her]
      refine ⟨fun h1 => ?_, fun h1 => ?_⟩
      · conv => whnf
        exact ⟨rfl, h0 her⟩
      · exact absurd h1 (by decide)
  · exact h.elim
