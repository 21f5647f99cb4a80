/-! Column: what is written to it -/
def gFr (M M' : gM) (p : Nat) : Prop := ∀ q, (q < p ∨ p + 3 < q) → M' q = M q
theorem gFr.rf (M : gM) (p : Nat) : gFr M M p := fun _ _ => rfl
theorem gFr.tr {M M1 M2 : gM} {p : Nat} (h : gFr M M1 p) (h2 : gFr M1 M2 p) : gFr M M2 p := fun q hq => (h2 q hq).trans (h q hq)
theorem gFr.up {M : gM} {p q k : Nat} {x : Int32} (h1 : p ≤ q) (h2 : q ≤ p + 3) : gFr M (gUp M q k x) p := fun q' hq => gUp_row (by omega)
theorem colR.fr {M M' : gM} {p q : Nat} {c : Col} (h : colR M q c) (hf : gFr M M' p) (hd : q + 3 < p ∨ p + 3 < q) : colR M' q c := h.kept fun r h1 h2 => hf r (by omega)
theorem colR.base {M : gM} {p : Nat} {c : Col} (h : colR M p c) (x : Int32) : colR (gUp M p 4 x) p (c.1, x) := by
  obtain ⟨h1, h2, h3, h4⟩ := h
  refine ⟨h1, (gUp_ne (Or.inr (by decide))).trans h2, gUp_same M p 4 x, fun k y hk => ?_⟩
  rw [gUp_row (by omega), gUp_row (by omega), gUp_row (by omega)]
  exact h4 k y hk
def gMv (M : gM) (p i j : Nat) : gM := fun q k => if (p + 1 ≤ q ∧ q ≤ p + 3) ∧ k = j then M q i else M q k
theorem gMv_eq (M : gM) (p i j : Nat) : gUp (gUp (gUp M (p + 1) j (M (p + 1) i)) (p + 2) j (gUp M (p + 1) j (M (p + 1) i) (p + 2) i)) (p + 3) j (gUp (gUp M (p + 1) j (M (p + 1) i)) (p + 2) j (gUp M (p + 1) j (M (p + 1) i) (p + 2) i) (p + 3) i) = gMv M p i j := by
  rw [gUp_ne (q' := p + 3) (k' := i) (q := p + 2) (Or.inl (by omega)), gUp_ne (q' := p + 3) (k' := i) (q := p + 1) (Or.inl (by omega)), gUp_ne (q' := p + 2) (k' := i) (q := p + 1) (Or.inl (by omega))]
  funext q k
  unfold gMv
  by_cases hk : k = j
  · subst hk
    by_cases h3 : q = p + 3
    · subst h3
      rw [gUp_same, if_pos (by omega)]
    · rw [gUp_ne (Or.inl h3)]
      by_cases h2 : q = p + 2
      · subst h2
        rw [gUp_same, if_pos (by omega)]
      · rw [gUp_ne (Or.inl h2)]
        by_cases h1 : q = p + 1
        · subst h1
          rw [gUp_same, if_pos (by omega)]
        · rw [gUp_ne (Or.inl h1), if_neg (by omega)]
  · rw [gUp_ne (Or.inr hk), gUp_ne (Or.inr hk), gUp_ne (Or.inr hk), if_neg (fun e => hk e.2)]
def f_X0_moveLayer : gF := fun av M post => match av with
  | [.inr (.inl (0, p)), .inl v, .inl w] => ∃ i j, i < 8 ∧ j < 8 ∧ v = nI i ∧ w = nI j ∧ post none (gMv M p i j)
  | _ => False
theorem lk_X0_moveLayer (l : Launch) : gLinks l RX0 0 [] pX0_moveLayer := And.intro gf_RX0_9 (And.intro gf_RX0_9 (And.intro gf_RX0_15 (And.intro gf_RX0_15 (And.intro gf_RX0_18 (And.intro gf_RX0_18 (trivial))))))
theorem ok_X0_moveLayer (l : Launch) : gOK l yX0_moveLayer cX0_moveLayer 3 none 0 0 0 (gTn f_X0_moveLayer) := by
  refine gM_of (by decide +kernel) pX0_moveLayer_ok (lk_X0_moveLayer l) ?_
  intro SL SX K P av M run h
  unfold f_X0_moveLayer at h
  split at h
  · rename_i p v w
    obtain ⟨i, j, hi, hj, rfl, rfl, h⟩ := h
    refine ⟨⟨by simp [gC1], Nat.le_of_ble_eq_true rfl⟩, ?_⟩
    refine run [] 1000 _ _ _ _ _ _ rfl ?_
    conv => whnf
    refine ⟨vp_in_nI hi (by decide), ?_⟩
    conv => whnf
    refine ⟨vp_in_nI hj (by decide), ?_⟩
    conv => whnf
    refine ⟨vp_in_nI hi (by decide), ?_⟩
    conv => whnf
    refine ⟨vp_in_nI hj (by decide), ?_⟩
    conv => whnf
    refine ⟨vp_in_nI hi (by decide), ?_⟩
    conv => whnf
    refine ⟨vp_in_nI hj (by decide), ?_⟩
    conv => whnf
    rw [nI_clamp (nI_lt8 (by omega)), nI_clamp (nI_lt8 (by omega)), gMv_eq]
    exact ⟨rfl, h⟩
  · exact h.elim
def gSh (M : gM) (p lo hi : Nat) : gM := fun q k => if (p + 1 ≤ q ∧ q ≤ p + 3) ∧ lo < k ∧ k ≤ hi then M q (k - 1) else M q k
theorem gSh_step (M : gM) (p m n : Nat) (h : m + 1 ≤ n) : gMv (gSh M p (m + 1) n) p m (m + 1) = gSh M p m n := by
  funext q k
  unfold gMv gSh
  by_cases hq : p + 1 ≤ q ∧ q ≤ p + 3
  · by_cases hk : k = m + 1
    · subst hk
      rw [if_pos ⟨hq, rfl⟩, if_neg (by omega), if_pos (by omega)]
      rfl
    · rw [if_neg (by omega)]
      by_cases hk2 : m + 1 < k ∧ k ≤ n
      · rw [if_pos ⟨hq, hk2⟩, if_pos (by omega)]
      · rw [if_neg (by omega), if_neg (by omega)]
  · rw [if_neg (by omega), if_neg (by omega), if_neg (by omega)]
theorem gSh_0 (M : gM) (p n : Nat) : gSh M p n n = M := by
  funext q k
  unfold gSh
  rw [if_neg (by omega)]
theorem gSh_row {M : gM} {p lo hi q : Nat} (h : q < p + 1 ∨ p + 3 < q) : gSh M p lo hi q = M q := by
  funext k
  unfold gSh
  rw [if_neg (by omega)]
/-- the memory behind an insertion -/
def gIn (M : gM) (p j n : Nat) (a b c : Int32) : gM := gUp (gUp (gUp (gUp (gSh M p j n) (p + 1) j a) (p + 2) j b) (p + 3) j c) p 3 (nI (n + 1))
theorem gIn_fr (M : gM) (p j n : Nat) (a b c : Int32) : gFr M (gIn M p j n a b c) p := fun q hq => by
  unfold gIn
  rw [gUp_row (by omega), gUp_row (by omega), gUp_row (by omega), gUp_row (by omega), gSh_row (by omega)]
theorem gIn_R {M : gM} {p j : Nat} {c : Col} {x : Lay} (h : colR M p c) (hn : c.1.length < 8) (hj : j ≤ c.1.length) : colR (gIn M p j c.1.length x.1 x.2.1 x.2.2) p (c.1.insertIdx j x, c.2) := by
  obtain ⟨h1, h2, h3, h4⟩ := h
  have hlen : (c.1.insertIdx j x).length = c.1.length + 1 := List.length_insertIdx_of_le_length hj x
  refine ⟨by rw [hlen]; omega, ?_, ?_, fun k y hk => ?_⟩
  · rw [hlen]
    exact gUp_same _ _ _ _
  · unfold gIn
    rw [gUp_ne (Or.inr (by decide)), gUp_row (by omega), gUp_row (by omega), gUp_row (by omega), gSh_row (by omega)]
    exact h3
  · have e : ∀ r, p + 1 ≤ r → gIn M p j c.1.length x.1 x.2.1 x.2.2 r k = gUp (gUp (gUp (gSh M p j c.1.length) (p + 1) j x.1) (p + 2) j x.2.1) (p + 3) j x.2.2 r k := fun r h5 => by
      unfold gIn
      rw [gUp_row (by omega)]
    rw [e _ (by omega), e _ (by omega), e _ (by omega)]
    rw [List.getElem?_insertIdx] at hk
    by_cases hkj : k = j
    · subst hkj
      rw [if_neg (by omega), if_pos rfl, if_pos hj] at hk
      cases hk
      refine ⟨?_, ?_, ?_⟩
      · rw [gUp_row (by omega), gUp_row (by omega), gUp_same]
      · rw [gUp_row (by omega), gUp_same]
      · rw [gUp_same]
    · rw [gUp_ne (Or.inr hkj), gUp_ne (Or.inr hkj), gUp_ne (Or.inr hkj), gUp_ne (Or.inr hkj), gUp_ne (Or.inr hkj), gUp_ne (Or.inr hkj), gUp_ne (Or.inr hkj), gUp_ne (Or.inr hkj), gUp_ne (Or.inr hkj)]
      unfold gSh
      by_cases hlt : k < j
      · rw [if_pos hlt] at hk
        rw [if_neg (by omega), if_neg (by omega), if_neg (by omega)]
        exact h4 k y hk
      · rw [if_neg hlt, if_neg hkj] at hk
        have hkl : k - 1 < c.1.length := (List.getElem?_eq_some_iff.mp hk).1
        rw [if_pos (by omega), if_pos (by omega), if_pos (by omega)]
        exact h4 (k - 1) y hk
def f_X0_insert : gF := fun av M post => match av with
  | [.inr (.inl (0, p)), .inl v, .inl a, .inl b, .inl t] => ∃ c j, colR M p c ∧ c.1.length < 8 ∧ j ≤ c.1.length ∧ v = nI j ∧ ∀ M', colR M' p (c.1.insertIdx j (a, b, t), c.2) → gFr M M' p → post none M'
  | _ => False
theorem lk_X0_insert (l : Launch) : gLinks l RX0 1 [(gTn f_X6_isWithin, 0, 0, 99), (gTn f_X0_moveLayer, 0, 0, 0)] pX0_insert := And.intro gf_RX0_27 (And.intro gf_RX0_27 (And.intro ⟨gTn f_X6_isWithin, 99, yX6_isWithin, cX6_isWithin, 3, (some .boolean), 0, rfl, yi_yX6_isWithin, ok_X6_isWithin l, by decide, Or.inr ⟨RX6, by simp [gNm]⟩, sm_yX6_isWithin⟩ (And.intro gf_RX0_27 (And.intro ⟨gTn f_X0_moveLayer, 0, yX0_moveLayer, cX0_moveLayer, 3, none, 0, _, rfl, by decide, yi_yX0_moveLayer, ok_X0_moveLayer l, by decide, by decide, rfl, rfl, ml_RX0_52, im_yX0_moveLayer, se_yX0_moveLayer⟩ (And.intro gf_RX0_9 (And.intro gf_RX0_15 (And.intro gf_RX0_18 (And.intro gf_RX0_27 (And.intro gf_RX0_27 (trivial))))))))))
theorem ok_X0_insert (l : Launch) : gOK l yX0_insert cX0_insert 6 none 1 0 0 (gTn f_X0_insert) := by
  refine gM_of (by decide +kernel) pX0_insert_ok (lk_X0_insert l) ?_
  intro SL SX K P av M run h
  unfold f_X0_insert at h
  split at h
  · rename_i p v a b t
    obtain ⟨c, j, hc, hn, hj, rfl, h⟩ := h
    refine ⟨⟨by simp [gC1], Nat.le_of_ble_eq_true rfl⟩, ?_⟩
    refine run [28] 1000 _ _ _ _ _ _ rfl ?_
    conv => whnf
    rw [hc.2.1]
    have h := h _ (gIn_R (x := (a, b, t)) hc hn hj) (gIn_fr _ _ _ _ _ _ _)
    refine ⟨fun h1 => ?_, fun h1 => ?_⟩
    · exact absurd h1 (nI_ge hn (by decide))
    · conv => whnf
      refine ⟨rfl, rfl, ?_⟩
      conv => whnf
      rw [hc.2.1]
      rw [if_pos ⟨nI_pos' (nI_lt8 (by omega)), nI_le hj (nI_lt8 (by omega))⟩]
      refine ⟨fun h2 => ?_, fun h2 => ?_⟩
      · conv => whnf
        rw [hc.2.1]
        have down : ∀ k, j + k ≤ c.1.length → K 28 [some (.inr (.inl (0, p))), some (.inl (nI j)), some (.inl a), some (.inl b), some (.inl t), some (.inl (nI (j + k)))] [] (gSh M p (j + k) c.1.length) gB0 := by
          intro k
          induction k with
          | zero =>
            intro hk
            refine run [28] 1000 _ _ _ _ _ _ rfl ?_
            conv => whnf
            refine ⟨fun h3 => ?_, fun h3 => ?_⟩
            · conv => whnf
              refine ⟨vp_in_nI (by omega) (by decide), ?_⟩
              conv => whnf
              refine ⟨vp_in_nI (by omega) (by decide), ?_⟩
              conv => whnf
              refine ⟨vp_in_nI (by omega) (by decide), ?_⟩
              conv => whnf
              rw [nI_clamp (nI_lt8 (by omega)), gUp_row (q' := p) (by omega), gUp_row (q' := p) (by omega), gUp_row (q' := p) (by omega), gSh_row (q := p) (by omega), hc.2.1, nI_1]
              exact ⟨rfl, h⟩
            · exact absurd (nI_le (Nat.le_refl _) (nI_lt8 (by omega))) h3
          | succ k ih =>
            intro hk
            refine run [28] 1000 _ _ _ _ _ _ rfl ?_
            conv => whnf
            refine ⟨fun h3 => ?_, fun h3 => ?_⟩
            · exact absurd h3 (nI_ge (by omega) (nI_lt8 (by omega)))
            · conv => whnf
              refine ⟨rfl, rfl, j + k, j + (k + 1), by omega, by omega, nI_pred _, rfl, ?_⟩
              conv => whnf
              have ih := ih (by omega)
              rw [← gSh_step M p (j + k) c.1.length (by omega), ← pk_m1 (j + k)] at ih
              exact ih
        have e := down (c.1.length - j) (by omega)
        rw [show j + (c.1.length - j) = c.1.length by omega, gSh_0] at e
        exact e
      · exact absurd h2 (by decide)
  · exact h.elim
def gSd (M : gM) (p j m : Nat) : gM := fun q k => if (p + 1 ≤ q ∧ q ≤ p + 3) ∧ j ≤ k ∧ k + 1 < m then M q (k + 1) else M q k
theorem gSd_step (M : gM) (p j m : Nat) (h : j < m) : gMv (gSd M p j m) p m (m - 1) = gSd M p j (m + 1) := by
  funext q k
  unfold gMv gSd
  by_cases hq : p + 1 ≤ q ∧ q ≤ p + 3
  · by_cases hk : k = m - 1
    · subst hk
      rw [if_pos ⟨hq, rfl⟩, if_neg (by omega), if_pos (by omega)]
      rw [show m - 1 + 1 = m by omega]
    · rw [if_neg (by omega)]
      by_cases hk2 : j ≤ k ∧ k + 1 < m
      · rw [if_pos ⟨hq, hk2⟩, if_pos (by omega)]
      · rw [if_neg (by omega), if_neg (by omega)]
  · rw [if_neg (by omega), if_neg (by omega), if_neg (by omega)]
theorem gSd_0 (M : gM) (p j : Nat) : gSd M p j (j + 1) = M := by
  funext q k
  unfold gSd
  rw [if_neg (by omega)]
theorem gSd_row {M : gM} {p j m q : Nat} (h : q < p + 1 ∨ p + 3 < q) : gSd M p j m q = M q := by
  funext k
  unfold gSd
  rw [if_neg (by omega)]
theorem gSd_fr (M : gM) (p j m : Nat) (x : Int32) : gFr M (gUp (gSd M p j m) p 3 x) p := fun q hq => by
  rw [gUp_row (by omega), gSd_row (by omega)]
theorem gSd_R {M : gM} {p j : Nat} {c : Col} (h : colR M p c) (hj : j < c.1.length) : colR (gUp (gSd M p j c.1.length) p 3 (nI (c.1.length - 1))) p (c.1.eraseIdx j, c.2) := by
  obtain ⟨h1, h2, h3, h4⟩ := h
  have hlen : (c.1.eraseIdx j).length = c.1.length - 1 := List.length_eraseIdx_of_lt hj
  refine ⟨by rw [hlen]; omega, ?_, ?_, fun k y hk => ?_⟩
  · rw [hlen]
    exact gUp_same _ _ _ _
  · rw [gUp_ne (Or.inr (by decide)), gSd_row (by omega)]
    exact h3
  · rw [gUp_row (by omega), gUp_row (by omega), gUp_row (by omega)]
    rw [List.getElem?_eraseIdx] at hk
    unfold gSd
    by_cases hlt : k < j
    · rw [if_pos hlt] at hk
      rw [if_neg (by omega), if_neg (by omega), if_neg (by omega)]
      exact h4 k y hk
    · rw [if_neg hlt] at hk
      have hkl : k + 1 < c.1.length := (List.getElem?_eq_some_iff.mp hk).1
      rw [if_pos (by omega), if_pos (by omega), if_pos (by omega)]
      exact h4 (k + 1) y hk
def f_X0_delete : gF := fun av M post => match av with
  | [.inr (.inl (0, p)), .inl v] => ∃ c j, colR M p c ∧ j < c.1.length ∧ v = nI j ∧ ∀ M', colR M' p (c.1.eraseIdx j, c.2) → gFr M M' p → post none M'
  | _ => False
theorem lk_X0_delete (l : Launch) : gLinks l RX0 2 [(gTn f_X0_hasLayer, 0, 0, 0), (gTn f_X0_moveLayer, 0, 0, 0)] pX0_delete := And.intro ⟨gTn f_X0_hasLayer, 0, yX0_hasLayer, cX0_hasLayer, 2, (some .boolean), 1, _, rfl, by decide, yi_yX0_hasLayer, ok_X0_hasLayer l, by decide, by decide, rfl, rfl, ml_RX0_56, im_yX0_hasLayer, se_yX0_hasLayer⟩ (And.intro gf_RX0_27 (And.intro ⟨gTn f_X0_moveLayer, 0, yX0_moveLayer, cX0_moveLayer, 3, none, 0, _, rfl, by decide, yi_yX0_moveLayer, ok_X0_moveLayer l, by decide, by decide, rfl, rfl, ml_RX0_52, im_yX0_moveLayer, se_yX0_moveLayer⟩ (And.intro gf_RX0_27 (And.intro gf_RX0_27 (trivial)))))
theorem ok_X0_delete (l : Launch) : gOK l yX0_delete cX0_delete 3 none 2 0 0 (gTn f_X0_delete) := by
  refine gM_of (by decide +kernel) pX0_delete_ok (lk_X0_delete l) ?_
  intro SL SX K P av M run h
  unfold f_X0_delete at h
  split at h
  · rename_i p v
    obtain ⟨c, j, hc, hj, rfl, h⟩ := h
    refine ⟨⟨by simp [gC1], Nat.le_of_ble_eq_true rfl⟩, ?_⟩
    have hk8 := hc.1
    have h := h _ (gSd_R hc hj) (gSd_fr _ _ _ _ _)
    refine run [13] 1000 _ _ _ _ _ _ rfl ?_
    conv => whnf
    refine ⟨rfl, rfl, c, hc, ?_⟩
    rw [if_pos (by rw [nI_toInt (nI_lt8 (by omega))]; omega)]
    conv => whnf
    refine ⟨fun h2 => ?_, fun h2 => ?_⟩
    · conv => whnf
      rw [nI_1]
      refine (fun e => by rw [gSd_0] at e; exact e) (upto (n := c.1.length) (A := fun m => j < m → K 13 [some (.inr (.inl (0, p))), some (.inl (nI j)), some (.inl (nI m))] [] (gSd M p j m) gB0) ?_ (fun m hm ih => ?_) (j + 1) hj (by omega))
      · intro hjm
        refine run [13] 1000 _ _ _ _ _ _ rfl ?_
        conv => whnf
        rw [gSd_row (q := p) (by omega), hc.2.1]
        refine ⟨fun h3 => ?_, fun h3 => ?_⟩
        · conv => whnf
          rw [gSd_row (q := p) (by omega), hc.2.1, show c.1.length = c.1.length - 1 + 1 by omega, nI_pred, ← show c.1.length = c.1.length - 1 + 1 by omega]
          exact ⟨rfl, h⟩
        · exact absurd (nI_le (Nat.le_refl _) (nI_lt8 (by omega))) h3
      · intro hjm
        refine run [13] 1000 _ _ _ _ _ _ rfl ?_
        conv => whnf
        rw [gSd_row (q := p) (by omega), hc.2.1]
        refine ⟨fun h3 => ?_, fun h3 => ?_⟩
        · exact absurd h3 (nI_ge hm (nI_lt8 (by omega)))
        · conv => whnf
          refine ⟨rfl, rfl, m, m - 1, by omega, by omega, rfl, ?_, ?_⟩
          · rw [← nI_pred (m - 1), show m - 1 + 1 = m by omega]
          · conv => whnf
            have ih := ih (by omega)
            rw [← gSd_step M p j m hjm, ← nI_1] at ih
            exact ih
    · exact absurd h2 (by decide)
  · exact h.elim
