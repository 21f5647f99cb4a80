/-! Text: the words of the reader, and its small methods -/
def skF (t : Nat → Int32) (n : Nat) : Nat → Nat → Nat
  | 0, p => p
  | f + 1, p => if p < n ∧ t p = 32 then skF t n f (p + 1) else p
/-- spaces passed -/
def skp (t : Nat → Int32) (n p : Nat) : Nat := skF t n (n - p) p
def sg (t : Nat → Int32) (n p : Nat) : Int32 := if p < n then t p else 0
theorem skp_step {t : Nat → Int32} {n p : Nat} (h : p < n) (h2 : t p = 32) : skp t n p = skp t n (p + 1) := by
  unfold skp
  rw [show n - p = (n - (p + 1)) + 1 by omega]
  show (if _ then _ else _) = _
  rw [if_pos ⟨h, h2⟩]
theorem skp_stop {t : Nat → Int32} {n p : Nat} (h : ¬ (p < n ∧ t p = 32)) : skp t n p = p := by
  unfold skp
  cases hq : n - p with
  | zero => rfl
  | succ f =>
    show (if _ then _ else _) = _
    rw [if_neg h]
theorem skF_le {t : Nat → Int32} {n : Nat} : ∀ (f p : Nat), p ≤ n → p ≤ skF t n f p ∧ skF t n f p ≤ n
  | 0, p, h => ⟨Nat.le_refl p, h⟩
  | f + 1, p, h => by
    unfold skF
    split
    · rename_i h1
      have := skF_le (t := t) (n := n) f (p + 1) (by omega)
      omega
    · exact ⟨Nat.le_refl p, h⟩
theorem skp_le {t : Nat → Int32} {n p : Nat} (h : p ≤ n) : p ≤ skp t n p ∧ skp t n p ≤ n := skF_le _ _ h
/-- the text: its signs t, n of them, read up to p; er the place of the error, or -1 -/
def txR (M : gM) (w : Nat) (t : Nat → Int32) (n p : Nat) (er : Int32) : Prop := n ≤ 140 ∧ p ≤ n ∧ (∀ k, k < n → M (w + 1) k = t k) ∧ M w 1 = nI n ∧ M w 2 = nI p ∧ M w 3 = er
theorem gUp_id {M : gM} {q k : Nat} {x : Int32} (h : M q k = x) : gUp M q k x = M := by
  funext r j
  unfold gUp
  split
  · rename_i e
    rw [e.1, e.2, h]
  · rfl
theorem gUp_up (M : gM) (q k : Nat) (x y : Int32) : gUp (gUp M q k x) q k y = gUp M q k y := by
  funext r j
  unfold gUp
  by_cases h : r = q ∧ j = k
  · rw [if_pos h, if_pos h]
  · rw [if_neg h, if_neg h, if_neg h]
theorem txR.pos {M : gM} {w : Nat} {t : Nat → Int32} {n p q : Nat} {er : Int32} (h : txR M w t n p er) (hq : q ≤ n) : txR (gUp M w 2 (nI q)) w t n q er := by
  obtain ⟨h1, h2, h3, h4, h5, h6⟩ := h
  refine ⟨h1, hq, fun k hk => ?_, ?_, gUp_same _ _ _ _, ?_⟩
  · rw [gUp_row (by omega)]; exact h3 k hk
  · rw [gUp_ne (Or.inr (by decide))]; exact h4
  · rw [gUp_ne (Or.inr (by decide))]; exact h6
theorem txR.err {M : gM} {w : Nat} {t : Nat → Int32} {n p : Nat} {er : Int32} (h : txR M w t n p er) (x : Int32) : txR (gUp M w 3 x) w t n p x := by
  obtain ⟨h1, h2, h3, h4, h5, h6⟩ := h
  refine ⟨h1, h2, fun k hk => ?_, ?_, ?_, gUp_same _ _ _ _⟩
  · rw [gUp_row (by omega)]; exact h3 k hk
  · rw [gUp_ne (Or.inr (by decide))]; exact h4
  · rw [gUp_ne (Or.inr (by decide))]; exact h5
theorem txR.fn {M M' : gM} {w q k : Nat} {t : Nat → Int32} {n p : Nat} {er : Int32} (h : txR M w t n p er) (hf : gFn M M' q k) (hd : w + 2 ≤ q ∨ q + k ≤ w) : txR M' w t n p er := by
  obtain ⟨h1, h2, h3, h4, h5, h6⟩ := h
  refine ⟨h1, h2, fun k hk => ?_, ?_, ?_, ?_⟩
  · rw [hf _ (by omega)]; exact h3 k hk
  · rw [hf _ (by omega)]; exact h4
  · rw [hf _ (by omega)]; exact h5
  · rw [hf _ (by omega)]; exact h6
def f_X5_isWrong : gF := fun av M post => match av with
  | [.inr (.inl (5, w))] => post (some (.inl (if M w 3 = -1 then 0 else 1))) M
  | _ => False
theorem lk_X5_isWrong (l : Launch) : gLinks l RX5 0 [] pX5_isWrong := And.intro gf_RX5_15 (trivial)
theorem ok_X5_isWrong (l : Launch) : gOK l yX5_isWrong cX5_isWrong 1 (some .boolean) 0 0 0 (gTn f_X5_isWrong) := by
  refine gM_of (by decide +kernel) pX5_isWrong_ok (lk_X5_isWrong l) ?_
  intro SL SX K P av M run h
  unfold f_X5_isWrong at h
  split at h
  · refine ⟨⟨by simp [gC1], Nat.le_of_ble_eq_true rfl⟩, ?_⟩
    refine run [] 1000 _ _ _ _ _ _ rfl ?_
    conv => whnf
    refine ⟨fun h1 => ?_, fun h1 => ?_⟩
    · conv => whnf
      rw [if_pos h1] at h
      exact ⟨rfl, Or.inl rfl, h⟩
    · conv => whnf
      rw [if_neg h1] at h
      exact ⟨rfl, Or.inr rfl, h⟩
  · exact h.elim
def f_X5_fail : gF := fun av M post => match av with
  | [.inr (.inl (5, w)), .inl v] => post none (if M w 3 = -1 then gUp M w 3 v else M)
  | _ => False
theorem lk_X5_fail (l : Launch) : gLinks l RX5 0 [] pX5_fail := And.intro gf_RX5_15 (And.intro gf_RX5_15 (trivial))
theorem ok_X5_fail (l : Launch) : gOK l yX5_fail cX5_fail 2 none 0 0 0 (gTn f_X5_fail) := by
  refine gM_of (by decide +kernel) pX5_fail_ok (lk_X5_fail l) ?_
  intro SL SX K P av M run h
  unfold f_X5_fail at h
  split at h
  · refine ⟨⟨by simp [gC1], Nat.le_of_ble_eq_true rfl⟩, ?_⟩
    refine run [] 1000 _ _ _ _ _ _ rfl ?_
    conv => whnf
    refine ⟨fun h1 => ?_, fun h1 => ?_⟩
    · conv => whnf
      rw [if_neg h1] at h
      exact ⟨rfl, h⟩
    · conv => whnf
      rw [if_pos h1] at h
      exact ⟨rfl, h⟩
  · exact h.elim
def f_X5_nextSign : gF := fun av M post => match av with
  | [.inr (.inl (5, w))] => ∃ t n p er, txR M w t n p er ∧ post (some (.inl (sg t n (skp t n p)))) (gUp M w 2 (nI (skp t n p)))
  | _ => False
theorem lk_X5_nextSign (l : Launch) : gLinks l RX5 0 [] pX5_nextSign := And.intro gf_RX5_19 (And.intro gf_RX5_99 (And.intro gf_RX5_9 (And.intro gf_RX5_19 (And.intro gf_RX5_19 (And.intro gf_RX5_19 (And.intro gf_RX5_19 (And.intro gf_RX5_99 (And.intro gf_RX5_9 (And.intro gf_RX5_19 (trivial))))))))))
theorem ok_X5_nextSign (l : Launch) : gOK l yX5_nextSign cX5_nextSign 1 (some .int) 0 0 0 (gTn f_X5_nextSign) := by
  refine gM_of (by decide +kernel) pX5_nextSign_ok (lk_X5_nextSign l) ?_
  intro SL SX K P av M run h
  unfold f_X5_nextSign at h
  split at h
  · rename_i w
    obtain ⟨t, n, p, er, hx, h⟩ := h
    refine ⟨⟨by simp [gC1], Nat.le_of_ble_eq_true rfl⟩, ?_⟩
    have hn := hx.1
    have fin : ∀ M1 q, txR M1 w t n q er → gUp M1 w 2 (nI q) = gUp M w 2 (nI q) → P (some (.inl (sg t n q))) (gUp M w 2 (nI q)) → K 38 [some (.inr (.inl (5, w)))] [] M1 gB0 := by
      intro M1 q h1 h2 h
      have e : (nI q).toNatClampNeg = q := nI_clamp (by have := h1.2.1; omega)
      rw [gUp_id h1.2.2.2.2.1] at h2
      subst h2
      refine run [] 1000 _ _ _ _ _ _ rfl ?_
      conv => whnf
      rw [h1.2.2.2.1, h1.2.2.2.2.1]
      refine ⟨fun h3 => ?_, fun h3 => ?_⟩
      · conv => whnf
        rw [sg, if_neg (fun q => nI_ge q (by omega) h3)] at h
        exact ⟨rfl, h⟩
      · have hlt : q < n := by
          rcases Nat.lt_or_ge q n with a | a
          · exact a
          · exact absurd (nI_le a (by have := h1.2.1; omega)) h3
        rw [sg, if_pos hlt] at h
        conv => whnf
        rw [h1.2.2.2.2.1]
        refine ⟨vp_in_nI (by omega) (by decide), ?_⟩
        conv => whnf
        rw [e, h1.2.2.1 q hlt]
        exact ⟨rfl, h⟩
    have loop : ∀ f q M1, n - q = f → txR M1 w t n q er → skp t n q = skp t n p → gUp M1 w 2 (nI q) = gUp M w 2 (nI q) → K 0 [some (.inr (.inl (5, w)))] [] M1 gB0 := by
      intro f
      induction f with
      | zero =>
        intro q M1 hf h1 h2 h3
        have hq : ¬ q < n := by omega
        refine run [0, 38] 1000 _ _ _ _ _ _ rfl ?_
        conv => whnf
        rw [h1.2.2.2.1, h1.2.2.2.2.1]
        refine ⟨fun h4 => ?_, fun h4 => ?_⟩
        · conv => whnf
          rw [skp_stop (fun a => hq a.1)] at h2
          subst h2
          exact fin M1 _ h1 h3 h
        · exact absurd (nI_le (by omega) (by have := h1.2.1; omega)) h4
      | succ f ih =>
        intro q M1 hf h1 h2 h3
        have hq : q < n := by omega
        have e : (nI q).toNatClampNeg = q := nI_clamp (by omega)
        refine run [0, 38] 1000 _ _ _ _ _ _ rfl ?_
        conv => whnf
        rw [h1.2.2.2.1, h1.2.2.2.2.1]
        refine ⟨fun h4 => ?_, fun h4 => ?_⟩
        · exact absurd h4 (nI_ge hq (by omega))
        · conv => whnf
          rw [h1.2.2.2.2.1]
          refine ⟨vp_in_nI (by omega) (by decide), ?_⟩
          conv => whnf
          rw [e, h1.2.2.1 q hq]
          refine ⟨fun h5 => ?_, fun h5 => ?_⟩
          · conv => whnf
            rw [skp_stop (fun a => h5 a.2)] at h2
            subst h2
            exact fin M1 _ h1 h3 h
          · conv => whnf
            rw [h1.2.2.2.2.1, nI_1]
            refine ih (q + 1) _ (by omega) (h1.pos (by omega)) ?_ ?_
            · rw [← skp_step hq h5]
              exact h2
            · rw [gUp_up]
              have := congrArg (fun m => gUp m w 2 (nI (q + 1))) h3
              rw [gUp_up, gUp_up] at this
              exact this
    exact loop _ p M rfl hx rfl rfl
  · exact h.elim
def f_X5_expect : gF := fun av M post => match av with
  | [.inr (.inl (5, w)), .inl s] => ∃ t n p er, txR M w t n p er ∧ (¬ er = -1 → post none M) ∧ (er = -1 → if sg t n (skp t n p) = s then post none (gUp M w 2 (nI (skp t n p + 1))) else post none (gUp (gUp M w 2 (nI (skp t n p))) w 3 (nI (skp t n p))))
  | _ => False
theorem lk_X5_expect (l : Launch) : gLinks l RX5 1 [(gTn f_X5_isWrong, 0, 0, 5), (gTn f_X5_nextSign, 0, 0, 5), (gTn f_X5_fail, 0, 0, 5)] pX5_expect := And.intro ⟨gTn f_X5_isWrong, 5, yX5_isWrong, cX5_isWrong, 1, (some .boolean), 0, _, rfl, by decide, yi_yX5_isWrong, ok_X5_isWrong l, by decide, by decide, rfl, rfl, ml_RX5_22, im_yX5_isWrong, se_yX5_isWrong⟩ (And.intro ⟨gTn f_X5_nextSign, 5, yX5_nextSign, cX5_nextSign, 1, (some .int), 0, _, rfl, by decide, yi_yX5_nextSign, ok_X5_nextSign l, by decide, by decide, rfl, rfl, ml_RX5_26, im_yX5_nextSign, se_yX5_nextSign⟩ (And.intro gf_RX5_19 (And.intro gf_RX5_19 (And.intro gf_RX5_19 (And.intro ⟨gTn f_X5_fail, 5, yX5_fail, cX5_fail, 2, none, 0, _, rfl, by decide, yi_yX5_fail, ok_X5_fail l, by decide, by decide, rfl, rfl, ml_RX5_38, im_yX5_fail, se_yX5_fail⟩ (trivial))))))
theorem ok_X5_expect (l : Launch) : gOK l yX5_expect cX5_expect 2 none 1 0 0 (gTn f_X5_expect) := by
  refine gM_of (by decide +kernel) pX5_expect_ok (lk_X5_expect l) ?_
  intro SL SX K P av M run h
  unfold f_X5_expect at h
  split at h
  · rename_i w s
    obtain ⟨t, n, p, er, hx, h0, h⟩ := h
    refine ⟨⟨by simp [gC1], Nat.le_of_ble_eq_true rfl⟩, ?_⟩
    have hs := skp_le (t := t) hx.2.1
    have h1 := hx.pos hs.2
    refine run [] 1000 _ _ _ _ _ _ rfl ?_
    conv => whnf
    refine ⟨rfl, rfl, ?_⟩
    conv => whnf
    rw [hx.2.2.2.2.2]
    by_cases her : er = -1
    · have h := h her
      rw [if_pos her]
      refine ⟨fun h2 => ?_, fun h2 => ?_⟩
      · conv => whnf
        refine ⟨rfl, rfl, t, n, p, er, hx, ?_⟩
        conv => whnf
        refine ⟨fun h3 => ?_, fun h3 => ?_⟩
        · rw [if_neg h3] at h
          conv => whnf
          refine ⟨rfl, rfl, ?_⟩
          conv => whnf
          rw [h1.2.2.2.2.2, if_pos her, h1.2.2.2.2.1]
          exact ⟨rfl, h⟩
        · rw [if_pos h3] at h
          conv => whnf
          rw [h1.2.2.2.2.1, gUp_up, nI_1]
          exact ⟨rfl, h⟩
      · exact absurd rfl h2
    · rw [if_neg her]
      refine ⟨fun h2 => ?_, fun h2 => ?_⟩
      · exact absurd h2 (by decide)
      · conv => whnf
        exact ⟨rfl, h0 her⟩
  · exact h.elim
def pDF (t : Nat → Int32) (n : Nat) : Nat → Nat → Int32 → Nat × Int32
  | 0, p, v => (p, v)
  | f + 1, p, v => if p < n ∧ 48 ≤ t p ∧ t p ≤ 57 then pDF t n f (p + 1) (if 10000 < v * 10 + t p - 48 then 10000 else v * 10 + t p - 48) else (p, v)
/-- digits: where they end, and their number as far as it counts -/
def pDig (t : Nat → Int32) (n p : Nat) (v : Int32) : Nat × Int32 := pDF t n (n - p) p v
theorem pDig_step {t : Nat → Int32} {n p : Nat} {v : Int32} (h : p < n) (h2 : 48 ≤ t p ∧ t p ≤ 57) : pDig t n p v = pDig t n (p + 1) (if 10000 < v * 10 + t p - 48 then 10000 else v * 10 + t p - 48) := by
  unfold pDig
  rw [show n - p = (n - (p + 1)) + 1 by omega]
  show (if _ then _ else _) = _
  rw [if_pos ⟨h, h2⟩]
theorem pDig_stop {t : Nat → Int32} {n p : Nat} {v : Int32} (h : ¬ (p < n ∧ 48 ≤ t p ∧ t p ≤ 57)) : pDig t n p v = (p, v) := by
  unfold pDig
  cases hq : n - p with
  | zero => rfl
  | succ f =>
    show (if _ then _ else _) = _
    rw [if_neg h]
theorem pDF_le {t : Nat → Int32} {n : Nat} : ∀ (f p : Nat) (v : Int32), p ≤ n → p ≤ (pDF t n f p v).1 ∧ (pDF t n f p v).1 ≤ n
  | 0, p, _, h => ⟨Nat.le_refl p, h⟩
  | f + 1, p, v, h => by
    unfold pDF
    split
    · rename_i h1
      have := pDF_le (t := t) (n := n) f (p + 1) (if 10000 < v * 10 + t p - 48 then 10000 else v * 10 + t p - 48) (by omega)
      omega
    · exact ⟨Nat.le_refl p, h⟩
theorem pDig_le {t : Nat → Int32} {n p : Nat} {v : Int32} (h : p ≤ n) : p ≤ (pDig t n p v).1 ∧ (pDig t n p v).1 ≤ n := pDF_le _ _ _ h
/-- a number in a range, from p on: the place of the error, or where it ends and what it is -/
def pNum (t : Nat → Int32) (n : Nat) (lo hi : Int32) (p : Nat) : Nat ⊕ (Nat × Int32) :=
  if sg t n (skp t n p) = 48 ∨ ¬ (lo ≤ (pDig t n (skp t n p) 0).2 ∧ (pDig t n (skp t n p) 0).2 ≤ hi) then .inl (skp t n p) else .inr (pDig t n (skp t n p) 0)
def f_X5_readNumber : gF := fun av M post => match av with
  | [.inr (.inl (5, w)), .inl lo, .inl hi] => ∃ t n p er, txR M w t n p er ∧ (¬ er = -1 → post (some (.inl lo)) M) ∧ (er = -1 → match pNum t n lo hi p with
    | .inl e => ∀ v q, q ≤ n → post (some (.inl v)) (gUp (gUp M w 2 (nI q)) w 3 (nI e))
    | .inr (q, v) => post (some (.inl v)) (gUp M w 2 (nI q)))
  | _ => False
theorem lk_X5_readNumber (l : Launch) : gLinks l RX5 1 [(gTn f_X5_isWrong, 0, 0, 5), (gTn f_X5_nextSign, 0, 0, 5), (gTn f_X6_isWithin, 0, 0, 99), (gTn f_X5_fail, 0, 0, 5)] pX5_readNumber := And.intro ⟨gTn f_X5_isWrong, 5, yX5_isWrong, cX5_isWrong, 1, (some .boolean), 0, _, rfl, by decide, yi_yX5_isWrong, ok_X5_isWrong l, by decide, by decide, rfl, rfl, ml_RX5_22, im_yX5_isWrong, se_yX5_isWrong⟩ (And.intro ⟨gTn f_X5_nextSign, 5, yX5_nextSign, cX5_nextSign, 1, (some .int), 0, _, rfl, by decide, yi_yX5_nextSign, ok_X5_nextSign l, by decide, by decide, rfl, rfl, ml_RX5_26, im_yX5_nextSign, se_yX5_nextSign⟩ (And.intro gf_RX5_19 (And.intro gf_RX5_19 (And.intro gf_RX5_99 (And.intro gf_RX5_9 (And.intro gf_RX5_19 (And.intro ⟨gTn f_X6_isWithin, 99, yX6_isWithin, cX6_isWithin, 3, (some .boolean), 0, rfl, yi_yX6_isWithin, ok_X6_isWithin l, by decide, Or.inr ⟨RX6, by simp [gNm]⟩, sm_yX6_isWithin⟩ (And.intro gf_RX5_9 (And.intro gf_RX5_19 (And.intro ⟨by decide, ml_RX5_106⟩ (And.intro gf_RX5_19 (And.intro gf_RX5_19 (And.intro ⟨gTn f_X6_isWithin, 99, yX6_isWithin, cX6_isWithin, 3, (some .boolean), 0, rfl, yi_yX6_isWithin, ok_X6_isWithin l, by decide, Or.inr ⟨RX6, by simp [gNm]⟩, sm_yX6_isWithin⟩ (And.intro ⟨gTn f_X5_fail, 5, yX5_fail, cX5_fail, 2, none, 0, _, rfl, by decide, yi_yX5_fail, ok_X5_fail l, by decide, by decide, rfl, rfl, ml_RX5_38, im_yX5_fail, se_yX5_fail⟩ (trivial)))))))))))))))
theorem ok_X5_readNumber (l : Launch) : gOK l yX5_readNumber cX5_readNumber 6 (some .int) 1 0 0 (gTn f_X5_readNumber) := by
  refine gM_of (by decide +kernel) pX5_readNumber_ok (lk_X5_readNumber l) ?_
  intro SL SX K P av M run h
  unfold f_X5_readNumber at h
  split at h
  · rename_i w lo hi
    obtain ⟨t, n, p, er, hx, h0, h⟩ := h
    refine ⟨⟨by simp [gC1], Nat.le_of_ble_eq_true rfl⟩, ?_⟩
    have hs := skp_le (t := t) hx.2.1
    have hn := hx.1
    refine run [33] 1000 _ _ _ _ _ _ rfl ?_
    conv => whnf
    refine ⟨rfl, rfl, ?_⟩
    conv => whnf
    rw [hx.2.2.2.2.2]
    by_cases her : er = -1
    · subst her
      have h := h rfl
      rw [if_pos rfl]
      -- behind the digits
      have fin : ∀ z : Int32, (z = if sg t n (skp t n p) = 48 then 1 else 0) → ∀ q v, q ≤ n → pDig t n (skp t n p) 0 = (q, v) → K 102 [some (.inr (.inl (5, w))), some (.inl lo), some (.inl hi), some (.inl z), some (.inl (nI (skp t n p))), some (.inl v)] [] (gUp M w 2 (nI q)) gB0 := by
        intro z hz q v hq hd
        have h1 := hx.pos hq
        unfold pNum at h
        rw [hd] at h
        have bad : (sg t n (skp t n p) = 48 ∨ ¬ (lo ≤ v ∧ v ≤ hi)) → K 116 [some (.inr (.inl (5, w))), some (.inl lo), some (.inl hi), some (.inl z), some (.inl (nI (skp t n p))), some (.inl v)] [] (gUp M w 2 (nI q)) gB0 := by
          intro hb
          rw [if_pos hb] at h
          refine run [] 1000 _ _ _ _ _ _ rfl ?_
          conv => whnf
          refine ⟨rfl, rfl, ?_⟩
          conv => whnf
          rw [h1.2.2.2.2.2, if_pos rfl]
          exact ⟨rfl, h v q hq⟩
        refine run [116] 1000 _ _ _ _ _ _ rfl ?_
        conv => whnf
        refine ⟨fun h2 => ?_, fun h2 => ?_⟩
        · conv => whnf
          refine bad (Or.inl ?_)
          by_cases a : sg t n (skp t n p) = 48
          · exact a
          · rw [if_neg a] at hz
            exact absurd hz h2
        · conv => whnf
          refine ⟨rfl, rfl, ?_⟩
          conv => whnf
          have hz0 : ¬ sg t n (skp t n p) = 48 := fun a => by
            rw [if_pos a] at hz
            rw [hz] at h2
            exact absurd h2 (by decide)
          by_cases hv : lo ≤ v ∧ v ≤ hi
          · rw [if_pos hv]
            rw [if_neg (fun a => a.elim hz0 (fun b => b hv))] at h
            refine ⟨fun h3 => ?_, fun h3 => ?_⟩
            · conv => whnf
              exact ⟨rfl, h⟩
            · exact absurd h3 (by decide)
          · rw [if_neg hv]
            refine ⟨fun h3 => ?_, fun h3 => ?_⟩
            · exact absurd rfl h3
            · conv => whnf
              exact bad (Or.inr hv)
      have loop : ∀ z : Int32, (z = if sg t n (skp t n p) = 48 then 1 else 0) → ∀ f q v, n - q = f → q ≤ n → pDig t n (skp t n p) 0 = pDig t n q v → K 33 [some (.inr (.inl (5, w))), some (.inl lo), some (.inl hi), some (.inl z), some (.inl (nI (skp t n p))), some (.inl v)] [] (gUp M w 2 (nI q)) gB0 := by
        intro z hz f
        induction f with
        | zero =>
          intro q v hf hq hd
          have h1 := hx.pos hq
          have hqn : ¬ q < n := by omega
          refine run [33, 102] 1000 _ _ _ _ _ _ rfl ?_
          conv => whnf
          rw [h1.2.2.2.1, h1.2.2.2.2.1]
          refine ⟨fun h4 => ?_, fun h4 => ?_⟩
          · conv => whnf
            exact fin z hz q v hq (hd.trans (pDig_stop (fun a => hqn a.1)))
          · exact absurd (nI_le (by omega) (by omega)) h4
        | succ f ih =>
          intro q v hf hq hd
          have h1 := hx.pos hq
          have hqn : q < n := by omega
          have e : (nI q).toNatClampNeg = q := nI_clamp (by omega)
          refine run [33, 102] 1000 _ _ _ _ _ _ rfl ?_
          conv => whnf
          rw [h1.2.2.2.1, h1.2.2.2.2.1]
          refine ⟨fun h4 => ?_, fun h4 => ?_⟩
          · exact absurd h4 (nI_ge hqn (by omega))
          · conv => whnf
            rw [h1.2.2.2.2.1]
            refine ⟨vp_in_nI (by omega) (by decide), ?_⟩
            conv => whnf
            rw [e, h1.2.2.1 q hqn]
            refine ⟨rfl, rfl, ?_⟩
            conv => whnf
            by_cases hdg : 48 ≤ t q ∧ t q ≤ 57
            · rw [if_pos hdg]
              refine ⟨fun h5 => ?_, fun h5 => ?_⟩
              · exact absurd h5 (by decide)
              · conv => whnf
                rw [h1.2.2.2.2.1]
                refine ⟨vp_in_nI (by omega) (by decide), ?_⟩
                conv => whnf
                rw [e, h1.2.2.1 q hqn, h1.2.2.2.2.1, gUp_up, nI_1]
                exact ih (q + 1) _ (by omega) (by omega) (hd.trans (pDig_step hqn hdg))
            · rw [if_neg hdg]
              refine ⟨fun h5 => ?_, fun h5 => ?_⟩
              · conv => whnf
                exact fin z hz q v hq (hd.trans (pDig_stop (fun a => hdg a.2)))
              · exact absurd rfl h5
      refine ⟨fun h2 => ?_, fun h2 => ?_⟩
      · conv => whnf
        refine ⟨rfl, rfl, t, n, p, -1, hx, ?_⟩
        conv => whnf
        have h1 := hx.pos hs.2
        refine ⟨fun h3 => ?_, fun h3 => ?_⟩
        · conv => whnf
          rw [h1.2.2.2.2.1]
          exact loop 0 (by rw [if_neg h3]) _ _ 0 rfl hs.2 rfl
        · conv => whnf
          rw [h1.2.2.2.2.1]
          exact loop 1 (by rw [if_pos h3]) _ _ 0 rfl hs.2 rfl
      · exact absurd rfl h2
    · rw [if_neg her]
      refine ⟨fun h2 => ?_, fun h2 => ?_⟩
      · exact absurd h2 (by decide)
      · conv => whnf
        exact ⟨rfl, h0 her⟩
  · exact h.elim
def kOf (s : Int32) : Int32 := if s = 105 then 0 else if s = 115 then 1 else if s = 114 then 2 else -100000009
def f_X5_kindOf : gF := fun av M post => match av with
  | [.inl s] => post (some (.inl (kOf s))) M
  | _ => False
theorem lk_X5_kindOf (l : Launch) : gLinks l RX5 0 [] pX5_kindOf := And.intro kc_RX5_111 (trivial)
theorem ok_X5_kindOf (l : Launch) : gOK l yX5_kindOf cX5_kindOf 1 (some .int) 0 0 0 (gTn f_X5_kindOf) := by
  refine gM_of (by decide +kernel) pX5_kindOf_ok (lk_X5_kindOf l) ?_
  intro SL SX K P av M run h
  unfold f_X5_kindOf at h
  split at h
  · rename_i s
    refine ⟨⟨by simp [gC1], Nat.le_of_ble_eq_true rfl⟩, ?_⟩
    unfold kOf at h
    refine run [] 1000 _ _ _ _ _ _ rfl ?_
    conv => whnf
    refine ⟨fun h1 => ?_, fun h1 => ?_⟩
    · conv => whnf
      have h1 : s = 105 := h1
      rw [if_pos h1] at h
      exact ⟨rfl, h⟩
    · conv => whnf
      have h1 : ¬ s = 105 := h1
      rw [if_neg h1] at h
      refine ⟨fun h2 => ?_, fun h2 => ?_⟩
      · conv => whnf
        have h2 : s = 114 := h2
        rw [if_neg (by rw [h2]; decide), if_pos h2] at h
        exact ⟨rfl, h⟩
      · conv => whnf
        have h2 : ¬ s = 114 := h2
        refine ⟨fun h3 => ?_, fun h3 => ?_⟩
        · conv => whnf
          have h3 : s = 115 := h3
          rw [if_pos h3] at h
          exact ⟨rfl, h⟩
        · conv => whnf
          have h3 : ¬ s = 115 := h3
          rw [if_neg h3, if_neg h2] at h
          exact ⟨rfl, h⟩
  · exact h.elim
