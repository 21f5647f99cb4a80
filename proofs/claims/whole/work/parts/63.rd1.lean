/-! the model: the reader's small methods -/
theorem skp_skp {t : Nat → Int32} {n p : Nat} : skp t n (skp t n p) = skp t n p := by
  unfold skp
  generalize hf : n - p = f
  induction f generalizing p with
  | zero =>
    show skF t n (n - skF t n 0 p) (skF t n 0 p) = skF t n 0 p
    rw [show skF t n 0 p = p from rfl, hf]
    rfl
  | succ f ih =>
    by_cases h : p < n ∧ t p = 32
    · have e : skF t n (f + 1) p = skF t n f (p + 1) := if_pos h
      rw [e]
      exact ih (by omega)
    · have e : skF t n (f + 1) p = p := if_neg h
      rw [e, hf]
      exact e
def mg (t : Nat → Int32) (n p : Nat) : Int32 := if p < n then t p else -1
theorem mg_iff {t : Nat → Int32} {n p : Nat} {s : Int32} (h0 : ¬ (0 : Int32) = s) (h1 : ¬ (-1 : Int32) = s) : mg t n p = s ↔ sg t n p = s := by
  unfold mg sg
  by_cases h : p < n
  · rw [if_pos h, if_pos h]
  · rw [if_neg h, if_neg h]
    exact ⟨fun q => absurd q h1, fun q => absurd q h0⟩
def mxR (M : gM) (t : Nat → Int32) (n p : Nat) : Prop := n ≤ 140 ∧ p ≤ n ∧ (∀ k, k < n → M 930 k = t k) ∧ M 926 6 = nI n ∧ M 926 10 = nI p
theorem mxR.pos {M : gM} {t : Nat → Int32} {n p q : Nat} (h : mxR M t n p) (hq : q ≤ n) : mxR (gUp M 926 10 (nI q)) t n q := by
  obtain ⟨h1, h2, h3, h4, h5⟩ := h
  refine ⟨h1, hq, fun k hk => ?_, ?_, gUp_same _ _ _ _⟩
  · rw [gUp_row (by decide)]; exact h3 k hk
  · rw [gUp_ne (Or.inr (by decide))]; exact h4
theorem mxR.num {M : gM} {t : Nat → Int32} {n p : Nat} (h : mxR M t n p) (x : Int32) : mxR (gUp M 926 11 x) t n p := by
  obtain ⟨h1, h2, h3, h4, h5⟩ := h
  refine ⟨h1, h2, fun k hk => ?_, ?_, ?_⟩
  · rw [gUp_row (by decide)]; exact h3 k hk
  · rw [gUp_ne (Or.inr (by decide))]; exact h4
  · rw [gUp_ne (Or.inr (by decide))]; exact h5
theorem mxR.kept {M M' : gM} {t : Nat → Int32} {n p : Nat} (h : mxR M t n p) (h1 : M' 926 = M 926) (h2 : M' 930 = M 930) : mxR M' t n p := by
  obtain ⟨a1, a2, a3, a4, a5⟩ := h
  exact ⟨a1, a2, fun k hk => by rw [h2]; exact a3 k hk, by rw [h1]; exact a4, by rw [h1]; exact a5⟩
def f_X7_here : gF := fun av M post => match av with
  | [.inr (.inl (7, w))] => w = 926 ∧ ∃ t n p, mxR M t n p ∧ post (some (.inl (mg t n (skp t n p)))) (gUp M 926 10 (nI (skp t n p)))
  | _ => False
theorem lk_X7_here (l : Launch) : gLinks l RX7 0 [] pX7_here := And.intro gf_RX7_148 (And.intro gf_RX7_145 (And.intro gf_RX7_19 (And.intro gf_RX7_148 (And.intro gf_RX7_148 (And.intro gf_RX7_148 (And.intro gf_RX7_148 (And.intro gf_RX7_145 (And.intro gf_RX7_19 (And.intro gf_RX7_148 (trivial))))))))))
theorem ok_X7_here (l : Launch) : gOK l yX7_here cX7_here 1 (some .int) 0 0 0 (gTn f_X7_here) := by
  refine gM_of (by decide +kernel) pX7_here_ok (lk_X7_here l) ?_
  intro SL SX K P av M run h
  unfold f_X7_here at h
  split at h
  · obtain ⟨rfl, t, n, p, hx, h⟩ := h
    refine ⟨⟨by simp [gC1], Nat.le_of_ble_eq_true rfl⟩, ?_⟩
    have hn := hx.1
    have fin : ∀ M1 q, mxR M1 t n q → gUp M1 926 10 (nI q) = gUp M 926 10 (nI q) → P (some (.inl (mg t n q))) (gUp M 926 10 (nI q)) → K 38 [some (.inr (.inl (7, 926)))] [] M1 gB0 := by
      intro M1 q h1 h2 h
      have e : (nI q).toNatClampNeg = q := nI_clamp (by have := h1.2.1; omega)
      rw [gUp_id h1.2.2.2.2] at h2
      subst h2
      refine run [] 1000 _ _ _ _ _ _ rfl ?_
      conv => whnf
      rw [h1.2.2.2.1, h1.2.2.2.2]
      refine ⟨fun h3 => ?_, fun h3 => ?_⟩
      · conv => whnf
        rw [mg, if_neg (fun q => nI_ge q (by omega) h3)] at h
        exact ⟨rfl, h⟩
      · have hlt : q < n := by
          rcases Nat.lt_or_ge q n with a | a
          · exact a
          · exact absurd (nI_le a (by have := h1.2.1; omega)) h3
        rw [mg, if_pos hlt] at h
        conv => whnf
        rw [h1.2.2.2.2]
        refine ⟨vp_in_nI (by omega) (by decide), ?_⟩
        conv => whnf
        rw [e, h1.2.2.1 q hlt]
        exact ⟨rfl, h⟩
    have loop : ∀ f q M1, n - q = f → mxR M1 t n q → skp t n q = skp t n p → gUp M1 926 10 (nI q) = gUp M 926 10 (nI q) → K 0 [some (.inr (.inl (7, 926)))] [] M1 gB0 := by
      intro f
      induction f with
      | zero =>
        intro q M1 hf h1 h2 h3
        have hq : ¬ q < n := by omega
        refine run [0, 38] 1000 _ _ _ _ _ _ rfl ?_
        conv => whnf
        rw [h1.2.2.2.1, h1.2.2.2.2]
        refine ⟨fun h4 => ?_, fun h4 => ?_⟩
        · conv => whnf
          rw [skp_stop (fun a => hq a.1)] at h2
          subst h2
          exact fin M1 _ h1 h3 h
        · exact absurd (nI_le (by omega) (by have := h1.2.1; omega)) h4
      | succ f ih =>
        intro q M1 hf h1 h2 h3
        have hq : q < n := by omega
        have e : (nI q).toNatClampNeg = q := nI_clamp (by omega)
        refine run [0, 38] 1000 _ _ _ _ _ _ rfl ?_
        conv => whnf
        rw [h1.2.2.2.1, h1.2.2.2.2]
        refine ⟨fun h4 => ?_, fun h4 => ?_⟩
        · exact absurd h4 (nI_ge hq (by omega))
        · conv => whnf
          rw [h1.2.2.2.2]
          refine ⟨vp_in_nI (by omega) (by decide), ?_⟩
          conv => whnf
          rw [e, h1.2.2.1 q hq]
          refine ⟨fun h5 => ?_, fun h5 => ?_⟩
          · conv => whnf
            rw [skp_stop (fun a => h5 a.2)] at h2
            subst h2
            exact fin M1 _ h1 h3 h
          · conv => whnf
            rw [h1.2.2.2.2, nI_1]
            refine ih (q + 1) _ (by omega) (h1.pos (by omega)) ?_ ?_
            · rw [← skp_step hq h5]
              exact h2
            · rw [gUp_up]
              have := congrArg (fun m => gUp m 926 10 (nI (q + 1))) h3
              rw [gUp_up, gUp_up] at this
              exact this
    exact loop _ p M rfl hx rfl rfl
  · exact h.elim
def f_X7_takes : gF := fun av M post => match av with
  | [.inr (.inl (7, w)), .inl s] => w = 926 ∧ ∃ t n p, mxR M t n p ∧ (mg t n (skp t n p) = s → post (some (.inl 1)) (gUp M 926 10 (nI (skp t n p + 1)))) ∧ (¬ mg t n (skp t n p) = s → post (some (.inl 0)) (gUp M 926 10 (nI (skp t n p))))
  | _ => False
theorem lk_X7_takes (l : Launch) : gLinks l RX7 1 [(gTn f_X7_here, 0, 0, 7)] pX7_takes := And.intro ⟨gTn f_X7_here, 7, yX7_here, cX7_here, 1, (some .int), 0, _, rfl, by decide, yi_yX7_here, ok_X7_here l, by decide, by decide, rfl, rfl, ml_RX7_151, im_yX7_here, se_yX7_here⟩ (And.intro gf_RX7_148 (And.intro gf_RX7_148 (trivial)))
theorem ok_X7_takes (l : Launch) : gOK l yX7_takes cX7_takes 3 (some .boolean) 1 0 0 (gTn f_X7_takes) := by
  refine gM_of (by decide +kernel) pX7_takes_ok (lk_X7_takes l) ?_
  intro SL SX K P av M run h
  unfold f_X7_takes at h
  split at h
  · rename_i w s
    obtain ⟨rfl, t, n, p, hx, hy, hn⟩ := h
    refine ⟨⟨by simp [gC1], Nat.le_of_ble_eq_true rfl⟩, ?_⟩
    have hs := skp_le (t := t) hx.2.1
    have h1 := hx.pos hs.2
    refine run [] 1000 _ _ _ _ _ _ rfl ?_
    conv => whnf
    refine ⟨rfl, rfl, rfl, t, n, p, hx, ?_⟩
    conv => whnf
    refine ⟨fun h2 => ?_, fun h2 => ?_⟩
    · conv => whnf
      rw [h1.2.2.2.2]
      refine ⟨fun h3 => ?_, fun h3 => ?_⟩
      · conv => whnf
        rw [gUp_up, at_0]
        exact ⟨rfl, Or.inl rfl, hn h2⟩
      · exact absurd rfl h3
    · conv => whnf
      rw [h1.2.2.2.2]
      refine ⟨fun h3 => ?_, fun h3 => ?_⟩
      · exact absurd h3 (by decide)
      · conv => whnf
        rw [gUp_up, nI_1]
        exact ⟨rfl, Or.inr rfl, hy h2⟩
  · exact h.elim
