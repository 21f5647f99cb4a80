/-! the model: its world; act, hold, release, exchange -/
def msR (s : Nat → Int32) (S : St) : Prop := (∀ b, b < 10 → mcR s (26 * b) (S.1 b)) ∧ (∀ j, j < 2 → ∀ b, b < 10 → mcR s (273 + 261 * j + 1 + 26 * b) (S.2.1 j b)) ∧ (∀ j, j < 2 → s (273 + 261 * j) = S.2.2.1 j) ∧ (∀ k, k < 5 → s (260 + k) = S.2.2.2.1 k) ∧ (∀ k, k < 6 → s (266 + k) = S.2.2.2.2.1 k) ∧ s 272 = S.2.2.2.2.1 4 - S.2.2.2.2.1 5 ∧ s 265 = S.2.2.2.2.2
theorem msR.kept {s s' : Nat → Int32} {S : St} (h : msR s S) (hk : ∀ k, k < 795 → s' k = s k) : msR s' S := by
  obtain ⟨h1, h2, h3, h4, h5, h6, h7⟩ := h
  refine ⟨fun b hb => (h1 b hb).kept fun i hi => hk _ (by omega), fun j hj b hb => (h2 j hj b hb).kept fun i hi => hk _ (by omega), fun j hj => ?_, fun k hk2 => ?_, fun k hk2 => ?_, ?_, ?_⟩
  · rw [hk _ (by omega)]; exact h3 j hj
  · rw [hk _ (by omega)]; exact h4 k hk2
  · rw [hk _ (by omega)]; exact h5 k hk2
  · rw [hk _ (by omega)]; exact h6
  · rw [hk _ (by omega)]; exact h7
def mhR (M : gM) (hs : List St) : Prop := hs.length ≤ 5 ∧ M 926 4 = nI hs.length ∧ ∀ (i : Nat) (S : St), hs[i]? = some S → msR (fun k => M 929 (795 * i + k)) S
def mtR (M : gM) (t : Nat → Int32) (n : Nat) : Prop := n ≤ 140 ∧ M 926 6 = nI n ∧ ∀ k, k < n → M 930 k = t k
def moR (M : gM) (σ : Wd) : Prop := msR (M 927) σ.1 ∧ mhR M σ.2.1 ∧ mtR M σ.2.2.1 σ.2.2.2
/-- a row up to k as another -/
def gCy (M : gM) (q r k : Nat) : gM := gRw M q (fun z => if z < k then M r z else M q z)
theorem gCy_0 (M : gM) (q r : Nat) : gCy M q r 0 = M := by
  unfold gCy
  rw [show (fun z => if z < 0 then M r z else M q z) = M q from funext fun z => if_neg (Nat.not_lt_zero z)]
  exact gRw_id M q
theorem gCy_step (M : gM) {q r : Nat} (k : Nat) (h : q ≠ r) : gUp (gCy M q r k) q k (gCy M q r k r k) = gCy M q r (k + 1) := by
  unfold gCy
  rw [gUp_Rw]
  have e : gRw M q (fun z => if z < k then M r z else M q z) r k = M r k := congrFun (if_neg (Ne.symm h)) k
  rw [e]
  congr 1
  funext z
  by_cases h1 : z = k
  · subst h1
    rw [if_pos rfl, if_pos (by omega)]
  · rw [if_neg h1]
    by_cases h2 : z < k
    · rw [if_pos h2, if_pos (by omega)]
    · rw [if_neg h2, if_neg (by omega)]
theorem gCy_row {M : gM} {q r k p : Nat} (h : p ≠ q) : gCy M q r k p = M p := if_neg h
theorem gCy_in {M : gM} {q r k z : Nat} (h : z < k) : gCy M q r k q z = M r z := (congrFun (gRw_at M q _) z).trans (if_pos h)
def f_X7_hold : gF := fun av M post => match av with
  | [.inr (.inl (7, p))] => p = 926 ∧ post none (gCy M 928 927 795)
  | _ => False
theorem lk_X7_hold (l : Launch) : gLinks l RX7 0 [] pX7_hold := And.intro gf_RX7_13 (And.intro gf_RX7_7 (trivial))
theorem ok_X7_hold (l : Launch) : gOK l yX7_hold cX7_hold 2 none 0 0 0 (gTn f_X7_hold) := by
  refine gM_of (by decide +kernel) pX7_hold_ok (lk_X7_hold l) ?_
  intro SL SX K P av M run h
  unfold f_X7_hold at h
  split at h
  · obtain ⟨rfl, h⟩ := h
    refine ⟨⟨by simp [gC1], Nat.le_of_ble_eq_true rfl⟩, ?_⟩
    refine run [2] 1000 _ _ _ _ _ _ rfl ?_
    conv => whnf
    have q := upto (n := 795) (A := fun k => K 2 [some (.inr (.inl (7, 926))), some (.inl (nI k))] [] (gCy M 928 927 k) gB0) (by
      refine run [2] 1000 _ _ _ _ _ _ rfl ?_
      conv => whnf
      refine ⟨fun h3 => ?_, fun h3 => ?_⟩
      · conv => whnf
        exact ⟨rfl, h⟩
      · exact absurd (nI_le (Nat.le_refl 795) (by decide)) h3) (fun k hk ih => by
      refine run [2] 1000 _ _ _ _ _ _ rfl ?_
      conv => whnf
      refine ⟨fun h3 => ?_, fun h3 => ?_⟩
      · exact absurd h3 (nI_ge hk (by decide))
      · conv => whnf
        refine ⟨vp_in_nI (by omega) (by decide), ?_⟩
        conv => whnf
        refine ⟨vp_in_nI (by omega) (by decide), ?_⟩
        conv => whnf
        rw [nI_clamp (by omega), nI_1, gCy_step _ _ (by decide)]
        exact ih) 0 (Nat.zero_le _)
    rw [gCy_0] at q
    exact q
  · exact h.elim
def f_X7_release : gF := fun av M post => match av with
  | [.inr (.inl (7, p))] => p = 926 ∧ post none (gCy M 927 928 795)
  | _ => False
theorem lk_X7_release (l : Launch) : gLinks l RX7 0 [] pX7_release := And.intro gf_RX7_7 (And.intro gf_RX7_13 (trivial))
theorem ok_X7_release (l : Launch) : gOK l yX7_release cX7_release 2 none 0 0 0 (gTn f_X7_release) := by
  refine gM_of (by decide +kernel) pX7_release_ok (lk_X7_release l) ?_
  intro SL SX K P av M run h
  unfold f_X7_release at h
  split at h
  · obtain ⟨rfl, h⟩ := h
    refine ⟨⟨by simp [gC1], Nat.le_of_ble_eq_true rfl⟩, ?_⟩
    refine run [2] 1000 _ _ _ _ _ _ rfl ?_
    conv => whnf
    have q := upto (n := 795) (A := fun k => K 2 [some (.inr (.inl (7, 926))), some (.inl (nI k))] [] (gCy M 927 928 k) gB0) (by
      refine run [2] 1000 _ _ _ _ _ _ rfl ?_
      conv => whnf
      refine ⟨fun h3 => ?_, fun h3 => ?_⟩
      · conv => whnf
        exact ⟨rfl, h⟩
      · exact absurd (nI_le (Nat.le_refl 795) (by decide)) h3) (fun k hk ih => by
      refine run [2] 1000 _ _ _ _ _ _ rfl ?_
      conv => whnf
      refine ⟨fun h3 => ?_, fun h3 => ?_⟩
      · exact absurd h3 (nI_ge hk (by decide))
      · conv => whnf
        refine ⟨vp_in_nI (by omega) (by decide), ?_⟩
        conv => whnf
        refine ⟨vp_in_nI (by omega) (by decide), ?_⟩
        conv => whnf
        rw [nI_clamp (by omega), nI_1, gCy_step _ _ (by decide)]
        exact ih) 0 (Nat.zero_le _)
    rw [gCy_0] at q
    exact q
  · exact h.elim
/-- two rows exchanged up to k -/
def gXc (M : gM) (k : Nat) : gM := gRw (gRw M 927 (fun z => if z < k then M 928 z else M 927 z)) 928 (fun z => if z < k then M 927 z else M 928 z)
theorem gXc_a (M : gM) (k z : Nat) : gXc M k 927 z = if z < k then M 928 z else M 927 z := rfl
theorem gXc_b (M : gM) (k z : Nat) : gXc M k 928 z = if z < k then M 927 z else M 928 z := rfl
theorem gXc_row {M : gM} {k r : Nat} (h1 : r ≠ 927) (h2 : r ≠ 928) : gXc M k r = M r := (if_neg h2).trans (if_neg h1)
theorem gXc_0 (M : gM) : gXc M 0 = M := by
  funext r z
  by_cases h : r = 928
  · subst h
    rw [gXc_b, if_neg (Nat.not_lt_zero z)]
  · by_cases h2 : r = 927
    · subst h2
      rw [gXc_a, if_neg (Nat.not_lt_zero z)]
    · rw [gXc_row h2 h]
theorem gXc_step (M : gM) (k : Nat) : gUp (gUp (gXc M k) 927 k (M 928 k)) 928 k (M 927 k) = gXc M (k + 1) := by
  funext r z
  by_cases h : r = 928
  · subst h
    rw [gXc_b]
    by_cases h1 : z = k
    · subst h1
      rw [gUp_same, if_pos (by omega)]
    · rw [gUp_ne (Or.inr h1), gUp_row (by decide), gXc_b]
      by_cases h2 : z < k
      · rw [if_pos h2, if_pos (by omega)]
      · rw [if_neg h2, if_neg (by omega)]
  · by_cases h2 : r = 927
    · subst h2
      rw [gUp_row (by decide), gXc_a]
      by_cases h1 : z = k
      · subst h1
        rw [gUp_same, if_pos (by omega)]
      · rw [gUp_ne (Or.inr h1), gXc_a]
        by_cases h2 : z < k
        · rw [if_pos h2, if_pos (by omega)]
        · rw [if_neg h2, if_neg (by omega)]
    · rw [gXc_row h2 h, gUp_row h, gUp_row h2, gXc_row h2 h]
def f_X7_exchange : gF := fun av M post => match av with
  | [.inr (.inl (7, p))] => p = 926 ∧ post none (gXc M 795)
  | _ => False
theorem lk_X7_exchange (l : Launch) : gLinks l RX7 0 [] pX7_exchange := And.intro gf_RX7_7 (And.intro gf_RX7_7 (And.intro gf_RX7_13 (And.intro gf_RX7_13 (trivial))))
theorem ok_X7_exchange (l : Launch) : gOK l yX7_exchange cX7_exchange 3 none 0 0 0 (gTn f_X7_exchange) := by
  refine gM_of (by decide +kernel) pX7_exchange_ok (lk_X7_exchange l) ?_
  intro SL SX K P av M run h
  unfold f_X7_exchange at h
  split at h
  · obtain ⟨rfl, h⟩ := h
    refine ⟨⟨by simp [gC1], Nat.le_of_ble_eq_true rfl⟩, ?_⟩
    refine run [2] 1000 _ _ _ _ _ _ rfl ?_
    conv => whnf
    have q := upto (n := 795) (A := fun k => ∀ v, K 2 [some (.inr (.inl (7, 926))), some (.inl (nI k)), v] [] (gXc M k) gB0) (by
      intro v
      refine run [2] 1000 _ _ _ _ _ _ rfl ?_
      conv => whnf
      refine ⟨fun h3 => ?_, fun h3 => ?_⟩
      · conv => whnf
        exact ⟨rfl, h⟩
      · exact absurd (nI_le (Nat.le_refl 795) (by decide)) h3) (fun k hk ih => by
      intro v
      refine run [2] 1000 _ _ _ _ _ _ rfl ?_
      conv => whnf
      refine ⟨fun h3 => ?_, fun h3 => ?_⟩
      · exact absurd h3 (nI_ge hk (by decide))
      · conv => whnf
        refine ⟨vp_in_nI (by omega) (by decide), ?_⟩
        conv => whnf
        refine ⟨vp_in_nI (by omega) (by decide), ?_⟩
        conv => whnf
        refine ⟨vp_in_nI (by omega) (by decide), ?_⟩
        conv => whnf
        refine ⟨vp_in_nI (by omega) (by decide), ?_⟩
        conv => whnf
        rw [nI_clamp (by omega), nI_1, gXc_a, gXc_b, if_neg (Nat.lt_irrefl k), if_neg (Nat.lt_irrefl k), gXc_step]
        exact ih _) 0 (Nat.zero_le _) none
    rw [gXc_0] at q
    exact q
  · exact h.elim
