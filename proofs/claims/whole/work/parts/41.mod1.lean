/-! the model: columns in one row -/
theorem nI_mul (a b : Nat) : nI a * nI b = nI (a * b) := (Int32.ofNat_mul a b).symm
theorem at_of (b k : Nat) : 26 * nI b + 2 + 3 * nI k = nI (26 * b + 2 + 3 * k) := by
  rw [show (26 : Int32) = nI 26 from rfl, show (2 : Int32) = nI 2 from rfl, show (3 : Int32) = nI 3 from rfl, nI_mul, nI_mul, nI_add, nI_add]
theorem of_at (b p : Nat) : 26 * nI b + nI p = nI (26 * b + p) := by
  rw [show (26 : Int32) = nI 26 from rfl, nI_mul, nI_add]
/-- a column in a row, from o on -/
def mcR (s : Nat → Int32) (o : Nat) (c : Col) : Prop := c.1.length ≤ 8 ∧ s o = nI c.1.length ∧ s (o + 1) = c.2 ∧ ∀ (k : Nat) (x : Lay), c.1[k]? = some x → s (o + 2 + 3 * k) = x.1 ∧ s (o + 2 + 3 * k + 1) = x.2.1 ∧ s (o + 2 + 3 * k + 2) = x.2.2
theorem mcR.lay {s : Nat → Int32} {o k : Nat} {c : Col} (h : mcR s o c) (hk : k < c.1.length) : s (o + 2 + 3 * k) = c.1[k].1 ∧ s (o + 2 + 3 * k + 1) = c.1[k].2.1 ∧ s (o + 2 + 3 * k + 2) = c.1[k].2.2 := h.2.2.2 k _ (List.getElem?_eq_getElem hk)
theorem mcR.kept {s s' : Nat → Int32} {o o' : Nat} {c : Col} (h : mcR s o c) (hk : ∀ i, i < 26 → s' (o' + i) = s (o + i)) : mcR s' o' c := by
  obtain ⟨h1, h2, h3, h4⟩ := h
  refine ⟨h1, (hk 0 (by omega)).trans h2, (hk 1 (by omega)).trans h3, fun k x hx => ?_⟩
  have hlt : k < c.1.length := (List.getElem?_eq_some_iff.mp hx).1
  have := h4 k x hx
  have a1 := hk (2 + 3 * k) (by omega)
  have a2 := hk (2 + 3 * k + 1) (by omega)
  have a3 := hk (2 + 3 * k + 2) (by omega)
  simp only [← Nat.add_assoc] at a1 a2 a3
  exact ⟨a1.trans this.1, a2.trans this.2.1, a3.trans this.2.2⟩
def f_X7_in : gF := fun av M post => match av with
  | [.inl v, .inl a, .inl b] => post (some (.inl (if a ≤ v ∧ v ≤ b then 1 else 0))) M
  | _ => False
theorem lk_X7_in (l : Launch) : gLinks l RX7 0 [] pX7_in := trivial
theorem ok_X7_in (l : Launch) : gOK l yX7_in cX7_in 3 (some .boolean) 0 0 0 (gTn f_X7_in) := by
  refine gM_of (by decide +kernel) pX7_in_ok (lk_X7_in l) ?_
  intro SL SX K P av M run h
  unfold f_X7_in at h
  split at h
  · rename_i v a b
    refine ⟨⟨by simp [gC1], Nat.le_of_ble_eq_true rfl⟩, ?_⟩
    refine run [] 1000 _ _ _ _ _ _ rfl ?_
    conv => whnf
    refine ⟨fun h1 => ?_, fun h1 => ?_⟩
    · conv => whnf
      exact ⟨rfl, Or.inl rfl, by rw [if_neg (fun q => Int32.not_lt.mpr q.1 h1)] at h; exact h⟩
    · conv => whnf
      refine ⟨fun h2 => ?_, fun h2 => ?_⟩
      · conv => whnf
        exact ⟨rfl, Or.inl rfl, by rw [if_neg (fun q => Int32.not_lt.mpr q.2 h2)] at h; exact h⟩
      · conv => whnf
        exact ⟨rfl, Or.inr rfl, by rw [if_pos ⟨Int32.not_lt.mp h1, Int32.not_lt.mp h2⟩] at h; exact h⟩
  · exact h.elim
def f_X7_less : gF := fun av M post => match av with
  | [.inl a, .inl b] => post (some (.inl (if a < b then a else b))) M
  | _ => False
theorem lk_X7_less (l : Launch) : gLinks l RX7 0 [] pX7_less := trivial
theorem ok_X7_less (l : Launch) : gOK l yX7_less cX7_less 2 (some .int) 0 0 0 (gTn f_X7_less) := by
  refine gM_of (by decide +kernel) pX7_less_ok (lk_X7_less l) ?_
  intro SL SX K P av M run h
  unfold f_X7_less at h
  split at h
  · rename_i a b
    refine ⟨⟨by simp [gC1], Nat.le_of_ble_eq_true rfl⟩, ?_⟩
    refine run [] 1000 _ _ _ _ _ _ rfl ?_
    conv => whnf
    refine ⟨fun h1 => ?_, fun h1 => ?_⟩
    · conv => whnf
      rw [if_neg (Int32.not_lt.mpr h1)] at h
      exact ⟨rfl, h⟩
    · conv => whnf
      rw [if_pos (Int32.not_le.mp h1)] at h
      exact ⟨rfl, h⟩
  · exact h.elim
def f_X7_more : gF := fun av M post => match av with
  | [.inl a, .inl b] => post (some (.inl (if b < a then a else b))) M
  | _ => False
theorem lk_X7_more (l : Launch) : gLinks l RX7 0 [] pX7_more := trivial
theorem ok_X7_more (l : Launch) : gOK l yX7_more cX7_more 2 (some .int) 0 0 0 (gTn f_X7_more) := by
  refine gM_of (by decide +kernel) pX7_more_ok (lk_X7_more l) ?_
  intro SL SX K P av M run h
  unfold f_X7_more at h
  split at h
  · rename_i a b
    refine ⟨⟨by simp [gC1], Nat.le_of_ble_eq_true rfl⟩, ?_⟩
    refine run [] 1000 _ _ _ _ _ _ rfl ?_
    conv => whnf
    refine ⟨fun h1 => ?_, fun h1 => ?_⟩
    · conv => whnf
      rw [if_neg (Int32.not_lt.mpr h1)] at h
      exact ⟨rfl, h⟩
    · conv => whnf
      rw [if_pos (Int32.not_le.mp h1)] at h
      exact ⟨rfl, h⟩
  · exact h.elim
def f_X7_isBlock : gF := fun av M post => match av with
  | [.inl v] => post (some (.inl (if 0 ≤ v ∧ v ≤ 9 then 1 else 0))) M
  | _ => False
theorem lk_X7_isBlock (l : Launch) : gLinks l RX7 1 [(gTn f_X7_in, 0, 0, 99)] pX7_isBlock := And.intro ⟨gTn f_X7_in, 99, yX7_in, cX7_in, 3, (some .boolean), 0, rfl, yi_yX7_in, ok_X7_in l, by decide, Or.inl ml_RX7_38, sm_yX7_in⟩ (trivial)
theorem ok_X7_isBlock (l : Launch) : gOK l yX7_isBlock cX7_isBlock 1 (some .boolean) 1 0 0 (gTn f_X7_isBlock) := by
  refine gM_of (by decide +kernel) pX7_isBlock_ok (lk_X7_isBlock l) ?_
  intro SL SX K P av M run h
  unfold f_X7_isBlock at h
  split at h
  · refine ⟨⟨by simp [gC1], Nat.le_of_ble_eq_true rfl⟩, ?_⟩
    refine run [] 1000 _ _ _ _ _ _ rfl ?_
    conv => whnf
    refine ⟨rfl, rfl, ?_⟩
    conv => whnf
    refine ⟨rfl, ?_, h⟩
    split
    · exact Or.inr rfl
    · exact Or.inl rfl
  · exact h.elim
def f_X7_at : gF := fun av M post => match av with
  | [.inl b, .inl k] => ∃ i j, b = nI i ∧ k = nI j ∧ post (some (.inl (nI (26 * i + 2 + 3 * j)))) M
  | _ => False
theorem lk_X7_at (l : Launch) : gLinks l RX7 0 [] pX7_at := trivial
theorem ok_X7_at (l : Launch) : gOK l yX7_at cX7_at 2 (some .int) 0 0 0 (gTn f_X7_at) := by
  refine gM_of (by decide +kernel) pX7_at_ok (lk_X7_at l) ?_
  intro SL SX K P av M run h
  unfold f_X7_at at h
  split at h
  · obtain ⟨i, j, rfl, rfl, h⟩ := h
    refine ⟨⟨by simp [gC1], Nat.le_of_ble_eq_true rfl⟩, ?_⟩
    rw [← at_of] at h
    refine run [] 1000 _ _ _ _ _ _ rfl ?_
    conv => whnf
    exact ⟨rfl, h⟩
  · exact h.elim
def f_X7_of : gF := fun av M post => match av with
  | [.inr (.inl (7, p)), .inl b, .inl k] => p = 926 ∧ ∃ i j, i < 10 ∧ j < 2 ∧ b = nI i ∧ k = nI j ∧ post (some (.inl (M 927 (26 * i + j)))) M
  | _ => False
theorem lk_X7_of (l : Launch) : gLinks l RX7 0 [] pX7_of := And.intro gf_RX7_7 (trivial)
theorem ok_X7_of (l : Launch) : gOK l yX7_of cX7_of 3 (some .int) 0 0 0 (gTn f_X7_of) := by
  refine gM_of (by decide +kernel) pX7_of_ok (lk_X7_of l) ?_
  intro SL SX K P av M run h
  unfold f_X7_of at h
  split at h
  · obtain ⟨rfl, i, j, hi, hj, rfl, rfl, h⟩ := h
    refine ⟨⟨by simp [gC1], Nat.le_of_ble_eq_true rfl⟩, ?_⟩
    refine run [] 1000 _ _ _ _ _ _ rfl ?_
    conv => whnf
    rw [of_at]
    refine ⟨vp_in_nI (by omega) (by decide), ?_⟩
    conv => whnf
    rw [nI_clamp (by omega)]
    exact ⟨rfl, h⟩
  · exact h.elim
