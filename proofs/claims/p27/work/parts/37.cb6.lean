/-! CrustBlocks: undo, append, clearText, load -/
theorem hiR.kept {M M' : gM} {p : Nat} {hs : List St} (h : hiR M p hs) (h2 : ∀ r, p ≤ r → r < p + 657 → M' r = M r) : hiR M' p hs := by
  obtain ⟨a1, o, a2, a3, a4, a5⟩ := h
  exact ⟨a1, o, a2, by rw [h2 _ (by omega) (by omega)]; exact a3, by rw [h2 _ (by omega) (by omega)]; exact a4, fun i S hi => (a5 i S hi).kept fun r b1 b2 => h2 r (by omega) (by omega)⟩
def f_X6_undo : gF := fun av M post => match av with
  | [.inr (.inl (6, p))] => p = 0 ∧ ∃ σ, clR M σ ∧ cQ M (oUndo σ) post
  | _ => False
theorem lk_X6_undo (l : Launch) : gLinks l RX6 5 [(gTn f_X2_giveBack, 0, 0, 2)] pX6_undo := And.intro gf_RX6_22 (And.intro gf_RX6_147 (And.intro kc_RX6_146 (And.intro gf_RX6_22 (And.intro gf_RX6_10 (And.intro ⟨gTn f_X2_giveBack, 2, yX2_giveBack, cX2_giveBack, 2, none, 4, _, rfl, by decide, yi_yX2_giveBack, ok_X2_giveBack l, by decide, by decide, rfl, rfl, ml_RX6_148, im_yX2_giveBack, se_yX2_giveBack⟩ (And.intro gf_RX6_22 (And.intro gf_RX6_147 (trivial))))))))
theorem ok_X6_undo (l : Launch) : gOK l yX6_undo cX6_undo 1 (some .int) 5 0 0 (gTn f_X6_undo) := by
  refine gM_of (by decide +kernel) pX6_undo_ok (lk_X6_undo l) ?_
  intro SL SX K P av M run h
  unfold f_X6_undo at h
  split at h
  · rename_i p
    obtain ⟨rfl, σ, hσ, h⟩ := h
    refine ⟨⟨by simp [gC1], Nat.le_of_ble_eq_true rfl⟩, ?_⟩
    have hm : M (0 + 263) 2 = nI σ.2.1.length := hσ.2.1.2.choose_spec.2.2.1
    have h5 := hσ.2.1.1
    unfold oUndo at h
    refine run [] 1000 _ _ _ _ _ _ rfl ?_
    conv => whnf
    rw [hm]
    cases hl : σ.2.1.getLast? with
    | none =>
      rw [hl] at h
      have e : σ.2.1 = [] := List.getLast?_eq_none_iff.mp hl
      rw [e]
      refine ⟨fun h1 => ?_, fun h1 => ?_⟩
      · exact absurd rfl h1
      · conv => whnf
        exact ⟨rfl, h.no hσ rfl⟩
    | some S =>
      rw [hl] at h
      obtain ⟨l0, el⟩ := List.getLast?_eq_some_iff.mp hl
      have hlen : σ.2.1.length = l0.length + 1 := by rw [el]; simp
      rw [hlen]
      refine ⟨fun h1 => ?_, fun h1 => ?_⟩
      · conv => whnf
        refine ⟨rfl, rfl, l0, S, by rw [← el]; exact hσ.2.1, by omega, fun M1 g1 g2 g3 => ?_⟩
        have hm1 : M1 (0 + 263) 2 = nI l0.length := g1.2.choose_spec.2.2.1
        conv => whnf
        rw [hm1]
        have e1 : (nI (σ.2.1.length - 1), ((S, σ.2.1.dropLast, σ.2.2) : Wd)) = (nI l0.length, (S, l0, σ.2.2)) := by
          rw [hlen, el]
          simp
        dsimp only at h
        rw [e1] at h
        have g3 : ∀ r, r ≠ 263 → (r < 1 ∨ 132 ≤ r) → M1 r = M r := g3
        exact ⟨rfl, h _ ⟨g2, g1, hσ.2.2.1.kept (g3 _ (by omega) (by omega)) (g3 _ (by omega) (by omega)), hσ.2.2.2⟩ (fun r a => g3 r (by omega) (by omega))⟩
      · exact absurd h1 (nI_ne0 (by omega) (by omega))
  · exact h.elim
def f_X6_clearText : gF := fun av M post => match av with
  | [.inr (.inl (6, p))] => p = 0 ∧ ∃ σ, clR M σ ∧ cQ M (oClr σ) post
  | _ => False
def f_X6_append : gF := fun av M post => match av with
  | [.inr (.inl (6, p)), .inl c] => p = 0 ∧ ∃ σ, clR M σ ∧ cQ M (oApp σ c) post
  | _ => False
def f_X6_load : gF := fun av M post => match av with
  | [.inr (.inl (6, p))] => p = 0 ∧ ∃ σ, clR M σ ∧ cQ M (oLoad σ) post
  | _ => False
theorem lk_X6_load (l : Launch) : gLinks l RX6 6 [(gTn f_X3_copyFrom, 0, 0, 3), (gTn f_X5_readInto, 0, 0, 5), (gTn f_X5_isWrong, 0, 0, 5), (gTn f_X2_keep, 0, 0, 2)] pX6_load := And.intro gf_RX6_16 (And.intro gf_RX6_10 (And.intro ⟨gTn f_X3_copyFrom, 3, yX3_copyFrom, cX3_copyFrom, 3, none, 3, _, rfl, by decide, yi_yX3_copyFrom, ok_X3_copyFrom l, by decide, by decide, rfl, rfl, ml_RX6_157, im_yX3_copyFrom, se_yX3_copyFrom⟩ (And.intro gf_RX6_29 (And.intro gf_RX6_16 (And.intro ⟨gTn f_X5_readInto, 5, yX5_readInto, cX5_readInto, 3, (some .int), 5, _, rfl, by decide, yi_yX5_readInto, ok_X5_readInto l, by decide, by decide, rfl, rfl, ml_RX6_159, im_yX5_readInto, se_yX5_readInto⟩ (And.intro gf_RX6_29 (And.intro ⟨gTn f_X5_isWrong, 5, yX5_isWrong, cX5_isWrong, 1, (some .boolean), 0, _, rfl, by decide, yi_yX5_isWrong, ok_X5_isWrong l, by decide, by decide, rfl, rfl, ml_RX6_163, im_yX5_isWrong, se_yX5_isWrong⟩ (And.intro kc_RX6_167 (And.intro gf_RX6_29 (And.intro gf_RX6_168 (And.intro gf_RX6_22 (And.intro gf_RX6_10 (And.intro ⟨gTn f_X2_keep, 2, yX2_keep, cX2_keep, 2, none, 4, _, rfl, by decide, yi_yX2_keep, ok_X2_keep l, by decide, by decide, rfl, rfl, ml_RX6_76, im_yX2_keep, se_yX2_keep⟩ (And.intro gf_RX6_10 (And.intro gf_RX6_16 (And.intro ⟨gTn f_X3_copyFrom, 3, yX3_copyFrom, cX3_copyFrom, 3, none, 3, _, rfl, by decide, yi_yX3_copyFrom, ok_X3_copyFrom l, by decide, by decide, rfl, rfl, ml_RX6_157, im_yX3_copyFrom, se_yX3_copyFrom⟩ (And.intro gf_RX6_29 (And.intro gf_RX6_151 (trivial)))))))))))))))))))
theorem ok_X6_load (l : Launch) : gOK l yX6_load cX6_load 2 (some .int) 6 0 0 (gTn f_X6_load) := by
  refine gM_of (by decide +kernel) pX6_load_ok (lk_X6_load l) ?_
  intro SL SX K P av M run h
  unfold f_X6_load at h
  split at h
  · rename_i p
    obtain ⟨rfl, σ, hσ, h⟩ := h
    refine ⟨⟨by simp [gC1], Nat.le_of_ble_eq_true rfl⟩, ?_⟩
    unfold oLoad at h
    refine run [] 1000 _ _ _ _ _ _ rfl ?_
    conv => whnf
    refine ⟨rfl, rfl, σ.1, hσ.1, by omega, fun M1 g1 g2 => ?_⟩
    have f1 : gFn M M1 132 131 := g2
    conv => whnf
    have t1 : txL M1 920 σ.2.2.1 σ.2.2.2 := hσ.2.2.1.kept (f1 _ (by omega)) (f1 _ (by omega))
    have hn1 := hσ.2.2.1.1
    refine ⟨rfl, rfl, σ.2.2.1, σ.2.2.2, σ.1, t1, g1, by omega, hσ.2.2.2, ?_⟩
    cases hp : pText σ.2.2.1 σ.2.2.2 σ.1 with
    | inl e =>
      rw [hp] at h
      dsimp only at h
      intro M2 p2 i el x2 f2
      have f2 : gF3 M1 M2 920 132 131 := f2
      have x2 : txR M2 920 σ.2.2.1 σ.2.2.2 p2 (nI e) := x2
      have ne := nI_m1 (e := e) (by omega)
      conv => whnf
      refine ⟨rfl, rfl, ?_⟩
      conv => whnf
      rw [show M2 (0 + 920) 3 = nI e from x2.2.2.2.2.2, if_neg ne]
      refine ⟨fun h1 => ?_, fun h1 => ?_⟩
      · exact absurd h1 (by decide)
      · conv => whnf
        rw [show M2 (0 + 920) 3 = nI e from x2.2.2.2.2.2]
        refine ⟨rfl, h M2 ⟨hσ.1.kept fun r a b => ?_, hσ.2.1.kept fun r a b => ?_, x2.toL, hσ.2.2.2⟩ (fun r a => ?_)⟩
        · rw [f2 r (by omega) (by omega), f1 r (by omega)]
        · rw [f2 r (by omega) (by omega), f1 r (by omega)]
        · rw [f2 r (by omega) (by omega), f1 r (by omega)]
    | inr z =>
      obtain ⟨S2, i⟩ := z
      rw [hp] at h
      dsimp only at h
      intro M2 p2 x2 s2 f2
      have f2 : gF3 M1 M2 920 132 131 := f2
      have x2 : txR M2 920 σ.2.2.1 σ.2.2.2 p2 (-1) := x2
      have q1 : stR M2 1 σ.1 := hσ.1.kept fun r a b => by rw [f2 r (by omega) (by omega), f1 r (by omega)]
      have q2 : hiR M2 263 σ.2.1 := hσ.2.1.kept fun r a b => by rw [f2 r (by omega) (by omega), f1 r (by omega)]
      conv => whnf
      refine ⟨rfl, rfl, ?_⟩
      conv => whnf
      rw [show M2 (0 + 920) 3 = -1 from x2.2.2.2.2.2, if_pos rfl]
      refine ⟨fun h1 => ?_, fun h1 => ?_⟩
      · conv => whnf
        refine ⟨rfl, rfl, _, _, q2, q1, by omega, fun M3 g3 g4 => ?_⟩
        have f3 : gFn M2 M3 263 657 := g4
        have s3 : stR M3 132 S2 := s2.fn f3 (by omega)
        conv => whnf
        refine ⟨rfl, rfl, _, s3, by omega, fun M4 g5 g6 => ?_⟩
        have f4 : gFn M3 M4 1 131 := g6
        conv => whnf
        have f5 : gFn M4 (gUp M4 920 1 0) 920 1 := gFn.up (Nat.le_refl _) (by omega)
        refine ⟨rfl, h _ ⟨g5.fn f5 (by omega), (g3.fn f4 (by omega)).fn f5 (by omega), ⟨Nat.zero_le _, fun k hk => absurd hk (Nat.not_lt_zero k), gUp_same _ _ _ _⟩, fun k hk => absurd hk (Nat.not_lt_zero k)⟩ (fun r a => ?_)⟩
        rw [f5 r (by omega), f4 r (by omega), f3 r (by omega), f2 r (by omega) (by omega), f1 r (by omega)]
      · exact absurd rfl h1
  · exact h.elim
