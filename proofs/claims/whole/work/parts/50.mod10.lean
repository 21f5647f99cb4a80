/-! the model: what is taken, what is laid -/
def mTak (C : Cru) (b : Nat) (e : Int32) : Int32 := match (C b).1 with
  | [] => 0
  | x :: _ => if x.1 = 0 then 0 else match cLow C b with
    | none => 0
    | some v => if (ltop (C b) - ltop (C v)) * e / 1000 < x.2.2 then (ltop (C b) - ltop (C v)) * e / 1000 else x.2.2
def f_X7_takenFrom : gF := fun av M post => match av with
  | [.inr (.inl (7, p)), .inl v] => p = 926 ∧ ∃ C b, (∀ i, i < 10 → mcR (M 927) (26 * i) (C i)) ∧ b < 10 ∧ v = nI b ∧ post (some (.inl (mTak C b (M 927 263)))) M
  | _ => False
theorem lk_X7_takenFrom (l : Launch) : gLinks l RX7 4 [(gTn f_X7_valleyOf, 0, 0, 7), (gTn f_X7_of, 0, 0, 7), (gTn f_X7_isIcy, 0, 0, 7), (gTn f_X7_top, 0, 0, 7), (gTn f_X7_at, 0, 0, 99), (gTn f_X7_less, 0, 0, 99)] pX7_takenFrom := And.intro ⟨gTn f_X7_valleyOf, 7, yX7_valleyOf, cX7_valleyOf, 5, (some .int), 3, _, rfl, by decide, yi_yX7_valleyOf, ok_X7_valleyOf l, by decide, by decide, rfl, rfl, ml_RX7_116, im_yX7_valleyOf, se_yX7_valleyOf⟩ (And.intro ⟨gTn f_X7_of, 7, yX7_of, cX7_of, 3, (some .int), 0, _, rfl, by decide, yi_yX7_of, ok_X7_of l, by decide, by decide, rfl, rfl, ml_RX7_50, im_yX7_of, se_yX7_of⟩ (And.intro ⟨gTn f_X7_isIcy, 7, yX7_isIcy, cX7_isIcy, 2, (some .boolean), 2, _, rfl, by decide, yi_yX7_isIcy, ok_X7_isIcy l, by decide, by decide, rfl, rfl, ml_RX7_92, im_yX7_isIcy, se_yX7_isIcy⟩ (And.intro kc_RX7_112 (And.intro ⟨gTn f_X7_top, 7, yX7_top, cX7_top, 2, (some .int), 2, _, rfl, by decide, yi_yX7_top, ok_X7_top l, by decide, by decide, rfl, rfl, ml_RX7_102, im_yX7_top, se_yX7_top⟩ (And.intro ⟨gTn f_X7_top, 7, yX7_top, cX7_top, 2, (some .int), 2, _, rfl, by decide, yi_yX7_top, ok_X7_top l, by decide, by decide, rfl, rfl, ml_RX7_102, im_yX7_top, se_yX7_top⟩ (And.intro gf_RX7_7 (And.intro gf_RX7_7 (And.intro ⟨gTn f_X7_at, 99, yX7_at, cX7_at, 2, (some .int), 0, rfl, yi_yX7_at, ok_X7_at l, by decide, Or.inl ml_RX7_42, sm_yX7_at⟩ (And.intro ⟨gTn f_X7_less, 99, yX7_less, cX7_less, 2, (some .int), 0, rfl, yi_yX7_less, ok_X7_less l, by decide, Or.inl ml_RX7_99, sm_yX7_less⟩ (trivial))))))))))
theorem ok_X7_takenFrom (l : Launch) : gOK l yX7_takenFrom cX7_takenFrom 3 (some .int) 4 0 0 (gTn f_X7_takenFrom) := by
  refine gM_of (by decide +kernel) pX7_takenFrom_ok (lk_X7_takenFrom l) ?_
  intro SL SX K P av M run h
  unfold f_X7_takenFrom at h
  split at h
  · rename_i p v
    obtain ⟨rfl, C, b, hC, hb, rfl, h⟩ := h
    refine ⟨⟨by simp [gC1], Nat.le_of_ble_eq_true rfl⟩, ?_⟩
    have hc := hC b hb
    have h8 := hc.1
    unfold mTak at h
    refine run [29, 31] 1000 _ _ _ _ _ _ rfl ?_
    conv => whnf
    refine ⟨rfl, rfl, rfl, C, b, hC, hb, rfl, ?_⟩
    conv => whnf
    have none29 : ∀ v, P (some (.inl 0)) M → K 29 [some (.inr (.inl (7, 926))), some (.inl (nI b)), some (.inl v)] [] M gB0 := by
      intro v hP
      refine run [] 1000 _ _ _ _ _ _ rfl ?_
      conv => whnf
      exact ⟨rfl, hP⟩
    refine ⟨rfl, rfl, rfl, b, 0, hb, by decide, rfl, rfl, ?_⟩
    rw [show M 927 (26 * b + 0) = nI (C b).1.length from hc.2.1]
    conv => whnf
    cases hl : (C b).1 with
    | nil =>
      rw [hl] at h
      refine ⟨fun h1 => ?_, fun h1 => ?_⟩
      · conv => whnf
        exact none29 _ h
      · exact absurd (show nI ([] : List Lay).length = 0 from rfl) h1
    | cons x t =>
      have hx := hc.2.2.2 0 x (by rw [hl]; rfl)
      rw [hl] at h
      dsimp only at h
      refine ⟨fun h1 => ?_, fun h1 => ?_⟩
      · exact absurd h1 (nI_ne0 (Nat.succ_pos _) (by rw [hl] at h8; omega))
      · conv => whnf
        refine ⟨rfl, rfl, rfl, b, _, hb, rfl, hc, ?_⟩
        conv => whnf
        rw [hl]
        have e : icy (x :: t) = decide (x.1 = 0) := rfl
        rw [e]
        by_cases hi : x.1 = 0
        · rw [if_pos hi] at h
          rw [if_pos (by simpa using hi)]
          refine ⟨fun h2 => ?_, fun h2 => ?_⟩
          · conv => whnf
            exact none29 _ h
          · exact absurd h2 (by decide)
        · rw [if_neg hi] at h
          rw [if_neg (by simpa using hi)]
          refine ⟨fun h2 => ?_, fun h2 => ?_⟩
          · exact absurd rfl h2
          · conv => whnf
            cases hv : cLow C b with
            | none =>
              rw [hv] at h
              refine ⟨fun h3 => ?_, fun h3 => ?_⟩
              · exact absurd rfl h3
              · conv => whnf
                exact none29 _ h
            | some v =>
              rw [hv] at h
              have hv10 := cLow_lt hb hv
              refine ⟨fun h3 => ?_, fun h3 => ?_⟩
              · conv => whnf
                refine run [] 1000 _ _ _ _ _ _ rfl ?_
                conv => whnf
                refine ⟨rfl, rfl, rfl, b, _, hb, rfl, hc, ?_⟩
                conv => whnf
                refine ⟨rfl, rfl, rfl, v, _, hv10, rfl, hC v hv10, ?_⟩
                conv => whnf
                refine ⟨vp_in_nI (n := 263) (by decide) (by decide), ?_⟩
                conv => whnf
                refine ⟨by decide, ?_⟩
                conv => whnf
                refine ⟨rfl, rfl, b, 0, rfl, rfl, ?_⟩
                conv => whnf
                rw [show nI (26 * b + 2 + 3 * 0) + 2 = nI (26 * b + 2 + 3 * 0 + 2) from nI_add _ 2]
                refine ⟨vp_in_nI (by omega) (by decide), ?_⟩
                conv => whnf
                rw [nI_clamp (by omega), hx.2.2]
                refine ⟨rfl, rfl, ?_⟩
                conv => whnf
                exact ⟨rfl, h⟩
              · exact absurd h3 (nI_none hv10)
  · exact h.elim
def mLay (l : List Lay) (pl : Nat) (th : Int32) : List Lay × Int32 × Nat := match l[lfb l]? with
  | some x => if x.1 = 1 then (lGr l (lfb l) th, th, pl) else pNew l pl th
  | none => pNew l pl th
def f_X7_lay : gF := fun av M post => match av with
  | [.inr (.inl (7, p)), .inl v, .inl th] => p = 926 ∧ ∃ b c pl, mcR (M 927) (26 * b) c ∧ b < 10 ∧ v = nI b ∧ pl < 1000 ∧ M 933 b = nI pl ∧
      ∀ M', mcR (M' 927) (26 * b) ((mLay c.1 pl th).1, c.2) → M' 933 b = nI (mLay c.1 pl th).2.2 → (∀ j, j ≠ b → M' 933 j = M 933 j) → (∀ r, r ≠ 927 → r ≠ 933 → M' r = M r) → (∀ k, (k < 26 * b ∨ 26 * b + 26 ≤ k) → M' 927 k = M 927 k) → post (some (.inl (mLay c.1 pl th).2.1)) M'
  | _ => False
theorem lk_X7_lay (l : Launch) : gLinks l RX7 3 [(gTn f_X7_of, 0, 0, 7), (gTn f_X7_kindOf, 0, 0, 7), (gTn f_X7_grow, 0, 0, 7), (gTn f_X7_insert, 0, 0, 7)] pX7_lay := And.intro ⟨gTn f_X7_of, 7, yX7_of, cX7_of, 3, (some .int), 0, _, rfl, by decide, yi_yX7_of, ok_X7_of l, by decide, by decide, rfl, rfl, ml_RX7_50, im_yX7_of, se_yX7_of⟩ (And.intro ⟨gTn f_X7_kindOf, 7, yX7_kindOf, cX7_kindOf, 3, (some .int), 1, _, rfl, by decide, yi_yX7_kindOf, ok_X7_kindOf l, by decide, by decide, rfl, rfl, ml_RX7_83, im_yX7_kindOf, se_yX7_kindOf⟩ (And.intro ⟨gTn f_X7_of, 7, yX7_of, cX7_of, 3, (some .int), 0, _, rfl, by decide, yi_yX7_of, ok_X7_of l, by decide, by decide, rfl, rfl, ml_RX7_50, im_yX7_of, se_yX7_of⟩ (And.intro ⟨gTn f_X7_kindOf, 7, yX7_kindOf, cX7_kindOf, 3, (some .int), 1, _, rfl, by decide, yi_yX7_kindOf, ok_X7_kindOf l, by decide, by decide, rfl, rfl, ml_RX7_83, im_yX7_kindOf, se_yX7_kindOf⟩ (And.intro ⟨gTn f_X7_grow, 7, yX7_grow, cX7_grow, 4, none, 2, _, rfl, by decide, yi_yX7_grow, ok_X7_grow l, by decide, by decide, rfl, rfl, ml_RX7_95, im_yX7_grow, se_yX7_grow⟩ (And.intro ⟨gTn f_X7_of, 7, yX7_of, cX7_of, 3, (some .int), 0, _, rfl, by decide, yi_yX7_of, ok_X7_of l, by decide, by decide, rfl, rfl, ml_RX7_50, im_yX7_of, se_yX7_of⟩ (And.intro ⟨gTn f_X7_insert, 7, yX7_insert, cX7_insert, 7, none, 1, _, rfl, by decide, yi_yX7_insert, ok_X7_insert l, by decide, by decide, rfl, rfl, ml_RX7_76, im_yX7_insert, se_yX7_insert⟩ (And.intro gf_RX7_28 (And.intro gf_RX7_28 (trivial)))))))))
theorem ok_X7_lay (l : Launch) : gOK l yX7_lay cX7_lay 4 (some .int) 3 0 0 (gTn f_X7_lay) := by
  refine gM_of (by decide +kernel) pX7_lay_ok (lk_X7_lay l) ?_
  intro SL SX K P av M run h
  unfold f_X7_lay at h
  split at h
  · rename_i p v th
    obtain ⟨rfl, b, c, pl, hc, hb, rfl, hpl, hp, h⟩ := h
    refine ⟨⟨by simp [gC1], Nat.le_of_ble_eq_true rfl⟩, ?_⟩
    have hk8 := hc.1
    have hfl := lfb_le c.1
    have new : (mLay c.1 pl th = pNew c.1 pl th) → K 56 [some (.inr (.inl (7, 926))), some (.inl (nI b)), some (.inl th), some (.inl (nI (lfb c.1)))] [] M gB0 := by
      intro hnew
      rw [hnew] at h
      unfold pNew at h
      have same : (8 ≤ c.1.length ∨ th = 0) → P (some (.inl 0)) M := fun q => by
        rw [if_pos q] at h
        exact h M hc hp (fun _ _ => rfl) (fun _ _ _ => rfl) (fun _ _ => rfl)
      refine run [] 1000 _ _ _ _ _ _ rfl ?_
      conv => whnf
      refine ⟨rfl, rfl, rfl, b, 0, hb, by decide, rfl, rfl, ?_⟩
      rw [show M 927 (26 * b + 0) = nI c.1.length from hc.2.1]
      conv => whnf
      refine ⟨fun h1 => ?_, fun h1 => ?_⟩
      · conv => whnf
        refine ⟨rfl, same (Or.inl ?_)⟩
        have := (nI_eq (b := 8) (by omega) (by decide)).mp h1
        omega
      · have h8 : c.1.length < 8 := by
          rcases Nat.lt_or_ge c.1.length 8 with q | q
          · exact q
          · exact absurd (show nI c.1.length = 8 by rw [show c.1.length = 8 by omega]; rfl) h1
        conv => whnf
        refine ⟨fun h2 => ?_, fun h2 => ?_⟩
        · conv => whnf
          rw [if_neg (fun q => q.elim (fun q => by omega) h2)] at h
          refine ⟨rfl, rfl, rfl, b, _, c, hb, rfl, rfl, hc, h8, hfl, fun M1 g1 g2 => ?_⟩
          have a1 : M1 933 = M 933 := g2.1 _ (by decide)
          have e : (nI b).toNatClampNeg = b := nI_clamp (by omega)
          have fin : ∀ x : Int32, x = (if lfb c.1 ≤ pl then 1 else 0) → P (some (.inl th)) (gUp M1 933 b (nI pl + x)) := by
            intro x hx
            subst hx
            refine h _ ?_ ?_ (fun j hj => ?_) (fun r h4 h5 => ?_) (fun k hk => ?_)
            · rw [gUp_row (by decide)]
              exact g1
            · rw [gUp_same]
              by_cases q : lfb c.1 ≤ pl
              · rw [if_pos q]
                show _ = nI (if lfb c.1 ≤ pl then pl + 1 else pl)
                rw [if_pos q, nI_1]
              · rw [if_neg q]
                show _ = nI (if lfb c.1 ≤ pl then pl + 1 else pl)
                rw [if_neg q, at_0]
            · rw [gUp_ne (Or.inr hj), a1]
            · rw [gUp_row h5]
              exact g2.1 r h4
            · rw [gUp_row (by decide)]
              exact g2.2 k hk
          conv => whnf
          refine ⟨vp_in_nI (by omega) (by decide), ?_⟩
          conv => whnf
          refine ⟨vp_in_nI (by omega) (by decide), ?_⟩
          conv => whnf
          rw [e, a1, hp]
          refine ⟨fun h3 => ?_, fun h3 => ?_⟩
          · conv => whnf
            refine ⟨vp_in_nI (by omega) (by decide), ?_⟩
            conv => whnf
            rw [e]
            exact ⟨rfl, fin 0 (if_neg (fun q => Int32.not_lt.mpr (nI_le q (by omega)) h3)).symm⟩
          · conv => whnf
            refine ⟨vp_in_nI (by omega) (by decide), ?_⟩
            conv => whnf
            rw [e]
            refine ⟨rfl, fin 1 (if_pos ?_).symm⟩
            rcases Nat.lt_or_ge pl (lfb c.1) with q | q
            · exact absurd (nI_lt q (nI_lt8 (by omega))) h3
            · exact q
        · conv => whnf
          exact ⟨rfl, same (Or.inr h2)⟩
    have at27 : K 27 [some (.inr (.inl (7, 926))), some (.inl (nI b)), some (.inl th), some (.inl (nI (lfb c.1)))] [] M gB0 := by
      refine run [56] 1000 _ _ _ _ _ _ rfl ?_
      conv => whnf
      refine ⟨rfl, rfl, rfl, b, 0, hb, by decide, rfl, rfl, ?_⟩
      rw [show M 927 (26 * b + 0) = nI c.1.length from hc.2.1]
      conv => whnf
      by_cases hlt : lfb c.1 < c.1.length
      · have hlay := hc.lay hlt
        have hat : c.1[lfb c.1]? = some c.1[lfb c.1] := List.getElem?_eq_getElem hlt
        refine ⟨fun h1 => ?_, fun h1 => ?_⟩
        · exact absurd h1 (nI_ge hlt (nI_lt8 hk8))
        · conv => whnf
          refine ⟨rfl, rfl, rfl, b, _, hb, by omega, rfl, rfl, ?_⟩
          rw [hlay.1]
          conv => whnf
          refine ⟨fun h2 => ?_, fun h2 => ?_⟩
          · conv => whnf
            refine new ?_
            unfold mLay
            rw [hat]
            show (if _ then _ else _) = _
            rw [if_neg h2]
          · conv => whnf
            have heq : mLay c.1 pl th = (lGr c.1 (lfb c.1) th, th, pl) := by
              unfold mLay
              rw [hat]
              show (if _ then _ else _) = _
              rw [if_pos h2]
            rw [heq] at h
            refine ⟨rfl, rfl, rfl, b, _, c, hb, rfl, rfl, hc, hlt, fun M1 g1 g2 => ?_⟩
            conv => whnf
            exact ⟨rfl, h M1 g1 (by rw [g2.1 933 (by decide)]; exact hp) (fun j _ => by rw [g2.1 933 (by decide)]) (fun r h4 _ => g2.1 r h4) g2.2⟩
      · refine ⟨fun h1 => ?_, fun h1 => ?_⟩
        · conv => whnf
          refine new ?_
          unfold mLay
          rw [List.getElem?_eq_none (by omega)]
        · exact absurd (nI_le (by omega) (nI_lt8 (by omega))) h1
    refine run [2, 27] 1000 _ _ _ _ _ _ rfl ?_
    conv => whnf
    refine upto (n := lfb c.1) (A := fun k => K 2 [some (.inr (.inl (7, 926))), some (.inl (nI b)), some (.inl th), some (.inl (nI k))] [] M gB0) ?_ (fun k hkl ih => ?_) 0 (Nat.zero_le _)
    · refine run [2, 27] 1000 _ _ _ _ _ _ rfl ?_
      conv => whnf
      refine ⟨rfl, rfl, rfl, b, 0, hb, by decide, rfl, rfl, ?_⟩
      rw [show M 927 (26 * b + 0) = nI c.1.length from hc.2.1]
      conv => whnf
      refine ⟨fun h1 => ?_, fun h1 => ?_⟩
      · conv => whnf
        exact at27
      · have hlt : lfb c.1 < c.1.length := by
          rcases Nat.lt_or_ge (lfb c.1) c.1.length with q | q
          · exact q
          · exact absurd (nI_le q (nI_lt8 (by omega))) h1
        conv => whnf
        refine ⟨rfl, rfl, rfl, b, _, hb, by omega, rfl, rfl, ?_⟩
        rw [(hc.lay hlt).1]
        conv => whnf
        refine ⟨fun h2 => ?_, fun h2 => ?_⟩
        · conv => whnf
          exact at27
        · exact absurd h2 (lfb_not hlt)
    · have hk2 : k < c.1.length := by omega
      refine run [2, 27] 1000 _ _ _ _ _ _ rfl ?_
      conv => whnf
      refine ⟨rfl, rfl, rfl, b, 0, hb, by decide, rfl, rfl, ?_⟩
      rw [show M 927 (26 * b + 0) = nI c.1.length from hc.2.1]
      conv => whnf
      refine ⟨fun h1 => ?_, fun h1 => ?_⟩
      · exact absurd h1 (nI_ge hk2 (nI_lt8 hk8))
      · conv => whnf
        refine ⟨rfl, rfl, rfl, b, _, hb, by omega, rfl, rfl, ?_⟩
        rw [(hc.lay hk2).1]
        conv => whnf
        refine ⟨fun h2 => ?_, fun h2 => ?_⟩
        · exact absurd (lfb_ice hk2 hkl) h2
        · conv => whnf
          rw [nI_1]
          exact ih
  · exact h.elim
