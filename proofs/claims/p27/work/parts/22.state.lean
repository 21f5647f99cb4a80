/-! State and History -/
abbrev St : Type := Cru × (Nat → Cru) × (Nat → Int32) × (Nat → Int32) × (Nat → Int32) × Int32
-- crust, snapshots, filled, settings, accounts, steps
def stR (M : gM) (p : Nat) (S : St) : Prop := crR M (p + 1) S.1 ∧ (∀ j, j < 2 → crR M (p + 43 + 4 + 42 * j) (S.2.1 j)) ∧ (∀ k, k < 2 → M (p + 44) k = S.2.2.1 k) ∧ (∀ k, k < 5 → M (p + 45) k = S.2.2.2.1 k) ∧ (∀ k, k < 6 → M (p + 46) k = S.2.2.2.2.1 k) ∧ M p 5 = S.2.2.2.2.2
theorem stR.fn {M M' : gM} {p q n : Nat} {S : St} (h : stR M q S) (hf : gFn M M' p n) (hd : q + 131 ≤ p ∨ p + n ≤ q) : stR M' q S := by
  obtain ⟨h1, h2, h3, h4, h5, h6⟩ := h
  refine ⟨h1.fn hf (by omega), fun j hj => (h2 j hj).fn hf (by omega), fun k hk => ?_, fun k hk => ?_, fun k hk => ?_, ?_⟩
  · rw [hf (q + 44) (by omega)]; exact h3 k hk
  · rw [hf (q + 45) (by omega)]; exact h4 k hk
  · rw [hf (q + 46) (by omega)]; exact h5 k hk
  · rw [hf q (by omega)]; exact h6
theorem gFn.cp {M : gM} {p n q0 q1 k : Nat} (h1 : p ≤ q1) (h2 : q1 < p + n) : gFn M (gCp M q0 q1 k) p n := fun q' hq => gCp_row (by omega)
def f_X3_copyFrom : gF := fun av M post => match av with
  | [.inr (.inl (3, p)), .inr (.inl (3, q))] => ∃ S, stR M q S ∧ (q + 131 ≤ p ∨ p + 131 ≤ q) ∧ ∀ M', stR M' p S → gFn M M' p 131 → post none M'
  | _ => False
theorem lk_X3_copyFrom (l : Launch) : gLinks l RX3 3 [(gTn f_X1_copyFrom, 0, 0, 1)] pX3_copyFrom := And.intro gf_RX3_12 (And.intro gf_RX3_12 (And.intro ⟨gTn f_X1_copyFrom, 1, yX1_copyFrom, cX1_copyFrom, 3, none, 2, _, rfl, by decide, yi_yX1_copyFrom, ok_X1_copyFrom l, by decide, by decide, rfl, rfl, ml_RX3_41, im_yX1_copyFrom, se_yX1_copyFrom⟩ (And.intro gf_RX3_18 (And.intro gf_RX3_18 (And.intro ⟨gTn f_X1_copyFrom, 1, yX1_copyFrom, cX1_copyFrom, 3, none, 2, _, rfl, by decide, yi_yX1_copyFrom, ok_X1_copyFrom l, by decide, by decide, rfl, rfl, ml_RX3_41, im_yX1_copyFrom, se_yX1_copyFrom⟩ (And.intro gf_RX3_22 (And.intro gf_RX3_22 (And.intro ⟨by decide, ml_RX3_35⟩ (And.intro gf_RX3_26 (And.intro gf_RX3_26 (And.intro ⟨by decide, ml_RX3_35⟩ (And.intro gf_RX3_29 (And.intro gf_RX3_29 (And.intro ⟨by decide, ml_RX3_35⟩ (And.intro gf_RX3_45 (And.intro gf_RX3_45 (trivial)))))))))))))))))
theorem ok_X3_copyFrom (l : Launch) : gOK l yX3_copyFrom cX3_copyFrom 3 none 3 0 0 (gTn f_X3_copyFrom) := by
  refine gM_of (by decide +kernel) pX3_copyFrom_ok (lk_X3_copyFrom l) ?_
  intro SL SX K P av M run h
  unfold f_X3_copyFrom at h
  split at h
  · rename_i p q
    obtain ⟨S, hS, hd, h⟩ := h
    refine ⟨⟨by simp [gC1], Nat.le_of_ble_eq_true rfl⟩, ?_⟩
    refine run [13] 1000 _ _ _ _ _ _ rfl ?_
    conv => whnf
    refine ⟨rfl, rfl, S.1, hS.1, by show q + 1 + 42 ≤ p + 1 ∨ p + 1 + 42 ≤ q + 1; omega, fun M1 g1 g2 => ?_⟩
    conv => whnf
    refine upto (n := 2) (A := fun k => ∀ M', crR M' (p + 1) S.1 → (∀ i, i < k → crR M' (p + 43 + 4 + 42 * i) (S.2.1 i)) → gFn M M' p 131 → K 13 [some (.inr (.inl (3, p))), some (.inr (.inl (3, q))), some (.inl (nI k))] [] M' gB0) ?_ (fun k hk ih => ?_) 0 (Nat.zero_le _) M1 g1 (fun i hi => absurd hi (Nat.not_lt_zero i)) (g2.mono (by omega) (by omega))
    · intro M' h1 h2 h3
      have hS' := hS.fn h3 (by omega)
      refine run [13] 1000 _ _ _ _ _ _ rfl ?_
      conv => whnf
      refine ⟨fun h4 => ?_, fun h4 => ?_⟩
      · conv => whnf
        refine ⟨⟨rfl, rfl, rfl⟩, ?_⟩
        conv => whnf
        refine ⟨⟨rfl, rfl, rfl⟩, ?_⟩
        conv => whnf
        refine ⟨⟨rfl, rfl, rfl⟩, ?_⟩
        conv => whnf
        have f1 : gFn M' (gCp M' (q + 44) (p + 44) 2) (p + 44) 1 := gFn.cp (by omega) (by omega)
        generalize hM2 : gCp M' (q + 44) (p + 44) 2 = M2 at f1 ⊢
        have f2 : gFn M2 (gCp M2 (q + 45) (p + 45) 5) (p + 45) 1 := gFn.cp (by omega) (by omega)
        generalize hM3 : gCp M2 (q + 45) (p + 45) 5 = M3 at f2 ⊢
        have f3 : gFn M3 (gCp M3 (q + 46) (p + 46) 6) (p + 46) 1 := gFn.cp (by omega) (by omega)
        generalize hM4 : gCp M3 (q + 46) (p + 46) 6 = M4 at f3 ⊢
        have f4 : gFn M4 (gUp M4 p 5 (M4 q 5)) p 1 := gFn.up (by omega) (by omega)
        have f14 : gFn M' M4 p 131 := ((f1.mono (by omega) (by omega)).tr (f2.mono (by omega) (by omega))).tr (f3.mono (by omega) (by omega))
        obtain ⟨q1, q2, q3, q4, q5, q6⟩ := hS'
        refine ⟨rfl, h _ ⟨?_, fun j hj => ?_, fun k hk => ?_, fun k hk => ?_, fun k hk => ?_, ?_⟩ (h3.tr (f14.tr (f4.mono (by omega) (by omega))))⟩
        · exact (((h1.fn f1 (by omega)).fn f2 (by omega)).fn f3 (by omega)).fn f4 (by omega)
        · exact ((((h2 j hj).fn f1 (by omega)).fn f2 (by omega)).fn f3 (by omega)).fn f4 (by omega)
        · rw [f4 _ (by omega), f3 _ (by omega), f2 _ (by omega), ← hM2, gCp_in hk]
          exact q3 k hk
        · rw [f4 _ (by omega), f3 _ (by omega), ← hM3, gCp_in hk, f1 _ (by omega)]
          exact q4 k hk
        · rw [f4 _ (by omega), ← hM4, gCp_in hk, f2 _ (by omega), f1 _ (by omega)]
          exact q5 k hk
        · rw [gUp_same, f14 _ (by omega)]
          exact q6
      · exact absurd (nI_le (Nat.le_refl 2) (by decide)) h4
    · intro M' h1 h2 h3
      have e : (nI k).toNatClampNeg = k := nI_clamp (by omega)
      have hc := ((hS.fn h3 (by omega)).2.1) k hk
      refine run [13] 1000 _ _ _ _ _ _ rfl ?_
      conv => whnf
      refine ⟨fun h4 => ?_, fun h4 => ?_⟩
      · exact absurd h4 (nI_ge hk (by decide))
      · conv => whnf
        refine ⟨⟨vp_in_nI (N := 2) (by omega) (by decide), rfl⟩, ?_⟩
        conv => whnf
        refine ⟨⟨vp_in_nI (N := 2) (by omega) (by decide), rfl⟩, ?_⟩
        conv => whnf
        rw [e]
        refine ⟨rfl, rfl, S.2.1 k, hc, ?_, fun M2 g1 g2 => ?_⟩
        · show q + 43 + 4 + 42 * k + 42 ≤ p + 43 + 4 + 42 * k ∨ p + 43 + 4 + 42 * k + 42 ≤ q + 43 + 4 + 42 * k
          omega
        · conv => whnf
          rw [nI_1]
          have g2 : gFn M' M2 (p + 43 + 4 + 42 * k + 2) 40 := g2
          refine ih M2 (h1.fn g2 (by omega)) (fun i hi => ?_) (h3.tr (g2.mono (by omega) (by omega)))
          by_cases hik : i = k
          · subst hik
            exact g1
          · exact (h2 i (by omega)).fn g2 (by omega)
  · exact h.elim
def f_X3_filledPlaces : gF := fun av M post => match av with
  | [.inr (.inl (3, p))] => ∃ S, stR M p S ∧ post (some (.inl (0 + S.2.2.1 0 + S.2.2.1 1))) M
  | _ => False
theorem lk_X3_filledPlaces (l : Launch) : gLinks l RX3 0 [] pX3_filledPlaces := And.intro gf_RX3_22 (trivial)
theorem ok_X3_filledPlaces (l : Launch) : gOK l yX3_filledPlaces cX3_filledPlaces 3 (some .int) 0 0 0 (gTn f_X3_filledPlaces) := by
  refine gM_of (by decide +kernel) pX3_filledPlaces_ok (lk_X3_filledPlaces l) ?_
  intro SL SX K P av M run h
  unfold f_X3_filledPlaces at h
  split at h
  · rename_i p
    obtain ⟨S, hS, h⟩ := h
    refine ⟨⟨by simp [gC1], Nat.le_of_ble_eq_true rfl⟩, ?_⟩
    have a0 := hS.2.2.1 0 (by decide)
    have a1 := hS.2.2.1 1 (by decide)
    refine run [] 1000 _ _ _ _ _ _ rfl ?_
    conv => whnf
    refine ⟨fun h1 => ?_, fun h1 => ?_⟩
    · exact absurd h1 (by decide)
    · conv => whnf
      refine ⟨vp_in_nI (n := 0) (by decide) (by decide), ?_⟩
      conv => whnf
      refine ⟨fun h2 => ?_, fun h2 => ?_⟩
      · exact absurd h2 (by decide)
      · conv => whnf
        refine ⟨vp_in_nI (n := 1) (by decide) (by decide), ?_⟩
        conv => whnf
        refine ⟨fun h3 => ?_, fun h3 => ?_⟩
        · conv => whnf
          rw [show (0 : Int32).toNatClampNeg = 0 from rfl, show (0 + 1 : Int32).toNatClampNeg = 1 from rfl, a0, a1]
          exact ⟨rfl, h⟩
        · exact absurd (by decide) h3
  · exact h.elim
/-- the ring of states, oldest first -/
def hiR (M : gM) (p : Nat) (hs : List St) : Prop := hs.length ≤ 5 ∧ ∃ o, o < 5 ∧ M p 1 = nI o ∧ M p 2 = nI hs.length ∧ ∀ (i : Nat) (S : St), hs[i]? = some S → stR M (p + 1 + 1 + 131 * ((o + i) % 5)) S
theorem hiR.fn {M M' : gM} {p q n : Nat} {hs : List St} (h : hiR M q hs) (hf : gFn M M' p n) (hd : q + 657 ≤ p ∨ p + n ≤ q) : hiR M' q hs := by
  obtain ⟨h0, o, h1, h2, h3, h4⟩ := h
  refine ⟨h0, o, h1, by rw [hf q (by omega)]; exact h2, by rw [hf q (by omega)]; exact h3, fun i S hi => (h4 i S hi).fn hf ?_⟩
  have : (o + i) % 5 < 5 := Nat.mod_lt _ (by decide)
  omega
theorem rem5 {a : Nat} (ha : a < 2 ^ 31) : nI a - nI a / 5 * 5 = nI (a % 5) := pk_rem (d := 5) ha (by decide) (by decide)
def hKeep (hs : List St) (S : St) : List St := (if hs.length = 5 then hs.tail else hs) ++ [S]
def f_X2_keep : gF := fun av M post => match av with
  | [.inr (.inl (2, p)), .inr (.inl (3, q))] => ∃ hs S, hiR M p hs ∧ stR M q S ∧ (q + 131 ≤ p ∨ p + 657 ≤ q) ∧ ∀ M', hiR M' p (hKeep hs S) → gFn M M' p 657 → post none M'
  | _ => False
/-- the ring behind one more state: o the oldest, n the others -/
theorem hi_add {M M' : gM} {p o : Nat} {hs : List St} {S : St} (hn : hs.length < 5) (ho : o < 5) (h4 : ∀ (i : Nat) (T : St), hs[i]? = some T → stR M (p + 1 + 1 + 131 * ((o + i) % 5)) T) (hM1 : M' p 1 = nI o) (hM2 : M' p 2 = nI (hs.length + 1))
    (hf : ∀ r, r ≠ p → (r < p + 2 + 131 * ((o + hs.length) % 5) ∨ p + 2 + 131 * ((o + hs.length) % 5) + 131 ≤ r) → M' r = M r) (hS : stR M' (p + 2 + 131 * ((o + hs.length) % 5)) S) : hiR M' p (hs ++ [S]) := by
  refine ⟨by simp; omega, o, ho, hM1, by simpa using hM2, fun i T hi => ?_⟩
  by_cases hil : i < hs.length
  · rw [List.getElem?_append_left hil] at hi
    have hne : (o + i) % 5 ≠ (o + hs.length) % 5 := by omega
    have hlt : (o + i) % 5 < 5 := Nat.mod_lt _ (by decide)
    have hlt2 : (o + hs.length) % 5 < 5 := Nat.mod_lt _ (by decide)
    obtain ⟨a1, a2, a3, a4, a5, a6⟩ := h4 i T hi
    generalize (o + i) % 5 = u at *
    generalize (o + hs.length) % 5 = w at *
    have hf' : ∀ r, p + 1 + 1 + 131 * u ≤ r → r < p + 1 + 1 + 131 * u + 131 → M' r = M r := fun r g1 g2 => hf r (by omega) (by omega)
    refine ⟨fun j hj => (a1 j hj).kept fun r g1 g2 => hf' r (by omega) (by omega), fun j hj j2 hj2 => (a2 j hj j2 hj2).kept fun r g1 g2 => hf' r (by omega) (by omega), fun k hk => ?_, fun k hk => ?_, fun k hk => ?_, ?_⟩
    · rw [hf' _ (by omega) (by omega)]; exact a3 k hk
    · rw [hf' _ (by omega) (by omega)]; exact a4 k hk
    · rw [hf' _ (by omega) (by omega)]; exact a5 k hk
    · rw [hf' _ (by omega) (by omega)]; exact a6
  · rw [List.getElem?_append_right (by omega)] at hi
    have : i = hs.length := by
      have := (List.getElem?_eq_some_iff.mp hi).1
      simp at this
      omega
    subst this
    rw [Nat.sub_self] at hi
    cases hi
    exact hS
theorem lk_X2_keep (l : Launch) : gLinks l RX2 4 [(gTn f_X3_copyFrom, 0, 0, 3)] pX2_keep := And.intro gf_RX2_18 (And.intro gf_RX2_22 (And.intro gf_RX2_22 (And.intro gf_RX2_18 (And.intro gf_RX2_18 (And.intro gf_RX2_11 (And.intro gf_RX2_22 (And.intro gf_RX2_18 (And.intro ⟨gTn f_X3_copyFrom, 3, yX3_copyFrom, cX3_copyFrom, 3, none, 3, _, rfl, by decide, yi_yX3_copyFrom, ok_X3_copyFrom l, by decide, by decide, rfl, rfl, ml_RX2_25, im_yX3_copyFrom, se_yX3_copyFrom⟩ (And.intro gf_RX2_18 (And.intro gf_RX2_18 (trivial)))))))))))
theorem ok_X2_keep (l : Launch) : gOK l yX2_keep cX2_keep 2 none 4 0 0 (gTn f_X2_keep) := by
  refine gM_of (by decide +kernel) pX2_keep_ok (lk_X2_keep l) ?_
  intro SL SX K P av M run h
  unfold f_X2_keep at h
  split at h
  · rename_i p q
    obtain ⟨hs, S, hH, hS, hd, h⟩ := h
    refine ⟨⟨by simp [gC1], Nat.le_of_ble_eq_true rfl⟩, ?_⟩
    have half : ∀ (hs' : List St) (o : Nat) (M1 : gM), hs'.length < 5 → o < 5 → M1 p 1 = nI o → M1 p 2 = nI hs'.length → (∀ (i : Nat) (T : St), hs'[i]? = some T → stR M1 (p + 1 + 1 + 131 * ((o + i) % 5)) T) → gFn M M1 p 1 → (∀ M', hiR M' p (hs' ++ [S]) → gFn M M' p 657 → P none M') → K 30 [some (.inr (.inl (2, p))), some (.inr (.inl (3, q)))] [] M1 gB0 := by
      intro hs' o M1 hn ho h1 h2 h4 hf h
      have hlt2 : (o + hs'.length) % 5 < 5 := Nat.mod_lt _ (by decide)
      have e : (nI ((o + hs'.length) % 5)).toNatClampNeg = (o + hs'.length) % 5 := nI_clamp (by omega)
      refine run [] 1000 _ _ _ _ _ _ rfl ?_
      conv => whnf
      refine ⟨by decide, ?_⟩
      conv => whnf
      rw [h1, h2, nI_add, rem5 (by omega)]
      refine ⟨⟨vp_in_nI (N := 5) (by omega) (by decide), rfl⟩, ?_⟩
      conv => whnf
      rw [e]
      refine ⟨rfl, rfl, S, hS.fn hf (by omega), ?_, fun M2 g1 g2 => ?_⟩
      · show q + 131 ≤ p + 1 + 1 + 131 * ((o + hs'.length) % 5) ∨ p + 1 + 1 + 131 * ((o + hs'.length) % 5) + 131 ≤ q
        omega
      · have g2 : gFn M1 M2 (p + 1 + 1 + 131 * ((o + hs'.length) % 5)) 131 := g2
        conv => whnf
        refine ⟨rfl, h _ (hi_add (M := M1) hn ho h4 ?_ ?_ (fun r g3 g4 => ?_) ?_) ?_⟩
        · rw [gUp_ne (Or.inr (by decide)), g2 p (by omega)]
          exact h1
        · rw [gUp_same, g2 p (by omega), h2, nI_1]
        · rw [gUp_row g3]
          exact g2 r (by omega)
        · exact (show stR M2 (p + 1 + 1 + 131 * ((o + hs'.length) % 5)) S from g1).fn (gFn.up (p := p) (n := 1) (by omega) (by omega)) (by omega)
        · exact (hf.mono (by omega) (by omega)).tr ((g2.mono (by omega) (by omega)).tr (gFn.up (by omega) (by omega)))
    obtain ⟨h0, o, h1, h2, h3, h4⟩ := hH
    refine run [30] 1000 _ _ _ _ _ _ rfl ?_
    conv => whnf
    rw [h3]
    unfold hKeep at h
    refine ⟨fun h5 => ?_, fun h5 => ?_⟩
    · conv => whnf
      have hn : ¬ hs.length = 5 := fun e => by rw [e] at h5; exact absurd rfl h5
      rw [if_neg hn] at h
      exact half hs o M (by omega) h1 h2 h3 h4 (gFn.rf _ _ _) h
    · refine ⟨by decide, ?_⟩
      conv => whnf
      have hn : hs.length = 5 := (nI_eq (b := 5) (nI_lt8 (by omega)) (by decide)).mp h5
      rw [if_pos hn] at h
      rw [h2, gUp_ne (q' := p) (k' := 2) (Or.inr (by decide)), h3, hn, nI_1, rem5 (by omega), show nI 5 - 1 = nI 4 from rfl]
      refine half hs.tail ((o + 1) % 5) _ (by simp; omega) (Nat.mod_lt _ (by decide)) ?_ ?_ (fun i T hi => ?_) ((gFn.up (by omega) (by omega)).tr (gFn.up (by omega) (by omega))) h
      · rw [gUp_ne (Or.inr (by decide)), gUp_same]
      · rw [gUp_same, List.length_tail, hn]
      · have hi : hs[i + 1]? = some T := by
          rw [List.getElem?_tail] at hi
          exact hi
        have := (h4 (i + 1) T hi)
        rw [show (o + (i + 1)) % 5 = ((o + 1) % 5 + i) % 5 by omega] at this
        exact (this.fn (gFn.up (p := p) (n := 1) (by omega) (by omega)) (by omega)).fn (gFn.up (p := p) (n := 1) (by omega) (by omega)) (by omega)
  · exact h.elim
def f_X2_giveBack : gF := fun av M post => match av with
  | [.inr (.inl (2, p)), .inr (.inl (3, q))] => ∃ hs S, hiR M p (hs ++ [S]) ∧ (q + 131 ≤ p ∨ p + 657 ≤ q) ∧ ∀ M', hiR M' p hs → stR M' q S → (∀ r, r ≠ p → (r < q ∨ q + 131 ≤ r) → M' r = M r) → post none M'
  | _ => False
theorem lk_X2_giveBack (l : Launch) : gLinks l RX2 4 [(gTn f_X3_copyFrom, 0, 0, 3)] pX2_giveBack := And.intro gf_RX2_18 (And.intro gf_RX2_18 (And.intro gf_RX2_18 (And.intro gf_RX2_11 (And.intro gf_RX2_22 (And.intro gf_RX2_18 (And.intro ⟨gTn f_X3_copyFrom, 3, yX3_copyFrom, cX3_copyFrom, 3, none, 3, _, rfl, by decide, yi_yX3_copyFrom, ok_X3_copyFrom l, by decide, by decide, rfl, rfl, ml_RX2_25, im_yX3_copyFrom, se_yX3_copyFrom⟩ (trivial)))))))
theorem ok_X2_giveBack (l : Launch) : gOK l yX2_giveBack cX2_giveBack 2 none 4 0 0 (gTn f_X2_giveBack) := by
  refine gM_of (by decide +kernel) pX2_giveBack_ok (lk_X2_giveBack l) ?_
  intro SL SX K P av M run h
  unfold f_X2_giveBack at h
  split at h
  · rename_i p q
    obtain ⟨hs, S, ⟨h0, o, h1, h2, h3, h4⟩, hd, h⟩ := h
    refine ⟨⟨by simp [gC1], Nat.le_of_ble_eq_true rfl⟩, ?_⟩
    have hn : hs.length < 5 := by simp at h0; omega
    have hlt2 : (o + hs.length) % 5 < 5 := Nat.mod_lt _ (by decide)
    have e : (nI ((o + hs.length) % 5)).toNatClampNeg = (o + hs.length) % 5 := nI_clamp (by omega)
    have h3 : M p 2 = nI (hs.length + 1) := by simpa using h3
    have hf1 : gFn M (gUp M p 2 (nI hs.length)) p 1 := gFn.up (by omega) (by omega)
    have hS := (h4 hs.length S (by simp)).fn hf1 (by omega)
    refine run [] 1000 _ _ _ _ _ _ rfl ?_
    conv => whnf
    rw [h3]
    refine ⟨fun h5 => ?_, fun h5 => ?_⟩
    · conv => whnf
      refine ⟨by decide, ?_⟩
      conv => whnf
      rw [h3, nI_pred, gUp_same, gUp_ne (q' := p) (k' := 1) (Or.inr (by decide)), h2, nI_add, rem5 (by omega)]
      refine ⟨⟨vp_in_nI (N := 5) (by omega) (by decide), rfl⟩, ?_⟩
      conv => whnf
      rw [e]
      refine ⟨rfl, rfl, S, hS, ?_, fun M2 g1 g2 => ?_⟩
      · show p + 1 + 1 + 131 * ((o + hs.length) % 5) + 131 ≤ q ∨ q + 131 ≤ p + 1 + 1 + 131 * ((o + hs.length) % 5)
        omega
      · conv => whnf
        have g2 : gFn (gUp M p 2 (nI hs.length)) M2 q 131 := g2
        refine ⟨rfl, h M2 ⟨by omega, o, h1, ?_, ?_, fun i T hi => ?_⟩ g1 (fun r g3 g4 => ?_)⟩
        · rw [g2 p (by omega), gUp_ne (Or.inr (by decide))]
          exact h2
        · rw [g2 p (by omega), gUp_same]
        · have hil := (List.getElem?_eq_some_iff.mp hi).1
          have hlt : (o + i) % 5 < 5 := Nat.mod_lt _ (by decide)
          exact ((h4 i T (by rw [List.getElem?_append_left hil]; exact hi)).fn hf1 (by omega)).fn g2 (by omega)
        · rw [g2 r (by omega), gUp_row g3]
    · exact absurd h5 (nI_ne0 (by omega) (nI_lt8 (by omega)))
  · exact h.elim
def f_X6_isBlock : gF := fun av M post => match av with
  | [.inl v] => post (some (.inl (if 0 ≤ v ∧ v ≤ 9 then 1 else 0))) M
  | _ => False
theorem lk_X6_isBlock (l : Launch) : gLinks l RX6 1 [(gTn f_X6_isWithin, 0, 0, 99)] pX6_isBlock := And.intro ⟨gTn f_X6_isWithin, 99, yX6_isWithin, cX6_isWithin, 3, (some .boolean), 0, rfl, yi_yX6_isWithin, ok_X6_isWithin l, by decide, Or.inl ml_RX6_47, sm_yX6_isWithin⟩ (trivial)
theorem ok_X6_isBlock (l : Launch) : gOK l yX6_isBlock cX6_isBlock 1 (some .boolean) 1 0 0 (gTn f_X6_isBlock) := by
  refine gM_of (by decide +kernel) pX6_isBlock_ok (lk_X6_isBlock l) ?_
  intro SL SX K P av M run h
  unfold f_X6_isBlock at h
  split at h
  · refine ⟨⟨by simp [gC1], Nat.le_of_ble_eq_true rfl⟩, ?_⟩
    refine run [] 1000 _ _ _ _ _ _ rfl ?_
    conv => whnf
    refine ⟨rfl, rfl, ?_⟩
    conv => whnf
    refine ⟨rfl, ?_, h⟩
    split
    · exact Or.inr rfl
    · exact Or.inl rfl
  · exact h.elim
def f_X6_isKind : gF := fun av M post => match av with
  | [.inl v] => post (some (.inl (if 0 ≤ v ∧ v ≤ 2 then 1 else 0))) M
  | _ => False
theorem lk_X6_isKind (l : Launch) : gLinks l RX6 1 [(gTn f_X6_isWithin, 0, 0, 99)] pX6_isKind := And.intro ⟨gTn f_X6_isWithin, 99, yX6_isWithin, cX6_isWithin, 3, (some .boolean), 0, rfl, yi_yX6_isWithin, ok_X6_isWithin l, by decide, Or.inl ml_RX6_47, sm_yX6_isWithin⟩ (trivial)
theorem ok_X6_isKind (l : Launch) : gOK l yX6_isKind cX6_isKind 1 (some .boolean) 1 0 0 (gTn f_X6_isKind) := by
  refine gM_of (by decide +kernel) pX6_isKind_ok (lk_X6_isKind l) ?_
  intro SL SX K P av M run h
  unfold f_X6_isKind at h
  split at h
  · refine ⟨⟨by simp [gC1], Nat.le_of_ble_eq_true rfl⟩, ?_⟩
    refine run [] 1000 _ _ _ _ _ _ rfl ?_
    conv => whnf
    refine ⟨rfl, rfl, ?_⟩
    conv => whnf
    refine ⟨rfl, ?_, h⟩
    split
    · exact Or.inr rfl
    · exact Or.inl rfl
  · exact h.elim
def f_X6_isPlace : gF := fun av M post => match av with
  | [.inl v] => post (some (.inl (if 0 ≤ v ∧ v ≤ 1 then 1 else 0))) M
  | _ => False
theorem lk_X6_isPlace (l : Launch) : gLinks l RX6 1 [(gTn f_X6_isWithin, 0, 0, 99)] pX6_isPlace := And.intro ⟨gTn f_X6_isWithin, 99, yX6_isWithin, cX6_isWithin, 3, (some .boolean), 0, rfl, yi_yX6_isWithin, ok_X6_isWithin l, by decide, Or.inl ml_RX6_47, sm_yX6_isWithin⟩ (trivial)
theorem ok_X6_isPlace (l : Launch) : gOK l yX6_isPlace cX6_isPlace 1 (some .boolean) 1 0 0 (gTn f_X6_isPlace) := by
  refine gM_of (by decide +kernel) pX6_isPlace_ok (lk_X6_isPlace l) ?_
  intro SL SX K P av M run h
  unfold f_X6_isPlace at h
  split at h
  · refine ⟨⟨by simp [gC1], Nat.le_of_ble_eq_true rfl⟩, ?_⟩
    refine run [] 1000 _ _ _ _ _ _ rfl ?_
    conv => whnf
    refine ⟨rfl, rfl, ?_⟩
    conv => whnf
    refine ⟨rfl, ?_, h⟩
    split
    · exact Or.inr rfl
    · exact Or.inl rfl
  · exact h.elim
