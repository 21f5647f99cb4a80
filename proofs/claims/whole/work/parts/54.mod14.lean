/-! the model: layers -/
def gFm (M M' : gM) : Prop := ∀ r, r < 926 → M' r = M r
theorem gFm.rf (M : gM) : gFm M M := fun _ _ => rfl
theorem gFm.tr {M M1 M2 : gM} (h : gFm M M1) (h2 : gFm M1 M2) : gFm M M2 := fun r a => (h2 r a).trans (h r a)
theorem gFm.up (M : gM) {q : Nat} (k : Nat) (x : Int32) (h : 926 ≤ q) : gFm M (gUp M q k x) := fun r a => gUp_row (by omega)
theorem gFs.fm {M M' : gM} {a n : Nat} (h : gFs M M' a n) : gFm M M' := fun r b => h.1 r (by omega)
theorem gFk.fm {M M' : gM} (h : gFk M M') : gFm M M' := fun r b => h.1 r (by omega) (by omega)
def mQ (M : gM) (o : Op) (post : Option gV → gM → Prop) : Prop := ∀ M', moR M' o.2 → gFm M M' → post (some (.inl o.1)) M'
theorem mQ.no {M M' : gM} {o : Op} {σ : Wd} {r : Int32} {post : Option gV → gM → Prop} (h : mQ M o post) (hM : moR M' σ) (hf : gFm M M') (e : o = (r, σ)) : post (some (.inl r)) M' := by
  subst e
  exact h M' hM hf
theorem moR.th {M : gM} {σ : Wd} (h : moR M σ) : moR (gUp M 926 0 0) σ := by
  obtain ⟨h1, ⟨a1, a2, a3⟩, b1, b2, b3⟩ := h
  refine ⟨?_, ⟨a1, ?_, fun i S hi => ?_⟩, b1, ?_, fun k hk => ?_⟩
  · rw [gUp_row (by decide)]; exact h1
  · rw [gUp_ne (Or.inr (by decide))]; exact a2
  · rw [gUp_row (by decide)]; exact a3 i S hi
  · rw [gUp_ne (Or.inr (by decide))]; exact b2
  · rw [gUp_row (by decide)]; exact b3 k hk
theorem moR.act {M M' : gM} {σ : Wd} (h : moR M σ) (hh : mhR M' (hKeep σ.2.1 σ.1)) (hf : gFk M M') : moR M' (wAct σ σ.1) := by
  obtain ⟨h1, -, b1, b2, b3⟩ := h
  refine ⟨?_, hh, b1, ?_, fun k hk => ?_⟩
  · rw [hf.1 927 (by decide) (by decide)]; exact h1
  · rw [hf.2 6 (by decide)]; exact b2
  · rw [hf.1 930 (by decide) (by decide)]; exact b3 k hk
theorem moR.st {M M' : gM} {σ : Wd} {S : St} (h : moR M σ) (hS : msR (M' 927) S) (hf : ∀ r, r ≠ 927 → M' r = M r) : moR M' (S, σ.2) := by
  obtain ⟨h1, ⟨a1, a2, a3⟩, b1, b2, b3⟩ := h
  refine ⟨hS, ⟨a1, ?_, fun i S hi => ?_⟩, b1, ?_, fun k hk => ?_⟩
  · rw [hf 926 (by decide)]; exact a2
  · rw [hf 929 (by decide)]; exact a3 i S hi
  · rw [hf 926 (by decide)]; exact b2
  · rw [hf 930 (by decide)]; exact b3 k hk
theorem has_l {l : Int32} {n : Nat} (hn : n ≤ 8) : (0 ≤ l ∧ l ≤ nI n - 1) ↔ ∃ i, i < n ∧ l = nI i := by
  constructor
  · rintro ⟨h1, h2⟩
    obtain ⟨i, hi, rfl⟩ := nI_of0 h1
    cases n with
    | zero =>
      exact absurd (Int32.le_trans h1 h2) (by decide)
    | succ m =>
      rw [nI_pred] at h2
      exact ⟨i, Nat.lt_succ_of_le ((nI_leI hi (by omega)).mp h2), rfl⟩
  · rintro ⟨i, hi, rfl⟩
    cases n with
    | zero => exact absurd hi (Nat.not_lt_zero i)
    | succ m =>
      rw [nI_pred]
      exact ⟨nI_pos' (by omega), nI_le (by omega) (by omega)⟩
def f_X7_removeLayer : gF := fun av M post => match av with
  | [.inr (.inl (7, p)), .inl b, .inl l] => p = 926 ∧ ∃ σ, moR M σ ∧ mQ M (oRem σ b l) post
  | _ => False
theorem lk_X7_removeLayer (l : Launch) : gLinks l RX7 3 [(gTn f_X7_isLayer, 0, 0, 7), (gTn f_X7_act, 0, 0, 7), (gTn f_X7_at, 0, 0, 99), (gTn f_X7_weightOf, 0, 0, 7), (gTn f_X7_takeOut, 0, 0, 7)] pX7_removeLayer := And.intro gf_RX7_31 (And.intro ⟨gTn f_X7_isLayer, 7, yX7_isLayer, cX7_isLayer, 3, (some .boolean), 2, _, rfl, by decide, yi_yX7_isLayer, ok_X7_isLayer l, by decide, by decide, rfl, rfl, ml_RX7_80, im_yX7_isLayer, se_yX7_isLayer⟩ (And.intro kc_RX7_71 (And.intro ⟨gTn f_X7_act, 7, yX7_act, cX7_act, 2, none, 0, _, rfl, by decide, yi_yX7_act, ok_X7_act l, by decide, by decide, rfl, rfl, ml_RX7_73, im_yX7_act, se_yX7_act⟩ (And.intro gf_RX7_7 (And.intro ⟨gTn f_X7_at, 99, yX7_at, cX7_at, 2, (some .int), 0, rfl, yi_yX7_at, ok_X7_at l, by decide, Or.inl ml_RX7_42, sm_yX7_at⟩ (And.intro gf_RX7_7 (And.intro ⟨gTn f_X7_weightOf, 7, yX7_weightOf, cX7_weightOf, 3, (some .int), 1, _, rfl, by decide, yi_yX7_weightOf, ok_X7_weightOf l, by decide, by decide, rfl, rfl, ml_RX7_53, im_yX7_weightOf, se_yX7_weightOf⟩ (And.intro ⟨gTn f_X7_takeOut, 7, yX7_takeOut, cX7_takeOut, 4, none, 1, _, rfl, by decide, yi_yX7_takeOut, ok_X7_takeOut l, by decide, by decide, rfl, rfl, ml_RX7_63, im_yX7_takeOut, se_yX7_takeOut⟩ (trivial)))))))))
theorem ok_X7_removeLayer (l : Launch) : gOK l yX7_removeLayer cX7_removeLayer 4 (some .int) 3 0 0 (gTn f_X7_removeLayer) := by
  refine gM_of (by decide +kernel) pX7_removeLayer_ok (lk_X7_removeLayer l) ?_
  intro SL SX K P av M run h
  unfold f_X7_removeLayer at h
  split at h
  · rename_i p b l
    obtain ⟨rfl, σ, hσ0, h⟩ := h
    refine ⟨⟨by simp [gC1], Nat.le_of_ble_eq_true rfl⟩, ?_⟩
    have hσ := hσ0.th
    have f0 := gFm.up M (q := 926) 0 0 (Nat.le_refl _)
    refine run [] 1000 _ _ _ _ _ _ rfl ?_
    conv => whnf
    refine ⟨rfl, rfl, rfl, fun hb => ?_, fun hb => ?_⟩
    · conv => whnf
      refine ⟨fun h1 => ?_, fun h1 => ?_⟩
      · exact absurd rfl h1
      · conv => whnf
        exact ⟨rfl, h.no hσ f0 (if_neg (fun q => hb q.1))⟩
    · obtain ⟨j, hj, rfl⟩ := nI_bd (n := 9) (by decide) hb.1 hb.2
      have e : (nI j).toNatClampNeg = j := nI_clamp (by omega)
      have hc := hσ.1.1 j (by omega)
      have h8 := hc.1
      refine ⟨j, _, by omega, rfl, hc, ?_⟩
      unfold oRem at h
      rw [e] at h
      by_cases hl : 0 ≤ l ∧ l ≤ nI (σ.1.1 j).1.length - 1
      · rw [if_pos hl]
        obtain ⟨i, hi, rfl⟩ := (has_l h8).mp hl
        have e2 : (nI i).toNatClampNeg = i := nI_clamp (by omega)
        rw [if_pos ⟨hb, hl.1⟩, e2, List.getElem?_eq_getElem hi] at h
        dsimp only at h
        conv => whnf
        refine ⟨fun h1 => ?_, fun h1 => ?_⟩
        · conv => whnf
          refine ⟨rfl, rfl, rfl, _, _, hσ.2.1, hσ.1, fun M1 g1 g2 => ?_⟩
          have k1 := hσ.act g1 g2
          have c1 : mcR (M1 927) (26 * j) (σ.1.1 j) := k1.1.1 j (by omega)
          have y := c1.lay hi
          conv => whnf
          refine ⟨rfl, rfl, j, i, rfl, rfl, ?_⟩
          conv => whnf
          rw [show nI (26 * j + 2 + 3 * i) + 2 = nI (26 * j + 2 + 3 * i + 2) from nI_add _ 2]
          refine ⟨vp_in_nI (by omega) (by decide), ?_⟩
          conv => whnf
          rw [nI_clamp (by omega), y.2.2]
          refine ⟨vp_in_nI (n := 267) (by decide) (by decide), ?_⟩
          conv => whnf
          refine ⟨rfl, rfl, rfl, j, i, by omega, by omega, rfl, rfl, ?_⟩
          rw [y.2.1, y.2.2]
          conv => whnf
          refine ⟨vp_in_nI (n := 267) (by decide) (by decide), ?_⟩
          conv => whnf
          have s2 := k1.1.accM (k := 1) (by decide) ((σ.1.1 j).1[i].2.1 * (σ.1.1 j).1[i].2.2)
          refine ⟨rfl, rfl, rfl, j, i, _, by omega, rfl, rfl, s2.1 j (by omega), hi, fun M3 g3 g4 => ?_⟩
          have s3 := s2.colM (b := j) (by omega) g3 g4
          conv => whnf
          refine ⟨rfl, h M3 (k1.st s3 (fun r a => ?_)) ((f0.tr g2.fm).tr ((gFm.up M1 _ _ (by decide)).tr g4.fm))⟩
          rw [g4.1 r a]
          exact gUp_row a
        · exact absurd h1 (by decide)
      · rw [if_neg hl]
        conv => whnf
        refine ⟨fun h1 => ?_, fun h1 => ?_⟩
        · exact absurd rfl h1
        · conv => whnf
          refine ⟨rfl, h.no hσ f0 ?_⟩
          by_cases hl0 : 0 ≤ l
          · obtain ⟨i, hi, rfl⟩ := nI_of0 hl0
            have e2 : (nI i).toNatClampNeg = i := nI_clamp hi
            rw [if_pos ⟨hb, hl0⟩, e2, List.getElem?_eq_none]
            exact Nat.le_of_not_lt (fun q => hl ((has_l h8).mpr ⟨i, q, rfl⟩))
          · exact if_neg (fun a => hl0 a.2)
  · exact h.elim
