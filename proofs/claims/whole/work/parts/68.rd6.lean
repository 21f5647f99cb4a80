/-! the model: load -/
theorem mg_end {t : Nat → Int32} {n p : Nat} (h : chOk t n) : mg t n p < 0 ↔ sg t n p = 0 := by
  unfold mg sg
  by_cases q : p < n
  · rw [if_pos q, if_pos q]
    obtain ⟨-, b⟩ := h p q
    have b : 1 ≤ (t p).toInt := Int32.le_iff_toInt_le.mp b
    constructor
    · intro a
      have a : (t p).toInt < 0 := Int32.lt_iff_toInt_lt.mp a
      omega
    · intro a
      rw [a] at b
      exact absurd b (by decide)
  · rw [if_neg q, if_neg q]
    decide
theorem sg_end {t : Nat → Int32} {n p : Nat} (h : chOk t n) (h0 : sg t n p = 0) : ¬ p < n := fun q => by
  unfold sg at h0
  rw [if_pos q] at h0
  obtain ⟨-, b⟩ := h p q
  rw [h0] at b
  exact absurd b (by decide)
theorem mhR.kept {M M' : gM} {hs : List St} (h : mhR M hs) (h1 : M' 926 4 = M 926 4) (h2 : M' 929 = M 929) : mhR M' hs := ⟨h.1, h1.trans h.2.1, fun i S hi => by rw [h2]; exact h.2.2 i S hi⟩
theorem mxR.mt {M : gM} {t : Nat → Int32} {n p : Nat} (h : mxR M t n p) : mtR M t n := ⟨h.1, h.2.2.2.1, h.2.2.1⟩
def f_X7_load : gF := fun av M post => match av with
  | [.inr (.inl (7, p))] => p = 926 ∧ ∃ σ, moR M σ ∧ chOk σ.2.2.1 σ.2.2.2 ∧ mQ M (oLoad σ) post
  | _ => False
theorem lk_X7_load (l : Launch) : gLinks l RX7 5 [(gTn f_X7_hold, 0, 0, 7), (gTn f_X7_here, 0, 0, 7), (gTn f_X7_readsItem, 0, 0, 7), (gTn f_X7_exchange, 0, 0, 7), (gTn f_X7_act, 0, 0, 7)] pX7_load := And.intro gf_RX7_31 (And.intro ⟨gTn f_X7_hold, 7, yX7_hold, cX7_hold, 2, none, 0, _, rfl, by decide, yi_yX7_hold, ok_X7_hold l, by decide, by decide, rfl, rfl, ml_RX7_170, im_yX7_hold, se_yX7_hold⟩ (And.intro gf_RX7_148 (And.intro ⟨gTn f_X7_here, 7, yX7_here, cX7_here, 1, (some .int), 0, _, rfl, by decide, yi_yX7_here, ok_X7_here l, by decide, by decide, rfl, rfl, ml_RX7_151, im_yX7_here, se_yX7_here⟩ (And.intro ⟨gTn f_X7_readsItem, 7, yX7_readsItem, cX7_readsItem, 3, (some .boolean), 4, _, rfl, by decide, yi_yX7_readsItem, ok_X7_readsItem l, by decide, by decide, rfl, rfl, ml_RX7_173, im_yX7_readsItem, se_yX7_readsItem⟩ (And.intro ⟨gTn f_X7_exchange, 7, yX7_exchange, cX7_exchange, 3, none, 0, _, rfl, by decide, yi_yX7_exchange, ok_X7_exchange l, by decide, by decide, rfl, rfl, ml_RX7_177, im_yX7_exchange, se_yX7_exchange⟩ (And.intro kc_RX7_180 (And.intro gf_RX7_148 (And.intro ⟨gTn f_X7_act, 7, yX7_act, cX7_act, 2, none, 0, _, rfl, by decide, yi_yX7_act, ok_X7_act l, by decide, by decide, rfl, rfl, ml_RX7_73, im_yX7_act, se_yX7_act⟩ (And.intro ⟨gTn f_X7_exchange, 7, yX7_exchange, cX7_exchange, 3, none, 0, _, rfl, by decide, yi_yX7_exchange, ok_X7_exchange l, by decide, by decide, rfl, rfl, ml_RX7_177, im_yX7_exchange, se_yX7_exchange⟩ (And.intro gf_RX7_145 (trivial)))))))))))
theorem ok_X7_load (l : Launch) : gOK l yX7_load cX7_load 3 (some .int) 5 0 0 (gTn f_X7_load) := by
  refine gM_of (by decide +kernel) pX7_load_ok (lk_X7_load l) ?_
  intro SL SX K P av M run h
  unfold f_X7_load at h
  split at h
  · obtain ⟨rfl, σ, hσ0, hch, h⟩ := h
    refine ⟨⟨by simp [gC1], Nat.le_of_ble_eq_true rfl⟩, ?_⟩
    have hσ := hσ0.th
    have f0 := gFm.up M (q := 926) 0 0 (Nat.le_refl _)
    obtain ⟨σ1, hs, t, n⟩ := σ
    have hch : chOk t n := hch
    unfold oLoad at h
    dsimp only at h
    have main : ∀ M0, mxR M0 t n 0 → msR (M0 927) σ1 → msR (M0 928) σ1 → mhR M0 hs → gFm M M0 → K 18 [some (.inr (.inl (7, 926))), some (.inl (nI 0)), some (.inl 1)] [] M0 gB0 := by
      intro M0 x0 s0 a0 h0 r0
      have hn := x0.1
      -- the end of the loop: all is well
      have good : ∀ M1 S1 i p1, mxR M1 t n p1 → msR (M1 927) S1 → gFj M0 M1 → .inr (S1, i) = pText t n σ1 → K 40 [some (.inr (.inl (7, 926))), some (.inl (nI i)), some (.inl 1)] [] M1 gB0 := by
        intro M1 S1 i p1 y1 y2 y3 hp
        rw [← hp] at h
        dsimp only at h
        refine run [] 1000 _ _ _ _ _ _ rfl ?_
        conv => whnf
        refine ⟨rfl, rfl, rfl, ?_⟩
        conv => whnf
        refine ⟨fun h1 => ?_, fun h1 => ?_⟩
        · conv => whnf
          have z1 : msR (gXc M1 795 927) σ1 := a0.kept fun k hk => by rw [gXc_a, if_pos hk, y3.1 928 (by decide) (by decide)]
          have z2 : msR (gXc M1 795 928) S1 := y2.kept fun k hk => by rw [gXc_b, if_pos hk]
          have z3 : mhR (gXc M1 795) hs := h0.kept (by rw [gXc_row (by decide) (by decide)]; exact y3.2 4 (by decide) (by decide)) (by rw [gXc_row (by decide) (by decide)]; exact y3.1 929 (by decide) (by decide))
          refine ⟨rfl, rfl, rfl, _, _, z3, z1, fun M3 g1 g2 => ?_⟩
          conv => whnf
          refine ⟨rfl, rfl, rfl, ?_⟩
          conv => whnf
          have z4 : msR (gUp (gXc M3 795) 926 6 0 927) S1 := by
            rw [gUp_row (by decide)]
            exact z2.kept fun k hk => by rw [gXc_a, if_pos hk, g2.1 928 (by decide) (by decide)]
          have z5 : mhR (gUp (gXc M3 795) 926 6 0) (hKeep hs σ1) := g1.kept (by rw [gUp_ne (Or.inr (by decide)), gXc_row (by decide) (by decide)]) (by rw [gUp_row (by decide), gXc_row (by decide) (by decide)])
          refine ⟨rfl, h _ ⟨z4, z5, Nat.zero_le _, gUp_same _ _ _ _, fun k hk => absurd hk (Nat.not_lt_zero k)⟩ (fun r a => ?_)⟩
          rw [gUp_row (by omega), gXc_row (by omega) (by omega), g2.1 r (by omega) (by omega), gXc_row (by omega) (by omega), y3.1 r (by omega) (by omega)]
          exact r0 r a
        · exact absurd h1 (by decide)
      have bad : ∀ M1 e v, mxR M1 t n e → gFj M0 M1 → .inl e = pText t n σ1 → K 40 [some (.inr (.inl (7, 926))), some (.inl v), some (.inl 0)] [] M1 gB0 := by
        intro M1 e v y1 y3 hp
        rw [← hp] at h
        dsimp only at h
        refine run [] 1000 _ _ _ _ _ _ rfl ?_
        conv => whnf
        refine ⟨rfl, rfl, rfl, ?_⟩
        conv => whnf
        refine ⟨fun h1 => ?_, fun h1 => ?_⟩
        · exact absurd rfl h1
        · conv => whnf
          rw [show gXc M1 795 926 10 = nI e from y1.2.2.2.2]
          have z1 : msR (gXc M1 795 927) σ1 := a0.kept fun k hk => by rw [gXc_a, if_pos hk, y3.1 928 (by decide) (by decide)]
          have z3 : mhR (gXc M1 795) hs := h0.kept (by rw [gXc_row (by decide) (by decide)]; exact y3.2 4 (by decide) (by decide)) (by rw [gXc_row (by decide) (by decide)]; exact y3.1 929 (by decide) (by decide))
          have z4 : mxR (gXc M1 795) t n e := y1.kept (gXc_row (by decide) (by decide)) (gXc_row (by decide) (by decide))
          refine ⟨rfl, h _ ⟨z1, z3, z4.mt⟩ (fun r a => ?_)⟩
          rw [gXc_row (by omega) (by omega), y3.1 r (by omega) (by omega)]
          exact r0 r a
      have loop : ∀ f M1 p1 S1 k, n - p1 ≤ f → mxR M1 t n p1 → msR (M1 927) S1 → gFj M0 M1 → pIt t n f S1 p1 k = pText t n σ1 → K 18 [some (.inr (.inl (7, 926))), some (.inl (nI k)), some (.inl 1)] [] M1 gB0 := by
        intro f
        induction f with
        | zero =>
          intro M1 p1 S1 k hf y1 y2 y3 hp
          have z := skp_le (t := t) y1.2.1
          refine run [40] 1000 _ _ _ _ _ _ rfl ?_
          conv => whnf
          refine ⟨fun h1 => ?_, fun h1 => ?_⟩
          · exact absurd h1 (by decide)
          · conv => whnf
            refine ⟨rfl, rfl, rfl, t, n, p1, y1, ?_⟩
            rw [show mg t n (skp t n p1) = -1 from if_neg (by omega)]
            conv => whnf
            refine ⟨fun h2 => ?_, fun h2 => ?_⟩
            · conv => whnf
              exact good _ S1 k _ (y1.pos z.2) (y2.x10 _) (y3.tr (gFj.u10 _ _)) hp
            · exact absurd h2 (by decide)
        | succ f ih =>
          intro M1 p1 S1 k hf y1 y2 y3 hp
          have z := skp_le (t := t) y1.2.1
          unfold pIt at hp
          refine run [18, 40] 1000 _ _ _ _ _ _ rfl ?_
          conv => whnf
          refine ⟨fun h1 => ?_, fun h1 => ?_⟩
          · exact absurd h1 (by decide)
          · conv => whnf
            refine ⟨rfl, rfl, rfl, t, n, p1, y1, ?_⟩
            conv => whnf
            refine ⟨fun h2 => ?_, fun h2 => ?_⟩
            · conv => whnf
              rw [if_pos ((mg_end hch).mp h2)] at hp
              exact good _ S1 k _ (y1.pos z.2) (y2.x10 _) (y3.tr (gFj.u10 _ _)) hp
            · conv => whnf
              rw [if_neg (fun a => h2 ((mg_end hch).mpr a))] at hp
              refine ⟨rfl, rfl, rfl, t, n, _, S1, y1.pos z.2, hch, y2.x10 _, ?_⟩
              cases hq : pItem t n S1 (skp t n p1) with
              | inl e =>
                rw [hq] at hp
                intro M2 b1 b2
                conv => whnf
                refine run [40] 1000 _ _ _ _ _ _ rfl ?_
                conv => whnf
                refine ⟨fun h3 => ?_, fun h3 => ?_⟩
                · conv => whnf
                  exact bad M2 e _ b1 ((y3.tr (gFj.u10 _ _)).tr b2) hp
                · exact absurd rfl h3
              | inr r =>
                obtain ⟨p2, S2⟩ := r
                rw [hq] at hp
                obtain ⟨_, _, _, _, _, _, q1, _⟩ := pItem_inr z.2 hq
                intro M2 b1 b2 b3
                conv => whnf
                rw [nI_1]
                exact ih M2 p2 S2 (k + 1) (by omega) b1 b2 ((y3.tr (gFj.u10 _ _)).tr b3) hp
      exact loop 140 M0 0 σ1 0 (by omega) x0 s0 (gFj.rf M0) rfl
    obtain ⟨hS, hh, hn, ht6, ht⟩ := hσ
    have hx0 : mxR (gUp (gCy (gUp M 926 0 0) 928 927 795) 926 10 0) t n 0 := by
      refine ⟨hn, Nat.zero_le _, fun k hk => ?_, ?_, gUp_same _ _ _ _⟩
      · rw [gUp_row (by decide), gCy_row (by decide)]; exact ht k hk
      · rw [gUp_ne (Or.inr (by decide)), gCy_row (by decide)]; exact ht6
    have hS0 : msR (gUp (gCy (gUp M 926 0 0) 928 927 795) 926 10 0 927) σ1 := by
      rw [gUp_row (by decide), gCy_row (by decide)]
      exact hS
    have ha0 : msR (gUp (gCy (gUp M 926 0 0) 928 927 795) 926 10 0 928) σ1 := by
      rw [gUp_row (by decide)]
      exact hS.kept fun k hk => gCy_in hk
    have hh0 : mhR (gUp (gCy (gUp M 926 0 0) 928 927 795) 926 10 0) hs := hh.kept (by rw [gUp_ne (Or.inr (by decide)), gCy_row (by decide)]) (by rw [gUp_row (by decide), gCy_row (by decide)])
    have r0 : gFm M (gUp (gCy (gUp M 926 0 0) 928 927 795) 926 10 0) := fun r a => by
      rw [gUp_row (by omega), gCy_row (by omega)]
      exact f0 r a
    refine run [18] 1000 _ _ _ _ _ _ rfl ?_
    conv => whnf
    refine ⟨rfl, rfl, rfl, ?_⟩
    conv => whnf
    exact main _ hx0 hS0 ha0 hh0 r0
  · exact h.elim
