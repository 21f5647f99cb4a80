/-! the model: a layer is read -/
def gFi (M M' : gM) (i : Nat) : Prop := (∀ r, r ≠ 926 → r ≠ 927 → M' r = M r) ∧ (∀ k, k ≠ 10 → k ≠ 11 → M' 926 k = M 926 k) ∧ ∀ k, (k < 26 * i ∨ 26 * i + 26 ≤ k) → M' 927 k = M 927 k
theorem gFi.rf (M : gM) (i : Nat) : gFi M M i := ⟨fun _ _ _ => rfl, fun _ _ _ => rfl, fun _ _ => rfl⟩
theorem gFi.tr {M M1 M2 : gM} {i : Nat} (h : gFi M M1 i) (h2 : gFi M1 M2 i) : gFi M M2 i := ⟨fun r a b => (h2.1 r a b).trans (h.1 r a b), fun r a b => (h2.2.1 r a b).trans (h.2.1 r a b), fun r a => (h2.2.2 r a).trans (h.2.2 r a)⟩
theorem gFi.u10 (M : gM) (i : Nat) (x : Int32) : gFi M (gUp M 926 10 x) i := ⟨fun r a _ => gUp_row a, fun k a _ => gUp_ne (Or.inr a), fun k _ => by rw [gUp_row (by decide)]⟩
theorem gFi.u11 (M : gM) (i : Nat) (x : Int32) : gFi M (gUp M 926 11 x) i := ⟨fun r a _ => gUp_row a, fun k _ a => gUp_ne (Or.inr a), fun k _ => by rw [gUp_row (by decide)]⟩
theorem gFi.fs {M M' : gM} {i : Nat} (h : gFs M M' (26 * i) 26) : gFi M M' i := ⟨fun r _ b => h.1 r b, fun k _ _ => by rw [h.1 926 (by decide)], h.2⟩
def rLq (M : gM) (t : Nat → Int32) (n i : Nat) (b : Int32) (post : Int32 → gM → Prop) (r : Nat ⊕ (Nat × List Lay)) : Prop := match r with
  | .inl e => ∀ M', mxR M' t n e → gFi M M' i → post 0 M'
  | .inr (p', l') => ∀ M', mxR M' t n p' → mcR (M' 927) (26 * i) (l', b) → gFi M M' i → post 1 M'
theorem mg_lt {t : Nat → Int32} {n p : Nat} {s : Int32} (h1 : ¬ (-1 : Int32) = s) (h : mg t n p = s) : p < n := by
  unfold mg at h
  split at h
  · assumption
  · exact absurd h h1
def f_X7_readsLayer : gF := fun av M post => match av with
  | [.inr (.inl (7, w)), .inl v] => w = 926 ∧ ∃ t n p i c, i < 10 ∧ v = nI i ∧ mxR M t n p ∧ mcR (M 927) (26 * i) c ∧ rLq M t n i c.2 (fun x => post (some (.inl x))) (pLayer t n c.1 p)
  | _ => False
theorem lk_X7_readsLayer (l : Launch) : gLinks l RX7 2 [(gTn f_X7_here, 0, 0, 7), (gTn f_X7_of, 0, 0, 7), (gTn f_X7_reads, 0, 0, 7), (gTn f_X7_takes, 0, 0, 7), (gTn f_X7_insert, 0, 0, 7)] pX7_readsLayer := And.intro ⟨gTn f_X7_here, 7, yX7_here, cX7_here, 1, (some .int), 0, _, rfl, by decide, yi_yX7_here, ok_X7_here l, by decide, by decide, rfl, rfl, ml_RX7_151, im_yX7_here, se_yX7_here⟩ (And.intro kc_RX7_112 (And.intro kc_RX7_112 (And.intro ⟨gTn f_X7_of, 7, yX7_of, cX7_of, 3, (some .int), 0, _, rfl, by decide, yi_yX7_of, ok_X7_of l, by decide, by decide, rfl, rfl, ml_RX7_50, im_yX7_of, se_yX7_of⟩ (And.intro gf_RX7_148 (And.intro gf_RX7_148 (And.intro ⟨gTn f_X7_reads, 7, yX7_reads, cX7_reads, 7, (some .boolean), 1, _, rfl, by decide, yi_yX7_reads, ok_X7_reads l, by decide, by decide, rfl, rfl, ml_RX7_158, im_yX7_reads, se_yX7_reads⟩ (And.intro gf_RX7_155 (And.intro ⟨gTn f_X7_takes, 7, yX7_takes, cX7_takes, 3, (some .boolean), 1, _, rfl, by decide, yi_yX7_takes, ok_X7_takes l, by decide, by decide, rfl, rfl, ml_RX7_161, im_yX7_takes, se_yX7_takes⟩ (And.intro ⟨gTn f_X7_reads, 7, yX7_reads, cX7_reads, 7, (some .boolean), 1, _, rfl, by decide, yi_yX7_reads, ok_X7_reads l, by decide, by decide, rfl, rfl, ml_RX7_158, im_yX7_reads, se_yX7_reads⟩ (And.intro ⟨gTn f_X7_of, 7, yX7_of, cX7_of, 3, (some .int), 0, _, rfl, by decide, yi_yX7_of, ok_X7_of l, by decide, by decide, rfl, rfl, ml_RX7_50, im_yX7_of, se_yX7_of⟩ (And.intro gf_RX7_155 (And.intro ⟨gTn f_X7_insert, 7, yX7_insert, cX7_insert, 7, none, 1, _, rfl, by decide, yi_yX7_insert, ok_X7_insert l, by decide, by decide, rfl, rfl, ml_RX7_76, im_yX7_insert, se_yX7_insert⟩ (trivial)))))))))))))
theorem ok_X7_readsLayer (l : Launch) : gOK l yX7_readsLayer cX7_readsLayer 5 (some .boolean) 2 0 0 (gTn f_X7_readsLayer) := by
  refine gM_of (by decide +kernel) pX7_readsLayer_ok (lk_X7_readsLayer l) ?_
  intro SL SX K P av M run h
  unfold f_X7_readsLayer at h
  split at h
  · rename_i w v
    obtain ⟨rfl, t, n, p, i, c, hi, rfl, hx, hc, h⟩ := h
    refine ⟨⟨by simp [gC1], Nat.le_of_ble_eq_true rfl⟩, ?_⟩
    have hs := skp_le (t := t) hx.2.1
    have hn := hx.1
    have hk8 := hc.1
    have x1 := hx.pos hs.2
    have e105 : mg t n (skp t n p) = 105 ↔ sg t n (skp t n p) = 105 := mg_iff (by decide) (by decide)
    have e115 : mg t n (skp t n p) = 115 ↔ sg t n (skp t n p) = 115 := mg_iff (by decide) (by decide)
    have e114 : mg t n (skp t n p) = 114 ↔ sg t n (skp t n p) = 114 := mg_iff (by decide) (by decide)
    unfold pLayer at h
    have tail : ∀ (kd d u : Int32) (M3 : gM) (q : Nat), mxR M3 t n q → gFi M M3 i → M3 927 = M 927 → rLq M t n i c.2 (fun x => P (some (.inl x))) (pL2 t n c.1 kd (.inr (q, d))) → c.1.length < 8 → K 108 [some (.inr (.inl (7, 926))), some (.inl (nI i)), some (.inl u), some (.inl kd), none] [.inl d] M3 gB0 := by
      intro kd d u M3 q y1 y2 y3 h h8
      have z := skp_le (t := t) y1.2.1
      unfold pL2 at h
      dsimp only at h
      refine run [] 1000 _ _ _ _ _ _ rfl ?_
      conv => whnf
      refine ⟨rfl, rfl, rfl, t, n, q, y1, fun hm => ?_, fun hm => ?_⟩
      · have zl := mg_lt (by decide) hm
        have zs : sg t n (skp t n q) = 42 := (mg_iff (by decide) (by decide)).mp hm
        rw [if_pos zs] at h
        have y4 := y1.pos (q := skp t n q + 1) (by omega)
        have f4 := y2.tr (gFi.u10 M3 i (nI (skp t n q + 1)))
        conv => whnf
        refine ⟨fun h1 => ?_, fun h1 => ?_⟩
        · exact absurd h1 (by decide)
        · conv => whnf
          refine ⟨rfl, rfl, rfl, by decide, by decide, t, n, _, y4, ?_⟩
          cases hp : pNum t n 1 9999 (skp t n q + 1) with
          | inl e =>
            rw [hp] at h
            intro x
            conv => whnf
            refine ⟨fun h2 => ?_, fun h2 => ?_⟩
            · exact absurd rfl h2
            · conv => whnf
              refine ⟨rfl, Or.inl rfl, h _ ((y4.pos (pNum_l (by omega) hp)).num x) ((f4.tr (gFi.u10 _ i _)).tr (gFi.u11 _ i _))⟩
          | inr r =>
            obtain ⟨q2, v2⟩ := r
            rw [hp] at h
            have y5 := (y4.pos (pNum_r (by omega) hp)).num v2
            have f5 := (f4.tr (gFi.u10 _ i (nI q2))).tr (gFi.u11 _ i v2)
            have r5 : gUp (gUp (gUp M3 926 10 (nI (skp t n q + 1))) 926 10 (nI q2)) 926 11 v2 927 = M 927 := by
              rw [gUp_row (by decide), gUp_row (by decide), gUp_row (by decide)]
              exact y3
            have n5 : gUp (gUp (gUp M3 926 10 (nI (skp t n q + 1))) 926 10 (nI q2)) 926 11 v2 926 11 = v2 := gUp_same _ _ _ _
            conv => whnf
            refine ⟨fun h2 => ?_, fun h2 => ?_⟩
            · conv => whnf
              generalize gUp (gUp (gUp M3 926 10 (nI (skp t n q + 1))) 926 10 (nI q2)) 926 11 v2 = M5 at y5 f5 r5 n5 ⊢
              have c5 : mcR (M5 927) (26 * i) c := by rw [r5]; exact hc
              refine ⟨rfl, rfl, rfl, i, 0, hi, by decide, rfl, rfl, ?_⟩
              rw [show M5 927 (26 * i + 0) = nI c.1.length from c5.2.1]
              conv => whnf
              rw [n5]
              refine ⟨rfl, rfl, rfl, i, _, c, hi, rfl, rfl, c5, h8, Nat.le_refl _, fun M6 g1 g2 => ?_⟩
              conv => whnf
              rw [insertIdx_end] at g1
              refine ⟨rfl, Or.inr rfl, h M6 (y5.kept (g2.1 926 (by decide)) (g2.1 930 (by decide))) g1 (f5.tr (gFi.fs g2))⟩
            · exact absurd h2 (by decide)
      · have zs : ¬ sg t n (skp t n q) = 42 := fun a => hm ((mg_iff (by decide) (by decide)).mpr a)
        rw [if_neg zs] at h
        conv => whnf
        refine ⟨fun h1 => ?_, fun h1 => ?_⟩
        · conv => whnf
          exact ⟨rfl, Or.inl rfl, h _ (y1.pos z.2) (y2.tr (gFi.u10 _ i _))⟩
        · exact absurd rfl h1
    have at85 : ∀ (kd d u : Int32) (M3 : gM) (q : Nat), 0 ≤ kd → kd ≤ 2 → mxR M3 t n q → gFi M M3 i → M3 927 = M 927 → (kd = 2 → M3 926 11 = d) → (¬ kd = 2 → d = lLi kd) → rLq M t n i c.2 (fun x => P (some (.inl x))) (pL2 t n c.1 kd (.inr (q, d))) → c.1.length < 8 → K 85 [some (.inr (.inl (7, 926))), some (.inl (nI i)), some (.inl u), some (.inl kd), none] [] M3 gB0 := by
      intro kd d u M3 q k0 k2 y1 y2 y3 d2 d0 h h8
      refine run [108] 1000 _ _ _ _ _ _ rfl ?_
      conv => whnf
      refine ⟨fun h1 => ?_, fun h1 => ?_⟩
      · conv => whnf
        refine ⟨fun h2 => ?_, fun h2 => ?_⟩
        · conv => whnf
          have e : kd = 2 := by
            have a0 : 0 ≤ kd.toInt := Int32.le_iff_toInt_le.mp k0
            have a2 : kd.toInt ≤ 2 := Int32.le_iff_toInt_le.mp k2
            have b0 : ¬ kd.toInt = 0 := fun q => h1 (Int32.toInt_inj.mp q)
            have b1 : ¬ kd.toInt = 1 := fun q => h2 (Int32.toInt_inj.mp q)
            exact Int32.toInt_inj.mp (show kd.toInt = 2 by omega)
          rw [d2 e]
          exact tail kd d u M3 q y1 y2 y3 h h8
        · conv => whnf
          subst h2
          have := d0 (by decide)
          exact tail 1 22 u M3 q y1 y2 y3 (by rw [this] at h; exact h) h8
      · conv => whnf
        subst h1
        have := d0 (by decide)
        exact tail 0 9 u M3 q y1 y2 y3 (by rw [this] at h; exact h) h8
    have at37 : ∀ kd u : Int32, kd = kOf (sg t n (skp t n p)) → K 37 [some (.inr (.inl (7, 926))), some (.inl (nI i)), some (.inl u), none, none] [.inl kd] (gUp M 926 10 (nI (skp t n p))) gB0 := by
      intro kd u hkd
      rw [← hkd] at h
      have f1 := gFi.u10 M i (nI (skp t n p))
      have c1 : mcR (gUp M 926 10 (nI (skp t n p)) 927) (26 * i) c := by rw [gUp_row (by decide)]; exact hc
      have bad : (¬ (0 ≤ kd ∧ kd ≤ 2) ∨ 8 ≤ c.1.length) → P (some (.inl 0)) (gUp M 926 10 (nI (skp t n p))) := fun a => by
        rw [if_pos a] at h
        exact h _ x1 f1
      have kn : ¬ kd = -100000009 → 0 ≤ kd ∧ kd ≤ 2 := by
        rw [hkd]
        unfold kOf
        intro a
        split
        · decide
        · split
          · decide
          · split
            · decide
            · rename_i q1 q2 q3
              rw [if_neg q1, if_neg q2, if_neg q3] at a
              exact absurd rfl a
      refine run [85] 1000 _ _ _ _ _ _ rfl ?_
      conv => whnf
      refine ⟨fun h1 => ?_, fun h1 => ?_⟩
      · conv => whnf
        exact ⟨rfl, Or.inl rfl, bad (Or.inl (fun q => absurd (show (0 : Int32) ≤ -100000009 from h1 ▸ q.1) (by decide)))⟩
      · conv => whnf
        refine ⟨rfl, rfl, rfl, i, 0, hi, by decide, rfl, rfl, ?_⟩
        rw [show gUp M 926 10 (nI (skp t n p)) 927 (26 * i + 0) = nI c.1.length from c1.2.1]
        conv => whnf
        refine ⟨fun h2 => ?_, fun h2 => ?_⟩
        · have h8 : c.1.length < 8 := by
            rcases Nat.lt_or_ge c.1.length 8 with a | a
            · exact a
            · exact absurd (show nI c.1.length = 8 by rw [show c.1.length = 8 by omega]; rfl) h2
          have hk := kn h1
          rw [if_neg (fun a => a.elim (fun b => b hk) (fun b => by omega))] at h
          have hlt : skp t n p < n := sg_lt (fun a => by
            rw [hkd, a] at hk
            exact absurd hk.1 (by decide))
          have x2 := x1.pos (q := skp t n p + 1) (by omega)
          rw [gUp_up] at x2
          have f2 := gFi.u10 M i (nI (skp t n p + 1))
          conv => whnf
          rw [show gUp M 926 10 (nI (skp t n p)) 926 10 = nI (skp t n p) from gUp_same _ _ _ _, gUp_up, nI_1]
          refine ⟨fun h3 => ?_, fun h3 => ?_⟩
          · conv => whnf
            rw [if_neg h3] at h
            exact at85 kd _ u _ _ hk.1 hk.2 x2 f2 (gUp_row (by decide)) (fun a => absurd a h3) (fun _ => rfl) h h8
          · conv => whnf
            rw [if_pos h3] at h
            refine ⟨rfl, rfl, rfl, by decide, by decide, t, n, _, x2, ?_⟩
            cases hp : pNum t n 24 32 (skp t n p + 1) with
            | inl e =>
              rw [hp] at h
              intro x
              conv => whnf
              refine ⟨fun h4 => ?_, fun h4 => ?_⟩
              · exact absurd rfl h4
              · conv => whnf
                exact ⟨rfl, Or.inl rfl, h _ ((x2.pos (pNum_l (by omega) hp)).num x) ((f2.tr (gFi.u10 _ i _)).tr (gFi.u11 _ i _))⟩
            | inr r =>
              obtain ⟨q2, v2⟩ := r
              rw [hp] at h
              conv => whnf
              refine ⟨fun h4 => ?_, fun h4 => ?_⟩
              · conv => whnf
                refine at85 kd v2 u _ q2 hk.1 hk.2 ((x2.pos (pNum_r (by omega) hp)).num v2) ((f2.tr (gFi.u10 _ i _)).tr (gFi.u11 _ i _)) ?_ (fun _ => gUp_same _ _ _ _) (fun a => absurd h3 a) h h8
                rw [gUp_row (by decide), gUp_row (by decide), gUp_row (by decide)]
              · exact absurd h4 (by decide)
        · conv => whnf
          exact ⟨rfl, Or.inl rfl, bad (Or.inr (Nat.le_of_eq ((nI_eq (b := 8) (by omega) (by decide)).mp h2).symm))⟩
    refine run [37] 1000 _ _ _ _ _ _ rfl ?_
    conv => whnf
    refine ⟨rfl, rfl, rfl, t, n, p, hx, ?_⟩
    conv => whnf
    refine ⟨fun h1 => ?_, fun h1 => ?_⟩
    · conv => whnf
      refine ⟨fun h2 => ?_, fun h2 => ?_⟩
      · conv => whnf
        refine ⟨fun h3 => ?_, fun h3 => ?_⟩
        · conv => whnf
          exact at37 _ _ (by unfold kOf; rw [if_neg (fun a => h1 (e105.mpr a)), if_neg (fun a => h2 (e115.mpr a)), if_neg (fun a => h3 (e114.mpr a))])
        · conv => whnf
          exact at37 _ _ (by unfold kOf; rw [if_neg (fun a => h1 (e105.mpr a)), if_neg (fun a => h2 (e115.mpr a)), if_pos (e114.mp h3)])
      · conv => whnf
        exact at37 _ _ (by unfold kOf; rw [if_neg (fun a => h1 (e105.mpr a)), if_pos (e115.mp h2)])
    · conv => whnf
      exact at37 _ _ (by unfold kOf; rw [if_pos (e105.mp h1)])
  · exact h.elim
