/-! the model: an item is read -/
theorem pLm_inr {t : Nat → Int32} {n : Nat} : ∀ (f : Nat) {p q : Nat} {l l' : List Lay}, p ≤ n → pLm t n f l p = .inr (q, l') → ∃ l2, l' = l ++ l2 ∧ (∀ x ∈ l2, vL0 x) ∧ p + l2.length ≤ q ∧ q ≤ n ∧ (l.length ≤ 8 → l'.length ≤ 8)
  | 0, p, q, l, l', hp, h => by
    unfold pLm at h
    injection h with h
    injection h with h1 h2
    subst h1
    subst h2
    exact ⟨[], (List.append_nil l).symm, fun x hx => (by cases hx), Nat.le_refl _, hp, fun a => a⟩
  | f + 1, p, q, l, l', hp, h => by
    have z := skp_le (t := t) hp
    unfold pLm at h
    split at h
    · rename_i h43
      have hlt : skp t n p < n := sg_lt (by rw [h43]; decide)
      split at h
      · cases h
      · rename_i p2 l2 hl
        have a := pLayer_inr (show skp t n p + 1 ≤ n by omega) hl
        obtain ⟨a1, a2, a3, x, rfl, a4⟩ := a
        obtain ⟨l3, b1, b2, b3, b4, b5⟩ := pLm_inr f a2 h
        refine ⟨x :: l3, by rw [b1]; simp, fun y hy => ?_, by simp; omega, b4, fun _ => b5 (by simp; omega)⟩
        rcases List.mem_cons.mp hy with rfl | hy
        · exact a4
        · exact b2 y hy
    · injection h with h
      injection h with h1 h2
      subst h1
      subst h2
      exact ⟨[], (List.append_nil l).symm, fun x hx => (by cases hx), z.1, z.2, fun a => a⟩
theorem pLs1_inr {t : Nat → Int32} {n f p q : Nat} {l' : List Lay} (hp : p ≤ n) (h : pLs1 t n f [] p = .inr (q, l')) : (∀ x ∈ l', vL0 x) ∧ p + l'.length ≤ q ∧ q ≤ n ∧ l'.length ≤ 8 := by
  unfold pLs1 at h
  split at h
  · cases h
  · rename_i p2 l2 hl
    obtain ⟨a1, a2, a3, x, rfl, a4⟩ := pLayer_inr hp hl
    obtain ⟨l3, b1, b2, b3, b4, b5⟩ := pLm_inr f a2 h
    subst b1
    refine ⟨fun y hy => ?_, by simp; omega, b4, b5 (by simp)⟩
    rcases List.mem_append.mp hy with hy | hy
    · have := List.mem_append.mp hy
      rcases this with z | z
      · cases z
      · have := List.mem_singleton.mp z
        subst this
        exact a4
    · exact b2 y hy
theorem pLs_eq (t : Nat → Int32) (n : Nat) (l : List Lay) (p : Nat) : pLs t n l p = if sg t n (skp t n p) = 59 then .inr (skp t n p, l) else pLs1 t n 140 l (skp t n p) := rfl
def rLd (S : St) (b : Nat) (r : Nat ⊕ (Nat × List Lay)) : Nat ⊕ (Nat × St) := match r with
  | .inl e => .inl e
  | .inr (p, l) => .inr (p, sLoad S b l)
theorem pI2_eq (t : Nat → Int32) (n : Nat) (S : St) (b : Nat) (r : Nat ⊕ (Nat × List Lay)) : pI2 t n S b r = rLd S b (rTl t n r) := by
  unfold pI2 rLd rTl
  cases r with
  | inl e => rfl
  | inr z =>
    obtain ⟨p, l⟩ := z
    dsimp only
    split <;> rfl
/-- what is read behind ':' -/
theorem pI2_pLs (t : Nat → Int32) (n : Nat) (S : St) (b p : Nat) : pI2 t n S b (pLs t n [] p) = if sg t n (skp t n p) = 59 then .inr (skp t n p + 1, sLoad S b []) else rLd S b (rTl t n (pLs1 t n 140 [] (skp t n p))) := by
  rw [pI2_eq, pLs_eq]
  by_cases h : sg t n (skp t n p) = 59
  · rw [if_pos h, if_pos h]
    unfold rTl
    dsimp only
    rw [skp_skp, if_pos h]
    rfl
  · rw [if_neg h, if_neg h]
theorem pItem_inr {t : Nat → Int32} {n p q : Nat} {S S' : St} (hp : p ≤ n) (h : pItem t n S p = .inr (q, S')) : ∃ b l, b < 10 ∧ S' = sLoad S b l ∧ (∀ x ∈ l, vL0 x) ∧ l.length ≤ 8 ∧ p + l.length < q ∧ q ≤ n := by
  have z := skp_le (t := t) hp
  unfold pItem at h
  split at h
  · cases h
  · rename_i hb
    have hb := Decidable.of_not_not hb
    obtain ⟨b, hb9, e⟩ := nI_bd (n := 9) (by decide) hb.1 hb.2
    have hlt : skp t n p < n := sg_lt (fun q => by rw [q] at hb; exact absurd hb.1 (by decide))
    rw [e, show (nI b).toNatClampNeg = b from nI_clamp (by omega)] at h
    have z2 := skp_le (t := t) (show skp t n p + 1 ≤ n by omega)
    unfold pI1 at h
    split at h
    · rename_i h58
      have hlt2 : skp t n (skp t n p + 1) < n := sg_lt (by rw [h58]; decide)
      have z3 := skp_le (t := t) (show skp t n (skp t n p + 1) + 1 ≤ n by omega)
      rw [pI2_pLs] at h
      split at h
      · rename_i h59
        have hlt3 : skp t n (skp t n (skp t n p + 1) + 1) < n := sg_lt (by rw [h59]; decide)
        injection h with h
        injection h with h1 h2
        exact ⟨b, [], by omega, h2.symm, fun x hx => (by cases hx), Nat.zero_le _, by show p + 0 < q; omega, by omega⟩
      · cases hq : pLs1 t n 140 [] (skp t n (skp t n (skp t n p + 1) + 1)) with
        | inl e =>
          rw [hq] at h
          cases h
        | inr r =>
          obtain ⟨q2, l⟩ := r
          rw [hq] at h
          obtain ⟨a1, a2, a3, a4⟩ := pLs1_inr z3.2 hq
          have z4 := skp_le (t := t) a3
          unfold rTl rLd at h
          dsimp only at h
          by_cases h59 : sg t n (skp t n q2) = 59
          · rw [if_pos h59] at h
            have hlt3 : skp t n q2 < n := sg_lt (by rw [h59]; decide)
            injection h with h
            injection h with h1 h2
            exact ⟨b, l, by omega, h2.symm, a1, a4, by omega, by omega⟩
          · rw [if_neg h59] at h
            cases h
    · cases h
def gFj (M M' : gM) : Prop := (∀ r, r ≠ 926 → r ≠ 927 → M' r = M r) ∧ (∀ k, k ≠ 10 → k ≠ 11 → M' 926 k = M 926 k)
theorem gFj.rf (M : gM) : gFj M M := ⟨fun _ _ _ => rfl, fun _ _ _ => rfl⟩
theorem gFj.tr {M M1 M2 : gM} (h : gFj M M1) (h2 : gFj M1 M2) : gFj M M2 := ⟨fun r a b => (h2.1 r a b).trans (h.1 r a b), fun r a b => (h2.2 r a b).trans (h.2 r a b)⟩
theorem gFi.fj {M M' : gM} {i : Nat} (h : gFi M M' i) : gFj M M' := ⟨h.1, h.2.1⟩
theorem gFj.u10 (M : gM) (x : Int32) : gFj M (gUp M 926 10 x) := (gFi.u10 M 0 x).fj
theorem gFj.us (M : gM) (k : Nat) (x : Int32) : gFj M (gUp M 927 k x) := ⟨fun r _ b => gUp_row b, fun k _ _ => by rw [gUp_row (by decide)]⟩
def rIq (M : gM) (t : Nat → Int32) (n : Nat) (post : Int32 → gM → Prop) (r : Nat ⊕ (Nat × St)) : Prop := match r with
  | .inl e => ∀ M', mxR M' t n e → gFj M M' → post 0 M'
  | .inr (p', S') => ∀ M', mxR M' t n p' → msR (M' 927) S' → gFj M M' → post 1 M'
theorem st_ld (S : St) (b : Nat) (c : Col) (l : List Lay) (x : Int32) : stCol (stAcc (stCol S b c) 0 x) b (l, lbal l) = stAcc (stCol S b (l, lbal l)) 0 x := by
  unfold stCol stAcc
  dsimp only
  congr 1
  funext i
  unfold cSet
  split <;> rfl
theorem msR.x10 {M : gM} {S : St} (h : msR (M 927) S) (x : Int32) : msR (gUp M 926 10 x 927) S := by
  rw [gUp_row (by decide)]
  exact h
theorem dig_iff {t : Nat → Int32} {n p : Nat} (h : chOk t n) : (48 ≤ mg t n p ∧ mg t n p ≤ 57) ↔ (0 ≤ sg t n p - 48 ∧ sg t n p - 48 ≤ 9) := by
  unfold mg sg
  by_cases q : p < n
  · rw [if_pos q, if_pos q]
    obtain ⟨a, b⟩ := h p q
    have a : (t p).toInt ≤ 255 := Int32.le_iff_toInt_le.mp a
    have b : 1 ≤ (t p).toInt := Int32.le_iff_toInt_le.mp b
    have t48 : (48 : Int32).toInt = 48 := rfl
    have e : (t p - 48).toInt = (t p).toInt - 48 := ti_sub (by rw [t48]; omega) (by rw [t48]; omega)
    rw [Int32.le_iff_toInt_le, Int32.le_iff_toInt_le, Int32.le_iff_toInt_le, Int32.le_iff_toInt_le, e]
    show 48 ≤ (t p).toInt ∧ (t p).toInt ≤ 57 ↔ 0 ≤ (t p).toInt - 48 ∧ (t p).toInt - 48 ≤ 9
    omega
  · rw [if_neg q, if_neg q]
    decide
theorem mg_sg {t : Nat → Int32} {n p : Nat} (h : p < n) : mg t n p = sg t n p := (if_pos h).trans (if_pos h).symm
def f_X7_readsItem : gF := fun av M post => match av with
  | [.inr (.inl (7, w))] => w = 926 ∧ ∃ t n p S, mxR M t n p ∧ chOk t n ∧ msR (M 927) S ∧ rIq M t n (fun x => post (some (.inl x))) (pItem t n S p)
  | _ => False
theorem lk_X7_readsItem (l : Launch) : gLinks l RX7 4 [(gTn f_X7_here, 0, 0, 7), (gTn f_X7_in, 0, 0, 99), (gTn f_X7_takes, 0, 0, 7), (gTn f_X7_weight, 0, 0, 7), (gTn f_X7_readsLayers, 0, 0, 7), (gTn f_X7_balance, 0, 0, 7)] pX7_readsItem := And.intro ⟨gTn f_X7_here, 7, yX7_here, cX7_here, 1, (some .int), 0, _, rfl, by decide, yi_yX7_here, ok_X7_here l, by decide, by decide, rfl, rfl, ml_RX7_151, im_yX7_here, se_yX7_here⟩ (And.intro ⟨gTn f_X7_in, 99, yX7_in, cX7_in, 3, (some .boolean), 0, rfl, yi_yX7_in, ok_X7_in l, by decide, Or.inl ml_RX7_38, sm_yX7_in⟩ (And.intro gf_RX7_148 (And.intro gf_RX7_148 (And.intro ⟨gTn f_X7_takes, 7, yX7_takes, cX7_takes, 3, (some .boolean), 1, _, rfl, by decide, yi_yX7_takes, ok_X7_takes l, by decide, by decide, rfl, rfl, ml_RX7_161, im_yX7_takes, se_yX7_takes⟩ (And.intro gf_RX7_7 (And.intro ⟨gTn f_X7_weight, 7, yX7_weight, cX7_weight, 4, (some .int), 2, _, rfl, by decide, yi_yX7_weight, ok_X7_weight l, by decide, by decide, rfl, rfl, ml_RX7_56, im_yX7_weight, se_yX7_weight⟩ (And.intro gf_RX7_7 (And.intro ⟨gTn f_X7_takes, 7, yX7_takes, cX7_takes, 3, (some .boolean), 1, _, rfl, by decide, yi_yX7_takes, ok_X7_takes l, by decide, by decide, rfl, rfl, ml_RX7_161, im_yX7_takes, se_yX7_takes⟩ (And.intro ⟨gTn f_X7_readsLayers, 7, yX7_readsLayers, cX7_readsLayers, 3, (some .boolean), 3, _, rfl, by decide, yi_yX7_readsLayers, ok_X7_readsLayers l, by decide, by decide, rfl, rfl, ml_RX7_167, im_yX7_readsLayers, se_yX7_readsLayers⟩ (And.intro gf_RX7_7 (And.intro ⟨gTn f_X7_weight, 7, yX7_weight, cX7_weight, 4, (some .int), 2, _, rfl, by decide, yi_yX7_weight, ok_X7_weight l, by decide, by decide, rfl, rfl, ml_RX7_56, im_yX7_weight, se_yX7_weight⟩ (And.intro gf_RX7_7 (And.intro ⟨gTn f_X7_balance, 7, yX7_balance, cX7_balance, 2, (some .int), 3, _, rfl, by decide, yi_yX7_balance, ok_X7_balance l, by decide, by decide, rfl, rfl, ml_RX7_86, im_yX7_balance, se_yX7_balance⟩ (trivial))))))))))))))
theorem ok_X7_readsItem (l : Launch) : gOK l yX7_readsItem cX7_readsItem 3 (some .boolean) 4 0 0 (gTn f_X7_readsItem) := by
  refine gM_of (by decide +kernel) pX7_readsItem_ok (lk_X7_readsItem l) ?_
  intro SL SX K P av M run h
  unfold f_X7_readsItem at h
  split at h
  · obtain ⟨rfl, t, n, p, S, hx, hch, hS, h⟩ := h
    refine ⟨⟨by simp [gC1], Nat.le_of_ble_eq_true rfl⟩, ?_⟩
    have hs := skp_le (t := t) hx.2.1
    have hn := hx.1
    have at91 : ∀ M4 u b l c p4, b < 10 → mxR M4 t n p4 → msR (M4 927) (stCol (stAcc S 1 (lwt (S.1 b).1)) b (l, c)) → gFj M M4 → rIq M t n (fun x => P (some (.inl x))) (.inr (p4, sLoad S b l)) → K 91 [some (.inr (.inl (7, 926))), some (.inl u), some (.inl (nI b))] [] M4 gB0 := by
      intro M4 u b l c p4 hb y1 y2 y3 h
      have c4 : mcR (M4 927) (26 * b) (l, c) := by
        have := y2.1 b hb
        rw [show (stCol (stAcc S 1 (lwt (S.1 b).1)) b (l, c)).1 b = (l, c) from if_pos rfl] at this
        exact this
      refine run [] 1000 _ _ _ _ _ _ rfl ?_
      conv => whnf
      refine ⟨vp_in_nI (n := 266) (by decide) (by decide), ?_⟩
      conv => whnf
      refine ⟨rfl, rfl, rfl, b, _, hb, rfl, c4, ?_⟩
      conv => whnf
      refine ⟨vp_in_nI (n := 266) (by decide) (by decide), ?_⟩
      have y4 := y2.accM (k := 0) (by decide) (lwt l)
      have c5 : mcR (gUp M4 927 (266 + 0) (M4 927 (266 + 0) + lwt l) 927) (26 * b) (l, c) := by
        have := y4.1 b hb
        rw [show (stAcc (stCol (stAcc S 1 (lwt (S.1 b).1)) b (l, c)) 0 (lwt l)).1 b = (l, c) from if_pos rfl] at this
        exact this
      conv => whnf
      refine ⟨rfl, rfl, rfl, b, _, hb, rfl, c5, ?_⟩
      conv => whnf
      rw [show (26 : Int32) * nI b + 1 = nI (26 * b + 1) from of_at b 1]
      refine ⟨vp_in_nI (by omega) (by decide), ?_⟩
      have y5 := y4.colM hb (c5.base (lbal l)) (gFs.up _ _ (by omega) (by omega))
      rw [st_ld] at y5
      conv => whnf
      rw [nI_clamp (by omega)]
      refine ⟨rfl, Or.inr rfl, h _ ?_ y5 ((y3.tr (gFj.us _ _ _)).tr (gFj.us _ _ _))⟩
      exact (y1.kept (gUp_row (by decide)) (gUp_row (by decide))).kept (gUp_row (by decide)) (gUp_row (by decide))
    unfold pItem at h
    refine run [91] 1000 _ _ _ _ _ _ rfl ?_
    conv => whnf
    refine ⟨rfl, rfl, rfl, t, n, p, hx, ?_⟩
    conv => whnf
    refine ⟨rfl, rfl, ?_⟩
    conv => whnf
    have x1 := hx.pos hs.2
    have f1 := gFj.u10 M (nI (skp t n p))
    have s1 := hS.x10 (nI (skp t n p))
    by_cases hd : 48 ≤ mg t n (skp t n p) ∧ mg t n (skp t n p) ≤ 57
    · rw [if_pos hd]
      have hb := (dig_iff hch).mp hd
      rw [if_neg (fun a => a hb)] at h
      have hlt : skp t n p < n := sg_lt (fun q => by rw [q] at hb; exact absurd hb.1 (by decide))
      obtain ⟨b, hb9, e⟩ := nI_bd (n := 9) (by decide) hb.1 hb.2
      have e2 : (nI b).toNatClampNeg = b := nI_clamp (by omega)
      rw [e, e2] at h
      unfold pI1 at h
      refine ⟨fun h1 => ?_, fun h1 => ?_⟩
      · conv => whnf
        rw [show gUp M 926 10 (nI (skp t n p)) 926 10 = nI (skp t n p) from gUp_same _ _ _ _, gUp_up, nI_1, mg_sg hlt, e]
        have x2 := hx.pos (q := skp t n p + 1) (by omega)
        have z2 := skp_le (t := t) x2.2.1
        refine ⟨rfl, rfl, rfl, t, n, _, x2, fun hm => ?_, fun hm => ?_⟩
        · have zl := mg_lt (by decide) hm
          rw [if_pos ((mg_iff (by decide) (by decide)).mp hm), pI2_pLs] at h
          rw [gUp_up]
          have x3 := hx.pos (q := skp t n (skp t n p + 1) + 1) (by omega)
          have s3 := hS.x10 (nI (skp t n (skp t n p + 1) + 1))
          have f3 := gFj.u10 M (nI (skp t n (skp t n p + 1) + 1))
          have z3 := skp_le (t := t) x3.2.1
          generalize gUp M 926 10 (nI (skp t n (skp t n p + 1) + 1)) = M3 at x3 s3 f3 ⊢
          generalize skp t n (skp t n p + 1) + 1 = p3 at x3 z3 h
          conv => whnf
          refine ⟨fun h2 => ?_, fun h2 => ?_⟩
          · conv => whnf
            refine ⟨vp_in_nI (n := 267) (by decide) (by decide), ?_⟩
            conv => whnf
            refine ⟨rfl, rfl, rfl, b, _, by omega, rfl, s3.1 b (by omega), ?_⟩
            conv => whnf
            refine ⟨vp_in_nI (n := 267) (by decide) (by decide), ?_⟩
            conv => whnf
            have s4 := s3.accM (k := 1) (by decide) (lwt (S.1 b).1)
            have x4 : mxR (gUp M3 927 (266 + 1) (M3 927 (266 + 1) + lwt (S.1 b).1)) t n p3 := x3.kept (gUp_row (by decide)) (gUp_row (by decide))
            have f4 := f3.tr (gFj.us M3 (266 + 1) (M3 927 (266 + 1) + lwt (S.1 b).1))
            rw [show (26 : Int32) * nI b + 0 = nI (26 * b + 0) from of_at b 0]
            refine ⟨vp_in_nI (by omega) (by decide), ?_⟩
            generalize hM4 : gUp M3 927 (266 + 1) (M3 927 (266 + 1) + lwt (S.1 b).1) = M4 at s4 x4 f4
            have c5 : mcR (gUp M4 927 (26 * b + 0) 0 927) (26 * b) ([], (S.1 b).2) := by
              have c4 := s4.1 b (by omega)
              refine ⟨Nat.zero_le _, gUp_same _ _ _ _, ?_, fun k x hk => by cases hk⟩
              rw [gUp_ne (Or.inr (by omega))]
              exact c4.2.2.1
            have s5 := s4.colM (b := b) (by omega) c5 (gFs.up _ _ (by omega) (by omega))
            have x5 : mxR (gUp M4 927 (26 * b + 0) 0) t n p3 := x4.kept (gUp_row (by decide)) (gUp_row (by decide))
            have f5 := f4.tr (gFj.us M4 (26 * b + 0) 0)
            conv => whnf
            rw [nI_clamp (by omega), show gUp M3 (926 + 1) (Int32.toNatClampNeg 267) (M3 (926 + 1) (Int32.toNatClampNeg 267) + lwt (S.1 b).1) = M4 from hM4]
            refine ⟨rfl, rfl, rfl, t, n, p3, x5, fun hm2 => ?_, fun hm2 => ?_⟩
            · have zl2 := mg_lt (by decide) hm2
              rw [if_pos ((mg_iff (by decide) (by decide)).mp hm2)] at h
              conv => whnf
              refine ⟨fun h3 => ?_, fun h3 => ?_⟩
              · conv => whnf
                exact at91 _ _ b [] _ _ (by omega) (x5.pos (by omega)) (s5.x10 _) (f5.tr (gFj.u10 _ _)) h
              · exact absurd h3 (by decide)
            · rw [if_neg (fun a => hm2 ((mg_iff (by decide) (by decide)).mpr a))] at h
              conv => whnf
              refine ⟨fun h3 => ?_, fun h3 => ?_⟩
              · exact absurd rfl h3
              · conv => whnf
                refine ⟨rfl, rfl, rfl, t, n, _, b, _, by omega, rfl, x5.pos z3.2, by rw [gUp_row (by decide)]; exact c5, ?_⟩
                cases hr : rTl t n (pLs1 t n 140 [] (skp t n p3)) with
                | inl e3 =>
                  rw [hr] at h
                  intro M6 a1 a2
                  conv => whnf
                  refine ⟨fun h4 => ?_, fun h4 => ?_⟩
                  · exact absurd rfl h4
                  · conv => whnf
                    exact ⟨rfl, Or.inl rfl, h M6 a1 ((f5.tr (gFj.u10 _ _)).tr a2.fj)⟩
                | inr r =>
                  obtain ⟨p6, l6⟩ := r
                  rw [hr] at h
                  intro M6 a1 a2 a3
                  conv => whnf
                  refine ⟨fun h4 => ?_, fun h4 => ?_⟩
                  · conv => whnf
                    refine at91 _ _ b l6 (S.1 b).2 p6 (by omega) a1 ?_ ((f5.tr (gFj.u10 _ _)).tr a3.fj) h
                    have s6 := s5.x10 (nI (skp t n p3))
                    have s7 := s6.col (s' := M6 927) (by omega) a2 a3.2.2
                    have e7 : stCol (stCol (stAcc S 1 (lwt (S.1 b).1)) b ([], (S.1 b).2)) b (l6, (S.1 b).2) = stCol (stAcc S 1 (lwt (S.1 b).1)) b (l6, (S.1 b).2) := by
                      unfold stCol
                      dsimp only
                      congr 1
                      funext i
                      unfold cSet
                      split <;> rfl
                    rw [e7] at s7
                    exact s7
                  · exact absurd h4 (by decide)
          · exact absurd h2 (by decide)
        · rw [if_neg (fun a => hm ((mg_iff (by decide) (by decide)).mpr a))] at h
          conv => whnf
          refine ⟨fun h2 => ?_, fun h2 => ?_⟩
          · exact absurd rfl h2
          · conv => whnf
            rw [gUp_up]
            exact ⟨rfl, Or.inl rfl, h _ (hx.pos z2.2) (gFj.u10 _ _)⟩
      · exact absurd h1 (by decide)
    · rw [if_neg hd]
      rw [if_pos (fun a => hd ((dig_iff hch).mpr a))] at h
      refine ⟨fun h1 => ?_, fun h1 => ?_⟩
      · exact absurd rfl h1
      · conv => whnf
        exact ⟨rfl, Or.inl rfl, h _ x1 f1⟩
  · exact h.elim
