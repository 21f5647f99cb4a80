/-! the model: layers are read -/
/-- a layer as calls and texts may add it -/
def vL0 (x : Lay) : Prop := ((x.1 = 0 ∧ x.2.1 = 9) ∨ (x.1 = 1 ∧ x.2.1 = 22) ∨ (x.1 = 2 ∧ 24 ≤ x.2.1 ∧ x.2.1 ≤ 32)) ∧ 1 ≤ x.2.2 ∧ x.2.2 ≤ 9999
theorem pNum_inr {t : Nat → Int32} {n p q : Nat} {lo hi v : Int32} (hp : p ≤ n) (h : pNum t n lo hi p = .inr (q, v)) : p ≤ q ∧ q ≤ n ∧ lo ≤ v ∧ v ≤ hi := by
  unfold pNum at h
  split at h
  · cases h
  · rename_i hk
    have a := skp_le (t := t) hp
    have b := pDig_le (t := t) (v := 0) a.2
    have c : lo ≤ (pDig t n (skp t n p) 0).2 ∧ (pDig t n (skp t n p) 0).2 ≤ hi := Decidable.of_not_not (fun q => hk (Or.inr q))
    injection h with h
    rw [h] at b c
    exact ⟨Nat.le_trans a.1 b.1, b.2, c⟩
theorem kd3 {kd : Int32} (h : 0 ≤ kd ∧ kd ≤ 2) : kd = 0 ∨ kd = 1 ∨ kd = 2 := by
  have a0 : 0 ≤ kd.toInt := Int32.le_iff_toInt_le.mp h.1
  have a2 : kd.toInt ≤ 2 := Int32.le_iff_toInt_le.mp h.2
  rcases (by omega : kd.toInt = 0 ∨ kd.toInt = 1 ∨ kd.toInt = 2) with e | e | e
  · exact Or.inl (Int32.toInt_inj.mp e)
  · exact Or.inr (Or.inl (Int32.toInt_inj.mp e))
  · exact Or.inr (Or.inr (Int32.toInt_inj.mp e))
theorem pLayer_inr {t : Nat → Int32} {n p q : Nat} {l l' : List Lay} (hp : p ≤ n) (h : pLayer t n l p = .inr (q, l')) : p < q ∧ q ≤ n ∧ l.length < 8 ∧ ∃ x, l' = l ++ [x] ∧ vL0 x := by
  have hs := skp_le (t := t) hp
  unfold pLayer at h
  split at h
  · cases h
  · rename_i hk
    have hkd : 0 ≤ kOf (sg t n (skp t n p)) ∧ kOf (sg t n (skp t n p)) ≤ 2 := Decidable.of_not_not (fun q => hk (Or.inl q))
    have hlt : skp t n p < n := sg_lt (kOf_0 hkd)
    have h8 : l.length < 8 := Nat.lt_of_not_le (fun q => hk (Or.inr q))
    generalize kOf (sg t n (skp t n p)) = kd at *
    have mid : ∀ q1 d, p < q1 → q1 ≤ n → (kd = 0 → d = 9) → (kd = 1 → d = 22) → (kd = 2 → 24 ≤ d ∧ d ≤ 32) → pL2 t n l kd (.inr (q1, d)) = .inr (q, l') → p < q ∧ q ≤ n ∧ l.length < 8 ∧ ∃ x, l' = l ++ [x] ∧ vL0 x := by
      intro q1 d a1 a2 a3 a4 a5 h
      have hz := skp_le (t := t) a2
      unfold pL2 at h
      dsimp only at h
      split at h
      · rename_i h42
        have hlt2 : skp t n q1 < n := sg_lt (by rw [h42]; decide)
        cases hq : pNum t n 1 9999 (skp t n q1 + 1) with
        | inl e =>
          rw [hq] at h
          cases h
        | inr r =>
          obtain ⟨q2, v⟩ := r
          rw [hq] at h
          have e : (.inr (q2, l ++ [(kd, d, v)]) : Nat ⊕ (Nat × List Lay)) = .inr (q, l') := h
          injection e with e
          injection e with e1 e2
          have b := pNum_inr (by omega) hq
          refine ⟨by omega, by omega, h8, _, e2.symm, ?_, b.2.2⟩
          rcases kd3 hkd with k | k | k
          · exact Or.inl ⟨k, a3 k⟩
          · exact Or.inr (Or.inl ⟨k, a4 k⟩)
          · exact Or.inr (Or.inr ⟨k, a5 k⟩)
      · cases h
    by_cases h2 : kd = 2
    · rw [if_pos h2] at h
      cases hq : pNum t n 24 32 (skp t n p + 1) with
      | inl e =>
        rw [hq] at h
        cases h
      | inr r =>
        obtain ⟨q1, d⟩ := r
        rw [hq] at h
        have b := pNum_inr (by omega) hq
        exact mid q1 d (by omega) (by omega) (fun k => absurd (k.symm.trans h2) (by decide)) (fun k => absurd (k.symm.trans h2) (by decide)) (fun _ => b.2.2) h
    · rw [if_neg h2] at h
      exact mid _ _ (by omega) (by omega) (fun k => by rw [k]; rfl) (fun k => by rw [k]; rfl) (fun k => absurd k h2) h
/-- behind the layers: the sign that ends an item -/
def rTl (t : Nat → Int32) (n : Nat) (r : Nat ⊕ (Nat × List Lay)) : Nat ⊕ (Nat × List Lay) := match r with
  | .inl e => .inl e
  | .inr (p, l) => if sg t n (skp t n p) = 59 then .inr (skp t n p + 1, l) else .inl (skp t n p)
def pLs1 (t : Nat → Int32) (n f : Nat) (l : List Lay) (p : Nat) : Nat ⊕ (Nat × List Lay) := match pLayer t n l p with
  | .inl e => .inl e
  | .inr (p', l') => pLm t n f l' p'
theorem rLq.mv {M M1 : gM} {t : Nat → Int32} {n i : Nat} {b : Int32} {post : Int32 → gM → Prop} {r : Nat ⊕ (Nat × List Lay)} (h : rLq M t n i b post r) (hf : gFi M M1 i) : rLq M1 t n i b post r := by
  cases r with
  | inl e => exact fun M' a1 a2 => h M' a1 (hf.tr a2)
  | inr z => exact fun M' a1 a2 a3 => h M' a1 a2 (hf.tr a3)
def f_X7_readsLayers : gF := fun av M post => match av with
  | [.inr (.inl (7, w)), .inl v] => w = 926 ∧ ∃ t n p i c, i < 10 ∧ v = nI i ∧ mxR M t n p ∧ mcR (M 927) (26 * i) c ∧ rLq M t n i c.2 (fun x => post (some (.inl x))) (rTl t n (pLs1 t n 140 c.1 p))
  | _ => False
theorem lk_X7_readsLayers (l : Launch) : gLinks l RX7 3 [(gTn f_X7_readsLayer, 0, 0, 7), (gTn f_X7_takes, 0, 0, 7)] pX7_readsLayers := And.intro ⟨gTn f_X7_readsLayer, 7, yX7_readsLayer, cX7_readsLayer, 5, (some .boolean), 2, _, rfl, by decide, yi_yX7_readsLayer, ok_X7_readsLayer l, by decide, by decide, rfl, rfl, ml_RX7_164, im_yX7_readsLayer, se_yX7_readsLayer⟩ (And.intro ⟨gTn f_X7_takes, 7, yX7_takes, cX7_takes, 3, (some .boolean), 1, _, rfl, by decide, yi_yX7_takes, ok_X7_takes l, by decide, by decide, rfl, rfl, ml_RX7_161, im_yX7_takes, se_yX7_takes⟩ (And.intro ⟨gTn f_X7_takes, 7, yX7_takes, cX7_takes, 3, (some .boolean), 1, _, rfl, by decide, yi_yX7_takes, ok_X7_takes l, by decide, by decide, rfl, rfl, ml_RX7_161, im_yX7_takes, se_yX7_takes⟩ (trivial)))
theorem ok_X7_readsLayers (l : Launch) : gOK l yX7_readsLayers cX7_readsLayers 3 (some .boolean) 3 0 0 (gTn f_X7_readsLayers) := by
  refine gM_of (by decide +kernel) pX7_readsLayers_ok (lk_X7_readsLayers l) ?_
  intro SL SX K P av M run h
  unfold f_X7_readsLayers at h
  split at h
  · rename_i w v
    obtain ⟨rfl, t, n, p, i, c, hi, rfl, hx, hc, h⟩ := h
    refine ⟨⟨by simp [gC1], Nat.le_of_ble_eq_true rfl⟩, ?_⟩
    have hn := hx.1
    have at26 : ∀ M1 p1 l, mxR M1 t n p1 → mcR (M1 927) (26 * i) (l, c.2) → gFi M M1 i → rLq M t n i c.2 (fun x => P (some (.inl x))) (rTl t n (.inr (p1, l))) → K 26 [some (.inr (.inl (7, 926))), some (.inl (nI i)), some (.inl 0)] [] M1 gB0 := by
      intro M1 p1 l y1 y2 y3 h
      have z := skp_le (t := t) y1.2.1
      unfold rTl at h
      dsimp only at h
      refine run [] 1000 _ _ _ _ _ _ rfl ?_
      conv => whnf
      refine ⟨rfl, rfl, rfl, t, n, p1, y1, fun hm => ?_, fun hm => ?_⟩
      · have zl := mg_lt (by decide) hm
        rw [if_pos ((mg_iff (by decide) (by decide)).mp hm)] at h
        conv => whnf
        refine ⟨rfl, Or.inr rfl, h _ (y1.pos (by omega)) ?_ (y3.tr (gFi.u10 _ i _))⟩
        rw [gUp_row (by decide)]
        exact y2
      · rw [if_neg (fun a => hm ((mg_iff (by decide) (by decide)).mpr a))] at h
        conv => whnf
        exact ⟨rfl, Or.inl rfl, h _ (y1.pos z.2) (y3.tr (gFi.u10 _ i _))⟩
    have loop : ∀ f M1 p1 l, n - p1 ≤ f → mxR M1 t n p1 → mcR (M1 927) (26 * i) (l, c.2) → gFi M M1 i → rLq M t n i c.2 (fun x => P (some (.inl x))) (rTl t n (pLs1 t n f l p1)) → K 2 [some (.inr (.inl (7, 926))), some (.inl (nI i)), some (.inl 1)] [] M1 gB0 := by
      intro f
      induction f with
      | zero =>
        intro M1 p1 l hf y1 y2 y3 h
        unfold pLs1 at h
        refine run [2, 26] 1000 _ _ _ _ _ _ rfl ?_
        conv => whnf
        refine ⟨fun h1 => ?_, fun h1 => ?_⟩
        · exact absurd h1 (by decide)
        · conv => whnf
          refine ⟨rfl, rfl, rfl, t, n, p1, i, _, hi, rfl, y1, y2, ?_⟩
          cases hp : pLayer t n l p1 with
          | inl e =>
            rw [hp] at h
            intro M2 a1 a2
            conv => whnf
            refine ⟨fun h2 => ?_, fun h2 => ?_⟩
            · exact absurd rfl h2
            · conv => whnf
              exact ⟨rfl, Or.inl rfl, h M2 a1 (y3.tr a2)⟩
          | inr r =>
            obtain ⟨p2, l2⟩ := r
            have q := pLayer_inr y1.2.1 hp
            omega
      | succ f ih =>
        intro M1 p1 l hf y1 y2 y3 h
        unfold pLs1 at h
        refine run [2, 26] 1000 _ _ _ _ _ _ rfl ?_
        conv => whnf
        refine ⟨fun h1 => ?_, fun h1 => ?_⟩
        · exact absurd h1 (by decide)
        · conv => whnf
          refine ⟨rfl, rfl, rfl, t, n, p1, i, _, hi, rfl, y1, y2, ?_⟩
          cases hp : pLayer t n l p1 with
          | inl e =>
            rw [hp] at h
            intro M2 a1 a2
            conv => whnf
            refine ⟨fun h2 => ?_, fun h2 => ?_⟩
            · exact absurd rfl h2
            · conv => whnf
              exact ⟨rfl, Or.inl rfl, h M2 a1 (y3.tr a2)⟩
          | inr r =>
            obtain ⟨p2, l2⟩ := r
            have q := pLayer_inr y1.2.1 hp
            rw [hp] at h
            dsimp only at h
            unfold pLm at h
            intro M2 a1 a2 a3
            have z := skp_le (t := t) a1.2.1
            have f2 := y3.tr a3
            conv => whnf
            refine ⟨fun h2 => ?_, fun h2 => ?_⟩
            · conv => whnf
              refine ⟨rfl, rfl, rfl, t, n, p2, a1, fun hm => ?_, fun hm => ?_⟩
              · have zl := mg_lt (by decide) hm
                rw [if_pos ((mg_iff (by decide) (by decide)).mp hm)] at h
                conv => whnf
                refine ih _ (skp t n p2 + 1) l2 (by omega) (a1.pos (by omega)) ?_ (f2.tr (gFi.u10 _ i _)) h
                rw [gUp_row (by decide)]
                exact a2
              · rw [if_neg (fun a => hm ((mg_iff (by decide) (by decide)).mpr a))] at h
                conv => whnf
                refine run [26] 1000 _ _ _ _ _ _ rfl ?_
                conv => whnf
                refine ⟨fun h3 => ?_, fun h3 => ?_⟩
                · conv => whnf
                  refine at26 _ (skp t n p2) l2 (a1.pos z.2) ?_ (f2.tr (gFi.u10 _ i _)) h
                  rw [gUp_row (by decide)]
                  exact a2
                · exact absurd rfl h3
            · exact absurd h2 (by decide)
    refine run [2] 1000 _ _ _ _ _ _ rfl ?_
    conv => whnf
    exact loop 140 M p c.1 (by omega) hx hc (gFi.rf M i) h
  · exact h.elim
