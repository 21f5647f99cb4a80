/-! Stepper: ice -/
def stCol (S : St) (b : Nat) (c : Col) : St := (cSet S.1 b c, S.2)
def stAcc (S : St) (k : Nat) (x : Int32) : St := (S.1, S.2.1, S.2.2.1, S.2.2.2.1, (fun i => if i = k then S.2.2.2.2.1 i + x else S.2.2.2.2.1 i), S.2.2.2.2.2)
theorem stAcc_0 (S : St) (k : Nat) : stAcc S k 0 = S := by
  unfold stAcc
  have : (fun i => if i = k then S.2.2.2.2.1 i + 0 else S.2.2.2.2.1 i) = S.2.2.2.2.1 := by
    funext i
    rw [Int32.add_zero]
    split <;> rfl
  rw [this]
theorem stR.col {M M' : gM} {p b : Nat} {S : St} {c : Col} (h : stR M p S) (hb : b < 10) (hc : colR M' (p + 1 + 1 + 1 + 4 * b) c) (hf : gFr M M' (p + 1 + 1 + 1 + 4 * b)) : stR M' p (stCol S b c) := by
  obtain ⟨h1, h2, h3, h4, h5, h6⟩ := h
  refine ⟨h1.set hb hc hf, fun j hj => (h2 j hj).fn (hf.fn (p := p + 3) (n := 40) (by omega) (by omega)) (by omega), fun k hk => ?_, fun k hk => ?_, fun k hk => ?_, ?_⟩
  · rw [hf (p + 44) (by omega)]; exact h3 k hk
  · rw [hf (p + 45) (by omega)]; exact h4 k hk
  · rw [hf (p + 46) (by omega)]; exact h5 k hk
  · rw [hf p (by omega)]; exact h6
theorem stR.acc {M : gM} {p k : Nat} {S : St} (h : stR M p S) (hk : k < 6) (x : Int32) : stR (gUp M (p + 46) k (M (p + 46) k + x)) p (stAcc S k x) := by
  have hf : gFn M (gUp M (p + 46) k (M (p + 46) k + x)) (p + 46) 1 := gFn.up (by omega) (by omega)
  obtain ⟨h1, h2, h3, h4, h5, h6⟩ := h
  refine ⟨h1.fn hf (by omega), fun j hj => (h2 j hj).fn hf (by omega), fun k hk => ?_, fun k hk => ?_, fun i hi => ?_, ?_⟩
  · rw [hf (p + 44) (by omega)]; exact h3 k hk
  · rw [hf (p + 45) (by omega)]; exact h4 k hk
  · show _ = if i = k then S.2.2.2.2.1 i + x else S.2.2.2.2.1 i
    by_cases hik : i = k
    · subst hik
      rw [gUp_same, if_pos rfl, h5 i hi]
    · rw [gUp_ne (Or.inr hik), if_neg hik]
      exact h5 i hi
  · rw [hf p (by omega)]; exact h6
/-- ice grows by g: the layers, and how much grew -/
def pGrow (l : List Lay) (g : Int32) : List Lay × Int32 := match l with
  | x :: t => if x.1 = 0 then ((x.1, x.2.1, x.2.2 + g) :: t, g) else if t.length < 7 ∧ 0 < g then ((0, 9, g) :: x :: t, g) else (x :: t, 0)
  | [] => if 0 < g then ([(0, 9, g)], g) else ([], 0)
def f_X4_growIce : gF := fun av M post => match av with
  | [.inr (.inl (3, p)), .inr (.inl (0, q)), .inl g] => ∃ S b, stR M p S ∧ b < 10 ∧ q = p + 1 + 1 + 1 + 4 * b ∧ ∀ M', stR M' p (stAcc (stCol S b ((pGrow (S.1 b).1 g).1, (S.1 b).2)) 2 ((pGrow (S.1 b).1 g).2 * 9)) → gFn M M' p 131 → post none M'
  | _ => False
theorem icy_no {l : List Lay} {x y : Int32} (h : (if icy l = true then x else y) = y) (hne : ¬ x = y) : ¬ icy l = true := fun q => hne ((if_pos q).symm.trans h)
theorem icy_yes {l : List Lay} {x y : Int32} (h : ¬ (if icy l = true then x else y) = y) : icy l = true := by
  by_cases q : icy l = true
  · exact q
  · exact absurd (if_neg q) h
theorem pGrow_ice {l : List Lay} {g : Int32} (h : icy l = true) (h0 : 0 < l.length) : pGrow l g = (l.set 0 ((l[0]).1, (l[0]).2.1, (l[0]).2.2 + g), g) := by
  cases l with
  | nil => simp at h0
  | cons x t =>
    have hx : x.1 = 0 := of_decide_eq_true h
    simp [pGrow, hx]
theorem pGrow_new {l : List Lay} {g : Int32} (h : ¬ icy l = true) (h8 : l.length < 8) (hg : 0 < g) : pGrow l g = (l.insertIdx 0 (0, 9, g), g) := by
  cases l with
  | nil => simp [pGrow, hg]
  | cons x t =>
    have hx : ¬ x.1 = 0 := fun q => h (decide_eq_true q)
    have : t.length < 7 := by simp at h8; omega
    simp [pGrow, hx, hg, this]
theorem pGrow_no {l : List Lay} {g : Int32} (h : ¬ icy l = true) (h8 : ¬ (l.length < 8 ∧ 0 < g)) : pGrow l g = (l, 0) := by
  cases l with
  | nil =>
    have : ¬ 0 < g := fun q => h8 ⟨by simp, q⟩
    simp [pGrow, this]
  | cons x t =>
    have hx : ¬ x.1 = 0 := fun q => h (decide_eq_true q)
    have : ¬ (t.length < 7 ∧ 0 < g) := fun q => h8 ⟨by simp; omega, q.2⟩
    simp only [pGrow]
    rw [if_neg hx, if_neg this]
theorem cSet_same (C : Cru) (b : Nat) : cSet C b (C b) = C := by
  funext i
  unfold cSet
  split
  · rename_i h; rw [h]
  · rfl
theorem stCol_same (S : St) (b : Nat) : stCol S b ((S.1 b).1, (S.1 b).2) = S := by
  unfold stCol
  rw [show ((S.1 b).1, (S.1 b).2) = S.1 b from rfl, cSet_same]
theorem z9 : (0 : Int32) * 9 = 0 := by decide
theorem lk_X4_growIce (l : Launch) : gLinks l RX4 2 [(gTn f_X0_hasIceOnTop, 0, 0, 0), (gTn f_X0_insert, 0, 0, 0)] pX4_growIce := And.intro ⟨gTn f_X0_hasIceOnTop, 0, yX0_hasIceOnTop, cX0_hasIceOnTop, 1, (some .boolean), 0, _, rfl, by decide, yi_yX0_hasIceOnTop, ok_X0_hasIceOnTop l, by decide, by decide, rfl, rfl, ml_RX4_66, im_yX0_hasIceOnTop, se_yX0_hasIceOnTop⟩ (And.intro gf_RX4_70 (And.intro gf_RX4_54 (And.intro ⟨gTn f_X0_insert, 0, yX0_insert, cX0_insert, 6, none, 1, _, rfl, by decide, yi_yX0_insert, ok_X0_insert l, by decide, by decide, rfl, rfl, ml_RX4_86, im_yX0_insert, se_yX0_insert⟩ (And.intro gf_RX4_83 (trivial)))))
theorem ok_X4_growIce (l : Launch) : gOK l yX4_growIce cX4_growIce 3 none 2 0 0 (gTn f_X4_growIce) := by
  refine gM_of (by decide +kernel) pX4_growIce_ok (lk_X4_growIce l) ?_
  intro SL SX K P av M run h
  unfold f_X4_growIce at h
  split at h
  · rename_i p q g
    obtain ⟨S, b, hS, hb, rfl, h⟩ := h
    refine ⟨⟨by simp [gC1], Nat.le_of_ble_eq_true rfl⟩, ?_⟩
    have hc := hS.1 b hb
    have hk8 := hc.1
    have fin : ∀ M' l', stR M' p (stCol S b (l', (S.1 b).2)) → gFn M M' p 131 → pGrow (S.1 b).1 g = (l', g) → K 46 [some (.inr (.inl (3, p))), some (.inr (.inl (0, p + 1 + 1 + 1 + 4 * b))), some (.inl g)] [] M' gB0 := by
      intro M' l' h1 h2 h3
      rw [h3] at h
      refine run [] 1000 _ _ _ _ _ _ rfl ?_
      conv => whnf
      refine ⟨vp_in_nI (n := 2) (by decide) (by decide), ?_⟩
      conv => whnf
      refine ⟨vp_in_nI (n := 2) (by decide) (by decide), ?_⟩
      conv => whnf
      exact ⟨rfl, h _ (h1.acc (k := 2) (by decide) (g * 9)) (h2.tr (gFn.up (by omega) (by show p + 46 < p + 131; omega)))⟩
    refine run [46] 1000 _ _ _ _ _ _ rfl ?_
    conv => whnf
    refine ⟨rfl, rfl, S.1 b, hc, ?_⟩
    conv => whnf
    refine ⟨fun h1 => ?_, fun h1 => ?_⟩
    · have h0 := icy_no h1 (by decide)
      conv => whnf
      rw [show M (p + 1 + 1 + 1 + 4 * b) 3 = nI (S.1 b).1.length from hc.2.1]
      refine ⟨fun h2 => ?_, fun h2 => ?_⟩
      · conv => whnf
        have h8 : ¬ (S.1 b).1.length < 8 := fun q => (nI_ge q (by decide)) h2
        rw [pGrow_no h0 (fun q => h8 q.1), z9, stAcc_0, stCol_same] at h
        exact ⟨rfl, h M hS (gFn.rf _ _ _)⟩
      · conv => whnf
        have h8 : (S.1 b).1.length < 8 := by
          rcases Nat.lt_or_ge (S.1 b).1.length 8 with q | q
          · exact q
          · exact absurd (nI_le q (nI_lt8 hk8)) h2
        refine ⟨fun h3 => ?_, fun h3 => ?_⟩
        · conv => whnf
          rw [pGrow_no h0 (fun q => Int32.not_le.mpr q.2 h3), z9, stAcc_0, stCol_same] at h
          exact ⟨rfl, h M hS (gFn.rf _ _ _)⟩
        · conv => whnf
          refine ⟨rfl, rfl, S.1 b, 0, hc, h8, Nat.zero_le _, rfl, fun M' g1 g2 => ?_⟩
          conv => whnf
          exact fin M' _ (hS.col hb g1 g2) (g2.fn (by omega) (by omega)) (pGrow_new h0 h8 (Int32.not_le.mp h3))
    · have h0 := icy_yes h1
      have hl : 0 < (S.1 b).1.length := by
        cases hq : (S.1 b).1 with
        | nil => rw [hq] at h0; cases h0
        | cons x t => simp
      conv => whnf
      refine ⟨vp_in_nI (n := 0) (by decide) (by decide), ?_⟩
      conv => whnf
      refine ⟨vp_in_nI (n := 0) (by decide) (by decide), ?_⟩
      conv => whnf
      have h5 := hc.setT hl ((S.1 b).1[0].2.2 + g)
      rw [show M (p + 1 + 1 + 1 + 4 * b + 3) (0 : Int32).toNatClampNeg = (S.1 b).1[0].2.2 from (hc.lay hl).2.2]
      have h6 : gFr M (gUp M (p + 1 + 1 + 1 + 4 * b + 3) 0 ((S.1 b).1[0].2.2 + g)) (p + 1 + 1 + 1 + 4 * b) := gFr.up (by omega) (by omega)
      exact fin _ _ (hS.col hb h5 h6) (h6.fn (by omega) (by omega)) (pGrow_ice h0 hl)
  · exact h.elim
/-- what a step's ice does with a column: the column, what grew, what melted -/
def pIce (c : Col) (T : Nat → Int32) : Col × Int32 × Int32 := match c.1 with
  | [] => (c, 0, 0)
  | x :: _ => if T 0 < ltop c then (((pGrow c.1 (T 1)).1, c.2), (pGrow c.1 (T 1)).2, 0)
    else if x.1 = 0 then ((lThin c.1 0 (if x.2.2 < T 2 then x.2.2 else T 2), c.2), 0, (if x.2.2 < T 2 then x.2.2 else T 2)) else (c, 0, 0)
def sIce (S : St) (b : Nat) : St := stAcc (stAcc (stCol S b (pIce (S.1 b) S.2.2.2.1).1) 2 ((pIce (S.1 b) S.2.2.2.1).2.1 * 9)) 3 ((pIce (S.1 b) S.2.2.2.1).2.2 * 9)
def f_X4_changeIce : gF := fun av M post => match av with
  | [.inr (.inl (3, p)), .inr (.inl (0, q))] => ∃ S b, stR M p S ∧ b < 10 ∧ q = p + 1 + 1 + 1 + 4 * b ∧ ∀ M', stR M' p (sIce S b) → gFn M M' p 131 → post none M'
  | _ => False
theorem lk_X4_changeIce (l : Launch) : gLinks l RX4 4 [(gTn f_X0_top, 0, 0, 0), (gTn f_X4_growIce, 0, 0, 99), (gTn f_X0_hasIceOnTop, 0, 0, 0), (gTn f_X0_thin, 0, 0, 0)] pX4_changeIce := And.intro gf_RX4_54 (And.intro ⟨gTn f_X0_top, 0, yX0_top, cX0_top, 1, (some .int), 1, _, rfl, by decide, yi_yX0_top, ok_X0_top l, by decide, by decide, rfl, rfl, ml_RX4_58, im_yX0_top, se_yX0_top⟩ (And.intro gf_RX4_45 (And.intro gf_RX4_45 (And.intro ⟨gTn f_X4_growIce, 99, yX4_growIce, cX4_growIce, 3, none, 2, rfl, yi_yX4_growIce, ok_X4_growIce l, by decide, Or.inl ml_RX4_62, sm_yX4_growIce⟩ (And.intro ⟨gTn f_X0_hasIceOnTop, 0, yX0_hasIceOnTop, cX0_hasIceOnTop, 1, (some .boolean), 0, _, rfl, by decide, yi_yX0_hasIceOnTop, ok_X0_hasIceOnTop l, by decide, by decide, rfl, rfl, ml_RX4_66, im_yX0_hasIceOnTop, se_yX0_hasIceOnTop⟩ (And.intro gf_RX4_45 (And.intro gf_RX4_70 (And.intro ⟨by decide, ml_RX4_73⟩ (And.intro ⟨gTn f_X0_thin, 0, yX0_thin, cX0_thin, 3, none, 3, _, rfl, by decide, yi_yX0_thin, ok_X0_thin l, by decide, by decide, rfl, rfl, ml_RX4_79, im_yX0_thin, se_yX0_thin⟩ (And.intro gf_RX4_83 (trivial)))))))))))
theorem ok_X4_changeIce (l : Launch) : gOK l yX4_changeIce cX4_changeIce 3 none 4 0 0 (gTn f_X4_changeIce) := by
  refine gM_of (by decide +kernel) pX4_changeIce_ok (lk_X4_changeIce l) ?_
  intro SL SX K P av M run h
  unfold f_X4_changeIce at h
  split at h
  · rename_i p q
    obtain ⟨S, b, hS, hb, rfl, h⟩ := h
    refine ⟨⟨by simp [gC1], Nat.le_of_ble_eq_true rfl⟩, ?_⟩
    have hc := hS.1 b hb
    have hk8 := hc.1
    have t0 := hS.2.2.2.1 0 (by decide)
    have t1 := hS.2.2.2.1 1 (by decide)
    have t2 := hS.2.2.2.1 2 (by decide)
    unfold sIce pIce at h
    refine run [] 1000 _ _ _ _ _ _ rfl ?_
    conv => whnf
    rw [show M (p + 1 + 1 + 1 + 4 * b) 3 = nI (S.1 b).1.length from hc.2.1]
    cases hl : (S.1 b).1 with
    | nil =>
      rw [hl] at h
      refine ⟨fun h1 => ?_, fun h1 => ?_⟩
      · exact absurd rfl h1
      · conv => whnf
        refine ⟨rfl, h M ?_ (gFn.rf _ _ _)⟩
        show stR M p (stAcc (stAcc (stCol S b (S.1 b)) 2 (0 * 9)) 3 (0 * 9))
        rw [z9, stAcc_0, stAcc_0, show stCol S b (S.1 b) = S from stCol_same S b]
        exact hS
    | cons x t =>
      have hx := (hc.2.2.2 0 x (by rw [hl]; rfl))
      rw [hl] at h
      have h : ∀ M', stR M' p (stAcc (stAcc (stCol S b (if S.2.2.2.1 0 < ltop (S.1 b) then (((pGrow (S.1 b).1 (S.2.2.2.1 1)).1, (S.1 b).2), (pGrow (S.1 b).1 (S.2.2.2.1 1)).2, 0)
    else if x.1 = 0 then ((lThin (S.1 b).1 0 (if x.2.2 < S.2.2.2.1 2 then x.2.2 else S.2.2.2.1 2), (S.1 b).2), 0, (if x.2.2 < S.2.2.2.1 2 then x.2.2 else S.2.2.2.1 2)) else (S.1 b, 0, 0) : Col × Int32 × Int32).1) 2 ((if S.2.2.2.1 0 < ltop (S.1 b) then (((pGrow (S.1 b).1 (S.2.2.2.1 1)).1, (S.1 b).2), (pGrow (S.1 b).1 (S.2.2.2.1 1)).2, 0)
    else if x.1 = 0 then ((lThin (S.1 b).1 0 (if x.2.2 < S.2.2.2.1 2 then x.2.2 else S.2.2.2.1 2), (S.1 b).2), 0, (if x.2.2 < S.2.2.2.1 2 then x.2.2 else S.2.2.2.1 2)) else (S.1 b, 0, 0) : Col × Int32 × Int32).2.1 * 9)) 3 ((if S.2.2.2.1 0 < ltop (S.1 b) then (((pGrow (S.1 b).1 (S.2.2.2.1 1)).1, (S.1 b).2), (pGrow (S.1 b).1 (S.2.2.2.1 1)).2, 0)
    else if x.1 = 0 then ((lThin (S.1 b).1 0 (if x.2.2 < S.2.2.2.1 2 then x.2.2 else S.2.2.2.1 2), (S.1 b).2), 0, (if x.2.2 < S.2.2.2.1 2 then x.2.2 else S.2.2.2.1 2)) else (S.1 b, 0, 0) : Col × Int32 × Int32).2.2 * 9)) → gFn M M' p 131 → P none M' := by
        rw [hl]
        exact h
      refine ⟨fun h1 => ?_, fun h1 => ?_⟩
      · conv => whnf
        refine ⟨rfl, rfl, S.1 b, hc, ?_⟩
        conv => whnf
        refine ⟨vp_in_nI (n := 0) (by decide) (by decide), ?_⟩
        conv => whnf
        rw [show M (p + 45) (0 : Int32).toNatClampNeg = S.2.2.2.1 0 from t0]
        refine ⟨fun h2 => ?_, fun h2 => ?_⟩
        · rw [if_neg (Int32.not_lt.mpr h2)] at h
          conv => whnf
          refine ⟨rfl, rfl, S.1 b, hc, ?_⟩
          conv => whnf
          have hi : icy (S.1 b).1 = decide (x.1 = 0) := by rw [hl]; rfl
          refine ⟨fun h3 => ?_, fun h3 => ?_⟩
          · have h0 := icy_no h3 (by decide)
            conv => whnf
            rw [hi] at h0
            rw [if_neg (fun q => h0 (decide_eq_true q))] at h
            refine ⟨rfl, h M ?_ (gFn.rf _ _ _)⟩
            show stR M p (stAcc (stAcc (stCol S b (S.1 b)) 2 (0 * 9)) 3 (0 * 9))
            rw [z9, stAcc_0, stAcc_0, show stCol S b (S.1 b) = S from stCol_same S b]
            exact hS
          · have h0 := icy_yes h3
            rw [hi] at h0
            rw [if_pos (of_decide_eq_true h0)] at h
            have h : ∀ M', stR M' p (stAcc (stAcc (stCol S b (lThin (S.1 b).1 0 (if x.2.2 < S.2.2.2.1 2 then x.2.2 else S.2.2.2.1 2), (S.1 b).2)) 2 (0 * 9)) 3 ((if x.2.2 < S.2.2.2.1 2 then x.2.2 else S.2.2.2.1 2) * 9)) → gFn M M' p 131 → P none M' := h
            rw [z9, stAcc_0] at h
            conv => whnf
            refine ⟨vp_in_nI (n := 2) (by decide) (by decide), ?_⟩
            conv => whnf
            refine ⟨vp_in_nI (n := 0) (by decide) (by decide), ?_⟩
            conv => whnf
            rw [show M (p + 1 + 1 + 1 + 4 * b + 3) (0 : Int32).toNatClampNeg = x.2.2 from hx.2.2, show M (p + 45) (2 : Int32).toNatClampNeg = S.2.2.2.1 2 from t2]
            refine ⟨rfl, rfl, S.1 b, 0, hc, by rw [hl]; simp, rfl, fun M' g1 g2 => ?_⟩
            conv => whnf
            refine ⟨vp_in_nI (n := 3) (by decide) (by decide), ?_⟩
            conv => whnf
            refine ⟨vp_in_nI (n := 3) (by decide) (by decide), ?_⟩
            conv => whnf
            exact ⟨rfl, h _ ((hS.col hb g1 g2).acc (k := 3) (by decide) _) ((g2.fn (by omega) (by omega)).tr (gFn.up (by omega) (by show p + 46 < p + 131; omega)))⟩
        · rw [if_pos (Int32.not_le.mp h2)] at h
          have h : ∀ M', stR M' p (stAcc (stAcc (stCol S b ((pGrow (S.1 b).1 (S.2.2.2.1 1)).1, (S.1 b).2)) 2 ((pGrow (S.1 b).1 (S.2.2.2.1 1)).2 * 9)) 3 (0 * 9)) → gFn M M' p 131 → P none M' := h
          rw [z9, stAcc_0] at h
          conv => whnf
          refine ⟨vp_in_nI (n := 1) (by decide) (by decide), ?_⟩
          conv => whnf
          rw [show M (p + 45) (1 : Int32).toNatClampNeg = S.2.2.2.1 1 from t1]
          refine ⟨rfl, rfl, S, b, hS, hb, rfl, fun M' g1 g2 => ?_⟩
          conv => whnf
          exact ⟨rfl, h M' g1 g2⟩
      · exact absurd h1 (nI_ne0 (by simp) (nI_lt8 (by rw [hl] at hk8; exact hk8)))
  · exact h.elim
