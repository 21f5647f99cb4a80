theorem m1_sub (n : Nat) : nI n + (-1) = nI n - 1 := (Int32.sub_eq_add_neg (nI n) 1).symm
theorem nI_sub_neg : nI 0 - 1 < 0 := by decide
def lDk (k : Int32) (l : List Lay) : List Lay := l.filter (fun x => !decide (x.1 = k))
theorem lDk_c1 {k : Int32} {x : Lay} (t : List Lay) (h : x.1 = k) : lDk k (x :: t) = lDk k t := by simp [lDk, h]
theorem lDk_c2 {k : Int32} {x : Lay} (t : List Lay) (h : ¬ x.1 = k) : lDk k (x :: t) = x :: lDk k t := by simp [lDk, h]
theorem lDk_yes {k : Int32} {l : List Lay} {m : Nat} (hm : m < l.length) (h : (l[m]).1 = k) : (l.take (m + 1) ++ lDk k (l.drop (m + 1))).eraseIdx m = l.take m ++ lDk k (l.drop m) := by
  have hl : (l.take m).length = m := by rw [List.length_take]; omega
  rw [List.take_succ_eq_append_getElem hm, List.append_assoc, List.eraseIdx_append_of_length_le (by rw [hl]; exact Nat.le_refl _), hl, Nat.sub_self]
  rw [List.drop_eq_getElem_cons hm, lDk_c1 _ h]
  rfl
theorem lDk_no {k : Int32} {l : List Lay} {m : Nat} (hm : m < l.length) (h : ¬ (l[m]).1 = k) : l.take (m + 1) ++ lDk k (l.drop (m + 1)) = l.take m ++ lDk k (l.drop m) := by
  rw [List.take_succ_eq_append_getElem hm, List.append_assoc, List.drop_eq_getElem_cons hm, lDk_c2 _ h]
  rfl
theorem lDk_at {k : Int32} {l : List Lay} {m : Nat} (hm : m < l.length) : (l.take (m + 1) ++ lDk k (l.drop (m + 1)))[m]? = some l[m] := by
  rw [List.getElem?_append_left (by rw [List.length_take]; omega), List.getElem?_take_of_lt (by omega), List.getElem?_eq_getElem hm]
def f_X0_deleteKind : gF := fun av M post => match av with
  | [.inr (.inl (0, p)), .inl k] => ∃ c, colR M p c ∧ ∀ M', colR M' p (lDk k c.1, c.2) → gFr M M' p → post none M'
  | _ => False
theorem lk_X0_deleteKind (l : Launch) : gLinks l RX0 3 [(gTn f_X0_delete, 0, 0, 0)] pX0_deleteKind := And.intro gf_RX0_27 (And.intro gf_RX0_9 (And.intro ⟨gTn f_X0_delete, 0, yX0_delete, cX0_delete, 3, none, 2, _, rfl, by decide, yi_yX0_delete, ok_X0_delete l, by decide, by decide, rfl, rfl, ml_RX0_60, im_yX0_delete, se_yX0_delete⟩ (trivial)))
theorem ok_X0_deleteKind (l : Launch) : gOK l yX0_deleteKind cX0_deleteKind 3 none 3 0 0 (gTn f_X0_deleteKind) := by
  refine gM_of (by decide +kernel) pX0_deleteKind_ok (lk_X0_deleteKind l) ?_
  intro SL SX K P av M run h
  unfold f_X0_deleteKind at h
  split at h
  · rename_i p kd
    obtain ⟨⟨l, b⟩, hc, h⟩ := h
    refine ⟨⟨by simp [gC1], Nat.le_of_ble_eq_true rfl⟩, ?_⟩
    have hk8 := hc.1
    refine run [7] 1000 _ _ _ _ _ _ rfl ?_
    conv => whnf
    rw [hc.2.1]
    have down : ∀ m, m ≤ l.length → ∀ M', colR M' p (l.take m ++ lDk kd (l.drop m), b) → gFr M M' p → K 7 [some (.inr (.inl (0, p))), some (.inl kd), some (.inl (nI m - 1))] [] M' gB0 := by
      intro m
      induction m with
      | zero =>
        intro hm M' h1 h2
        refine run [7] 1000 _ _ _ _ _ _ rfl ?_
        conv => whnf
        refine ⟨fun h3 => ?_, fun h3 => ?_⟩
        · conv => whnf
          exact ⟨rfl, h M' h1 h2⟩
        · exact absurd nI_sub_neg h3
      | succ m ih =>
        intro hm M' h1 h2
        have hl := h1.2.2.2 m _ (lDk_at (k := kd) hm)
        have hl8 : m < 8 := by have : l.length ≤ 8 := hk8; omega
        rw [nI_pred]
        refine run [7] 1000 _ _ _ _ _ _ rfl ?_
        conv => whnf
        refine ⟨fun h3 => ?_, fun h3 => ?_⟩
        · exact absurd h3 (nI_pos (nI_lt8 (by omega)))
        · conv => whnf
          refine ⟨vp_in_nI hl8 (by decide), ?_⟩
          conv => whnf
          rw [nI_clamp (nI_lt8 (by omega)), hl.1]
          refine ⟨fun h4 => ?_, fun h4 => ?_⟩
          · conv => whnf
            rw [m1_sub]
            exact ih (by omega) M' (by rw [← lDk_no hm h4]; exact h1) h2
          · conv => whnf
            refine ⟨rfl, rfl, _, m, h1, (List.getElem?_eq_some_iff.mp (lDk_at hm)).1, rfl, fun M2 g1 g2 => ?_⟩
            conv => whnf
            rw [m1_sub]
            exact ih (by omega) M2 (by rw [← lDk_yes hm h4]; exact g1) (h2.tr g2)
    exact down l.length (Nat.le_refl _) M (by simpa [lDk] using hc) (gFr.rf M p)
  · exact h.elim
theorem colR.setT {M : gM} {p j : Nat} {c : Col} (h : colR M p c) (hj : j < c.1.length) (t : Int32) : colR (gUp M (p + 3) j t) p (c.1.set j ((c.1[j]).1, (c.1[j]).2.1, t), c.2) := by
  obtain ⟨h1, h2, h3, h4⟩ := h
  refine ⟨by simpa using h1, ?_, ?_, fun k y hk => ?_⟩
  · rw [gUp_row (by omega), h2]
    simp
  · rw [gUp_row (by omega)]
    exact h3
  · rw [gUp_row (by omega), gUp_row (by omega)]
    by_cases hkj : k = j
    · subst hkj
      rw [List.getElem?_set_self hj] at hk
      cases hk
      have := h4 k _ (List.getElem?_eq_getElem hj)
      exact ⟨this.1, this.2.1, gUp_same _ _ _ _⟩
    · rw [List.getElem?_set_ne (Ne.symm hkj)] at hk
      rw [gUp_ne (Or.inr hkj)]
      exact h4 k y hk
/-- a layer thinner by x; gone if nothing is left -/
def lThin (l : List Lay) (j : Nat) (x : Int32) : List Lay := match l[j]? with
  | none => l
  | some y => if y.2.2 - x ≤ 0 then l.eraseIdx j else l.set j (y.1, y.2.1, y.2.2 - x)
theorem lThin_eq {l : List Lay} {j : Nat} (hj : j < l.length) (x : Int32) : lThin l j x = if (l[j]).2.2 - x ≤ 0 then l.eraseIdx j else l.set j ((l[j]).1, (l[j]).2.1, (l[j]).2.2 - x) := by
  unfold lThin
  rw [List.getElem?_eq_getElem hj]
def f_X0_thin : gF := fun av M post => match av with
  | [.inr (.inl (0, p)), .inl v, .inl x] => ∃ c j, colR M p c ∧ j < c.1.length ∧ v = nI j ∧ ∀ M', colR M' p (lThin c.1 j x, c.2) → gFr M M' p → post none M'
  | _ => False
theorem lk_X0_thin (l : Launch) : gLinks l RX0 3 [(gTn f_X0_delete, 0, 0, 0)] pX0_thin := And.intro gf_RX0_18 (And.intro gf_RX0_18 (And.intro ⟨gTn f_X0_delete, 0, yX0_delete, cX0_delete, 3, none, 2, _, rfl, by decide, yi_yX0_delete, ok_X0_delete l, by decide, by decide, rfl, rfl, ml_RX0_60, im_yX0_delete, se_yX0_delete⟩ (trivial)))
theorem ok_X0_thin (l : Launch) : gOK l yX0_thin cX0_thin 3 none 3 0 0 (gTn f_X0_thin) := by
  refine gM_of (by decide +kernel) pX0_thin_ok (lk_X0_thin l) ?_
  intro SL SX K P av M run h
  unfold f_X0_thin at h
  split at h
  · rename_i p v x
    obtain ⟨c, j, hc, hj, rfl, h⟩ := h
    refine ⟨⟨by simp [gC1], Nat.le_of_ble_eq_true rfl⟩, ?_⟩
    have hk8 := hc.1
    have hcl : (nI j).toNatClampNeg = j := nI_clamp (nI_lt8 (by omega))
    rw [lThin_eq hj] at h
    refine run [] 1000 _ _ _ _ _ _ rfl ?_
    conv => whnf
    refine ⟨vp_in_nI (by omega) (by decide), ?_⟩
    conv => whnf
    refine ⟨vp_in_nI (by omega) (by decide), ?_⟩
    conv => whnf
    refine ⟨vp_in_nI (by omega) (by decide), ?_⟩
    conv => whnf
    rw [hcl, gUp_same, (hc.lay hj).2.2]
    have h5 := hc.setT hj ((c.1[j]).2.2 - x)
    refine ⟨fun h1 => ?_, fun h1 => ?_⟩
    · conv => whnf
      refine ⟨rfl, h _ ?_ (gFr.up (by omega) (by omega))⟩
      rw [if_neg (Int32.not_le.mpr h1)]
      exact h5
    · conv => whnf
      refine ⟨rfl, rfl, _, j, h5, by simpa using hj, rfl, fun M' g1 g2 => ?_⟩
      conv => whnf
      refine ⟨rfl, h M' ?_ ((gFr.up (by omega) (by omega)).tr g2)⟩
      rw [if_pos (Int32.not_lt.mp h1)]
      have e : (c.1.set j ((c.1[j]).1, (c.1[j]).2.1, (c.1[j]).2.2 - x)).eraseIdx j = c.1.eraseIdx j := by
        rw [List.eraseIdx_eq_take_drop_succ, List.eraseIdx_eq_take_drop_succ, List.take_set_of_le (Nat.le_refl _), List.drop_set_of_lt (by omega)]
      rw [← e]
      exact g1
  · exact h.elim
def f_X0_balanceBase : gF := fun av M post => match av with
  | [.inr (.inl (0, p))] => ∃ c, colR M p c ∧ post none (gUp M p 4 (lbal c.1))
  | _ => False
theorem lk_X0_balanceBase (l : Launch) : gLinks l RX0 3 [(gTn f_X0_balance, 0, 0, 0)] pX0_balanceBase := And.intro ⟨gTn f_X0_balance, 0, yX0_balance, cX0_balance, 1, (some .int), 2, _, rfl, by decide, yi_yX0_balance, ok_X0_balance l, by decide, by decide, rfl, rfl, ml_RX0_64, im_yX0_balance, se_yX0_balance⟩ (And.intro gf_RX0_31 (trivial))
theorem ok_X0_balanceBase (l : Launch) : gOK l yX0_balanceBase cX0_balanceBase 1 none 3 0 0 (gTn f_X0_balanceBase) := by
  refine gM_of (by decide +kernel) pX0_balanceBase_ok (lk_X0_balanceBase l) ?_
  intro SL SX K P av M run h
  unfold f_X0_balanceBase at h
  split at h
  · rename_i p
    obtain ⟨c, hc, h⟩ := h
    refine ⟨⟨by simp [gC1], Nat.le_of_ble_eq_true rfl⟩, ?_⟩
    refine run [] 1000 _ _ _ _ _ _ rfl ?_
    conv => whnf
    refine ⟨rfl, rfl, c, hc, ?_⟩
    conv => whnf
    exact ⟨rfl, h⟩
  · exact h.elim
def f_J6_compare_7cf53 : gF := fun av M post => match av with
  | [.inl x, .inl y] => post (some (.inl (if x < y then -1 else if x = y then 0 else 1))) M
  | _ => False
theorem lk_J6_compare_7cf53 (l : Launch) : gLinks l RJ6 0 [] pJ6_compare_7cf53 := trivial
theorem ok_J6_compare_7cf53 (l : Launch) : gOK l yJ6_compare_7cf53 cJ6_compare_7cf53 2 (some .int) 0 0 0 (gTn f_J6_compare_7cf53) := by
  refine gM_of (by decide +kernel) pJ6_compare_7cf53_ok (lk_J6_compare_7cf53 l) ?_
  intro SL SX K P av M run h
  unfold f_J6_compare_7cf53 at h
  split at h
  · rename_i x y
    refine ⟨⟨by simp [gC1], Nat.le_of_ble_eq_true rfl⟩, ?_⟩
    refine run [] 1000 _ _ _ _ _ _ rfl ?_
    conv => whnf
    refine ⟨fun h1 => ?_, fun h1 => ?_⟩
    · conv => whnf
      rw [if_neg (Int32.not_lt.mpr h1)] at h
      refine ⟨fun h2 => ?_, fun h2 => ?_⟩
      · conv => whnf
        rw [if_neg h2] at h
        exact ⟨rfl, h⟩
      · conv => whnf
        rw [if_pos h2] at h
        exact ⟨rfl, h⟩
    · conv => whnf
      rw [if_pos (Int32.not_le.mp h1)] at h
      exact ⟨rfl, h⟩
  · exact h.elim
/-- a base, a step of floating further -/
def fld (d b r : Int32) : Int32 := d + (if ((b - d).toInt64 * r.toInt64 / Int64.ofNat 100).toInt32 = 0 then (if b - d < 0 then -1 else if b - d = 0 then 0 else 1) else ((b - d).toInt64 * r.toInt64 / Int64.ofNat 100).toInt32)
def f_X0_floated : gF := fun av M post => match av with
  | [.inl d, .inl b, .inl r] => post (some (.inl (fld d b r))) M
  | _ => False
theorem lk_X0_floated (l : Launch) : gLinks l RX0 1 [(gTn f_J6_compare_7cf53, 0, 0, 99)] pX0_floated := And.intro kc_RX0_72 (And.intro ⟨gTn f_J6_compare_7cf53, 99, yJ6_compare_7cf53, cJ6_compare_7cf53, 2, (some .int), 0, rfl, yi_yJ6_compare_7cf53, ok_J6_compare_7cf53 l, by decide, Or.inl ml_RX0_74, sm_yJ6_compare_7cf53⟩ (trivial))
theorem ok_X0_floated (l : Launch) : gOK l yX0_floated cX0_floated 5 (some .int) 1 0 0 (gTn f_X0_floated) := by
  refine gM_of (by decide +kernel) pX0_floated_ok (lk_X0_floated l) ?_
  intro SL SX K P av M run h
  unfold f_X0_floated at h
  split at h
  · rename_i d b r
    refine ⟨⟨by simp [gC1], Nat.le_of_ble_eq_true rfl⟩, ?_⟩
    unfold fld at h
    refine run [] 1000 _ _ _ _ _ _ rfl ?_
    conv => whnf
    refine ⟨by decide, ?_⟩
    conv => whnf
    refine ⟨fun h1 => ?_, fun h1 => ?_⟩
    · conv => whnf
      rw [if_neg h1] at h
      exact ⟨rfl, h⟩
    · conv => whnf
      refine ⟨rfl, rfl, ?_⟩
      conv => whnf
      rw [if_pos h1] at h
      exact ⟨rfl, h⟩
  · exact h.elim
def f_X0_floatOnce : gF := fun av M post => match av with
  | [.inr (.inl (0, p)), .inl r] => ∃ c, colR M p c ∧ post none (gUp M p 4 (fld c.2 (lbal c.1) r))
  | _ => False
theorem lk_X0_floatOnce (l : Launch) : gLinks l RX0 3 [(gTn f_X0_balance, 0, 0, 0), (gTn f_X0_floated, 0, 0, 99)] pX0_floatOnce := And.intro gf_RX0_31 (And.intro ⟨gTn f_X0_balance, 0, yX0_balance, cX0_balance, 1, (some .int), 2, _, rfl, by decide, yi_yX0_balance, ok_X0_balance l, by decide, by decide, rfl, rfl, ml_RX0_64, im_yX0_balance, se_yX0_balance⟩ (And.intro ⟨gTn f_X0_floated, 99, yX0_floated, cX0_floated, 5, (some .int), 1, rfl, yi_yX0_floated, ok_X0_floated l, by decide, Or.inl ml_RX0_67, sm_yX0_floated⟩ (And.intro gf_RX0_31 (trivial))))
theorem ok_X0_floatOnce (l : Launch) : gOK l yX0_floatOnce cX0_floatOnce 2 none 3 0 0 (gTn f_X0_floatOnce) := by
  refine gM_of (by decide +kernel) pX0_floatOnce_ok (lk_X0_floatOnce l) ?_
  intro SL SX K P av M run h
  unfold f_X0_floatOnce at h
  split at h
  · rename_i p r
    obtain ⟨c, hc, h⟩ := h
    refine ⟨⟨by simp [gC1], Nat.le_of_ble_eq_true rfl⟩, ?_⟩
    refine run [] 1000 _ _ _ _ _ _ rfl ?_
    conv => whnf
    refine ⟨rfl, rfl, c, hc, ?_⟩
    conv => whnf
    rw [hc.2.2.1]
    refine ⟨rfl, rfl, ?_⟩
    conv => whnf
    exact ⟨rfl, h⟩
  · exact h.elim
def itF (b r d : Int32) : Nat → Int32
  | 0 => d
  | n + 1 => fld (itF b r d n) b r
def f_X0_stepsOfFloating : gF := fun av M post => match av with
  | [.inr (.inl (0, p)), .inl r] => ∃ c N, colR M p c ∧ N ≤ 1000000 ∧ itF (lbal c.1) r c.2 N = lbal c.1 ∧ (∀ i, i < N → ¬ itF (lbal c.1) r c.2 i = lbal c.1) ∧ post (some (.inl (nI N))) M
  | _ => False
theorem lk_X0_stepsOfFloating (l : Launch) : gLinks l RX0 3 [(gTn f_X0_balance, 0, 0, 0), (gTn f_X0_floated, 0, 0, 99)] pX0_stepsOfFloating := And.intro ⟨gTn f_X0_balance, 0, yX0_balance, cX0_balance, 1, (some .int), 2, _, rfl, by decide, yi_yX0_balance, ok_X0_balance l, by decide, by decide, rfl, rfl, ml_RX0_64, im_yX0_balance, se_yX0_balance⟩ (And.intro gf_RX0_31 (And.intro kc_RX0_71 (And.intro ⟨gTn f_X0_floated, 99, yX0_floated, cX0_floated, 5, (some .int), 1, rfl, yi_yX0_floated, ok_X0_floated l, by decide, Or.inl ml_RX0_67, sm_yX0_floated⟩ (trivial))))
theorem ok_X0_stepsOfFloating (l : Launch) : gOK l yX0_stepsOfFloating cX0_stepsOfFloating 5 (some .int) 3 0 0 (gTn f_X0_stepsOfFloating) := by
  refine gM_of (by decide +kernel) pX0_stepsOfFloating_ok (lk_X0_stepsOfFloating l) ?_
  intro SL SX K P av M run h
  unfold f_X0_stepsOfFloating at h
  split at h
  · rename_i p r
    obtain ⟨c, N, hc, hN, he, hne, h⟩ := h
    refine ⟨⟨by simp [gC1], Nat.le_of_ble_eq_true rfl⟩, ?_⟩
    refine run [13] 1000 _ _ _ _ _ _ rfl ?_
    conv => whnf
    refine ⟨rfl, rfl, c, hc, ?_⟩
    conv => whnf
    rw [hc.2.2.1]
    refine upto (n := N) (A := fun k => K 13 [some (.inr (.inl (0, p))), some (.inl r), some (.inl (lbal c.1)), some (.inl (itF (lbal c.1) r c.2 k)), some (.inl (nI k))] [] M gB0) ?_ (fun k hk ih => ?_) 0 (Nat.zero_le _)
    · refine run [13] 1000 _ _ _ _ _ _ rfl ?_
      conv => whnf
      refine ⟨fun h1 => ?_, fun h1 => ?_⟩
      · conv => whnf
        exact ⟨rfl, h⟩
      · exact absurd he h1
    · refine run [13] 1000 _ _ _ _ _ _ rfl ?_
      conv => whnf
      refine ⟨fun h1 => ?_, fun h1 => ?_⟩
      · exact absurd h1 (hne k hk)
      · conv => whnf
        refine ⟨fun h2 => ?_, fun h2 => ?_⟩
        · exact absurd h2 (nI_ge (b := 1000000) (by omega) (by decide))
        · conv => whnf
          refine ⟨rfl, rfl, ?_⟩
          conv => whnf
          rw [nI_1]
          exact ih
  · exact h.elim
def lbare (c : Col) : Int32 := lth c.1 - lic c.1 - (lwt c.1 - lic c.1 * 9) / 33
def f_X0_balancedTopWithoutIce : gF := fun av M post => match av with
  | [.inr (.inl (0, p))] => ∃ c, colR M p c ∧ post (some (.inl (lbare c))) M
  | _ => False
def dnAt (h : Int32) : List Lay → Int32 → Int32
  | [], _ => 0
  | x :: r, lo => if h < lo + x.2.2 then x.2.1 else dnAt h r (lo + x.2.2)
def ldens (c : Col) (h : Int32) : Int32 := if h < -c.2 then 33 else dnAt h c.1.reverse (-c.2)
def f_X0_densityAt : gF := fun av M post => match av with
  | [.inr (.inl (0, p)), .inl v] => ∃ c, colR M p c ∧ post (some (.inl (ldens c v))) M
  | _ => False
theorem lk_X0_densityAt (l : Launch) : gLinks l RX0 0 [] pX0_densityAt := And.intro gf_RX0_31 (And.intro gf_RX0_31 (And.intro gf_RX0_27 (And.intro gf_RX0_18 (And.intro gf_RX0_15 (trivial)))))
theorem ok_X0_densityAt (l : Launch) : gOK l yX0_densityAt cX0_densityAt 4 (some .int) 0 0 0 (gTn f_X0_densityAt) := by
  refine gM_of (by decide +kernel) pX0_densityAt_ok (lk_X0_densityAt l) ?_
  intro SL SX K P av M run h
  unfold f_X0_densityAt at h
  split at h
  · rename_i p v
    obtain ⟨⟨l, b⟩, hc, h⟩ := h
    refine ⟨⟨by simp [gC1], Nat.le_of_ble_eq_true rfl⟩, ?_⟩
    have hk8 : l.length ≤ 8 := hc.1
    unfold ldens at h
    have down : ∀ m, m ≤ l.length → ∀ lo, P (some (.inl (dnAt v (l.take m).reverse lo))) M → K 25 [some (.inr (.inl (0, p))), some (.inl v), some (.inl lo), some (.inl (nI m - 1))] [] M gB0 := by
      intro m
      induction m with
      | zero =>
        intro hm lo h
        refine run [25] 1000 _ _ _ _ _ _ rfl ?_
        conv => whnf
        refine ⟨fun h3 => ?_, fun h3 => ?_⟩
        · conv => whnf
          exact ⟨rfl, h⟩
        · exact absurd nI_sub_neg h3
      | succ m ih =>
        intro hm lo h
        have hl := hc.lay (k := m) hm
        rw [List.take_succ_eq_append_getElem hm, List.reverse_append] at h
        rw [nI_pred]
        refine run [25] 1000 _ _ _ _ _ _ rfl ?_
        conv => whnf
        refine ⟨fun h3 => ?_, fun h3 => ?_⟩
        · exact absurd h3 (nI_pos (nI_lt8 (by omega)))
        · conv => whnf
          refine ⟨vp_in_nI (by omega) (by decide), ?_⟩
          conv => whnf
          rw [nI_clamp (nI_lt8 (by omega)), hl.2.2]
          have h : P (some (.inl (if v < lo + (l[m]).2.2 then (l[m]).2.1 else dnAt v (l.take m).reverse (lo + (l[m]).2.2)))) M := h
          refine ⟨fun h4 => ?_, fun h4 => ?_⟩
          · conv => whnf
            rw [if_neg (Int32.not_lt.mpr h4)] at h
            rw [m1_sub]
            exact ih (by omega) _ h
          · conv => whnf
            rw [if_pos (Int32.not_le.mp h4)] at h
            refine ⟨vp_in_nI (by omega) (by decide), ?_⟩
            conv => whnf
            rw [nI_clamp (nI_lt8 (by omega)), hl.2.1]
            exact ⟨rfl, h⟩
    refine run [25] 1000 _ _ _ _ _ _ rfl ?_
    conv => whnf
    rw [hc.2.2.1]
    refine ⟨fun h1 => ?_, fun h1 => ?_⟩
    · conv => whnf
      rw [if_neg (Int32.not_lt.mpr h1)] at h
      rw [hc.2.1, hc.2.2.1]
      exact down l.length (Nat.le_refl _) _ (by rw [List.take_length]; exact h)
    · conv => whnf
      rw [if_pos (Int32.not_le.mp h1)] at h
      exact ⟨rfl, h⟩
  · exact h.elim
def prAt : List Lay → Int32 → Int32 → Int32
  | [], _, sum => sum
  | x :: r, ab, sum => if 0 < ab then prAt r (ab - x.2.2) (sum + x.2.1 * (if x.2.2 < ab then x.2.2 else ab)) else sum
def lpr (c : Col) (d : Int32) : Int32 := prAt c.1 (d + ltop c) 0 + 33 * (if d - c.2 < 0 then 0 else d - c.2)
def f_X0_pressureAt : gF := fun av M post => match av with
  | [.inr (.inl (0, p)), .inl v] => ∃ c, colR M p c ∧ post (some (.inl (lpr c v))) M
  | _ => False
theorem lk_X0_pressureAt (l : Launch) : gLinks l RX0 2 [(gTn f_X0_top, 0, 0, 0)] pX0_pressureAt := And.intro ⟨gTn f_X0_top, 0, yX0_top, cX0_top, 1, (some .int), 1, _, rfl, by decide, yi_yX0_top, ok_X0_top l, by decide, by decide, rfl, rfl, ml_RX0_49, im_yX0_top, se_yX0_top⟩ (And.intro gf_RX0_27 (And.intro gf_RX0_15 (And.intro gf_RX0_18 (And.intro ⟨by decide, ml_RX0_83⟩ (And.intro gf_RX0_18 (And.intro gf_RX0_31 (And.intro ⟨by decide, ml_RX0_88⟩ (trivial))))))))
theorem ok_X0_pressureAt (l : Launch) : gOK l yX0_pressureAt cX0_pressureAt 5 (some .int) 2 0 0 (gTn f_X0_pressureAt) := by
  refine gM_of (by decide +kernel) pX0_pressureAt_ok (lk_X0_pressureAt l) ?_
  intro SL SX K P av M run h
  unfold f_X0_pressureAt at h
  split at h
  · rename_i p v
    obtain ⟨⟨l, b⟩, hc, h⟩ := h
    refine ⟨⟨by simp [gC1], Nat.le_of_ble_eq_true rfl⟩, ?_⟩
    have hk8 : l.length ≤ 8 := hc.1
    unfold lpr at h
    have fin : ∀ (ab k sum : Int32), P (some (.inl (sum + 33 * (if v - b < 0 then 0 else v - b)))) M → K 63 [some (.inr (.inl (0, p))), some (.inl v), some (.inl sum), some (.inl ab), some (.inl k)] [] M gB0 := by
      intro ab k sum h
      refine run [] 1000 _ _ _ _ _ _ rfl ?_
      conv => whnf
      rw [hc.2.2.1]
      exact ⟨rfl, h⟩
    refine run [12] 1000 _ _ _ _ _ _ rfl ?_
    conv => whnf
    refine ⟨rfl, rfl, _, hc, ?_⟩
    conv => whnf
    refine upto (n := l.length) (A := fun k => ∀ ab sum, P (some (.inl (prAt (l.drop k) ab sum + 33 * (if v - b < 0 then 0 else v - b)))) M → K 12 [some (.inr (.inl (0, p))), some (.inl v), some (.inl sum), some (.inl ab), some (.inl (nI k))] [] M gB0) ?_ (fun k hkl ih => ?_) 0 (Nat.zero_le _) _ _ h
    · intro ab sum h
      rw [List.drop_length] at h
      refine run [12, 63] 1000 _ _ _ _ _ _ rfl ?_
      conv => whnf
      rw [hc.2.1]
      refine ⟨fun h1 => ?_, fun h1 => ?_⟩
      · conv => whnf
        exact fin _ _ _ h
      · exact absurd (nI_le (Nat.le_refl _) (nI_lt8 hk8)) h1
    · intro ab sum h
      rw [List.drop_eq_getElem_cons hkl] at h
      have hl := hc.lay (k := k) hkl
      refine run [12, 63] 1000 _ _ _ _ _ _ rfl ?_
      conv => whnf
      rw [hc.2.1]
      refine ⟨fun h1 => ?_, fun h1 => ?_⟩
      · exact absurd h1 (nI_ge hkl (nI_lt8 hk8))
      · conv => whnf
        refine ⟨fun h2 => ?_, fun h2 => ?_⟩
        · conv => whnf
          rw [prAt, if_neg (Int32.not_lt.mpr h2)] at h
          exact fin _ _ _ h
        · conv => whnf
          rw [prAt, if_pos (Int32.not_le.mp h2)] at h
          refine ⟨vp_in_nI (by omega) (by decide), ?_⟩
          conv => whnf
          refine ⟨vp_in_nI (by omega) (by decide), ?_⟩
          conv => whnf
          refine ⟨vp_in_nI (by omega) (by decide), ?_⟩
          conv => whnf
          rw [nI_clamp (nI_lt8 (by omega)), hl.2.1, hl.2.2, nI_1]
          exact ih _ _ h
  · exact h.elim
def f_X0_copyFrom : gF := fun av M post => match av with
  | [.inr (.inl (0, p)), .inr (.inl (0, q))] => ∃ c, colR M q c ∧ (q + 3 < p ∨ p + 3 < q) ∧ ∀ M', colR M' p c → gFr M M' p → post none M'
  | _ => False
theorem gCp_in {M : gM} {q0 q1 n k : Nat} (h : k < n) : gCp M q0 q1 n q1 k = M q0 k := if_pos ⟨rfl, h⟩
theorem lk_X0_copyFrom (l : Launch) : gLinks l RX0 1 [] pX0_copyFrom := And.intro gf_RX0_9 (And.intro gf_RX0_9 (And.intro ⟨by decide, ml_RX0_21⟩ (And.intro gf_RX0_15 (And.intro gf_RX0_15 (And.intro ⟨by decide, ml_RX0_21⟩ (And.intro gf_RX0_18 (And.intro gf_RX0_18 (And.intro ⟨by decide, ml_RX0_21⟩ (And.intro gf_RX0_27 (And.intro gf_RX0_27 (And.intro gf_RX0_31 (And.intro gf_RX0_31 (trivial)))))))))))))
theorem ok_X0_copyFrom (l : Launch) : gOK l yX0_copyFrom cX0_copyFrom 2 none 1 0 0 (gTn f_X0_copyFrom) := by
  refine gM_of (by decide +kernel) pX0_copyFrom_ok (lk_X0_copyFrom l) ?_
  intro SL SX K P av M run h
  unfold f_X0_copyFrom at h
  split at h
  · rename_i p q
    obtain ⟨c, hc, hd, h⟩ := h
    refine ⟨⟨by simp [gC1], Nat.le_of_ble_eq_true rfl⟩, ?_⟩
    refine run [] 1000 _ _ _ _ _ _ rfl ?_
    conv => whnf
    refine ⟨⟨rfl, rfl, rfl⟩, ?_⟩
    conv => whnf
    refine ⟨⟨rfl, rfl, rfl⟩, ?_⟩
    conv => whnf
    refine ⟨⟨rfl, rfl, rfl⟩, ?_⟩
    conv => whnf
    refine ⟨rfl, h _ ?_ ?_⟩
    · obtain ⟨h1, h2, h3, h4⟩ := hc
      refine ⟨h1, ?_, ?_, fun k y hk => ?_⟩
      · rw [gUp_ne (Or.inr (by decide)), gUp_same, gCp_row (by omega), gCp_row (by omega), gCp_row (by omega)]
        exact h2
      · rw [gUp_same, gUp_row (by omega), gCp_row (by omega), gCp_row (by omega), gCp_row (by omega)]
        exact h3
      · have hk8 : k < 8 := by
          have := (List.getElem?_eq_some_iff.mp hk).1
          omega
        have h5 := h4 k y hk
        refine ⟨?_, ?_, ?_⟩
        · rw [gUp_row (by omega), gUp_row (by omega), gCp_row (by omega), gCp_row (by omega), gCp_in hk8]
          exact h5.1
        · rw [gUp_row (by omega), gUp_row (by omega), gCp_row (by omega), gCp_in hk8, gCp_row (by omega)]
          exact h5.2.1
        · rw [gUp_row (by omega), gUp_row (by omega), gCp_in hk8, gCp_row (by omega), gCp_row (by omega)]
          exact h5.2.2
    · intro r hr
      rw [gUp_row (by omega), gUp_row (by omega), gCp_row (by omega), gCp_row (by omega), gCp_row (by omega)]
  · exact h.elim
