/-! the model: insert, takeOut, grow -/
/-- only the cells from a on, n of them, of the row s changed -/
def gFs (M M' : gM) (a n : Nat) : Prop := (∀ r, r ≠ 927 → M' r = M r) ∧ ∀ k, (k < a ∨ a + n ≤ k) → M' 927 k = M 927 k
theorem gFs.rf (M : gM) (a n : Nat) : gFs M M a n := ⟨fun _ _ => rfl, fun _ _ => rfl⟩
theorem gFs.tr {M M1 M2 : gM} {a n : Nat} (h : gFs M M1 a n) (h2 : gFs M1 M2 a n) : gFs M M2 a n := ⟨fun r hr => (h2.1 r hr).trans (h.1 r hr), fun k hk => (h2.2 k hk).trans (h.2 k hk)⟩
theorem gFs.mono {M M1 : gM} {a n b m : Nat} (h : gFs M M1 a n) (h1 : b ≤ a) (h2 : a + n ≤ b + m) : gFs M M1 b m := ⟨h.1, fun k hk => h.2 k (by omega)⟩
theorem gFs.up (M : gM) {a n k : Nat} (x : Int32) (h1 : a ≤ k) (h2 : k < a + n) : gFs M (gUp M 927 k x) a n := ⟨fun r hr => gUp_row hr, fun j hj => gUp_ne (Or.inr (by omega))⟩
def gRw (M : gM) (r : Nat) (f : Nat → Int32) : gM := fun q => if q = r then f else M q
theorem gRw_id (M : gM) (r : Nat) : gRw M r (M r) = M := by
  funext q
  unfold gRw
  by_cases h : q = r
  · rw [if_pos h, h]
  · rw [if_neg h]
theorem gRw_at (M : gM) (r : Nat) (f : Nat → Int32) : gRw M r f r = f := if_pos rfl
theorem gUp_Rw (M : gM) (r : Nat) (f : Nat → Int32) (k : Nat) (x : Int32) : gUp (gRw M r f) r k x = gRw M r (fun z => if z = k then x else f z) := by
  funext q z
  unfold gUp gRw
  by_cases h : q = r
  · rw [if_pos h]
    by_cases h2 : z = k
    · rw [if_pos ⟨h, h2⟩, if_pos h]
      exact (if_pos h2).symm
    · rw [if_neg (fun a => h2 a.2), if_pos h]
      exact (if_neg h2).symm
  · rw [if_neg (fun a => h a.1), if_neg h, if_neg h]
def sh3 (s : Nat → Int32) (m hi : Nat) : Nat → Int32 := fun x => if m + 3 ≤ x ∧ x < hi + 3 then s (x - 3) else s x
theorem sh3_0 (s : Nat → Int32) (m : Nat) : sh3 s m m = s := by
  funext x
  exact if_neg (by omega)
theorem sh3_step (s : Nat → Int32) (m hi : Nat) (h : m < hi) : (fun z => if z = m + 3 then sh3 s (m + 1) hi m else sh3 s (m + 1) hi z) = sh3 s m hi := by
  funext z
  unfold sh3
  by_cases h1 : z = m + 3
  · subst h1
    rw [if_pos rfl, if_neg (by omega), if_pos (by omega), Nat.add_sub_cancel]
  · rw [if_neg h1]
    by_cases h2 : m + 1 + 3 ≤ z ∧ z < hi + 3
    · rw [if_pos h2, if_pos (by omega)]
    · rw [if_neg h2, if_neg (by omega)]
def mIn (s : Nat → Int32) (o j n : Nat) (a b c : Int32) : Nat → Int32 := fun z => if z = o then nI (n + 1) else if z = o + 2 + 3 * j + 2 then c else if z = o + 2 + 3 * j + 1 then b else if z = o + 2 + 3 * j then a else sh3 s (o + 2 + 3 * j) (o + 2 + 3 * n) z
theorem mIn_lo {s : Nat → Int32} {o j n z : Nat} {a b c : Int32} (h : z < o + 2 + 3 * j) (h2 : ¬ z = o) : mIn s o j n a b c z = s z := by
  unfold mIn sh3
  rw [if_neg h2, if_neg (by omega), if_neg (by omega), if_neg (by omega), if_neg (by omega)]
theorem mIn_hi {s : Nat → Int32} {o j n z : Nat} {a b c : Int32} (h : o + 2 + 3 * j + 3 ≤ z) (h2 : z < o + 2 + 3 * n + 3) : mIn s o j n a b c z = s (z - 3) := by
  unfold mIn sh3
  rw [if_neg (by omega), if_neg (by omega), if_neg (by omega), if_neg (by omega), if_pos (by omega)]
theorem mIn_out {s : Nat → Int32} {o j n z : Nat} {a b c : Int32} (hj : j ≤ n) (h2 : z < o ∨ o + 2 + 3 * n + 3 ≤ z) : mIn s o j n a b c z = s z := by
  unfold mIn sh3
  rw [if_neg (by omega), if_neg (by omega), if_neg (by omega), if_neg (by omega), if_neg (by omega)]
theorem mIn_R {s : Nat → Int32} {o j : Nat} {c : Col} {x : Lay} (h : mcR s o c) (hn : c.1.length < 8) (hj : j ≤ c.1.length) : mcR (mIn s o j c.1.length x.1 x.2.1 x.2.2) o (c.1.insertIdx j x, c.2) := by
  obtain ⟨h1, h2, h3, h4⟩ := h
  have hlen : (c.1.insertIdx j x).length = c.1.length + 1 := List.length_insertIdx_of_le_length hj x
  refine ⟨by rw [hlen]; omega, ?_, ?_, fun k y hk => ?_⟩
  · rw [hlen]
    exact if_pos rfl
  · rw [mIn_lo (by omega) (by omega)]
    exact h3
  · rw [List.getElem?_insertIdx] at hk
    by_cases hkj : k = j
    · subst hkj
      rw [if_neg (by omega), if_pos rfl, if_pos hj] at hk
      cases hk
      unfold mIn
      refine ⟨?_, ?_, ?_⟩
      · rw [if_neg (by omega), if_neg (by omega), if_neg (by omega), if_pos rfl]
      · rw [if_neg (by omega), if_neg (by omega), if_pos rfl]
      · rw [if_neg (by omega), if_pos rfl]
    · by_cases hlt : k < j
      · rw [if_pos hlt] at hk
        rw [mIn_lo (by omega) (by omega), mIn_lo (by omega) (by omega), mIn_lo (by omega) (by omega)]
        exact h4 k y hk
      · rw [if_neg hlt, if_neg hkj] at hk
        have hkl : k - 1 < c.1.length := (List.getElem?_eq_some_iff.mp hk).1
        have := h4 (k - 1) y hk
        rw [mIn_hi (by omega) (by omega), mIn_hi (by omega) (by omega), mIn_hi (by omega) (by omega)]
        rw [show o + 2 + 3 * k - 3 = o + 2 + 3 * (k - 1) by omega, show o + 2 + 3 * k + 1 - 3 = o + 2 + 3 * (k - 1) + 1 by omega, show o + 2 + 3 * k + 2 - 3 = o + 2 + 3 * (k - 1) + 2 by omega]
        exact this
def f_X7_insert : gF := fun av M post => match av with
  | [.inr (.inl (7, p)), .inl b, .inl l, .inl x, .inl y, .inl z] => p = 926 ∧ ∃ i j c, i < 10 ∧ b = nI i ∧ l = nI j ∧ mcR (M 927) (26 * i) c ∧ c.1.length < 8 ∧ j ≤ c.1.length ∧ ∀ M', mcR (M' 927) (26 * i) (c.1.insertIdx j (x, y, z), c.2) → gFs M M' (26 * i) 26 → post none M'
  | _ => False
theorem lk_X7_insert (l : Launch) : gLinks l RX7 1 [(gTn f_X7_of, 0, 0, 7), (gTn f_X7_at, 0, 0, 99)] pX7_insert := And.intro ⟨gTn f_X7_of, 7, yX7_of, cX7_of, 3, (some .int), 0, _, rfl, by decide, yi_yX7_of, ok_X7_of l, by decide, by decide, rfl, rfl, ml_RX7_50, im_yX7_of, se_yX7_of⟩ (And.intro ⟨gTn f_X7_at, 99, yX7_at, cX7_at, 2, (some .int), 0, rfl, yi_yX7_at, ok_X7_at l, by decide, Or.inl ml_RX7_42, sm_yX7_at⟩ (And.intro ⟨gTn f_X7_at, 99, yX7_at, cX7_at, 2, (some .int), 0, rfl, yi_yX7_at, ok_X7_at l, by decide, Or.inl ml_RX7_42, sm_yX7_at⟩ (And.intro gf_RX7_7 (And.intro gf_RX7_7 (And.intro gf_RX7_7 (And.intro ⟨gTn f_X7_at, 99, yX7_at, cX7_at, 2, (some .int), 0, rfl, yi_yX7_at, ok_X7_at l, by decide, Or.inl ml_RX7_42, sm_yX7_at⟩ (And.intro gf_RX7_7 (And.intro ⟨gTn f_X7_at, 99, yX7_at, cX7_at, 2, (some .int), 0, rfl, yi_yX7_at, ok_X7_at l, by decide, Or.inl ml_RX7_42, sm_yX7_at⟩ (And.intro gf_RX7_7 (And.intro ⟨gTn f_X7_at, 99, yX7_at, cX7_at, 2, (some .int), 0, rfl, yi_yX7_at, ok_X7_at l, by decide, Or.inl ml_RX7_42, sm_yX7_at⟩ (And.intro gf_RX7_7 (trivial))))))))))))
theorem ok_X7_insert (l : Launch) : gOK l yX7_insert cX7_insert 7 none 1 0 0 (gTn f_X7_insert) := by
  refine gM_of (by decide +kernel) pX7_insert_ok (lk_X7_insert l) ?_
  intro SL SX K P av M run h
  unfold f_X7_insert at h
  split at h
  · rename_i p b l x y z
    obtain ⟨rfl, i, j, c, hi, rfl, rfl, hc, hn, hj, h⟩ := h
    refine ⟨⟨by simp [gC1], Nat.le_of_ble_eq_true rfl⟩, ?_⟩
    have e0 : M 927 (26 * i + 0) = nI c.1.length := hc.2.1
    refine run [14] 1000 _ _ _ _ _ _ rfl ?_
    conv => whnf
    refine ⟨rfl, rfl, rfl, i, 0, hi, by decide, rfl, rfl, ?_⟩
    rw [e0]
    conv => whnf
    refine ⟨rfl, rfl, i, c.1.length, rfl, rfl, ?_⟩
    conv => whnf
    rw [show nI (26 * i + 2 + 3 * c.1.length) - 1 = nI (26 * i + 1 + 3 * c.1.length) from by rw [show 26 * i + 2 + 3 * c.1.length = (26 * i + 1 + 3 * c.1.length) + 1 by omega]; exact nI_pred _]
    have down : ∀ n, n ≤ 3 * (c.1.length - j) → K 14 [some (.inr (.inl (7, 926))), some (.inl (nI i)), some (.inl (nI j)), some (.inl x), some (.inl y), some (.inl z), some (.inl (nI (26 * i + 1 + 3 * j + n)))] [] (gRw M 927 (sh3 (M 927) (26 * i + 2 + 3 * j + n) (26 * i + 2 + 3 * c.1.length))) gB0 := by
      intro n
      induction n with
      | zero =>
        intro hn0
        refine run [14] 1000 _ _ _ _ _ _ rfl ?_
        conv => whnf
        refine ⟨rfl, rfl, i, j, rfl, rfl, ?_⟩
        conv => whnf
        refine ⟨fun h3 => ?_, fun h3 => ?_⟩
        · conv => whnf
          refine ⟨rfl, rfl, i, j, rfl, rfl, ?_⟩
          conv => whnf
          rw [at_0]
          refine ⟨vp_in_nI (by omega) (by decide), ?_⟩
          conv => whnf
          refine ⟨rfl, rfl, i, j, rfl, rfl, ?_⟩
          conv => whnf
          rw [nI_1]
          refine ⟨vp_in_nI (by omega) (by decide), ?_⟩
          conv => whnf
          refine ⟨rfl, rfl, i, j, rfl, rfl, ?_⟩
          conv => whnf
          rw [show nI (26 * i + 2 + 3 * j) + 2 = nI (26 * i + 2 + 3 * j + 2) from nI_add _ 2]
          refine ⟨vp_in_nI (by omega) (by decide), ?_⟩
          conv => whnf
          rw [show (26 : Int32) * nI i + 0 = nI (26 * i) from of_at i 0]
          refine ⟨vp_in_nI (by omega) (by decide), ?_⟩
          conv => whnf
          refine ⟨vp_in_nI (by omega) (by decide), ?_⟩
          conv => whnf
          rw [nI_clamp (by omega), nI_clamp (by omega), nI_clamp (by omega), nI_clamp (by omega), gUp_Rw, gUp_Rw, gUp_Rw, gUp_Rw, gRw_at]
          have h9 := h (gRw M 927 (mIn (M 927) (26 * i) j c.1.length x y z)) (by rw [gRw_at]; exact mIn_R (x := (x, y, z)) hc hn hj) ⟨fun r hr => if_neg hr, fun k hk => by rw [gRw_at]; exact mIn_out hj (by omega)⟩
          refine ⟨rfl, Eq.mp (congrArg (fun f => P none (gRw M 927 f)) ?_) h9⟩
          funext u
          unfold mIn
          by_cases hu : u = 26 * i
          · subst hu
            unfold sh3
            rw [if_pos rfl, if_pos rfl, if_neg (by omega), if_neg (by omega), if_neg (by omega), if_neg (by omega), hc.2.1, nI_1]
          · rw [if_neg hu, if_neg hu]
            rfl
        · exact absurd (nI_lt (show 26 * i + 1 + 3 * j + 0 < 26 * i + 2 + 3 * j by omega) (by omega)) h3
      | succ n ih =>
        intro hn1
        refine run [14] 1000 _ _ _ _ _ _ rfl ?_
        conv => whnf
        refine ⟨rfl, rfl, i, j, rfl, rfl, ?_⟩
        conv => whnf
        refine ⟨fun h3 => ?_, fun h3 => ?_⟩
        · exact absurd h3 (Int32.not_lt.mpr (nI_le (show 26 * i + 2 + 3 * j ≤ 26 * i + 1 + 3 * j + (n + 1) by omega) (by omega)))
        · conv => whnf
          rw [show nI (26 * i + 1 + 3 * j + (n + 1)) + 3 = nI (26 * i + 2 + 3 * j + n + 3) from by rw [show (3 : Int32) = nI 3 from rfl, nI_add]; congr 1; omega]
          refine ⟨vp_in_nI (by omega) (by decide), ?_⟩
          conv => whnf
          refine ⟨vp_in_nI (by omega) (by decide), ?_⟩
          conv => whnf
          rw [nI_clamp (by omega), nI_clamp (by omega), gRw_at, gUp_Rw, show 26 * i + 1 + 3 * j + (n + 1) = 26 * i + 2 + 3 * j + n by omega, show 26 * i + 2 + 3 * j + (n + 1) = 26 * i + 2 + 3 * j + n + 1 by omega, sh3_step _ _ _ (by omega), m1_sub, show 26 * i + 2 + 3 * j + n = 26 * i + 1 + 3 * j + n + 1 by omega, nI_pred]
          have ih := ih (by omega)
          rw [show 26 * i + 2 + 3 * j + n = 26 * i + 1 + 3 * j + n + 1 by omega] at ih
          exact ih
    have d9 := down (3 * (c.1.length - j)) (Nat.le_refl _)
    rw [show 26 * i + 2 + 3 * j + 3 * (c.1.length - j) = 26 * i + 2 + 3 * c.1.length by omega, show 26 * i + 1 + 3 * j + 3 * (c.1.length - j) = 26 * i + 1 + 3 * c.1.length by omega, sh3_0, gRw_id] at d9
    exact d9
  · exact h.elim
def sd3 (s : Nat → Int32) (a m : Nat) : Nat → Int32 := fun x => if a ≤ x ∧ x < m then s (x + 3) else s x
theorem sd3_0 (s : Nat → Int32) (a : Nat) : sd3 s a a = s := by
  funext x
  exact if_neg (by omega)
theorem sd3_step (s : Nat → Int32) (a m : Nat) (h : a ≤ m) : (fun z => if z = m then sd3 s a m (m + 3) else sd3 s a m z) = sd3 s a (m + 1) := by
  funext z
  unfold sd3
  by_cases h1 : z = m
  · subst h1
    rw [if_pos rfl, if_neg (by omega), if_pos (by omega)]
  · rw [if_neg h1]
    by_cases h2 : a ≤ z ∧ z < m
    · rw [if_pos h2, if_pos (by omega)]
    · rw [if_neg h2, if_neg (by omega)]
def mTk (s : Nat → Int32) (o j n : Nat) : Nat → Int32 := sd3 (fun z => if z = o then nI (n - 1) else s z) (o + 2 + 3 * j) (o + 2 + 3 * (n - 1))
theorem mTk_R {s : Nat → Int32} {o j : Nat} {c : Col} (h : mcR s o c) (hj : j < c.1.length) : mcR (mTk s o j c.1.length) o (c.1.eraseIdx j, c.2) := by
  obtain ⟨h1, h2, h3, h4⟩ := h
  have hlen : (c.1.eraseIdx j).length = c.1.length - 1 := List.length_eraseIdx_of_lt hj
  have lo : ∀ z, z < o + 2 + 3 * j → ¬ z = o → mTk s o j c.1.length z = s z := fun z a b => by
    unfold mTk sd3
    rw [if_neg (by omega)]
    exact if_neg b
  have hi : ∀ z, o + 2 + 3 * j ≤ z → z < o + 2 + 3 * (c.1.length - 1) → mTk s o j c.1.length z = s (z + 3) := fun z a b => by
    unfold mTk sd3
    rw [if_pos (by omega)]
    exact if_neg (by omega)
  refine ⟨by rw [hlen]; omega, ?_, ?_, fun k y hk => ?_⟩
  · rw [hlen]
    unfold mTk sd3
    rw [if_neg (by omega)]
    exact if_pos rfl
  · rw [lo _ (by omega) (by omega)]
    exact h3
  · rw [List.getElem?_eraseIdx] at hk
    by_cases hlt : k < j
    · rw [if_pos hlt] at hk
      rw [lo _ (by omega) (by omega), lo _ (by omega) (by omega), lo _ (by omega) (by omega)]
      exact h4 k y hk
    · rw [if_neg hlt] at hk
      have hkl : k + 1 < c.1.length := (List.getElem?_eq_some_iff.mp hk).1
      have := h4 (k + 1) y hk
      rw [hi _ (by omega) (by omega), hi _ (by omega) (by omega), hi _ (by omega) (by omega)]
      rw [show o + 2 + 3 * k + 3 = o + 2 + 3 * (k + 1) by omega, show o + 2 + 3 * k + 1 + 3 = o + 2 + 3 * (k + 1) + 1 by omega, show o + 2 + 3 * k + 2 + 3 = o + 2 + 3 * (k + 1) + 2 by omega]
      exact this
theorem mTk_out {s : Nat → Int32} {o j n z : Nat} (hj : j < n) (h2 : z < o ∨ o + 2 + 3 * n ≤ z) : mTk s o j n z = s z := by
  unfold mTk sd3
  rw [if_neg (by omega)]
  exact if_neg (by omega)
def f_X7_takeOut : gF := fun av M post => match av with
  | [.inr (.inl (7, p)), .inl b, .inl l] => p = 926 ∧ ∃ i j c, i < 10 ∧ b = nI i ∧ l = nI j ∧ mcR (M 927) (26 * i) c ∧ j < c.1.length ∧ ∀ M', mcR (M' 927) (26 * i) (c.1.eraseIdx j, c.2) → gFs M M' (26 * i) 26 → post none M'
  | _ => False
theorem lk_X7_takeOut (l : Launch) : gLinks l RX7 1 [(gTn f_X7_at, 0, 0, 99), (gTn f_X7_of, 0, 0, 7)] pX7_takeOut := And.intro gf_RX7_7 (And.intro ⟨gTn f_X7_at, 99, yX7_at, cX7_at, 2, (some .int), 0, rfl, yi_yX7_at, ok_X7_at l, by decide, Or.inl ml_RX7_42, sm_yX7_at⟩ (And.intro ⟨gTn f_X7_of, 7, yX7_of, cX7_of, 3, (some .int), 0, _, rfl, by decide, yi_yX7_of, ok_X7_of l, by decide, by decide, rfl, rfl, ml_RX7_50, im_yX7_of, se_yX7_of⟩ (And.intro ⟨gTn f_X7_at, 99, yX7_at, cX7_at, 2, (some .int), 0, rfl, yi_yX7_at, ok_X7_at l, by decide, Or.inl ml_RX7_42, sm_yX7_at⟩ (And.intro gf_RX7_7 (And.intro gf_RX7_7 (trivial))))))
theorem ok_X7_takeOut (l : Launch) : gOK l yX7_takeOut cX7_takeOut 4 none 1 0 0 (gTn f_X7_takeOut) := by
  refine gM_of (by decide +kernel) pX7_takeOut_ok (lk_X7_takeOut l) ?_
  intro SL SX K P av M run h
  unfold f_X7_takeOut at h
  split at h
  · rename_i p b l
    obtain ⟨rfl, i, j, c, hi, rfl, rfl, hc, hj, h⟩ := h
    refine ⟨⟨by simp [gC1], Nat.le_of_ble_eq_true rfl⟩, ?_⟩
    have h8 := hc.1
    have e0 : M 927 (26 * i) = nI c.1.length := hc.2.1
    refine run [21] 1000 _ _ _ _ _ _ rfl ?_
    conv => whnf
    rw [show (26 : Int32) * nI i + 0 = nI (26 * i) from of_at i 0]
    refine ⟨vp_in_nI (by omega) (by decide), ?_⟩
    conv => whnf
    refine ⟨vp_in_nI (by omega) (by decide), ?_⟩
    conv => whnf
    rw [nI_clamp (by omega), e0]
    refine ⟨rfl, rfl, i, j, rfl, rfl, ?_⟩
    conv => whnf
    have em : gUp M 927 (26 * i) (nI c.1.length - 1) = gRw M 927 (fun z => if z = 26 * i then nI (c.1.length - 1) else M 927 z) := by
      rw [show nI c.1.length - 1 = nI (c.1.length - 1) from by rw [show c.1.length = (c.1.length - 1) + 1 by omega]; exact nI_pred _]
      have := gUp_Rw M 927 (M 927) (26 * i) (nI (c.1.length - 1))
      rw [gRw_id] at this
      exact this
    rw [em]
    have q := upto (n := 3 * (c.1.length - 1 - j)) (A := fun n => K 21 [some (.inr (.inl (7, 926))), some (.inl (nI i)), some (.inl (nI j)), some (.inl (nI (26 * i + 2 + 3 * j + n)))] [] (gRw M 927 (sd3 (fun z => if z = 26 * i then nI (c.1.length - 1) else M 927 z) (26 * i + 2 + 3 * j) (26 * i + 2 + 3 * j + n))) gB0) (by
      refine run [21] 1000 _ _ _ _ _ _ rfl ?_
      conv => whnf
      refine ⟨rfl, rfl, rfl, i, 0, hi, by decide, rfl, rfl, ?_⟩
      rw [gRw_at, show sd3 (fun z => if z = 26 * i then nI (c.1.length - 1) else M 927 z) (26 * i + 2 + 3 * j) (26 * i + 2 + 3 * j + 3 * (c.1.length - 1 - j)) (26 * i + 0) = nI (c.1.length - 1) from (if_neg (by omega)).trans (if_pos rfl)]
      conv => whnf
      refine ⟨rfl, rfl, i, c.1.length - 1, rfl, rfl, ?_⟩
      conv => whnf
      refine ⟨fun h3 => ?_, fun h3 => ?_⟩
      · conv => whnf
        rw [show 26 * i + 2 + 3 * j + 3 * (c.1.length - 1 - j) = 26 * i + 2 + 3 * (c.1.length - 1) by omega]
        exact ⟨rfl, h (gRw M 927 (mTk (M 927) (26 * i) j c.1.length)) (by rw [gRw_at]; exact mTk_R hc hj) ⟨fun r hr => if_neg hr, fun k hk => by rw [gRw_at]; exact mTk_out hj (by omega)⟩⟩
      · exact absurd (nI_le (show 26 * i + 2 + 3 * (c.1.length - 1) ≤ 26 * i + 2 + 3 * j + 3 * (c.1.length - 1 - j) by omega) (by omega)) h3) (fun n hn ih => by
      refine run [21] 1000 _ _ _ _ _ _ rfl ?_
      conv => whnf
      refine ⟨rfl, rfl, rfl, i, 0, hi, by decide, rfl, rfl, ?_⟩
      rw [gRw_at, show sd3 (fun z => if z = 26 * i then nI (c.1.length - 1) else M 927 z) (26 * i + 2 + 3 * j) (26 * i + 2 + 3 * j + n) (26 * i + 0) = nI (c.1.length - 1) from (if_neg (by omega)).trans (if_pos rfl)]
      conv => whnf
      refine ⟨rfl, rfl, i, c.1.length - 1, rfl, rfl, ?_⟩
      conv => whnf
      refine ⟨fun h3 => ?_, fun h3 => ?_⟩
      · exact absurd h3 (nI_ge (show 26 * i + 2 + 3 * j + n < 26 * i + 2 + 3 * (c.1.length - 1) by omega) (by omega))
      · conv => whnf
        rw [show nI (26 * i + 2 + 3 * j + n) + 3 = nI (26 * i + 2 + 3 * j + n + 3) from nI_add _ 3]
        refine ⟨vp_in_nI (by omega) (by decide), ?_⟩
        conv => whnf
        refine ⟨vp_in_nI (by omega) (by decide), ?_⟩
        conv => whnf
        rw [nI_clamp (by omega), nI_clamp (by omega), gRw_at, gUp_Rw, sd3_step _ _ _ (by omega), nI_1]
        exact ih) 0 (Nat.zero_le _)
    rw [show 26 * i + 2 + 3 * j + 0 = 26 * i + 2 + 3 * j from rfl, sd3_0] at q
    exact q
  · exact h.elim
/-- a layer thicker by x; gone if nothing is left -/
def lGr (l : List Lay) (j : Nat) (x : Int32) : List Lay := match l[j]? with
  | none => l
  | some y => if y.2.2 + x = 0 then l.eraseIdx j else l.set j (y.1, y.2.1, y.2.2 + x)
theorem mcR.setT {s : Nat → Int32} {o j : Nat} {c : Col} (h : mcR s o c) (hj : j < c.1.length) (t : Int32) : mcR (fun z => if z = o + 2 + 3 * j + 2 then t else s z) o (c.1.set j ((c.1[j]).1, (c.1[j]).2.1, t), c.2) := by
  obtain ⟨h1, h2, h3, h4⟩ := h
  refine ⟨by simpa using h1, (if_neg (by omega)).trans (h2.trans (by simp)), (if_neg (by omega)).trans h3, fun k y hk => ?_⟩
  by_cases hkj : k = j
  · subst hkj
    rw [List.getElem?_set_self hj] at hk
    cases hk
    have := h4 k _ (List.getElem?_eq_getElem hj)
    exact ⟨(if_neg (by omega)).trans this.1, (if_neg (by omega)).trans this.2.1, if_pos rfl⟩
  · rw [List.getElem?_set_ne (Ne.symm hkj)] at hk
    have := h4 k y hk
    exact ⟨(if_neg (by omega)).trans this.1, (if_neg (by omega)).trans this.2.1, (if_neg (by omega)).trans this.2.2⟩
def f_X7_grow : gF := fun av M post => match av with
  | [.inr (.inl (7, p)), .inl b, .inl l, .inl x] => p = 926 ∧ ∃ i j c, i < 10 ∧ b = nI i ∧ l = nI j ∧ mcR (M 927) (26 * i) c ∧ j < c.1.length ∧ ∀ M', mcR (M' 927) (26 * i) (lGr c.1 j x, c.2) → gFs M M' (26 * i) 26 → post none M'
  | _ => False
theorem lk_X7_grow (l : Launch) : gLinks l RX7 2 [(gTn f_X7_at, 0, 0, 99), (gTn f_X7_takeOut, 0, 0, 7)] pX7_grow := And.intro gf_RX7_7 (And.intro ⟨gTn f_X7_at, 99, yX7_at, cX7_at, 2, (some .int), 0, rfl, yi_yX7_at, ok_X7_at l, by decide, Or.inl ml_RX7_42, sm_yX7_at⟩ (And.intro gf_RX7_7 (And.intro ⟨gTn f_X7_at, 99, yX7_at, cX7_at, 2, (some .int), 0, rfl, yi_yX7_at, ok_X7_at l, by decide, Or.inl ml_RX7_42, sm_yX7_at⟩ (And.intro ⟨gTn f_X7_takeOut, 7, yX7_takeOut, cX7_takeOut, 4, none, 1, _, rfl, by decide, yi_yX7_takeOut, ok_X7_takeOut l, by decide, by decide, rfl, rfl, ml_RX7_63, im_yX7_takeOut, se_yX7_takeOut⟩ (trivial)))))
theorem ok_X7_grow (l : Launch) : gOK l yX7_grow cX7_grow 4 none 2 0 0 (gTn f_X7_grow) := by
  refine gM_of (by decide +kernel) pX7_grow_ok (lk_X7_grow l) ?_
  intro SL SX K P av M run h
  unfold f_X7_grow at h
  split at h
  · rename_i p b l x
    obtain ⟨rfl, i, j, c, hi, rfl, rfl, hc, hj, h⟩ := h
    refine ⟨⟨by simp [gC1], Nat.le_of_ble_eq_true rfl⟩, ?_⟩
    have h8 := hc.1
    unfold lGr at h
    rw [List.getElem?_eq_getElem hj] at h
    dsimp only at h
    have y := (hc.lay hj).2.2
    refine run [] 1000 _ _ _ _ _ _ rfl ?_
    conv => whnf
    refine ⟨rfl, rfl, i, j, rfl, rfl, ?_⟩
    conv => whnf
    rw [show nI (26 * i + 2 + 3 * j) + 2 = nI (26 * i + 2 + 3 * j + 2) from nI_add _ 2]
    refine ⟨vp_in_nI (by omega) (by decide), ?_⟩
    conv => whnf
    refine ⟨vp_in_nI (by omega) (by decide), ?_⟩
    conv => whnf
    refine ⟨rfl, rfl, i, j, rfl, rfl, ?_⟩
    conv => whnf
    rw [show nI (26 * i + 2 + 3 * j) + 2 = nI (26 * i + 2 + 3 * j + 2) from nI_add _ 2]
    refine ⟨vp_in_nI (by omega) (by decide), ?_⟩
    conv => whnf
    rw [nI_clamp (by omega), y, gUp_same]
    have f1 := gFs.up M (a := 26 * i) (n := 26) (k := 26 * i + 2 + 3 * j + 2) (c.1[j].2.2 + x) (by omega) (by omega)
    have c1 : mcR (gUp M 927 (26 * i + 2 + 3 * j + 2) (c.1[j].2.2 + x) 927) (26 * i) (c.1.set j (c.1[j].1, c.1[j].2.1, c.1[j].2.2 + x), c.2) := by
      have := hc.setT hj (c.1[j].2.2 + x)
      refine this.kept fun k hk => ?_
      by_cases a : 26 * i + k = 26 * i + 2 + 3 * j + 2
      · rw [if_pos a, a]
        exact gUp_same _ _ _ _
      · rw [if_neg a]
        exact gUp_ne (Or.inr a)
    refine ⟨fun h1 => ?_, fun h1 => ?_⟩
    · conv => whnf
      rw [if_neg h1] at h
      exact ⟨rfl, h _ c1 f1⟩
    · conv => whnf
      rw [if_pos h1] at h
      refine ⟨rfl, rfl, rfl, i, j, _, hi, rfl, rfl, c1, by simpa using hj, fun M2 g1 g2 => ?_⟩
      conv => whnf
      rw [show (c.1.set j (c.1[j].1, c.1[j].2.1, c.1[j].2.2 + x)).eraseIdx j = c.1.eraseIdx j from by
        rw [List.eraseIdx_set_eq]] at g1
      exact ⟨rfl, h M2 g1 (f1.tr g2)⟩
  · exact h.elim
