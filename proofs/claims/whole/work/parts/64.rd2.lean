/-! ints by their numbers; the model: a number is read -/
theorem ti_add {a b : Int32} (h1 : -2147483648 ≤ a.toInt + b.toInt) (h2 : a.toInt + b.toInt ≤ 2147483647) : (a + b).toInt = a.toInt + b.toInt := by
  rw [Int32.toInt_add]
  exact Int.bmod_eq_of_le (by omega) (by omega)
theorem ti_sub {a b : Int32} (h1 : -2147483648 ≤ a.toInt - b.toInt) (h2 : a.toInt - b.toInt ≤ 2147483647) : (a - b).toInt = a.toInt - b.toInt := by
  rw [Int32.toInt_sub]
  exact Int.bmod_eq_of_le (by omega) (by omega)
theorem ti_mul {a b : Int32} (h1 : -2147483648 ≤ a.toInt * b.toInt) (h2 : a.toInt * b.toInt ≤ 2147483647) : (a * b).toInt = a.toInt * b.toInt := by
  rw [Int32.toInt_mul]
  generalize a.toInt * b.toInt = z at h1 h2
  exact Int.bmod_eq_of_le (by omega) (by omega)
def rlD (mv cv : Int32) : Prop := (mv = cv ∧ 0 ≤ cv.toInt ∧ cv.toInt ≤ 9999) ∨ (cv = 10000 ∧ 10000 ≤ mv.toInt ∧ mv.toInt ≤ 999999)
theorem rlD_step {mv cv c : Int32} (h : rlD mv cv) (hc : 48 ≤ c ∧ c ≤ 57) : rlD (if mv < 100000 then 10 * mv + c - 48 else mv) (if 10000 < cv * 10 + c - 48 then 10000 else cv * 10 + c - 48) := by
  have c1 : 48 ≤ c.toInt := Int32.le_iff_toInt_le.mp hc.1
  have c2 : c.toInt ≤ 57 := Int32.le_iff_toInt_le.mp hc.2
  have t10 : (10 : Int32).toInt = 10 := rfl
  have t48 : (48 : Int32).toInt = 48 := rfl
  have tk : (10000 : Int32).toInt = 10000 := rfl
  have num : ∀ v : Int32, 0 ≤ v.toInt → v.toInt ≤ 100000 → (10 * v + c - 48).toInt = 10 * v.toInt + c.toInt - 48 := by
    intro v h1 h2
    have e1 : (10 * v).toInt = 10 * v.toInt := by
      rw [ti_mul (by rw [t10]; omega) (by rw [t10]; omega), t10]
    have e2 : (10 * v + c).toInt = 10 * v.toInt + c.toInt := by
      rw [ti_add (by rw [e1]; omega) (by rw [e1]; omega), e1]
    rw [ti_sub (by rw [e2, t48]; omega) (by rw [e2, t48]; omega), e2, t48]
  rcases h with ⟨rfl, h1, h2⟩ | ⟨rfl, h1, h2⟩
  · have e := num mv h1 (by omega)
    rw [if_pos (Int32.lt_iff_toInt_lt.mpr (show mv.toInt < 100000 by omega)), Int32.mul_comm mv 10]
    by_cases a : 10000 < 10 * mv + c - 48
    · rw [if_pos a]
      have a : 10000 < (10 * mv + c - 48).toInt := Int32.lt_iff_toInt_lt.mp a
      exact Or.inr ⟨rfl, by omega, by omega⟩
    · rw [if_neg a]
      have a : (10 * mv + c - 48).toInt ≤ 10000 := Int32.le_iff_toInt_le.mp (Int32.not_lt.mp a)
      by_cases z : (10 * mv + c - 48).toInt = 10000
      · refine Or.inr ⟨Int32.toInt_inj.mp z, by omega, by omega⟩
      · exact Or.inl ⟨rfl, by omega, by omega⟩
  · have e := num 10000 (by decide) (by decide)
    have q : (10000 : Int32) < 10 * 10000 + c - 48 := Int32.lt_iff_toInt_lt.mpr (by rw [e, tk]; omega)
    rw [Int32.mul_comm 10000 10, if_pos q]
    by_cases a : mv < 100000
    · have a2 : mv.toInt < 100000 := Int32.lt_iff_toInt_lt.mp a
      rw [if_pos a]
      have e := num mv (by omega) (by omega)
      exact Or.inr ⟨rfl, by omega, by omega⟩
    · rw [if_neg a]
      exact Or.inr ⟨rfl, h1, h2⟩
theorem rlD_in {mv cv lo hi : Int32} (h : rlD mv cv) (hh : hi ≤ 9999) : (lo ≤ mv ∧ mv ≤ hi) ↔ (lo ≤ cv ∧ cv ≤ hi) := by
  have hh : hi.toInt ≤ 9999 := Int32.le_iff_toInt_le.mp hh
  rcases h with ⟨rfl, h1, h2⟩ | ⟨rfl, h1, h2⟩
  · exact Iff.rfl
  · constructor
    · rintro ⟨-, b⟩
      have b := Int32.le_iff_toInt_le.mp b
      omega
    · rintro ⟨-, b⟩
      have b : 10000 ≤ hi.toInt := Int32.le_iff_toInt_le.mp b
      omega
theorem rlD_eq {mv cv lo hi : Int32} (h : rlD mv cv) (hh : hi ≤ 9999) (hc : lo ≤ cv ∧ cv ≤ hi) : mv = cv := by
  have hh : hi.toInt ≤ 9999 := Int32.le_iff_toInt_le.mp hh
  rcases h with ⟨rfl, h1, h2⟩ | ⟨rfl, h1, h2⟩
  · rfl
  · have b : 10000 ≤ hi.toInt := Int32.le_iff_toInt_le.mp hc.2
    omega
theorem d48 : (if (10000 : Int32) < 0 * 10 + 48 - 48 then (10000 : Int32) else 0 * 10 + 48 - 48) = 0 := by decide
def f_X7_reads : gF := fun av M post => match av with
  | [.inr (.inl (7, w)), .inl lo, .inl hi] => w = 926 ∧ 1 ≤ lo ∧ hi ≤ 9999 ∧ ∃ t n p, mxR M t n p ∧ (match pNum t n lo hi p with
    | .inl e => ∀ x, post (some (.inl 0)) (gUp (gUp M 926 10 (nI e)) 926 11 x)
    | .inr (q, v) => post (some (.inl 1)) (gUp (gUp M 926 10 (nI q)) 926 11 v))
  | _ => False
theorem lk_X7_reads (l : Launch) : gLinks l RX7 1 [(gTn f_X7_here, 0, 0, 7), (gTn f_X7_in, 0, 0, 99)] pX7_reads := And.intro ⟨gTn f_X7_here, 7, yX7_here, cX7_here, 1, (some .int), 0, _, rfl, by decide, yi_yX7_here, ok_X7_here l, by decide, by decide, rfl, rfl, ml_RX7_151, im_yX7_here, se_yX7_here⟩ (And.intro gf_RX7_148 (And.intro gf_RX7_148 (And.intro gf_RX7_145 (And.intro gf_RX7_19 (And.intro gf_RX7_148 (And.intro ⟨gTn f_X7_in, 99, yX7_in, cX7_in, 3, (some .boolean), 0, rfl, yi_yX7_in, ok_X7_in l, by decide, Or.inl ml_RX7_38, sm_yX7_in⟩ (And.intro kc_RX7_154 (And.intro gf_RX7_19 (And.intro gf_RX7_148 (And.intro gf_RX7_148 (And.intro gf_RX7_148 (And.intro gf_RX7_148 (And.intro gf_RX7_148 (And.intro ⟨gTn f_X7_in, 99, yX7_in, cX7_in, 3, (some .boolean), 0, rfl, yi_yX7_in, ok_X7_in l, by decide, Or.inl ml_RX7_38, sm_yX7_in⟩ (And.intro gf_RX7_148 (And.intro gf_RX7_148 (And.intro gf_RX7_155 (trivial))))))))))))))))))
theorem ok_X7_reads (l : Launch) : gOK l yX7_reads cX7_reads 7 (some .boolean) 1 0 0 (gTn f_X7_reads) := by
  refine gM_of (by decide +kernel) pX7_reads_ok (lk_X7_reads l) ?_
  intro SL SX K P av M run h
  unfold f_X7_reads at h
  split at h
  · rename_i w lo hi
    obtain ⟨rfl, hlo, hhi, t, n, p, hx, h⟩ := h
    refine ⟨⟨by simp [gC1], Nat.le_of_ble_eq_true rfl⟩, ?_⟩
    have hs := skp_le (t := t) hx.2.1
    have hn := hx.1
    have e48 : mg t n (skp t n p) = 48 ↔ sg t n (skp t n p) = 48 := mg_iff (by decide) (by decide)
    have h48 : mg t n (skp t n p) = 48 → t (skp t n p) = 48 := fun a => by
      unfold mg at a
      split at a
      · exact a
      · exact absurd a (by decide)
    unfold pNum at h
    generalize hse : skp t n p = s at *
    generalize hfe : mg t n s = first at *
    have t130 : ∀ (x mv : Int32) (q : Nat), q ≤ n → (x = 0 ∨ x = 1) → P (some (.inl x)) (gUp (gUp M 926 10 (nI (if x = 0 then s else q))) 926 11 mv) → K 130 [some (.inr (.inl (7, 926))), some (.inl lo), some (.inl hi), some (.inl first), some (.inl (nI s)), some (.inl mv), none] [.inl x] (gUp M 926 10 (nI q)) gB0 := by
      intro x mv q hq hx01 hP
      refine run [] 1000 _ _ _ _ _ _ rfl ?_
      conv => whnf
      refine ⟨fun h1 => ?_, fun h1 => ?_⟩
      · conv => whnf
        rw [gUp_up]
        rw [if_pos h1] at hP
        exact ⟨rfl, hx01, hP⟩
      · conv => whnf
        rw [show gUp M 926 10 (nI q) 926 10 = nI q from gUp_same _ _ _ _, gUp_up]
        rw [if_neg h1] at hP
        exact ⟨rfl, hx01, hP⟩
    have t129 : ∀ (mv : Int32) (q : Nat), q ≤ n → P (some (.inl 0)) (gUp (gUp M 926 10 (nI s)) 926 11 mv) → K 129 [some (.inr (.inl (7, 926))), some (.inl lo), some (.inl hi), some (.inl first), some (.inl (nI s)), some (.inl mv), none] [] (gUp M 926 10 (nI q)) gB0 := by
      intro mv q hq hP
      refine run [130] 1000 _ _ _ _ _ _ rfl ?_
      conv => whnf
      exact t130 0 mv q hq (Or.inl rfl) (by rw [if_pos rfl]; exact hP)
    have fin : ∀ (mv cv : Int32) (q : Nat), q ≤ n → s ≤ q → rlD mv cv → (q = s → cv = 0) → (q = s + 1 → t s = 48 → cv = 0) → pDig t n s 0 = (q, cv) → K 89 [some (.inr (.inl (7, 926))), some (.inl lo), some (.inl hi), some (.inl first), some (.inl (nI s)), some (.inl mv), none] [] (gUp M 926 10 (nI q)) gB0 := by
      intro mv cv q hq hsq hr h0 h1 hd
      rw [hd] at h
      have bad : (sg t n s = 48 ∨ ¬ (lo ≤ cv ∧ cv ≤ hi)) → P (some (.inl 0)) (gUp (gUp M 926 10 (nI s)) 926 11 mv) := fun a => by
        rw [if_pos a] at h
        exact h mv
      have zero : cv = 0 → ¬ (lo ≤ cv ∧ cv ≤ hi) := fun a b => by
        subst a
        exact absurd (Int32.le_trans hlo b.1) (by decide)
      have b6 : gUp M 926 10 (nI q) 926 10 = nI q := gUp_same _ _ _ _
      have at115 : ¬ q = s → (first = 48 → q = s + 1) → K 115 [some (.inr (.inl (7, 926))), some (.inl lo), some (.inl hi), some (.inl first), some (.inl (nI s)), some (.inl mv), none] [] (gUp M 926 10 (nI q)) gB0 := by
        intro hqs hf
        refine run [129, 130] 1000 _ _ _ _ _ _ rfl ?_
        conv => whnf
        refine ⟨rfl, rfl, ?_⟩
        conv => whnf
        by_cases hv : lo ≤ cv ∧ cv ≤ hi
        · rw [if_pos ((rlD_in hr hhi).mpr hv)]
          refine ⟨fun h2 => ?_, fun h2 => ?_⟩
          · exact absurd h2 (by decide)
          · conv => whnf
            refine t130 1 mv q hq (Or.inr rfl) ?_
            have n48 : ¬ sg t n s = 48 := fun a => zero (h1 (hf (e48.mpr a)) (h48 (e48.mpr a))) hv
            rw [if_neg (fun a => a.elim n48 (fun b => b hv))] at h
            rw [if_neg (by decide), rlD_eq hr hhi hv]
            exact h
        · rw [if_neg (fun a => hv ((rlD_in hr hhi).mp a))]
          refine ⟨fun h2 => ?_, fun h2 => ?_⟩
          · conv => whnf
            exact t129 mv q hq (bad (Or.inr hv))
          · exact absurd rfl h2
      refine run [115, 129] 1000 _ _ _ _ _ _ rfl ?_
      conv => whnf
      rw [b6]
      refine ⟨fun h2 => ?_, fun h2 => ?_⟩
      · conv => whnf
        have : q = s := by
          rcases Nat.lt_or_ge s q with a | a
          · exact absurd h2 (nI_ge a (by omega))
          · omega
        exact t129 mv q hq (bad (Or.inr (zero (h0 this))))
      · have hqs : ¬ q = s := fun a => h2 (by rw [a]; exact Int32.le_refl _)
        conv => whnf
        refine ⟨fun h3 => ?_, fun h3 => ?_⟩
        · conv => whnf
          exact at115 hqs (fun a => absurd a h3)
        · conv => whnf
          rw [b6, nI_1]
          refine ⟨fun h4 => ?_, fun h4 => ?_⟩
          · conv => whnf
            exact t129 mv q hq (bad (Or.inl (e48.mp h3)))
          · conv => whnf
            exact at115 hqs (fun _ => (nI_eq (by omega) (by omega)).mp h4)
    have loop : ∀ f q mv cv, n - q = f → q ≤ n → s ≤ q → rlD mv cv → (q = s → cv = 0) → (q = s + 1 → t s = 48 → cv = 0) → pDig t n s 0 = pDig t n q cv → K 14 [some (.inr (.inl (7, 926))), some (.inl lo), some (.inl hi), some (.inl first), some (.inl (nI s)), some (.inl mv), none] [] (gUp M 926 10 (nI q)) gB0 := by
      intro f
      induction f with
      | zero =>
        intro q mv cv hf hq hsq hr h0 h1 hd
        have g1 := hx.pos hq
        have hqn : ¬ q < n := by omega
        refine run [14, 89] 1000 _ _ _ _ _ _ rfl ?_
        conv => whnf
        rw [g1.2.2.2.1, g1.2.2.2.2]
        refine ⟨fun h4 => ?_, fun h4 => ?_⟩
        · conv => whnf
          exact fin mv cv q hq hsq hr h0 h1 (hd.trans (pDig_stop (fun a => hqn a.1)))
        · exact absurd (nI_le (by omega) (by omega)) h4
      | succ f ih =>
        intro q mv cv hf hq hsq hr h0 h1 hd
        have g1 := hx.pos hq
        have hqn : q < n := by omega
        have e : (nI q).toNatClampNeg = q := nI_clamp (by omega)
        refine run [14, 89] 1000 _ _ _ _ _ _ rfl ?_
        conv => whnf
        rw [g1.2.2.2.1, g1.2.2.2.2]
        refine ⟨fun h4 => ?_, fun h4 => ?_⟩
        · exact absurd h4 (nI_ge hqn (by omega))
        · conv => whnf
          rw [g1.2.2.2.2]
          refine ⟨vp_in_nI (by omega) (by decide), ?_⟩
          conv => whnf
          rw [e, g1.2.2.1 q hqn]
          refine ⟨rfl, rfl, ?_⟩
          conv => whnf
          by_cases hdg : 48 ≤ t q ∧ t q ≤ 57
          · rw [if_pos hdg]
            have next : ∀ mv', mv' = (if mv < 100000 then 10 * mv + t q - 48 else mv) → K 14 [some (.inr (.inl (7, 926))), some (.inl lo), some (.inl hi), some (.inl first), some (.inl (nI s)), some (.inl mv'), none] [] (gUp M 926 10 (nI (q + 1))) gB0 := by
              intro mv' hm
              refine ih (q + 1) mv' _ (by omega) (by omega) (by omega) (by rw [hm]; exact rlD_step hr hdg) (fun a => by omega) (fun a b => ?_) (hd.trans (pDig_step hqn hdg))
              have : q = s := by omega
              subst this
              rw [h0 rfl, b]
              exact d48
            refine ⟨fun h5 => ?_, fun h5 => ?_⟩
            · exact absurd h5 (by decide)
            · conv => whnf
              refine ⟨fun h6 => ?_, fun h6 => ?_⟩
              · conv => whnf
                rw [g1.2.2.2.2, gUp_up, nI_1]
                exact next _ (if_neg (Int32.not_lt.mpr h6)).symm
              · conv => whnf
                rw [g1.2.2.2.2]
                refine ⟨vp_in_nI (by omega) (by decide), ?_⟩
                conv => whnf
                rw [e, g1.2.2.1 q hqn, g1.2.2.2.2, gUp_up, nI_1]
                exact next _ (if_pos (Int32.not_le.mp h6)).symm
          · rw [if_neg hdg]
            refine ⟨fun h5 => ?_, fun h5 => ?_⟩
            · conv => whnf
              exact fin mv cv q hq hsq hr h0 h1 (hd.trans (pDig_stop (fun a => hdg a.2)))
            · exact absurd rfl h5
    refine run [14] 1000 _ _ _ _ _ _ rfl ?_
    conv => whnf
    refine ⟨rfl, rfl, rfl, t, n, p, hx, ?_⟩
    rw [hse, hfe]
    conv => whnf
    rw [show gUp M 926 10 (nI s) 926 10 = nI s from gUp_same _ _ _ _]
    exact loop _ s 0 0 rfl hs.2 (Nat.le_refl _) (Or.inl ⟨rfl, by decide, by decide⟩) (fun _ => rfl) (fun _ _ => rfl) rfl
  · exact h.elim
