/-! the model: ice -/
theorem msR.col {s s' : Nat → Int32} {S : St} {b : Nat} {c : Col} (h : msR s S) (hb : b < 10) (hc : mcR s' (26 * b) c) (hf : ∀ k, (k < 26 * b ∨ 26 * b + 26 ≤ k) → s' k = s k) : msR s' (stCol S b c) := by
  obtain ⟨h1, h2, h3, h4, h5, h6, h7⟩ := h
  refine ⟨fun i hi => ?_, fun j hj i hi => (h2 j hj i hi).kept fun k hk => hf _ (by omega), fun j hj => ?_, fun k hk => ?_, fun k hk => ?_, ?_, ?_⟩
  · show mcR _ _ (if i = b then c else S.1 i)
    by_cases e : i = b
    · subst e
      rw [if_pos rfl]
      exact hc
    · rw [if_neg e]
      exact (h1 i hi).kept fun k hk => hf _ (by omega)
  · rw [hf _ (by omega)]; exact h3 j hj
  · rw [hf _ (by omega)]; exact h4 k hk
  · rw [hf _ (by omega)]; exact h5 k hk
  · rw [hf _ (by omega)]; exact h6
  · rw [hf _ (by omega)]; exact h7
theorem msR.acc {s : Nat → Int32} {S : St} (h : msR s S) {k : Nat} (hk : k < 4) (x : Int32) : msR (fun z => if z = 266 + k then s (266 + k) + x else s z) (stAcc S k x) := by
  obtain ⟨h1, h2, h3, h4, h5, h6, h7⟩ := h
  refine ⟨fun b hb => (h1 b hb).kept fun i hi => if_neg (by omega), fun j hj b hb => (h2 j hj b hb).kept fun i hi => if_neg (by omega), fun j hj => (if_neg (by omega)).trans (h3 j hj), fun i hi => (if_neg (by omega)).trans (h4 i hi), fun i hi => ?_, ?_, (if_neg (by omega)).trans h7⟩
  · show (if 266 + i = 266 + k then s (266 + k) + x else s (266 + i)) = if i = k then S.2.2.2.2.1 i + x else S.2.2.2.2.1 i
    by_cases e : i = k
    · subst e
      rw [if_pos rfl, if_pos rfl, h5 i hi]
    · rw [if_neg (by omega), if_neg e]
      exact h5 i hi
  · refine (if_neg (by omega)).trans (h6.trans ?_)
    show _ = (if 4 = k then _ else S.2.2.2.2.1 4) - (if 5 = k then _ else S.2.2.2.2.1 5)
    rw [if_neg (by omega), if_neg (by omega)]
theorem msR.accM {M : gM} {S : St} (h : msR (M 927) S) {k : Nat} (hk : k < 4) (x : Int32) : msR (gUp M 927 (266 + k) (M 927 (266 + k) + x) 927) (stAcc S k x) := by
  refine (h.acc hk x).kept fun z hz => ?_
  by_cases e : z = 266 + k
  · subst e
    rw [gUp_same, if_pos rfl]
  · rw [gUp_ne (Or.inr e), if_neg e]
theorem msR.colM {M M' : gM} {S : St} {b : Nat} {c : Col} (h : msR (M 927) S) (hb : b < 10) (hc : mcR (M' 927) (26 * b) c) (hf : gFs M M' (26 * b) 26) : msR (M' 927) (stCol S b c) := h.col hb hc hf.2
def mFrz (S : St) (b : Nat) : St :=
  if icy (S.1 b).1 = true then stAcc (stCol S b (lGr (S.1 b).1 0 (S.2.2.2.1 1), (S.1 b).2)) 2 (9 * S.2.2.2.1 1)
  else if (S.1 b).1.length < 8 ∧ 0 < S.2.2.2.1 1 then stAcc (stCol S b ((S.1 b).1.insertIdx 0 (0, 9, S.2.2.2.1 1), (S.1 b).2)) 2 (9 * S.2.2.2.1 1)
  else S
def f_X7_freeze : gF := fun av M post => match av with
  | [.inr (.inl (7, p)), .inl v] => p = 926 ∧ ∃ S b, msR (M 927) S ∧ b < 10 ∧ v = nI b ∧ ∀ M', msR (M' 927) (mFrz S b) → gFs M M' 0 795 → post none M'
  | _ => False
theorem lk_X7_freeze (l : Launch) : gLinks l RX7 3 [(gTn f_X7_isIcy, 0, 0, 7), (gTn f_X7_grow, 0, 0, 7), (gTn f_X7_of, 0, 0, 7), (gTn f_X7_insert, 0, 0, 7)] pX7_freeze := And.intro gf_RX7_7 (And.intro ⟨gTn f_X7_isIcy, 7, yX7_isIcy, cX7_isIcy, 2, (some .boolean), 2, _, rfl, by decide, yi_yX7_isIcy, ok_X7_isIcy l, by decide, by decide, rfl, rfl, ml_RX7_92, im_yX7_isIcy, se_yX7_isIcy⟩ (And.intro ⟨gTn f_X7_grow, 7, yX7_grow, cX7_grow, 4, none, 2, _, rfl, by decide, yi_yX7_grow, ok_X7_grow l, by decide, by decide, rfl, rfl, ml_RX7_95, im_yX7_grow, se_yX7_grow⟩ (And.intro gf_RX7_7 (And.intro ⟨gTn f_X7_of, 7, yX7_of, cX7_of, 3, (some .int), 0, _, rfl, by decide, yi_yX7_of, ok_X7_of l, by decide, by decide, rfl, rfl, ml_RX7_50, im_yX7_of, se_yX7_of⟩ (And.intro ⟨gTn f_X7_insert, 7, yX7_insert, cX7_insert, 7, none, 1, _, rfl, by decide, yi_yX7_insert, ok_X7_insert l, by decide, by decide, rfl, rfl, ml_RX7_76, im_yX7_insert, se_yX7_insert⟩ (And.intro gf_RX7_7 (trivial)))))))
theorem ok_X7_freeze (l : Launch) : gOK l yX7_freeze cX7_freeze 3 none 3 0 0 (gTn f_X7_freeze) := by
  refine gM_of (by decide +kernel) pX7_freeze_ok (lk_X7_freeze l) ?_
  intro SL SX K P av M run h
  unfold f_X7_freeze at h
  split at h
  · rename_i p v
    obtain ⟨rfl, S, b, hS, hb, rfl, h⟩ := h
    refine ⟨⟨by simp [gC1], Nat.le_of_ble_eq_true rfl⟩, ?_⟩
    have hc := hS.1 b hb
    have h8 := hc.1
    have e1 : M 927 261 = S.2.2.2.1 1 := hS.2.2.2.1 1 (by decide)
    unfold mFrz at h
    refine run [82] 1000 _ _ _ _ _ _ rfl ?_
    conv => whnf
    refine ⟨vp_in_nI (n := 261) (by decide) (by decide), ?_⟩
    conv => whnf
    rw [show M 927 (Int32.toNatClampNeg 261) = S.2.2.2.1 1 from e1]
    refine ⟨rfl, rfl, rfl, b, _, hb, rfl, hc, ?_⟩
    conv => whnf
    have fin : ∀ M', (∀ M2, M2 = M' → P none M2) → K 82 [some (.inr (.inl (7, 926))), some (.inl (nI b)), some (.inl (S.2.2.2.1 1))] [] M' gB0 := by
      intro M' hM
      refine run [] 1000 _ _ _ _ _ _ rfl ?_
      conv => whnf
      exact ⟨rfl, hM _ rfl⟩
    by_cases hi : icy (S.1 b).1 = true
    · rw [if_pos hi]
      rw [if_pos hi] at h
      have hlt : 0 < (S.1 b).1.length := by
        cases hl : (S.1 b).1 with
        | nil => rw [hl] at hi; cases hi
        | cons x t => exact Nat.succ_pos _
      refine ⟨fun h1 => ?_, fun h1 => ?_⟩
      · exact absurd h1 (by decide)
      · conv => whnf
        refine ⟨rfl, rfl, rfl, b, 0, _, hb, rfl, rfl, hc, hlt, fun M1 g1 g2 => ?_⟩
        conv => whnf
        refine ⟨vp_in_nI (n := 268) (by decide) (by decide), ?_⟩
        conv => whnf
        refine ⟨vp_in_nI (n := 268) (by decide) (by decide), ?_⟩
        conv => whnf
        refine fin _ (fun M2 e => ?_)
        subst e
        exact h _ ((hS.colM hb g1 g2).accM (k := 2) (by decide) (9 * S.2.2.2.1 1)) ((g2.mono (by omega) (by omega)).tr (gFs.up M1 _ (by decide) (by decide)))
    · rw [if_neg hi]
      rw [if_neg hi] at h
      refine ⟨fun h1 => ?_, fun h1 => ?_⟩
      · conv => whnf
        refine ⟨rfl, rfl, rfl, b, 0, hb, by decide, rfl, rfl, ?_⟩
        rw [show M 927 (26 * b + 0) = nI (S.1 b).1.length from hc.2.1]
        conv => whnf
        refine ⟨fun h2 => ?_, fun h2 => ?_⟩
        · conv => whnf
          have hge : ¬ (S.1 b).1.length < 8 := fun a => (nI_ge (b := 8) a (by decide)) h2
          rw [if_neg (fun a => hge a.1)] at h
          exact fin _ (fun M2 e => by subst e; exact h _ hS (gFs.rf _ _ _))
        · have hlt : (S.1 b).1.length < 8 := by
            rcases Nat.lt_or_ge (S.1 b).1.length 8 with a | a
            · exact a
            · exact absurd (nI_le a (by omega)) h2
          conv => whnf
          refine ⟨fun h3 => ?_, fun h3 => ?_⟩
          · conv => whnf
            rw [if_neg (fun a => Int32.not_lt.mpr h3 a.2)] at h
            exact fin _ (fun M2 e => by subst e; exact h _ hS (gFs.rf _ _ _))
          · conv => whnf
            rw [if_pos ⟨hlt, Int32.not_le.mp h3⟩] at h
            refine ⟨rfl, rfl, rfl, b, 0, _, hb, rfl, rfl, hc, hlt, Nat.zero_le _, fun M1 g1 g2 => ?_⟩
            conv => whnf
            refine ⟨vp_in_nI (n := 268) (by decide) (by decide), ?_⟩
            conv => whnf
            refine ⟨vp_in_nI (n := 268) (by decide) (by decide), ?_⟩
            conv => whnf
            refine fin _ (fun M2 e => ?_)
            subst e
            exact h _ ((hS.colM hb g1 g2).accM (k := 2) (by decide) (9 * S.2.2.2.1 1)) ((g2.mono (by omega) (by omega)).tr (gFs.up M1 _ (by decide) (by decide)))
      · exact absurd rfl h1
  · exact h.elim
