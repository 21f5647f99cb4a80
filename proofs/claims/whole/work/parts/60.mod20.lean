/-! the model: take -/
def mSp (s : Nat → Int32) (j k : Nat) : Nat → Int32 := fun z => if 274 + 261 * j ≤ z ∧ z < 274 + 261 * j + k then s (z - (274 + 261 * j)) else if z = 273 + 261 * j then 1 else s z
theorem mSp_R {s : Nat → Int32} {S : St} {j : Nat} (h : msR s S) (hj : j < 2) : msR (mSp s j 260) (stSnap S j) := by
  obtain ⟨h1, h2, h3, h4, h5, h6, h7⟩ := h
  have out : ∀ z, (z < 273 + 261 * j ∨ 273 + 261 * j + 261 ≤ z) → mSp s j 260 z = s z := fun z hz => by
    unfold mSp
    rw [if_neg (by omega), if_neg (by omega)]
  refine ⟨fun b hb => (h1 b hb).kept fun i hi => out _ (by omega), fun i hi b hb => ?_, fun i hi => ?_, fun k hk => (out _ (by omega)).trans (h4 k hk), fun k hk => (out _ (by omega)).trans (h5 k hk), (out _ (by omega)).trans h6, (out _ (by omega)).trans h7⟩
  · show mcR _ _ ((if i = j then S.1 else S.2.1 i) b)
    by_cases e : i = j
    · subst e
      rw [if_pos rfl]
      refine (h1 b hb).kept fun k hk => ?_
      unfold mSp
      rw [if_pos (by omega)]
      congr 1
      omega
    · rw [if_neg e]
      exact (h2 i hi b hb).kept fun k hk => out _ (by omega)
  · show _ = (if i = j then 1 else S.2.2.1 i)
    by_cases e : i = j
    · subst e
      rw [if_pos rfl]
      unfold mSp
      rw [if_neg (by omega), if_pos rfl]
    · rw [if_neg e]
      exact (out _ (by omega)).trans (h3 i hi)
theorem mSp_0 (s : Nat → Int32) (j : Nat) : mSp s j 0 = fun z => if z = 273 + 261 * j then 1 else s z := by
  funext z
  exact if_neg (by omega)
theorem mSp_step (s : Nat → Int32) (j k : Nat) (hk : k < 260) : (fun z => if z = 274 + 261 * j + k then mSp s j k k else mSp s j k z) = mSp s j (k + 1) := by
  have e : mSp s j k k = s k := by
    unfold mSp
    rw [if_neg (by omega), if_neg (by omega)]
  rw [e]
  funext z
  unfold mSp
  by_cases h1 : z = 274 + 261 * j + k
  · subst h1
    rw [if_pos rfl, if_pos (by omega), Nat.add_sub_cancel_left]
  · rw [if_neg h1]
    by_cases h2 : 274 + 261 * j ≤ z ∧ z < 274 + 261 * j + k
    · rw [if_pos h2, if_pos (by omega)]
    · rw [if_neg h2]
      exact (if_neg (by omega)).symm
theorem at_pl (j : Nat) : 273 + 261 * nI j = nI (273 + 261 * j) := by
  rw [show (261 : Int32) = nI 261 from rfl, show (273 : Int32) = nI 273 from rfl, nI_mul, nI_add]
def f_X7_take : gF := fun av M post => match av with
  | [.inr (.inl (7, p)), .inl v] => p = 926 ∧ ∃ σ, moR M σ ∧ mQ M (oTake σ v) post
  | _ => False
theorem lk_X7_take (l : Launch) : gLinks l RX7 2 [(gTn f_X7_in, 0, 0, 99), (gTn f_X7_act, 0, 0, 7), (gTn f_X7_allLayers, 0, 0, 7)] pX7_take := And.intro gf_RX7_31 (And.intro ⟨gTn f_X7_in, 99, yX7_in, cX7_in, 3, (some .boolean), 0, rfl, yi_yX7_in, ok_X7_in l, by decide, Or.inl ml_RX7_38, sm_yX7_in⟩ (And.intro kc_RX7_71 (And.intro ⟨gTn f_X7_act, 7, yX7_act, cX7_act, 2, none, 0, _, rfl, by decide, yi_yX7_act, ok_X7_act l, by decide, by decide, rfl, rfl, ml_RX7_73, im_yX7_act, se_yX7_act⟩ (And.intro gf_RX7_7 (And.intro gf_RX7_7 (And.intro gf_RX7_7 (And.intro ⟨gTn f_X7_allLayers, 7, yX7_allLayers, cX7_allLayers, 3, (some .int), 1, _, rfl, by decide, yi_yX7_allLayers, ok_X7_allLayers l, by decide, by decide, rfl, rfl, ml_RX7_137, im_yX7_allLayers, se_yX7_allLayers⟩ (trivial))))))))
theorem ok_X7_take (l : Launch) : gOK l yX7_take cX7_take 4 (some .int) 2 0 0 (gTn f_X7_take) := by
  refine gM_of (by decide +kernel) pX7_take_ok (lk_X7_take l) ?_
  intro SL SX K P av M run h
  unfold f_X7_take at h
  split at h
  · rename_i p v
    obtain ⟨rfl, σ, hσ0, h⟩ := h
    refine ⟨⟨by simp [gC1], Nat.le_of_ble_eq_true rfl⟩, ?_⟩
    have hσ := hσ0.th
    have f0 := gFm.up M (q := 926) 0 0 (Nat.le_refl _)
    unfold oTake at h
    refine run [40] 1000 _ _ _ _ _ _ rfl ?_
    conv => whnf
    refine ⟨rfl, rfl, ?_⟩
    conv => whnf
    by_cases hn : 0 ≤ v ∧ v ≤ 1
    · rw [if_pos hn]
      rw [if_pos hn] at h
      obtain ⟨j, hj, rfl⟩ := nI_bd (n := 1) (by decide) hn.1 hn.2
      have e : (nI j).toNatClampNeg = j := nI_clamp (by omega)
      rw [e] at h
      refine ⟨fun h1 => ?_, fun h1 => ?_⟩
      · conv => whnf
        refine ⟨rfl, rfl, rfl, _, _, hσ.2.1, hσ.1, fun M1 g1 g2 => ?_⟩
        have k1 := hσ.act g1 g2
        conv => whnf
        rw [at_pl]
        refine ⟨vp_in_nI (by omega) (by decide), ?_⟩
        conv => whnf
        rw [nI_clamp (by omega)]
        have q := upto (n := 260) (A := fun k => K 40 [some (.inr (.inl (7, 926))), some (.inl (nI j)), some (.inl (nI (273 + 261 * j))), some (.inl (nI k))] [] (gRw M1 927 (mSp (M1 927) j k)) gB0) (by
          refine run [40] 1000 _ _ _ _ _ _ rfl ?_
          conv => whnf
          refine ⟨fun h3 => ?_, fun h3 => ?_⟩
          · conv => whnf
            have s3 : msR (gRw M1 927 (mSp (M1 927) j 260) 927) (stSnap (wAct σ σ.1).1 j) := by
              rw [gRw_at]
              exact mSp_R k1.1 (by omega)
            refine ⟨rfl, rfl, rfl, _, s3.1, ?_⟩
            conv => whnf
            exact ⟨rfl, h _ (k1.st s3 (fun r a => if_neg a)) ((f0.tr g2.fm).tr (fun r a => if_neg (by omega)))⟩
          · exact absurd (nI_le (Nat.le_refl 260) (by decide)) h3) (fun k hk ih => by
          refine run [40] 1000 _ _ _ _ _ _ rfl ?_
          conv => whnf
          refine ⟨fun h3 => ?_, fun h3 => ?_⟩
          · exact absurd h3 (nI_ge hk (by decide))
          · conv => whnf
            rw [show nI (273 + 261 * j) + 1 + nI k = nI (274 + 261 * j + k) from by rw [nI_1, nI_add]; congr 1; omega]
            refine ⟨vp_in_nI (by omega) (by decide), ?_⟩
            conv => whnf
            refine ⟨vp_in_nI (by omega) (by decide), ?_⟩
            conv => whnf
            rw [nI_clamp (by omega), nI_clamp (by omega), nI_1, gUp_Rw, gRw_at, mSp_step _ _ _ hk]
            exact ih) 0 (Nat.zero_le _)
        have e0 : gUp M1 927 (273 + 261 * j) 1 = gRw M1 927 (mSp (M1 927) j 0) := by
          rw [mSp_0]
          have := gUp_Rw M1 927 (M1 927) (273 + 261 * j) 1
          rw [gRw_id] at this
          exact this
        rw [show gUp M1 (926 + 1) (273 + 261 * j) 1 = gRw M1 927 (mSp (M1 927) j 0) from e0]
        exact q
      · exact absurd h1 (by decide)
    · rw [if_neg hn]
      rw [if_neg hn] at h
      refine ⟨fun h1 => ?_, fun h1 => ?_⟩
      · exact absurd rfl h1
      · conv => whnf
        exact ⟨rfl, h.no hσ f0 rfl⟩
  · exact h.elim
