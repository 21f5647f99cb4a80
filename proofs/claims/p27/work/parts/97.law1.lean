/-! the law's small methods -/
def pLow (v n : Int32) : Int32 := (v &&& 2147483647) - (v &&& 2147483647) / n * n
theorem and_nn (v : Int32) : 0 ≤ (v &&& 2147483647).toInt := by
  have e : (v &&& 2147483647).toBitVec.msb = false := by
    rw [Int32.toBitVec_and, BitVec.msb_and]
    show (v.toBitVec.msb && (2147483647 : Int32).toBitVec.msb) = false
    rw [show (2147483647 : Int32).toBitVec.msb = false from by decide, Bool.and_false]
  show 0 ≤ (v &&& 2147483647).toBitVec.toInt
  rw [BitVec.toInt_eq_msb_cond, e]
  simp
theorem pLow_rng (v : Int32) {m : Nat} (h : 0 < m) (hm : m < 1000000) : ∃ j, j < m ∧ pLow v (nI m) = nI j := by
  have a0 := and_nn v
  have ab : (v &&& 2147483647).toInt < 2 ^ 31 := Int32.toInt_lt _
  unfold pLow
  generalize v &&& 2147483647 = a at a0 ab ⊢
  have em : (nI m).toInt = (m : Int) := nI_toInt (by omega)
  have ed : (a / nI m).toInt = a.toInt / (m : Int) := by
    rw [Int32.toInt_div_of_ne_right _ _ (fun q => by
      have := congrArg Int32.toInt q
      rw [em, show ((-1 : Int32)).toInt = -1 from rfl] at this
      omega), em]
    exact Int.tdiv_eq_ediv_of_nonneg a0
  have m0 : (0 : Int) < m := by omega
  have d1 := Int.ediv_mul_le a.toInt (show (m : Int) ≠ 0 by omega)
  have d0 : 0 ≤ a.toInt / (m : Int) := Int.ediv_nonneg a0 (by omega)
  have d2 : 0 ≤ a.toInt / (m : Int) * m := Int.mul_nonneg d0 (by omega)
  have e2 : (a / nI m * nI m).toInt = a.toInt / (m : Int) * m := by
    rw [ti_mul (by rw [ed, em]; omega) (by rw [ed, em]; omega), ed, em]
  have e3 : (a - a / nI m * nI m).toInt = a.toInt % (m : Int) := by
    rw [ti_sub (by rw [e2]; omega) (by rw [e2]; omega), e2, Int.emod_def, Int.mul_comm]
  have r0 := Int.emod_nonneg a.toInt (show (m : Int) ≠ 0 by omega)
  have r1 := Int.emod_lt_of_pos a.toInt m0
  refine ⟨(a.toInt % (m : Int)).toNat, by omega, Int32.toInt_inj.mp ?_⟩
  rw [e3, nI_toInt (by omega)]
  omega
def f_L_low : gF := fun av M post => match av with
  | [.inl v, .inl n] => ¬ n = 0 ∧ post (some (.inl (pLow v n))) M
  | _ => False
theorem lk_L_low (l : Launch) : gLinks l RL 0 [] pL_low := And.intro kc_RL_7 (trivial)
theorem ok_L_low (l : Launch) : gOK l yL_low method_3_code 2 (some .int) 0 0 0 (gTn f_L_low) := by
  refine gM_of (by decide +kernel) pL_low_ok (lk_L_low l) ?_
  intro SL SX K P av M run h
  unfold f_L_low at h
  split at h
  · rename_i v n
    obtain ⟨hn, h⟩ := h
    refine ⟨⟨by simp [gC1], Nat.le_of_ble_eq_true rfl⟩, ?_⟩
    refine run [] 1000 _ _ _ _ _ _ rfl ?_
    conv => whnf
    refine ⟨hn, ?_⟩
    conv => whnf
    exact ⟨rfl, h⟩
  · exact h.elim
def f_L_cell : gF := fun av M post => match av with
  | [.inr (.inl (55, q)), .inl k] => ∃ j : Nat, j < 100 ∧ k = nI j ∧ ∀ v, post (some (.inl v)) M
  | _ => False
theorem lk_L_cell (l : Launch) : gLinks l RL 0 [] pL_cell := trivial
theorem ok_L_cell (l : Launch) : gOK l yL_cell method_2_code 2 (some .int) 0 0 0 (gTn f_L_cell) := by
  refine gM_of (by decide +kernel) pL_cell_ok (lk_L_cell l) ?_
  intro SL SX K P av M run h
  unfold f_L_cell at h
  split at h
  · rename_i q k
    obtain ⟨j, hj, rfl, h⟩ := h
    refine ⟨⟨by simp [gC1], Nat.le_of_ble_eq_true rfl⟩, ?_⟩
    refine run [] 1000 _ _ _ _ _ _ rfl ?_
    conv => whnf
    refine ⟨fun h1 => ?_, fun h1 => ?_⟩
    · conv => whnf
      exact ⟨rfl, h _⟩
    · conv => whnf
      have hlt : j < SL := by
        rcases Nat.lt_or_ge SL 1000 with a | a
        · rcases Nat.lt_or_ge j SL with b | b
          · exact b
          · exact absurd (nI_le b (by omega)) h1
        · omega
      have hv : vp_in (nI j) SL := by
        unfold vp_in
        rw [nI_clamp (by omega)]
        rintro (a | a)
        · exact nI_pos (by omega) a
        · omega
      refine ⟨hv, ?_⟩
      conv => whnf
      exact ⟨rfl, h _⟩
  · exact h.elim
/-! the digest -/
def dgF (f : Nat → Int32) (h : Int64) : Nat → Int64
  | 0 => h
  | n + 1 => Int64.ofNat 31 * dgF f h n + (f n).toInt64
def dgK (σ : Wd) (b : Nat) (h : Int64) : Nat → Int64
  | 0 => h
  | k + 1 => dgF (fun w => oLayer σ (nI b) (nI k) (nI w)) (dgK σ b h k) 4
def dgB (σ : Wd) (h : Int64) : Nat → Int64
  | 0 => h
  | b + 1 => dgK σ b (dgF (fun w => oBlock σ (nI b) (nI w)) (dgB σ h b) 7) 8
def dg (σ : Wd) : Int64 := dgF (fun w => oAcc σ (nI w)) (dgB σ (dgF (fun w => oCount σ (nI w)) (Int64.ofNat 7) 12) 10) 8
theorem dgF_eq {f g : Nat → Int32} {h : Int64} : ∀ n, (∀ i, i < n → f i = g i) → dgF f h n = dgF g h n
  | 0, _ => rfl
  | n + 1, e => by
    show Int64.ofNat 31 * dgF f h n + (f n).toInt64 = Int64.ofNat 31 * dgF g h n + (g n).toInt64
    rw [dgF_eq n (fun i hi => e i (by omega)), e n (by omega)]
theorem dgK_eq (S : St) (x y : List St × (Nat → Int32) × Nat) (b : Nat) (h : Int64) : ∀ k, dgK (S, x) b h k = dgK (S, y) b h k
  | 0 => rfl
  | k + 1 => by
    show dgF (fun w => oLayer (S, x) (nI b) (nI k) (nI w)) (dgK (S, x) b h k) 4 = dgF (fun w => oLayer (S, y) (nI b) (nI k) (nI w)) (dgK (S, y) b h k) 4
    rw [dgK_eq S x y b h k]
    exact dgF_eq 4 (fun _ _ => rfl)
theorem dgB_eq (S : St) (x y : List St × (Nat → Int32) × Nat) (h : Int64) : ∀ b, dgB (S, x) h b = dgB (S, y) h b
  | 0 => rfl
  | b + 1 => by
    show dgK (S, x) b (dgF (fun w => oBlock (S, x) (nI b) (nI w)) (dgB (S, x) h b) 7) 8 = dgK (S, y) b (dgF (fun w => oBlock (S, y) (nI b) (nI w)) (dgB (S, y) h b) 7) 8
    rw [dgB_eq S x y h b, dgK_eq S x y]
    exact congrArg (fun z => dgK (S, y) b z 8) (dgF_eq 7 (fun _ _ => rfl))
theorem oCount_eq (S : St) (x y : List St × (Nat → Int32) × Nat) {k : Int32} (h1 : ¬ k = 12) (h2 : ¬ k = 13) : oCount (S, x) k = oCount (S, y) k := by
  unfold oCount
  rw [if_neg h1, if_neg h1, if_neg h2, if_neg h2]
theorem dg_eq (S : St) (x y : List St × (Nat → Int32) × Nat) : dg (S, x) = dg (S, y) := by
  unfold dg
  rw [dgF_eq (f := fun w => oCount (S, x) (nI w)) (g := fun w => oCount (S, y) (nI w)) 12 (fun i hi => oCount_eq S x y (fun q => ?_) (fun q => ?_)), dgB_eq S x y]
  · exact dgF_eq 8 (fun _ _ => rfl)
  · have := congrArg Int32.toInt q
    rw [nI_toInt (by omega), show ((12 : Int32)).toInt = 12 from rfl] at this
    omega
  · have := congrArg Int32.toInt q
    rw [nI_toInt (by omega), show ((13 : Int32)).toInt = 13 from rfl] at this
    omega
def f_L_digest : gF := fun av M post => match av with
  | [.inr (.inl (6, p))] => p = 0 ∧ ∃ σ, clR M σ ∧ post (some (.inr (.inr (.inl (dg σ))))) M
  | _ => False
theorem lk_L_digest (l : Launch) : gLinks l RL 5 [(gTn f_X6_count, 0, 0, 6), (gTn f_X6_block, 0, 0, 6), (gTn f_X6_layer, 0, 0, 6), (gTn f_X6_account, 0, 0, 6)] pL_digest := And.intro kc_RL_8 (And.intro kc_RL_10 (And.intro ⟨gTn f_X6_count, 6, yX6_count, cX6_count, 2, (some .int), 4, _, rfl, by decide, yi_yX6_count, ok_X6_count l, by decide, by decide, rfl, rfl, ml_RL_12, im_yX6_count, se_yX6_count⟩ (And.intro kc_RL_10 (And.intro ⟨gTn f_X6_block, 6, yX6_block, cX6_block, 4, (some .int), 3, _, rfl, by decide, yi_yX6_block, ok_X6_block l, by decide, by decide, rfl, rfl, ml_RL_18, im_yX6_block, se_yX6_block⟩ (And.intro kc_RL_10 (And.intro ⟨gTn f_X6_layer, 6, yX6_layer, cX6_layer, 5, (some .int), 3, _, rfl, by decide, yi_yX6_layer, ok_X6_layer l, by decide, by decide, rfl, rfl, ml_RL_22, im_yX6_layer, se_yX6_layer⟩ (And.intro kc_RL_10 (And.intro ⟨gTn f_X6_account, 6, yX6_account, cX6_account, 2, (some .int), 3, _, rfl, by decide, yi_yX6_account, ok_X6_account l, by decide, by decide, rfl, rfl, ml_RL_26, im_yX6_account, se_yX6_account⟩ (trivial)))))))))
theorem ok_L_digest (l : Launch) : gOK l yL_digest method_4_code 6 (some .long) 5 0 0 (gTn f_L_digest) := by
  refine gM_of (by decide +kernel) pL_digest_ok (lk_L_digest l) ?_
  intro SL SX K P av M run h
  unfold f_L_digest at h
  split at h
  · rename_i p
    obtain ⟨rfl, σ, hσ, h⟩ := h
    refine ⟨⟨by simp [gC1], Nat.le_of_ble_eq_true rfl⟩, ?_⟩
    unfold dg at h
    have k126 : ∀ l4 l5 w, w ≤ 8 → K 126 [some (.inr (.inl (6, 0))), some (.inr (.inr (.inl (dgF (fun w => oAcc σ (nI w)) (dgB σ (dgF (fun w => oCount σ (nI w)) (Int64.ofNat 7) 12) 10) w)))), none, some (.inl (nI w)), l4, l5] [] M gB0 := by
      generalize dgB σ (dgF (fun w => oCount σ (nI w)) (Int64.ofNat 7) 12) 10 = z at h ⊢
      intro l4 l5
      refine upto (n := 8) ?_ (fun k hk ih => ?_)
      · refine run [126] 1000 _ _ _ _ _ _ rfl ?_
        conv => whnf
        refine ⟨fun h1 => ?_, fun h1 => ?_⟩
        · conv => whnf
          exact ⟨rfl, h⟩
        · exact absurd (nI_le (Nat.le_refl 8) (by decide)) h1
      · refine run [126] 1000 _ _ _ _ _ _ rfl ?_
        conv => whnf
        refine ⟨fun h1 => ?_, fun h1 => ?_⟩
        · exact absurd h1 (nI_ge hk (by decide))
        · conv => whnf
          refine ⟨rfl, rfl, rfl, σ, hσ, ?_⟩
          conv => whnf
          rw [nI_1]
          exact ih
    have k33 : ∀ b, b ≤ 10 → ∀ l4 l5, K 33 [some (.inr (.inl (6, 0))), some (.inr (.inr (.inl (dgB σ (dgF (fun w => oCount σ (nI w)) (Int64.ofNat 7) 12) b)))), none, some (.inl (nI b)), l4, l5] [] M gB0 := by
      clear h
      generalize dgF (fun w => oCount σ (nI w)) (Int64.ofNat 7) 12 = z at k126 ⊢
      refine upto (n := 10) ?_ (fun b hb ih => ?_)
      · intro l4 l5
        refine run [126] 1000 _ _ _ _ _ _ rfl ?_
        conv => whnf
        refine ⟨fun h1 => ?_, fun h1 => ?_⟩
        · conv => whnf
          exact k126 _ _ 0 (by decide)
        · exact absurd (nI_le (Nat.le_refl 10) (by decide)) h1
      · intro l4 l5
        clear k126
        have k73 : ∀ k, k ≤ 8 → ∀ l5, K 73 [some (.inr (.inl (6, 0))), some (.inr (.inr (.inl (dgK σ b (dgF (fun w => oBlock σ (nI b) (nI w)) (dgB σ z b) 7) k)))), none, some (.inl (nI b)), some (.inl (nI k)), l5] [] M gB0 := by
          have ih : ∀ l4 l5, K 33 [some (.inr (.inl (6, 0))), some (.inr (.inr (.inl (dgK σ b (dgF (fun w => oBlock σ (nI b) (nI w)) (dgB σ z b) 7) 8)))), none, some (.inl (nI (b + 1))), l4, l5] [] M gB0 := ih
          generalize dgF (fun w => oBlock σ (nI b) (nI w)) (dgB σ z b) 7 = z1 at ih ⊢
          refine upto (n := 8) ?_ (fun k hk ih2 => ?_)
          · intro l5
            refine run [33] 1000 _ _ _ _ _ _ rfl ?_
            conv => whnf
            refine ⟨fun h1 => ?_, fun h1 => ?_⟩
            · conv => whnf
              rw [nI_1]
              exact ih _ _
            · exact absurd (nI_le (Nat.le_refl 8) (by decide)) h1
          · intro l5
            have k83 : ∀ w, w ≤ 4 → K 83 [some (.inr (.inl (6, 0))), some (.inr (.inr (.inl (dgF (fun w => oLayer σ (nI b) (nI k) (nI w)) (dgK σ b z1 k) w)))), none, some (.inl (nI b)), some (.inl (nI k)), some (.inl (nI w))] [] M gB0 := by
              have ih2 : ∀ l5, K 73 [some (.inr (.inl (6, 0))), some (.inr (.inr (.inl (dgF (fun w => oLayer σ (nI b) (nI k) (nI w)) (dgK σ b z1 k) 4)))), none, some (.inl (nI b)), some (.inl (nI (k + 1))), l5] [] M gB0 := ih2
              generalize dgK σ b z1 k = z2 at ih2 ⊢
              refine upto (n := 4) ?_ (fun w hw ih3 => ?_)
              · refine run [73] 1000 _ _ _ _ _ _ rfl ?_
                conv => whnf
                refine ⟨fun h1 => ?_, fun h1 => ?_⟩
                · conv => whnf
                  rw [nI_1]
                  exact ih2 _
                · exact absurd (nI_le (Nat.le_refl 4) (by decide)) h1
              · refine run [83] 1000 _ _ _ _ _ _ rfl ?_
                conv => whnf
                refine ⟨fun h1 => ?_, fun h1 => ?_⟩
                · exact absurd h1 (nI_ge hw (by decide))
                · conv => whnf
                  refine ⟨rfl, rfl, rfl, σ, hσ, ?_⟩
                  conv => whnf
                  rw [nI_1]
                  exact ih3
            refine run [83] 1000 _ _ _ _ _ _ rfl ?_
            conv => whnf
            refine ⟨fun h1 => ?_, fun h1 => ?_⟩
            · exact absurd h1 (nI_ge hk (by decide))
            · conv => whnf
              exact k83 0 (by decide)
        have k42 : ∀ w, w ≤ 7 → ∀ l5, K 42 [some (.inr (.inl (6, 0))), some (.inr (.inr (.inl (dgF (fun w => oBlock σ (nI b) (nI w)) (dgB σ z b) w)))), none, some (.inl (nI b)), some (.inl (nI w)), l5] [] M gB0 := by
          clear ih
          generalize dgB σ z b = z1 at k73 ⊢
          refine upto (n := 7) ?_ (fun w hw ih3 => ?_)
          · intro l5
            refine run [73] 1000 _ _ _ _ _ _ rfl ?_
            conv => whnf
            refine ⟨fun h1 => ?_, fun h1 => ?_⟩
            · conv => whnf
              exact k73 0 (by decide) _
            · exact absurd (nI_le (Nat.le_refl 7) (by decide)) h1
          · intro l5
            refine run [42] 1000 _ _ _ _ _ _ rfl ?_
            conv => whnf
            refine ⟨fun h1 => ?_, fun h1 => ?_⟩
            · exact absurd h1 (nI_ge hw (by decide))
            · conv => whnf
              refine ⟨rfl, rfl, rfl, σ, hσ, ?_⟩
              conv => whnf
              rw [nI_1]
              exact ih3 _
        refine run [42] 1000 _ _ _ _ _ _ rfl ?_
        conv => whnf
        refine ⟨fun h1 => ?_, fun h1 => ?_⟩
        · exact absurd h1 (nI_ge hb (by decide))
        · conv => whnf
          exact k42 0 (by decide) _
    have k6 : ∀ w, w ≤ 12 → K 6 [some (.inr (.inl (6, 0))), some (.inr (.inr (.inl (dgF (fun w => oCount σ (nI w)) (Int64.ofNat 7) w)))), none, some (.inl (nI w)), none, none] [] M gB0 := by
      clear k126 h
      refine upto (n := 12) ?_ (fun w hw ih => ?_)
      · refine run [33] 1000 _ _ _ _ _ _ rfl ?_
        conv => whnf
        refine ⟨fun h1 => ?_, fun h1 => ?_⟩
        · conv => whnf
          exact k33 0 (by decide) _ _
        · exact absurd (nI_le (Nat.le_refl 12) (by decide)) h1
      · refine run [6] 1000 _ _ _ _ _ _ rfl ?_
        conv => whnf
        refine ⟨fun h1 => ?_, fun h1 => ?_⟩
        · exact absurd h1 (nI_ge hw (by decide))
        · conv => whnf
          refine ⟨rfl, rfl, rfl, σ, hσ, ?_⟩
          conv => whnf
          rw [nI_1]
          exact ih
    refine run [6] 1000 _ _ _ _ _ _ rfl ?_
    conv => whnf
    exact k6 0 (by decide)
  · exact h.elim
