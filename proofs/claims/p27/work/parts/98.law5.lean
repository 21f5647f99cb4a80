/-! the law's loop -/
def lwCs : List gC := [((fun _ _ _ _ _ => False : gT), 0, 0, 0), (gTn f_L_cell, 0, 0, 99), (gTn f_L_digest, 0, 0, 99), (gTn f_L_low, 0, 0, 99), (gTn f_X6_topIn, 0, 0, 6), (gTn f_L_act, 0, 0, 99), (gTn f_L_isRight, 0, 0, 99), (gTn f_X6_block, 0, 0, 6), (gTn f_X6_undo, 0, 0, 6), (gTn f_X6_addLayer, 0, 0, 6), (gTn f_X6_set, 0, 0, 6), (gTn f_X6_run, 0, 0, 6), (gTn f_X6_take, 0, 0, 6), (gTn f_X6_density, 0, 0, 6), (gTn f_X6_load, 0, 0, 6), (gTn f_X6_count, 0, 0, 6), (gTn f_X6_uneven, 0, 0, 6)]
set_option maxRecDepth 100000 in
theorem lk_L_law (l : Launch) : gLinks l RL 10 lwCs pL_law := And.intro ⟨gTn f_L_cell, 99, yL_cell, method_2_code, 2, (some .int), 0, rfl, yi_yL_cell, ok_L_cell l, by decide, Or.inl ml_RL_83, sm_yL_cell⟩ (And.intro ⟨gTn f_L_digest, 99, yL_digest, method_4_code, 6, (some .long), 5, rfl, yi_yL_digest, ok_L_digest l, by decide, Or.inl ml_RL_87, sm_yL_digest⟩ (And.intro ⟨gTn f_L_low, 99, yL_low, method_3_code, 2, (some .int), 0, rfl, yi_yL_low, ok_L_low l, by decide, Or.inl ml_RL_29, sm_yL_low⟩ (And.intro ⟨gTn f_L_low, 99, yL_low, method_3_code, 2, (some .int), 0, rfl, yi_yL_low, ok_L_low l, by decide, Or.inl ml_RL_29, sm_yL_low⟩ (And.intro ⟨gTn f_X6_topIn, 6, yX6_topIn, cX6_topIn, 4, (some .int), 6, _, rfl, by decide, yi_yX6_topIn, ok_X6_topIn l, by decide, by decide, rfl, rfl, ml_RL_73, im_yX6_topIn, se_yX6_topIn⟩ (And.intro ⟨gTn f_L_act, 99, yL_act, method_5_code, 4, (some .int), 7, rfl, yi_yL_act, ok_L_act l, by decide, Or.inl ml_RL_91, sm_yL_act⟩ (And.intro kc_RL_95 (And.intro ⟨gTn f_L_digest, 99, yL_digest, method_4_code, 6, (some .long), 5, rfl, yi_yL_digest, ok_L_digest l, by decide, Or.inl ml_RL_87, sm_yL_digest⟩ (And.intro ⟨gTn f_L_isRight, 99, yL_isRight, method_6_code, 18, (some .boolean), 7, rfl, yi_yL_isRight, ok_L_isRight l, by decide, Or.inl ml_RL_96, sm_yL_isRight⟩ (And.intro ⟨gTn f_X6_block, 6, yX6_block, cX6_block, 4, (some .int), 3, _, rfl, by decide, yi_yX6_block, ok_X6_block l, by decide, by decide, rfl, rfl, ml_RL_18, im_yX6_block, se_yX6_block⟩ (And.intro ⟨gTn f_L_digest, 99, yL_digest, method_4_code, 6, (some .long), 5, rfl, yi_yL_digest, ok_L_digest l, by decide, Or.inl ml_RL_87, sm_yL_digest⟩ (And.intro ⟨gTn f_X6_undo, 6, yX6_undo, cX6_undo, 1, (some .int), 5, _, rfl, by decide, yi_yX6_undo, ok_X6_undo l, by decide, by decide, rfl, rfl, ml_RL_100, im_yX6_undo, se_yX6_undo⟩ (And.intro ⟨gTn f_L_digest, 99, yL_digest, method_4_code, 6, (some .long), 5, rfl, yi_yL_digest, ok_L_digest l, by decide, Or.inl ml_RL_87, sm_yL_digest⟩ (And.intro ⟨gTn f_L_act, 99, yL_act, method_5_code, 4, (some .int), 7, rfl, yi_yL_act, ok_L_act l, by decide, Or.inl ml_RL_91, sm_yL_act⟩ (And.intro ⟨gTn f_L_digest, 99, yL_digest, method_4_code, 6, (some .long), 5, rfl, yi_yL_digest, ok_L_digest l, by decide, Or.inl ml_RL_87, sm_yL_digest⟩ (And.intro ⟨gTn f_L_digest, 99, yL_digest, method_4_code, 6, (some .long), 5, rfl, yi_yL_digest, ok_L_digest l, by decide, Or.inl ml_RL_87, sm_yL_digest⟩ (And.intro ⟨gTn f_X6_addLayer, 6, yX6_addLayer, cX6_addLayer, 7, (some .int), 5, _, rfl, by decide, yi_yX6_addLayer, ok_X6_addLayer l, by decide, by decide, rfl, rfl, ml_RL_34, im_yX6_addLayer, se_yX6_addLayer⟩ (And.intro kc_RL_95 (And.intro ⟨gTn f_X6_addLayer, 6, yX6_addLayer, cX6_addLayer, 7, (some .int), 5, _, rfl, by decide, yi_yX6_addLayer, ok_X6_addLayer l, by decide, by decide, rfl, rfl, ml_RL_34, im_yX6_addLayer, se_yX6_addLayer⟩ (And.intro kc_RL_95 (And.intro ⟨gTn f_X6_addLayer, 6, yX6_addLayer, cX6_addLayer, 7, (some .int), 5, _, rfl, by decide, yi_yX6_addLayer, ok_X6_addLayer l, by decide, by decide, rfl, rfl, ml_RL_34, im_yX6_addLayer, se_yX6_addLayer⟩ (And.intro kc_RL_95 (And.intro ⟨gTn f_X6_set, 6, yX6_set, cX6_set, 4, (some .int), 5, _, rfl, by decide, yi_yX6_set, ok_X6_set l, by decide, by decide, rfl, rfl, ml_RL_48, im_yX6_set, se_yX6_set⟩ (And.intro kc_RL_95 (And.intro ⟨gTn f_X6_run, 6, yX6_run, cX6_run, 3, (some .int), 6, _, rfl, by decide, yi_yX6_run, ok_X6_run l, by decide, by decide, rfl, rfl, ml_RL_57, im_yX6_run, se_yX6_run⟩ (And.intro kc_RL_95 (And.intro ⟨gTn f_X6_take, 6, yX6_take, cX6_take, 2, (some .int), 5, _, rfl, by decide, yi_yX6_take, ok_X6_take l, by decide, by decide, rfl, rfl, ml_RL_51, im_yX6_take, se_yX6_take⟩ (And.intro kc_RL_95 (And.intro kc_RL_103 (And.intro ⟨gTn f_X6_density, 6, yX6_density, cX6_density, 3, (some .int), 2, _, rfl, by decide, yi_yX6_density, ok_X6_density l, by decide, by decide, rfl, rfl, ml_RL_61, im_yX6_density, se_yX6_density⟩ (And.intro kc_RL_95 (And.intro ⟨gTn f_L_digest, 99, yL_digest, method_4_code, 6, (some .long), 5, rfl, yi_yL_digest, ok_L_digest l, by decide, Or.inl ml_RL_87, sm_yL_digest⟩ (And.intro ⟨gTn f_X6_load, 6, yX6_load, cX6_load, 2, (some .int), 6, _, rfl, by decide, yi_yX6_load, ok_X6_load l, by decide, by decide, rfl, rfl, ml_RL_104, im_yX6_load, se_yX6_load⟩ (And.intro ⟨gTn f_L_digest, 99, yL_digest, method_4_code, 6, (some .long), 5, rfl, yi_yL_digest, ok_L_digest l, by decide, Or.inl ml_RL_87, sm_yL_digest⟩ (And.intro ⟨gTn f_X6_count, 6, yX6_count, cX6_count, 2, (some .int), 4, _, rfl, by decide, yi_yX6_count, ok_X6_count l, by decide, by decide, rfl, rfl, ml_RL_12, im_yX6_count, se_yX6_count⟩ (And.intro kc_RL_95 (And.intro ⟨gTn f_X6_uneven, 6, yX6_uneven, cX6_uneven, 8, (some .int), 3, _, rfl, by decide, yi_yX6_uneven, ok_X6_uneven l, by decide, by decide, rfl, rfl, ml_RL_76, im_yX6_uneven, se_yX6_uneven⟩ (And.intro kc_RL_95 (trivial))))))))))))))))))))))))))))))))))))))
abbrev gB1 : gB := (926, gRT, 926, 6658)
theorem undo_x (σ : Wd) (S' : St) (hl : σ.2.1.length ≤ 5) : ∃ m h', m < 100 ∧ oUndo (wAct σ S') = (nI m, (σ.1, h', σ.2.2)) := by
  refine ⟨(hKeep σ.2.1 σ.1).length - 1, (hKeep σ.2.1 σ.1).dropLast, ?_, ?_⟩
  · unfold hKeep
    rw [List.length_append]
    show (if σ.2.1.length = 5 then σ.2.1.tail else σ.2.1).length + 1 - 1 < 100
    split
    · rw [List.length_tail]
      omega
    · omega
  · have e : (hKeep σ.2.1 σ.1).getLast? = some σ.1 := by
      unfold hKeep
      exact List.getLast?_concat
    unfold oUndo
    show (match (hKeep σ.2.1 σ.1).getLast? with
      | none => ((-100000002 : Int32), wAct σ S')
      | some S => (nI ((hKeep σ.2.1 σ.1).length - 1), (S, (hKeep σ.2.1 σ.1).dropLast, σ.2.2))) = _
    rw [e]
theorem load_x {σ : Wd} (h : σ.2.2.2 = 0) : oLoad σ = (0, (σ.1, hKeep σ.2.1 σ.1, σ.2.2.1, 0)) := by
  have e : pText σ.2.2.1 σ.2.2.2 σ.1 = .inr (σ.1, 0) := by
    rw [h]
    unfold pText pIt
    exact if_pos (if_neg (Nat.not_lt_zero _))
  unfold oLoad
  rw [e]
  rfl
theorem top_x {σ : Wd} {S' : St} {r : Int32} {y b : Int32} (hb : 0 ≤ b ∧ b ≤ 9) (h : 10 < (y &&& 15).toInt) (ha : aAct σ.1 y = (r, some S')) : oBlock (wAct σ S') b 4 = oTopIn σ b ((1 : Int32) + pLow (y >>> (4 &&& 31)) 7) := by
  obtain ⟨j, hj, e⟩ := pLow_add (v := y >>> (4 &&& 31)) (m := 7) (by decide) (by decide)
  have e : (1 : Int32) + pLow (y >>> (4 &&& 31)) 7 = nI (j + 1) := e
  rw [aAct_run h, e] at ha
  rw [e]
  unfold xRun at ha
  split at ha
  · cases ha
  · split at ha
    · cases ha
    · have e2 := (Prod.mk.inj ha).2
      have e3 := Option.some.inj e2
      unfold oBlock oTopIn
      rw [if_pos hb, if_pos ⟨hb, nI_pos' (by omega), nI_le (show j + 1 ≤ 100 by omega) (by decide)⟩, ← e3]
      rfl
theorem lg_same (x : Int64) : lg_cmp x x = 0 := (lg_cmp_eq x x).mpr rfl
theorem and6 (v : Int32) : 0 ≤ pLow v 6 ∧ pLow v 6 ≤ 9 := by
  obtain ⟨j, hj, e⟩ := pLow_rng v (m := 6) (by decide) (by decide)
  have e : pLow v 6 = nI j := e
  rw [e]
  exact ⟨nI_pos' (by omega), nI_le (show j ≤ 9 by omega) (by decide)⟩
set_option maxRecDepth 100000 in
set_option maxHeartbeats 4000000 in
theorem law_end (SL : Nat) (SX : Nat → Int32) (K : Nat → gLs → List gV → gM → gB → Prop)
    (run : ∀ (cuts : List Nat) (f pc : Nat) (ls : gLs) (st : List gV) (M : gM) (i : gI) (t : List gI), gFind pc pL_law = i :: t → gx pL_law cuts lwCs SL SX K (fun v _ _ => v = 1) (fun _ _ _ => False) (fun _ _ => False) f (i :: t) ls st M gB1 → K pc ls st M gB1)
    (M : gM) (σ : Wd) (hM : clR M σ) (h0 : σ.2.2.2 = 0) (l2 l3 l4 l5 l6 l7 l8 l9 l10 l11 l12 : Option gV) : K 192 [some (.inr (.inl (55, 0))), some (.inr (.inl (6, 0))), l2, l3, l4, l5, l6, l7, l8, l9, l10, l11, l12] [] M gB1 := by
  have e1 : oAdd σ 10 0 0 9 1 = (-100000001, σ) := if_pos (Or.inl (by decide))
  have e2 : oAdd σ 0 0 2 33 1 = (-100000001, σ) := by
    unfold oAdd
    rw [if_neg (by decide)]
    exact if_pos (Or.inr (by decide))
  have e3 : oAdd σ 0 0 0 9 10000 = (-100000001, σ) := if_pos (Or.inr (Or.inr (by decide)))
  have e4 : oSet σ 0 (-5001) = (-100000001, σ) := if_neg (by decide)
  have e5 : oRun σ 0 = (-100000001, σ) := if_pos (by decide)
  have e6 : oTake σ 2 = (-100000001, σ) := if_neg (by decide)
  have e7 : oDens σ 0 100000 = -100000001 := if_neg (by decide)
  have e8 := load_x h0
  have hd := dg_eq σ.1 (hKeep σ.2.1 σ.1, σ.2.2.1, 0) σ.2
  have hd : dg (σ.1, hKeep σ.2.1 σ.1, σ.2.2.1, 0) = dg σ := hd
  refine run [] 1000 _ _ _ _ _ _ rfl ?_
  conv => whnf
  refine ⟨rfl, rfl, rfl, σ, hM, ?_⟩
  conv => whnf
  refine ⟨rfl, rfl, rfl, σ, hM, ?_⟩
  rw [e1]
  intro M1 hM1 _
  have hM1 : clR M1 σ := hM1
  conv => whnf
  refine ⟨fun z1 => ?_, fun z1 => ?_⟩
  · exact absurd rfl z1
  · conv => whnf
    refine ⟨rfl, rfl, rfl, σ, hM1, ?_⟩
    rw [e2]
    intro M2 hM2 _
    have hM2 : clR M2 σ := hM2
    conv => whnf
    refine ⟨fun z2 => ?_, fun z2 => ?_⟩
    · exact absurd rfl z2
    · conv => whnf
      refine ⟨rfl, rfl, rfl, σ, hM2, ?_⟩
      rw [e3]
      intro M3 hM3 _
      have hM3 : clR M3 σ := hM3
      conv => whnf
      refine ⟨fun z3 => ?_, fun z3 => ?_⟩
      · exact absurd rfl z3
      · conv => whnf
        refine ⟨rfl, rfl, rfl, σ, hM3, ?_⟩
        rw [e4]
        intro M4 hM4 _
        have hM4 : clR M4 σ := hM4
        conv => whnf
        refine ⟨fun z4 => ?_, fun z4 => ?_⟩
        · exact absurd rfl z4
        · conv => whnf
          refine ⟨rfl, rfl, rfl, σ, hM4, ?_⟩
          rw [e5]
          intro M5 hM5 _
          have hM5 : clR M5 σ := hM5
          conv => whnf
          refine ⟨fun z5 => ?_, fun z5 => ?_⟩
          · exact absurd rfl z5
          · conv => whnf
            refine ⟨rfl, rfl, rfl, σ, hM5, ?_⟩
            rw [e6]
            intro M6 hM6 _
            have hM6 : clR M6 σ := hM6
            conv => whnf
            refine ⟨fun z6 => ?_, fun z6 => ?_⟩
            · exact absurd rfl z6
            · conv => whnf
              refine ⟨rfl, rfl, rfl, σ, hM6, ?_⟩
              rw [e7]
              conv => whnf
              refine ⟨fun z7 => ?_, fun z7 => ?_⟩
              · exact absurd rfl z7
              · conv => whnf
                refine ⟨rfl, rfl, rfl, σ, hM6, ?_⟩
                conv => whnf
                refine ⟨fun z8 => ?_, fun z8 => ?_⟩
                · conv => whnf
                  refine ⟨rfl, rfl, rfl, σ, hM6, ?_⟩
                  rw [e8]
                  intro M7 hM7 _
                  have hM7 : clR M7 (σ.1, hKeep σ.2.1 σ.1, σ.2.2.1, 0) := hM7
                  conv => whnf
                  refine ⟨fun z9 => ?_, fun z9 => ?_⟩
                  · exact absurd rfl z9
                  · conv => whnf
                    refine ⟨rfl, rfl, rfl, (σ.1, hKeep σ.2.1 σ.1, σ.2.2.1, 0), hM7, ?_⟩
                    rw [hd]
                    conv => whnf
                    refine ⟨fun y1 => ?_, fun y1 => ?_⟩
                    · exact absurd (lg_same _) y1
                    · conv => whnf
                      refine ⟨rfl, rfl, rfl, (σ.1, hKeep σ.2.1 σ.1, σ.2.2.1, 0), hM7, ?_⟩
                      conv => whnf
                      refine ⟨fun y2 => ?_, fun y2 => ?_⟩
                      · exact absurd rfl y2
                      · conv => whnf
                        refine ⟨rfl, rfl, rfl, (σ.1, hKeep σ.2.1 σ.1, σ.2.2.1, 0), hM7, ?_⟩
                        conv => whnf
                        refine ⟨fun y3 => ?_, fun y3 => ?_⟩
                        · exact absurd rfl y3
                        · conv => whnf
                · exact absurd (lg_same _) z8
set_option maxRecDepth 100000 in
set_option maxHeartbeats 4000000 in
theorem law_body (SL : Nat) (SX : Nat → Int32) (K : Nat → gLs → List gV → gM → gB → Prop)
    (run : ∀ (cuts : List Nat) (f pc : Nat) (ls : gLs) (st : List gV) (M : gM) (i : gI) (t : List gI), gFind pc pL_law = i :: t → gx pL_law cuts lwCs SL SX K (fun v _ _ => v = 1) (fun _ _ _ => False) (fun _ _ => False) f (i :: t) ls st M gB1 → K pc ls st M gB1) :
    ∀ i, i ≤ 15 → ∀ M σ, clR M σ → good i σ.1 → σ.2.2.2 = 0 → ∀ l3 l4 l5 l6 l7 l8 l9 l10 l11 l12 : Option gV, K 10 [some (.inr (.inl (55, 0))), some (.inr (.inl (6, 0))), some (.inl (nI i)), l3, l4, l5, l6, l7, l8, l9, l10, l11, l12] [] M gB1 := by
  refine upto (n := 15) ?_ (fun i hi ih => ?_)
  · intro M σ hM hg h0 l3 l4 l5 l6 l7 l8 l9 l10 l11 l12
    have fin := law_end SL SX K run M σ hM h0
    refine run [192] 1000 _ _ _ _ _ _ rfl ?_
    conv => whnf
    refine ⟨fun h1 => ?_, fun h1 => ?_⟩
    · conv => whnf
      exact fin _ _ _ _ _ _ _ _ _ _ _
    · exact absurd (nI_le (Nat.le_refl 15) (by decide)) h1
  · have k186 : ∀ M σ, clR M σ → good (i + 1) σ.1 → σ.2.2.2 = 0 → ∀ l3 l4 l5 l6 l7 l8 l9 l10 l11 l12 : Option gV, K 186 [some (.inr (.inl (55, 0))), some (.inr (.inl (6, 0))), some (.inl (nI i)), l3, l4, l5, l6, l7, l8, l9, l10, l11, l12] [] M gB1 := by
      intro M σ hM hg h0 l3 l4 l5 l6 l7 l8 l9 l10 l11 l12
      refine run [10] 1000 _ _ _ _ _ _ rfl ?_
      conv => whnf
      rw [nI_1]
      exact ih M σ hM hg h0 _ _ _ _ _ _ _ _ _ _
    clear ih
    intro M σ hM hg h0 l3 l4 l5 l6 l7 l8 l9 l10 l11 l12
    refine run [129, 186] 1000 _ _ _ _ _ _ rfl ?_
    conv => whnf
    refine ⟨fun h1 => ?_, fun h1 => ?_⟩
    · exact absurd h1 (nI_ge hi (by decide))
    · conv => whnf
      refine ⟨rfl, rfl, i, by omega, rfl, fun y => ?_⟩
      conv => whnf
      refine ⟨rfl, rfl, rfl, σ, hM, ?_⟩
      conv => whnf
      refine ⟨rfl, rfl, by decide, ?_⟩
      conv => whnf
      refine ⟨rfl, rfl, by decide, ?_⟩
      conv => whnf
      refine ⟨rfl, rfl, rfl, σ, hM, fun M1 hM1 _ => ?_⟩
      have hM1 : clR M1 σ := hM1
      conv => whnf
      refine ⟨rfl, rfl, rfl, σ, hM1, ?_⟩
      have ag := act_good hi hg y
      cases hx : aAct σ.1 y with
      | mk r o =>
        cases o with
        | none =>
          rw [hx] at ag
          have ag : r ≤ -100000001 := ag
          have k129 : ∀ M3, clR M3 σ → ∀ l6 l7 l8, K 129 [some (.inr (.inl (55, 0))), some (.inr (.inl (6, 0))), some (.inl (nI i)), some (.inl y), some (.inr (.inr (.inl (dg σ)))), none, l6, l7, l8, some (.inl r), some (.inl 1), l11, l12] [] M3 gB1 := by
            intro M3 hM3 l6 l7 l8
            refine run [186] 1000 _ _ _ _ _ _ rfl ?_
            conv => whnf
            refine ⟨fun z1 => ?_, fun z1 => ?_⟩
            · conv => whnf
              exact k186 M3 σ hM3 (hg.mono (Nat.le_succ i)) h0 _ _ _ _ _ _ _ _ _ _
            · exact absurd z1 (by decide)
          clear k186
          intro M2 hM2 _
          have hM2 : clR M2 σ := hM2
          conv => whnf
          refine ⟨fun z1 => ?_, fun z1 => ?_⟩
          · exact absurd ag (Int32.not_le.mpr z1)
          · conv => whnf
            refine ⟨fun z2 => ?_, fun z2 => ?_⟩
            · exact absurd z2 (by decide)
            · conv => whnf
              refine ⟨rfl, rfl, rfl, σ, hM2, ?_⟩
              conv => whnf
              refine ⟨fun z3 => ?_, fun z3 => ?_⟩
              · exact absurd (lg_same _) z3
              · conv => whnf
                refine ⟨rfl, rfl, rfl, σ, hM2, rOk_of (by omega) hg, fun M3 hM3 => ?_⟩
                conv => whnf
                refine ⟨fun z4 => ?_, fun z4 => ?_⟩
                · exact absurd z4 (by decide)
                · conv => whnf
                  refine ⟨fun z5 => ?_, fun z5 => ?_⟩
                  · conv => whnf
                    exact k129 M3 hM3 _ _ _
                  · exact absurd z5 (by decide)
        | some S' =>
          rw [hx] at ag
          obtain ⟨ar, ag⟩ : ¬ r ≤ -100000001 ∧ good (i + 1) S' := ag
          intro M2 hM2 _
          have hM2 : clR M2 (wAct σ S') := hM2
          have hlen : σ.2.1.length ≤ 5 := hM.2.1.1
          have k129 : ∀ M3, clR M3 (wAct σ S') → ∀ l6 l7 l8, K 129 [some (.inr (.inl (55, 0))), some (.inr (.inl (6, 0))), some (.inl (nI i)), some (.inl y), some (.inr (.inr (.inl (dg σ)))), none, l6, l7, l8, some (.inl r), some (.inl 0), l11, l12] [] M3 gB1 := by
            intro M3 hM3 l6 l7 l8
            refine run [186] 1000 _ _ _ _ _ _ rfl ?_
            conv => whnf
            refine ⟨fun z1 => ?_, fun z1 => ?_⟩
            · exact absurd rfl z1
            · conv => whnf
              refine ⟨fun z2 => ?_, fun z2 => ?_⟩
              · conv => whnf
                exact k186 M3 _ hM3 ag h0 _ _ _ _ _ _ _ _ _ _
              · obtain ⟨m, h', hm, eu⟩ := undo_x σ S' hlen
                have d1 : dg (σ.1, h', σ.2.2) = dg σ := dg_eq σ.1 (h', σ.2.2) σ.2
                conv => whnf
                refine ⟨rfl, rfl, rfl, wAct σ S', hM3, ?_⟩
                conv => whnf
                refine ⟨rfl, rfl, rfl, wAct σ S', hM3, ?_⟩
                rw [eu]
                intro M4 hM4 _
                have hM4 : clR M4 (σ.1, h', σ.2.2) := hM4
                conv => whnf
                refine ⟨fun z3 => ?_, fun z3 => ?_⟩
                · exact absurd z3 (nI_pos (by omega))
                · conv => whnf
                  refine ⟨rfl, rfl, rfl, (σ.1, h', σ.2.2), hM4, ?_⟩
                  rw [d1]
                  conv => whnf
                  refine ⟨fun z4 => ?_, fun z4 => ?_⟩
                  · exact absurd (lg_same _) z4
                  · conv => whnf
                    refine ⟨rfl, rfl, rfl, (σ.1, h', σ.2.2), hM4, ?_⟩
                    show cQ _ (lft (σ.1, h', σ.2.2) (aAct σ.1 y)) _
                    rw [hx]
                    intro M5 hM5 _
                    have hM5 : clR M5 (wAct (σ.1, h', σ.2.2) S') := hM5
                    conv => whnf
                    refine ⟨fun z5 => ?_, fun z5 => ?_⟩
                    · exact absurd rfl z5
                    · conv => whnf
                      refine ⟨rfl, rfl, rfl, wAct (σ.1, h', σ.2.2) S', hM5, ?_⟩
                      rw [show dg (wAct (σ.1, h', σ.2.2) S') = dg (wAct σ S') from dg_eq S' _ _]
                      conv => whnf
                      refine ⟨fun z6 => ?_, fun z6 => ?_⟩
                      · conv => whnf
                        exact k186 M5 _ hM5 ag h0 _ _ _ _ _ _ _ _ _ _
                      · exact absurd (lg_same _) z6
          clear k186
          conv => whnf
          refine ⟨fun z1 => ?_, fun z1 => ?_⟩
          · conv => whnf
            refine ⟨fun z2 => ?_, fun z2 => ?_⟩
            · conv => whnf
              refine ⟨rfl, rfl, rfl, wAct σ S', hM2, rOk_of (by omega) ag, fun M3 hM3 => ?_⟩
              conv => whnf
              refine ⟨fun z3 => ?_, fun z3 => ?_⟩
              · exact absurd z3 (by decide)
              · conv => whnf
                refine ⟨fun z4 => ?_, fun z4 => ?_⟩
                · exact absurd rfl z4
                · conv => whnf
                  refine ⟨fun z5 => ?_, fun z5 => ?_⟩
                  · conv => whnf
                    exact k129 M3 hM3 _ _ _
                  · have hy : 10 < (y &&& 15).toInt := Int32.lt_iff_toInt_lt.mp (Int32.not_le.mp z5)
                    conv => whnf
                    refine ⟨rfl, rfl, rfl, wAct σ S', hM3, ?_⟩
                    rw [top_x (and6 y) hy hx]
                    conv => whnf
                    refine ⟨fun z6 => ?_, fun z6 => ?_⟩
                    · conv => whnf
                      exact k129 M3 hM3 _ _ _
                    · exact absurd rfl z6
            · exact absurd rfl z2
          · exact absurd (Int32.not_lt.mp z1) ar
