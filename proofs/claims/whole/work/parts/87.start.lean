/-! the law from its entry, over an invariant that is given -/
set_option maxRecDepth 100000 in
set_option maxHeartbeats 4000000 in
theorem whole_start_open {p : Program} {e : Env} {s : State} {m : MethodId} {below : List Frame} {meth : Method} {c : Code} (I : Wd → Nat → Prop) (hI : lwInv I) (l : Launch) {b L : Nat} {xs : Nat → Int32} (hL : L ≤ 3072) (C0 : lw_At p s m meth c b L xs) : W p l e room_1 s m #[Value.ref b] below meth c s.heap [] 0 0 (lw_Z below #[Value.ref b] s) (entryFrame m ([Value.ref b] : List Value).toArray 4) := by
  obtain ⟨E, hE1, hE5, hEL, hEx, hEnv⟩ := law_env C0
  obtain ⟨hx, hb, hr, hml, hown, hts, hX, hbl, hlocks, hgv⟩ := C0
  have htA : ∀ w ∈ gA, w.before #[Value.ref b] s = true := fun w hw => hts w (gA_good w hw).1
  have X : gX p room_1 s m #[Value.ref b] c E RL cL_law 4 10 := ⟨hx, hb, hml, hown, htA, hEnv, rfl, rfl⟩
  have hpg : gPg l RL cL_law 10 lwCs pL_law := gPg_of pL_law_ok (lk_L_law l)
  have run : ∀ (cuts : List Nat) (f pc : Nat) (ls : gLs) (st : List gV) (M : gM) (i : gI) (t : List gI), gFind pc pL_law = i :: t → gx pL_law cuts lwCs L xs (gWW p l e room_1 s m #[Value.ref b] below meth c (lw_Z below #[Value.ref b] s) E 4) (fun v _ _ => v = 1) (fun _ _ => False) f (i :: t) ls st M gB1 → gWW p l e room_1 s m #[Value.ref b] below meth c (lw_Z below #[Value.ref b] s) E 4 pc ls st M gB1 := by
    intro cuts f pc ls st M i t hf hg
    have hi := gFind_hd hf
    rw [← hEL, ← hEx] at hg
    have h1 := gx_sound (p := p) (l := l) (e := e) (below := below) (meth := meth) (Q := lw_Z below #[Value.ref b] s) (Pi := fun v _ _ => v = 1) (Pv := fun _ _ => False) (cuts := cuts) X hpg ?_ ?_ gNat gMath f (i :: t) ls st M gB1 (by rw [← hf]; exact (gFind_pg hpg).1) hg i t rfl
    · rw [hi] at h1
      exact h1
    · intro pc ls v M B hd hv
      subst hv
      intro H locs la hH hS hL2 hV hB
      refine va_forget (fun q hq => ?_) (W.widen hB.1 hB.2 (lw_ret hx hb hr hlocks hd))
      have := hS.2.2 q hq
      rw [← hE1]
      exact this
    · intro pc ls M B hd hv
      exact hv.elim
  have body := law_body I hI L xs _ hL run L 0 (by omega)
  rw [lg_entry_eq]
  have hl := lv_entry ([.ref b]) (n := 4) (Nat.le_of_ble_eq_true rfl)
  generalize (lg_sl ([.ref b]) ++ List.replicate (4 - (lg_sl ([.ref b])).length) Slot.unset).toArray = la at hl ⊢
  have hl : lv_has la 4 [(0, .ref b)] := hl
  have start : gWW p l e room_1 s m #[Value.ref b] below meth c (lw_Z below #[Value.ref b] s) E 4 0 [some (.inr (.inl (55, 0))), none, none, none] [] M00 (0, F00, 0, 0) := by
    refine g_new (r := (RX6, TX6, 5)) X gcl_6 cl_RL_7 it_RX6 in_RX6 (by decide) (by rfl) (fun k => ⟨rfl, rfl⟩) (show decode cL_law 0 = .ok (.new 7, 3) by decide +kernel) ⟨Nat.le_of_ble_eq_true rfl, Nat.le_of_ble_eq_true rfl⟩ ?_
    refine gB_eq (B2 := (1, F00, 1, 5)) rfl ?_
    refine g_dup X trivial (show decode cL_law 3 = .ok (.dup, 1) by decide +kernel) ?_
    refine g_callI X yi_yX6_init (oi_6 l) (by decide) (by decide) rfl im_yX6_init ml_RL_9 (show decode cL_law 4 = .ok (.invokespecial 9, 3) by decide +kernel) (by rw [gCat_eq]; exact Nat.le_of_ble_eq_true rfl) ⟨Nat.le_of_ble_eq_true rfl, Nat.le_of_ble_eq_true rfl⟩ ?_
    refine ⟨0, rfl, rfl, by decide, by rfl, fun q _ k => ⟨rfl, rfl⟩, fun M1 F1 D1 => ?_⟩
    refine gB_eq (B2 := (926, F1, 926, 6658)) rfl ?_
    refine g_astore_n X (show decode cL_law 7 = .ok (.astore_n 1, 1) by decide +kernel) (by decide) trivial ?_
    refine g_new (r := (RX7, TX7, 12)) X gcl_7 cl_RL_10 it_RX7 in_RX7 (show 926 < gN by decide) (show gK 926 = 7 by rfl) (fun k => D1.2.2.2 926 (by decide) k) (show decode cL_law 8 = .ok (.new 10, 3) by decide +kernel) ⟨Nat.le_of_ble_eq_true rfl, Nat.le_of_ble_eq_true rfl⟩ ?_
    refine gB_eq (B2 := (927, F1, 927, 6670)) rfl ?_
    refine g_dup X trivial (show decode cL_law 11 = .ok (.dup, 1) by decide +kernel) ?_
    refine g_callI X yi_yX7_init (oi_7 l) (by decide) (by decide) rfl im_yX7_init ml_RL_12 (show decode cL_law 12 = .ok (.invokespecial 12, 3) by decide +kernel) (by rw [gCat_eq]; exact Nat.le_of_ble_eq_true rfl) ⟨Nat.le_of_ble_eq_true rfl, Nat.le_of_ble_eq_true rfl⟩ ?_
    refine ⟨926, rfl, rfl, by decide, by rfl, D1.2.2.2, fun M2 F2 D2 => ?_⟩
    refine gB_eq (B2 := (934, F2, 934, 12405)) rfl ?_
    refine g_astore_n X (show decode cL_law 15 = .ok (.astore_n 2, 1) by decide +kernel) (by decide) trivial ?_
    refine g_iconst (v := nI 0) X (show decode cL_law 16 = .ok (.iconst 0, 1) by decide +kernel) rfl ?_
    refine g_istore_n X (show decode cL_law 17 = .ok (.istore_n 3, 1) by decide +kernel) (by decide) trivial ?_
    refine gWW_RT (fun q hq k hrel => ?_) (body M2 σ0 (by omega) hI.1 (first_cl (fun r hr k => ?_)) (first_mo (fun r hr k => D2.2.1 r hr k)))
    · by_cases a : q < 926
      · rw [(D2.1 q a).2]
        have := D1.2.2.1 q a k
        rw [Nat.zero_add] at this
        exact this hrel
      · obtain ⟨y, rfl⟩ : ∃ y, q = 926 + y := ⟨q - 926, by omega⟩
        exact D2.2.2.1 y (by omega) k hrel
    · rw [(D2.1 r hr).1]
      have := D1.2.1 r hr k
      rw [Nat.zero_add] at this
      exact this
  refine start s.heap [] la ⟨Nat.zero_le _, fun p hp => absurd hp (Nat.not_lt_zero p), by rw [hE1]; rfl, fun k q hq => ?_⟩ va_S.rf ⟨hl.1, hl.2.1, rfl, fun i v hi => ?_⟩ (fun v hv => by cases hv) ⟨Nat.zero_le _, Nat.zero_le _⟩
  · exact absurd (List.getElem?_eq_some_iff.mp hq).1 (by rw [gCs_len]; exact Nat.not_lt_zero k)
  · match i, hi with
    | 0, hi =>
      cases hi
      refine ⟨?_, Or.inl rfl⟩
      rw [gtr_ro (k := 5) (by decide), hE5]
      exact hl.2.2 (0, .ref b) List.mem_cons_self
    | 1, hi => cases hi
    | 2, hi => cases hi
    | 3, hi => cases hi
    | k + 4, hi => simp at hi
