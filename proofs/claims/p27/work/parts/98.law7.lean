/-! the law from its entry -/
set_option maxRecDepth 100000 in
set_option maxHeartbeats 4000000 in
theorem whole_start {p : Program} {e : Env} {s : State} {m : MethodId} {below : List Frame} {meth : Method} {c : Code} (l : Launch) (hflags : l.flags = flags0) {b L : Nat} {xs : Nat → Int32} (hL : L ≤ 260) (C0 : lw_At p s m meth c b L xs) : W p l e room_1 s m #[Value.ref b] below meth c s.heap [] 0 0 (lw_Z below #[Value.ref b] s) (entryFrame m ([Value.ref b] : List Value).toArray 13) := by
  obtain ⟨E, hE1, hE5, hEL, hEx, hEnv⟩ := law_env C0
  obtain ⟨hx, hb, hr, hml, hown, hts, hX, hbl, hlocks, hgv⟩ := C0
  have htA : ∀ w ∈ gA, w.before #[Value.ref b] s = true := fun w hw => hts w (gA_good w hw).1
  have X : gX p room_1 s m #[Value.ref b] c E RL cL_law 13 10 := ⟨hx, hb, hml, hown, htA, hEnv, rfl, Nat.le_of_ble_eq_true rfl⟩
  have hpg : gPg l RL cL_law 10 lwCs pL_law := gPg_of pL_law_ok (lk_L_law l)
  have run : ∀ (cuts : List Nat) (f pc : Nat) (ls : gLs) (st : List gV) (M : gM) (i : gI) (t : List gI), gFind pc pL_law = i :: t → gx pL_law cuts lwCs L xs (gWW p l e room_1 s m #[Value.ref b] below meth c (lw_Z below #[Value.ref b] s) E 13) (fun v _ _ => v = 1) (fun _ _ _ => False) (fun _ _ => False) f (i :: t) ls st M gB1 → gWW p l e room_1 s m #[Value.ref b] below meth c (lw_Z below #[Value.ref b] s) E 13 pc ls st M gB1 := by
    intro cuts f pc ls st M i t hf hg
    have hi := gFind_hd hf
    rw [← hEL, ← hEx] at hg
    have h1 := gx_sound (p := p) (l := l) (e := e) (below := below) (meth := meth) (Q := lw_Z below #[Value.ref b] s) (Pi := fun v _ _ => v = 1) (Pl := fun _ _ _ => False) (Pv := fun _ _ => False) (cuts := cuts) X hpg ?_ ?_ ?_ gNat gMath f (i :: t) ls st M gB1 (by rw [← hf]; exact (gFind_pg hpg).1) hg i t rfl
    · rw [hi] at h1
      exact h1
    · intro pc ls v M B hd hv
      subst hv
      intro H locs la hH hS hL2 hV hB
      refine va_forget (fun q hq => ?_) (W.widen hB.1 hB.2 (lw_ret hx hb hr hlocks hd))
      have := hS.2.2 q hq
      rw [← hE1]
      exact this
    · intro pc ls v M B hd hv
      exact hv.elim
    · intro pc ls M B hd hv
      exact hv.elim
  have body := law_body L xs _ run 0 (by omega)
  rw [lg_entry_eq]
  have hl := lv_entry ([.ref b]) (n := 13) (Nat.le_of_ble_eq_true rfl)
  generalize (lg_sl ([.ref b]) ++ List.replicate (13 - (lg_sl ([.ref b])).length) Slot.unset).toArray = la at hl ⊢
  have hl : lv_has la 13 [(0, .ref b)] := hl
  have start : gWW p l e room_1 s m #[Value.ref b] below meth c (lw_Z below #[Value.ref b] s) E 13 0 [some (.inr (.inl (55, 0))), none, none, none, none, none, none, none, none, none, none, none, none] [] M00 (0, F00, 0, 0) := by
    refine g_new (r := (RX6, TX6, 5)) X gcl_6 cl_RL_13 it_RX6 in_RX6 (by decide) (by rfl) (fun k => ⟨rfl, rfl⟩) (show decode cL_law 0 = .ok (.new 13, 3) by decide +kernel) ⟨Nat.le_of_ble_eq_true rfl, Nat.le_of_ble_eq_true rfl⟩ ?_
    refine gB_eq (B2 := (1, F00, 1, 5)) rfl ?_
    refine g_dup X trivial (show decode cL_law 3 = .ok (.dup, 1) by decide +kernel) ?_
    refine g_callI X yi_yX6_init (oi_6 l) (by decide) (by decide) rfl im_yX6_init ml_RL_82 (show decode cL_law 4 = .ok (.invokespecial 82, 3) by decide +kernel) (by rw [gCat_eq]; exact Nat.le_of_ble_eq_true rfl) ⟨Nat.le_of_ble_eq_true rfl, Nat.le_of_ble_eq_true rfl⟩ ?_
    refine ⟨0, rfl, rfl, by decide, by rfl, fun q _ k => ⟨rfl, rfl⟩, fun M1 F1 D1 => ?_⟩
    refine gB_eq (B2 := (926, F1, 926, 6658)) rfl ?_
    refine g_astore_n X (show decode cL_law 7 = .ok (.astore_n 1, 1) by decide +kernel) (by decide) trivial ?_
    refine g_iconst (v := nI 0) X (show decode cL_law 8 = .ok (.iconst 0, 1) by decide +kernel) rfl ?_
    refine g_istore_n X (show decode cL_law 9 = .ok (.istore_n 2, 1) by decide +kernel) (by decide) trivial ?_
    refine gWW_RT (fun q hq k hrel => ?_) (body M1 σ0 (first_cl (fun r hr k => ?_)) good0 rfl _ _ _ _ _ _ _ _ _ _)
    · have := D1.2.2.1 q hq k
      rw [Nat.zero_add] at this
      exact this hrel
    · have := D1.2.1 r hr k
      rw [Nat.zero_add] at this
      exact this
  refine start s.heap [] la ⟨Nat.zero_le _, fun p hp => absurd hp (Nat.not_lt_zero p), by rw [hE1]; rfl, fun k q hq => ?_⟩ va_S.rf ⟨hl.1, hl.2.1, rfl, fun i v hi => ?_⟩ (fun v hv => by cases hv) ⟨Nat.zero_le _, Nat.zero_le _⟩
  · exact absurd (List.getElem?_eq_some_iff.mp hq).1 (by rw [gCs_len]; exact Nat.not_lt_zero k)
  · match i, hi with
    | 0, hi =>
      cases hi
      refine ⟨?_, Or.inl rfl⟩
      rw [gtr_ro (k := 5) (by decide), hE5]
      exact hl.2.2 (0, .ref b) List.mem_cons_self
    | 1, hi => cases hi
    | 2, hi => cases hi
    | 3, hi => cases hi
    | 4, hi => cases hi
    | 5, hi => cases hi
    | 6, hi => cases hi
    | 7, hi => cases hi
    | 8, hi => cases hi
    | 9, hi => cases hi
    | 10, hi => cases hi
    | 11, hi => cases hi
    | 12, hi => cases hi
    | k + 13, hi => simp at hi
