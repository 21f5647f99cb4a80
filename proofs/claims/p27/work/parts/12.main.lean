/-! the engine's soundness, an instruction a case -/
section GMAIN
variable {p : Program} {l : Launch} {e : Env} {R : Room} {s : State} {m : MethodId} {args : Array Value} {below : List Frame} {meth : Method} {c : Code} {Q : State → Prop} {E : gE} {nL : Nat}
variable {own : String} {cc : ByteArray} {d : Nat}
theorem g_tsw {pc : Nat} {ls : gLs} {st : List gV} {M : gM} {B : gB} {dflt lo hi : Int} {offs : Array Int} {len : Nat} {x : Int32} (X : gX p R s m args c E own cc nL d) (hd : decode cc pc = .ok (.tableswitch dflt lo hi offs, len)) (hg : lo ≤ hi ∧ hi - lo + 1 = (offs.size : Int) ∧ (∀ o ∈ offs.toList, 0 ≤ (pc : Int) + o) ∧ 0 ≤ (pc : Int) + dflt)
    (kin : gSwT pc x (fun t => gWW p l e R s m args below meth c Q E nL t ls st M B) lo offs.toList) (kout : (x.toInt < lo ∨ hi < x.toInt) → gWW p l e R s m args below meth c Q E nL ((pc : Int) + dflt).toNat ls st M B) : gWW p l e R s m args below meth c Q E nL pc ls (.inl x :: st) M B := by
  intro H locs la hH hS hL hV hB
  obtain ⟨h1, h2, h3, h4⟩ := hg
  by_cases hx : x.toInt < lo ∨ hi < x.toInt
  · exact lv_tableOut X.1 X.2.1 hd hx (by rw [Int.toNat_of_nonneg h4]) (kout hx H locs la hH hS hL (vd hV) hB)
  · have a1 : ¬ x.toInt < lo := fun q => hx (Or.inl q)
    have a2 : ¬ hi < x.toInt := fun q => hx (Or.inr q)
    have hj : (x.toInt - lo).toNat < offs.size := by omega
    have ho : offs[(x.toInt - lo).toNat]? = some offs[(x.toInt - lo).toNat] := Array.getElem?_eq_getElem hj
    have ho2 : offs.toList[(x.toInt - lo).toNat]? = some offs[(x.toInt - lo).toNat] := by rw [Array.getElem?_toList]; exact ho
    have k := gSwT_spec offs.toList lo _ _ kin ho2 (by omega)
    exact lv_tableIn X.1 X.2.1 hd a1 a2 ho (by rw [Int.toNat_of_nonneg (h3 _ (List.mem_of_getElem? ho2))]) (k H locs la hH hS hL (vd hV) hB)
theorem g_lsw {pc : Nat} {ls : gLs} {st : List gV} {M : gM} {B : gB} {dflt : Int} {ps : Array (Int × Int)} {len : Nat} {x : Int32} (X : gX p R s m args c E own cc nL d) (hd : decode cc pc = .ok (.lookupswitch dflt ps, len)) (hg : (ps.toList.zip (ps.toList.drop 1)).all (fun (a, next) => a.1 < next.1) = true ∧ (∀ o ∈ ps.toList, 0 ≤ (pc : Int) + o.2 ∧ (Int32.ofInt o.1).toInt = o.1) ∧ 0 ≤ (pc : Int) + dflt)
    (kin : gSwL pc x (fun t => gWW p l e R s m args below meth c Q E nL t ls st M B) dflt ps.toList) : gWW p l e R s m args below meth c Q E nL pc ls (.inl x :: st) M B := by
  intro H locs la hH hS hL hV hB
  obtain ⟨h1, h2, h3⟩ := hg
  obtain ⟨off, g1, g2, g3⟩ := gSwL_spec ps.toList h2 h3 kin
  exact lv_lookup X.1 X.2.1 hd h1 g1 (by rw [Int.toNat_of_nonneg g2]) (g3 H locs la hH hS hL (vd hV) hB)
theorem gSwT_mono {pc : Nat} {x : Int32} {k k' : Nat → Prop} (h : ∀ t, k t → k' t) : ∀ (os : List Int) (lo : Int), gSwT pc x k lo os → gSwT pc x k' lo os
  | [], _, _ => trivial
  | _ :: os, lo, q => ⟨fun e => h _ (q.1 e), gSwT_mono h os (lo + 1) q.2⟩
theorem gSwL_mono {pc : Nat} {x : Int32} {dflt : Int} {k k' : Nat → Prop} (h : ∀ t, k t → k' t) : ∀ (ps : List (Int × Int)), gSwL pc x k dflt ps → gSwL pc x k' dflt ps
  | [], q => h _ q
  | (_, _) :: ps, q => ⟨fun e => h _ (q.1 e), fun e => gSwL_mono h ps (q.2 e)⟩
/-- the engine comes to the world's K: over contracts that are upward closed -/
theorem gOK_mono {y : MethodName} {cy : ByteArray} {maxL : Nat} {ret : Option FieldType} {d mc ms : Nat} {T : gT} (h : gOK l y cy maxL ret d mc ms T) (_ : True) : gOK l y cy maxL ret d mc ms (fun av M n F post => ∃ P : gPost, T av M n F P ∧ ∀ r M' n' F', P r M' n' F' → post r M' n' F') := by
  rintro av M n F post hv ⟨P, hT, hP⟩ E
  have h1 := h av M n F P hv hT E
  intro p e ha hc hk s m args below hf happ hpre hK
  obtain ⟨k, o, g1, g2, g3, ⟨⟨r, M', n', F', q1, q2, q3, q4⟩, q5⟩, q6⟩ := h1 p e ha hc hk s m args below hf happ hpre hK
  exact ⟨k, o, g1, g2, g3, ⟨⟨r, M', n', F', q1, q2, hP _ _ _ _ q3, q4⟩, q5⟩, q6⟩
set_option maxHeartbeats 8000000 in
set_option maxRecDepth 100000 in
set_option linter.constructorNameAsVariable false in
theorem gx_sound (X : gX p R s m args c E own cc nL d) {prog : List gI} {cuts : List Nat} {Cs : List gC} {Pi : Int32 → gM → gB → Prop} {Pl : Int64 → gM → gB → Prop} {Pv : gM → gB → Prop} (hprog : gPg l own cc d Cs prog)
    (hPi : ∀ pc ls v M B, decode cc pc = .ok (.ireturn, 1) → Pi v M B → gWW p l e R s m args below meth c Q E nL pc ls [.inl v] M B)
    (hPl : ∀ pc ls v M B, decode cc pc = .ok (.lreturn, 1) → Pl v M B → gWW p l e R s m args below meth c Q E nL pc ls [.inr (.inr (.inl v))] M B)
    (hPv : ∀ pc ls M B, decode cc pc = .ok (.return_, 1) → Pv M B → gWW p l e R s m args below meth c Q E nL pc ls [] M B)
    (hnat : Cond.native arraycopyName ∈ gA ∧ Cond.static arraycopyName ∈ gA ∧ Cond.initialized "java/lang/System" ∈ gA)
    (hmath : Cond.initialized "java/lang/Math" ∈ gA ∧ (Cond.static Lib.Math.min.name ∈ gA ∧ Cond.code Lib.Math.min.name Lib.Math.min.code 2 (some .int) ∈ gA) ∧ (Cond.static Lib.MathLoose.min_long.x ∈ gA ∧ Cond.code Lib.MathLoose.min_long.x Lib.MathLoose.min_long.code 4 (some .long) ∈ gA) ∧ (Cond.static Lib.Math.max.name ∈ gA ∧ Cond.code Lib.Math.max.name Lib.Math.max.code 2 (some .int) ∈ gA)) :
    ∀ (f : Nat) (tl : List gI) (ls : gLs) (st : List gV) (M : gM) (B : gB), gPg l own cc d Cs tl → gx prog cuts Cs E.2.2.2.2.1 E.2.2.2.2.2 (gWW p l e R s m args below meth c Q E nL) Pi Pl Pv f tl ls st M B → ∀ i t, tl = i :: t → gWW p l e R s m args below meth c Q E nL i.1 ls st M B := by
  have hpost : True := trivial
  intro f
  induction f with
  | zero => intro tl ls st M B hp h; exact h.elim
  | succ f ih =>
    intro tl ls st M B hp h i t htl
    subst htl
    obtain ⟨pc, I, a, b, cv⟩ := i
    obtain ⟨⟨len, hd, hh, hl⟩, hg, hpt⟩ := hp
    have nx : ∀ {ls st M B}, gNx cuts (gWW p l e R s m args below meth c Q E nL) (gx prog cuts Cs E.2.2.2.2.1 E.2.2.2.2.2 (gWW p l e R s m args below meth c Q E nL) Pi Pl Pv f) t ls st M B → gWW p l e R s m args below meth c Q E nL (pc + len) ls st M B := fun h => gNx_spec ih hpt hh h
    have jp : ∀ {x ls st M B}, gNx cuts (gWW p l e R s m args below meth c Q E nL) (gx prog cuts Cs E.2.2.2.2.1 E.2.2.2.2.2 (gWW p l e R s m args below meth c Q E nL) Pi Pl Pv f) (gFind x prog) ls st M B → gWW p l e R s m args below meth c Q E nL x ls st M B := fun h => gNx_spec ih (gFind_pg hprog).1 (gFind_pg hprog).2 h
    show gWW p l e R s m args below meth c Q E nL pc ls st M B
    cases I with
    | iconst n =>
      have hl : len = _ := hl
      subst hl
      exact g_iconst X hd hg (nx h)
    | bipush n =>
      have hl : len = _ := hl
      subst hl
      exact g_bipush X hd hg (nx h)
    | sipush n =>
      have hl : len = _ := hl
      subst hl
      exact g_sipush X hd hg (nx h)
    | ldc i =>
      have hl : len = _ := hl
      subst hl
      exact g_ldc X hg hd (nx h)
    | ldc2_w i =>
      have hl : len = _ := hl
      subst hl
      exact g_ldc2 X hg hd (nx h)
    | iload_n i =>
      have hl : len = _ := hl
      subst hl
      obtain ⟨x, h1, h2⟩ := gLdI_spec h
      exact g_iload_n X hd ((gNth_eq _ _).symm.trans h1) (nx h2)
    | iload i =>
      have hl : len = _ := hl
      subst hl
      obtain ⟨x, h1, h2⟩ := gLdI_spec h
      exact g_iload X hd ((gNth_eq _ _).symm.trans h1) (nx h2)
    | lload_n i =>
      have hl : len = _ := hl
      subst hl
      obtain ⟨x, h1, h2⟩ := gLdL_spec h
      exact g_lload_n X hd ((gNth_eq _ _).symm.trans h1) (nx h2)
    | lload i =>
      have hl : len = _ := hl
      subst hl
      obtain ⟨x, h1, h2⟩ := gLdL_spec h
      exact g_lload X hd ((gNth_eq _ _).symm.trans h1) (nx h2)
    | aload_n i =>
      have hl : len = _ := hl
      subst hl
      obtain ⟨t0, q0, h1, h2⟩ := gLdA_spec h
      exact g_aload_n X hd ((gNth_eq _ _).symm.trans h1) (nx h2)
    | aload i =>
      have hl : len = _ := hl
      subst hl
      obtain ⟨t0, q0, h1, h2⟩ := gLdA_spec h
      exact g_aload X hd ((gNth_eq _ _).symm.trans h1) (nx h2)
    | istore_n i =>
      have hl : len = _ := hl
      subst hl
      obtain ⟨x, st, rfl, h⟩ := gI1_spec h
      obtain ⟨h1, h⟩ := gIf_spec h
      obtain ⟨h2, h⟩ := gIf_spec h
      exact gWW_len fun hlen => g_istore_n X hd (by rw [← hlen]; exact blt_lt h2) (gNlB_spec h1) (nx ((gSetC_eq _ _ _ _).mp h))
    | istore i =>
      have hl : len = _ := hl
      subst hl
      obtain ⟨x, st, rfl, h⟩ := gI1_spec h
      obtain ⟨h1, h⟩ := gIf_spec h
      obtain ⟨h2, h⟩ := gIf_spec h
      exact gWW_len fun hlen => g_istore X hd (by rw [← hlen]; exact blt_lt h2) (gNlB_spec h1) (nx ((gSetC_eq _ _ _ _).mp h))
    | astore_n i =>
      have hl : len = _ := hl
      subst hl
      obtain ⟨t0, q0, st, rfl, h⟩ := gA1_spec h
      obtain ⟨h1, h⟩ := gIf_spec h
      obtain ⟨h2, h⟩ := gIf_spec h
      exact gWW_len fun hlen => g_astore_n X hd (by rw [← hlen]; exact blt_lt h2) (gNlB_spec h1) (nx ((gSetC_eq _ _ _ _).mp h))
    | astore i =>
      have hl : len = _ := hl
      subst hl
      obtain ⟨t0, q0, st, rfl, h⟩ := gA1_spec h
      obtain ⟨h1, h⟩ := gIf_spec h
      obtain ⟨h2, h⟩ := gIf_spec h
      exact gWW_len fun hlen => g_astore X hd (by rw [← hlen]; exact blt_lt h2) (gNlB_spec h1) (nx ((gSetC_eq _ _ _ _).mp h))
    | lstore i =>
      have hl : len = _ := hl
      subst hl
      obtain ⟨x, st, rfl, h⟩ := gL1_spec h
      obtain ⟨h1, h⟩ := gIf_spec h
      obtain ⟨h2, h⟩ := gIf_spec h
      exact gWW_len fun hlen => g_lstore X hd (by rw [← hlen]; exact blt_lt h2) (gNlB_spec h1) (nx ((gSetC_eq _ _ _ _).mp ((gSetC_eq _ _ _ _).mp h)))
    | lstore_n i =>
      have hl : len = _ := hl
      subst hl
      obtain ⟨x, st, rfl, h⟩ := gL1_spec h
      obtain ⟨h1, h⟩ := gIf_spec h
      obtain ⟨h2, h⟩ := gIf_spec h
      exact gWW_len fun hlen => g_lstore_n X hd (by rw [← hlen]; exact blt_lt h2) (gNlB_spec h1) (nx ((gSetC_eq _ _ _ _).mp ((gSetC_eq _ _ _ _).mp h)))
    | iinc i n =>
      have hl : len = _ := hl
      subst hl
      obtain ⟨x, h1, h⟩ := gLdI_spec h
      rw [gNth_eq] at h1
      obtain ⟨h2, h⟩ := gIf_spec h
      exact gWW_len fun hlen => g_iinc X hd h1 hg (by rw [← hlen]; exact (List.getElem?_eq_some_iff.mp h1).1) (gNlB_spec h2) (nx ((gSetC_eq _ _ _ _).mp h))
    | iadd =>
      have hl : len = _ := hl
      subst hl
      obtain ⟨x, y, st, rfl, h⟩ := gI2_spec h
      exact g_iadd X hd (nx h)
    | isub =>
      have hl : len = _ := hl
      subst hl
      obtain ⟨x, y, st, rfl, h⟩ := gI2_spec h
      exact g_isub X hd (nx h)
    | imul =>
      have hl : len = _ := hl
      subst hl
      obtain ⟨x, y, st, rfl, h⟩ := gI2_spec h
      exact g_imul X hd (nx h)
    | iand =>
      have hl : len = _ := hl
      subst hl
      obtain ⟨x, y, st, rfl, h⟩ := gI2_spec h
      exact g_iand X hd (nx h)
    | ishr =>
      have hl : len = _ := hl
      subst hl
      obtain ⟨x, y, st, rfl, h⟩ := gI2_spec h
      exact g_ishr X hd (nx h)
    | idiv =>
      have hl : len = _ := hl
      subst hl
      obtain ⟨x, y, st, rfl, h0, h⟩ := gI2_spec h
      exact g_idiv X hd h0 (nx h)
    | irem =>
      have hl : len = _ := hl
      subst hl
      obtain ⟨x, y, st, rfl, h0, h⟩ := gI2_spec h
      exact g_irem X hd h0 (nx h)
    | ineg =>
      have hl : len = _ := hl
      subst hl
      obtain ⟨x, st, rfl, h⟩ := gI1_spec h
      exact g_ineg X hd (nx h)
    | ladd =>
      have hl : len = _ := hl
      subst hl
      obtain ⟨x, y, st, rfl, h⟩ := gL2_spec h
      exact g_ladd X hd (nx h)
    | lmul =>
      have hl : len = _ := hl
      subst hl
      obtain ⟨x, y, st, rfl, h⟩ := gL2_spec h
      exact g_lmul X hd (nx h)
    | lsub =>
      have hl : len = _ := hl
      subst hl
      obtain ⟨x, y, st, rfl, h⟩ := gL2_spec h
      exact g_lsub X hd (nx h)
    | ldiv =>
      have hl : len = _ := hl
      subst hl
      obtain ⟨x, y, st, rfl, h0, h⟩ := gL2_spec h
      exact g_ldiv X hd h0 (nx h)
    | lcmp =>
      have hl : len = _ := hl
      subst hl
      obtain ⟨x, y, st, rfl, h⟩ := gL2_spec h
      exact g_lcmp X hd (nx h)
    | i2l =>
      have hl : len = _ := hl
      subst hl
      obtain ⟨x, st, rfl, h⟩ := gI1_spec h
      exact g_i2l X hd (nx h)
    | l2i =>
      have hl : len = _ := hl
      subst hl
      obtain ⟨x, st, rfl, h⟩ := gL1_spec h
      exact g_l2i X hd (nx h)
    | dup =>
      have hl : len = _ := hl
      subst hl
      obtain ⟨v, st, rfl, h⟩ := gV1_spec h
      obtain ⟨h1, h⟩ := gIf_spec h
      exact g_dup X (gC1B_spec h1) hd (nx h)
    | dup2 =>
      have hl : len = _ := hl
      subst hl
      obtain ⟨v, st, rfl, h⟩ := gV1_spec h
      obtain ⟨w, st, rfl, h⟩ := gV1_spec h
      obtain ⟨h1, h⟩ := gIf_spec h
      obtain ⟨h2, h⟩ := gIf_spec h
      exact g_dup2 X (gC1B_spec h1) (gC1B_spec h2) hd (nx h)
    | goto off =>
      have hl : len = _ := hl
      subst hl
      exact g_goto X hd hg (jp h)
    | ifCond cnd off =>
      have hl : len = _ := hl
      subst hl
      obtain ⟨x, st, rfl, h⟩ := gI1_spec h
      exact gBr_spec_if X hd hg h jp nx
    | if_icmp cnd off =>
      have hl : len = _ := hl
      subst hl
      obtain ⟨x, y, st, rfl, h⟩ := gI2_spec h
      exact gBr_spec_icmp X hd hg h jp nx
    | tableswitch dflt lo hi offs =>
      obtain ⟨x, st, rfl, h⟩ := gI1_spec h
      exact g_tsw X hd hg (gSwT_mono (fun _ q => jp q) _ _ h.1) (fun q => jp (h.2 q))
    | lookupswitch dflt ps =>
      obtain ⟨x, st, rfl, h⟩ := gI1_spec h
      exact g_lsw X hd hg (gSwL_mono (fun _ q => jp q) _ h)
    | getfield i =>
      have hl : len = _ := hl
      subst hl
      obtain ⟨r, hr, hw⟩ := hg
      obtain ⟨t0, q0, st, rfl, h⟩ := gA1_spec h
      obtain ⟨h1, g⟩ := gIf_spec h
      clear h
      have h1 := beq_eq h1
      subst h1
      rcases gFd_spec g with ⟨h2, g1⟩ | ⟨t2, δ, h2, g1⟩
      · rw [gNth_eq] at h2
        exact g_getI hr hw hd h2 X (nx g1)
      · rw [gNth_eq] at h2
        obtain ⟨h3, g2⟩ := gIf_spec g1
        exact g_getR hr hw hd h2 h3 X (nx g2)
    | putfield i =>
      have hl : len = _ := hl
      subst hl
      obtain ⟨r, hr, hw⟩ := hg
      obtain ⟨x, st, rfl, h⟩ := gI1_spec h
      obtain ⟨t0, q0, st, rfl, h⟩ := gA1_spec h
      obtain ⟨h1, g⟩ := gIf_spec h
      clear h
      have h1 := beq_eq h1
      subst h1
      rcases gFd_spec g with ⟨h2, g1⟩ | ⟨t2, δ, h2, g1⟩
      · rw [gNth_eq] at h2
        exact g_putI hr hw hd h2 X (nx g1)
      · exact g1.elim
    | getstatic i =>
      have hl : len = _ := hl
      subst hl
      rcases hg.2 with hw | ⟨host, hw⟩
      · exact g_gets X hg.1 hw hd (nx h)
      · exact g_getsN X hg.1 hw hd (nx h)
    | iaload =>
      have hl : len = _ := hl
      subst hl
      obtain ⟨x, st, rfl, h⟩ := gI1_spec h
      obtain ⟨t0, q0, st, rfl, h⟩ := gA1_spec h
      rcases gB2_spec h with ⟨hb, h⟩ | ⟨-, h⟩
      · exact g_iald X (ble_le hb) h.1 hd (nx h.2)
      · obtain ⟨h1, h⟩ := gIf_spec h
        obtain ⟨k0, hk0⟩ := gRO_of h1
        subst hk0
        rw [Nat.add_sub_cancel_left] at h
        rcases gB2_spec h with ⟨hb, h⟩ | ⟨hb, h⟩
        · obtain ⟨h2, h⟩ := gIf_spec h
          have hk := beq_eq h2
          subst hk
          exact g_iaro X (by omega) h.1 hd (nx h.2)
        · have hk : k0 < 5 := by
            rcases Nat.lt_or_ge k0 5 with q | q
            · exact q
            · rw [Nat.ble_eq.mpr q] at hb; cases hb
          refine g_iaro X (by omega) (by rw [gRl, if_pos hk]; exact h.1) hd ?_
          rw [gRx, if_pos hk]
          exact nx h.2
    | arraylength =>
      have hl : len = _ := hl
      subst hl
      obtain ⟨t0, q0, st, rfl, h⟩ := gA1_spec h
      obtain ⟨h1, g⟩ := gIf_spec h
      clear h
      have h1 := beq_eq h1
      subst h1
      exact g_alro (k0 := 5) X (by omega) hd (nx g)
    | iastore =>
      have hl : len = _ := hl
      subst hl
      obtain ⟨x, y, st, rfl, h⟩ := gI2_spec h
      obtain ⟨t0, q0, st, rfl, h⟩ := gA1_spec h
      obtain ⟨h1, h⟩ := gIf_spec h
      exact g_iast X (ble_le h1) h.1 hd (nx h.2)
    | aaload =>
      have hl : len = _ := hl
      subst hl
      obtain ⟨x, st, rfl, h⟩ := gI1_spec h
      obtain ⟨t0, q0, st, rfl, h⟩ := gA1_spec h
      obtain ⟨h1, h⟩ := gIf_spec h
      obtain ⟨h2, h⟩ := gIf_spec h
      exact g_aald X (ble_le h1) (Nat.lt_succ_of_le (ble_le h2)) h.1.1 h.1.2 hd (nx h.2)
    | invokevirtual i =>
      have hl : len = _ := hl
      subst hl
      obtain ⟨ap, rest, hst, hlen, h⟩ := gPop_spec _ _ _ _ h
      obtain ⟨h1, h⟩ := gIf_spec h
      obtain ⟨T, t1, y, cy, maxL, ret, d', rr, hC, hb1, hY, hO, hdd, ht, hrr, hcls, hlink, hinst, hsel⟩ := hg
      rw [List.append_nil] at h
      obtain ⟨t0, q0, av, hav, h⟩ := gA1_spec h
      obtain ⟨T2, mc2, ms2, t2, hC2, h⟩ := gCee_spec h
      rw [gNth_eq, hC] at hC2
      cases hC2
      obtain ⟨h2, g⟩ := gIf_spec h
      clear h
      have h2 := beq_eq h2
      subst h2
      have e1 : st = av.reverse ++ .inr (.inl (t0, q0)) :: rest := by
        rw [hst, ← List.reverse_reverse ap, hav]
        simp
      rw [e1]
      refine gWW_room fun hroom => ?_
      refine g_callV X hY (gOK_mono hO hpost) hdd ht hrr hcls hlink hinst hsel hd ?_ (by rw [gCat_eq]; exact ble_le h1) hroom ⟨_, g, fun r M2 n2 F2 q => ?_⟩
      · have := congrArg List.length hav
        simp at this
        omega
      · cases r with
        | none => exact nx q
        | some v => exact nx q
    | invokestatic i =>
      have hl : len = _ := hl
      subst hl
      rcases gB2_spec h with ⟨hb, h⟩ | ⟨hb, h⟩
      · have hg : 1 ≤ d ∧ gPrim own i (a - 1000) := by
          have hg : (match Nat.ble 1000 a with
            | false => gCallS l own d Cs i a b
            | true => 1 ≤ d ∧ gPrim own i (a - 1000) : Prop) := hg
          rw [hb] at hg
          exact hg
        obtain ⟨hd1, hg⟩ := hg
        generalize a - 1000 = a1 at h hg
        match a1, h, hg with
        | 0, h, hg =>
          obtain ⟨dp, n, st, rfl, h⟩ := gI2_spec h
          obtain ⟨t1, q1, st, rfl, h⟩ := gA1_spec h
          obtain ⟨sp, st, rfl, h⟩ := gI1_spec h
          obtain ⟨t0, q0, st, rfl, h⟩ := gA1_spec h
          obtain ⟨h1, h⟩ := gIf_spec h
          obtain ⟨h2, h⟩ := gIf_spec h
          obtain ⟨h3, h⟩ := gIf_spec h
          obtain ⟨h4, h⟩ := gIf_spec h
          obtain ⟨h5, h⟩ := gIf_spec h
          obtain ⟨h6, ⟨e1, e2, e3⟩, g⟩ := gIf_spec h
          clear h
          subst e1
          subst e2
          subst e3
          exact g_copy X (ble_le h2) (ble_le h3) (ble_le h4) (ble_le h5) (Nat.lt_of_le_of_lt (ble_le h6) (by decide)) hg hnat.1 hnat.2.1 hnat.2.2 hd1 (by rw [gCat_eq]; exact ble_le h1) hd (nx g)
        | 1, h, hg =>
          obtain ⟨x, y, st, rfl, h⟩ := gI2_spec h
          obtain ⟨h1, h⟩ := gIf_spec h
          exact g_mmin X hg hmath.2.1.1 hmath.1 hmath.2.1.2 hd1 (by rw [gCat_eq]; exact ble_le h1) hd (nx h)
        | 2, h, hg =>
          obtain ⟨x, y, st, rfl, h⟩ := gL2_spec h
          obtain ⟨h1, h⟩ := gIf_spec h
          exact g_mminl X hg hmath.2.2.1.1 hmath.1 hmath.2.2.1.2 hd1 (by rw [gCat_eq]; exact ble_le h1) hd (nx h)
        | 3, h, hg =>
          obtain ⟨x, y, st, rfl, h⟩ := gI2_spec h
          obtain ⟨h1, h⟩ := gIf_spec h
          exact g_mmax X hg hmath.2.2.2.1 hmath.1 hmath.2.2.2.2 hd1 (by rw [gCat_eq]; exact ble_le h1) hd (nx h)
        | _ + 4, h, hg => exact h.elim
      · obtain ⟨ap, rest, hst, hlen, h⟩ := gPop_spec _ _ _ _ h
        obtain ⟨h1, h⟩ := gIf_spec h
        have hg : gCallS l own d Cs i a b := by
          have hg : (match Nat.ble 1000 a with
            | false => gCallS l own d Cs i a b
            | true => 1 ≤ d ∧ gPrim own i (a - 1000) : Prop) := hg
          rw [hb] at hg
          exact hg
        obtain ⟨T, t1, y, cy, maxL, ret, d', hC, hY, hO, hdd, hlink, hstat⟩ := hg
        rw [List.append_nil] at h
        obtain ⟨T2, mc2, ms2, t2, hC2, h⟩ := gCee_spec h
        rw [gNth_eq, hC] at hC2
        cases hC2
        have e1 : st = ap.reverse.reverse ++ rest := by
          rw [hst, List.reverse_reverse]
        rw [e1]
        refine gWW_room fun hroom => ?_
        have kk : ∀ (r : Option gV) M2 n2 F2, gRs r rest (fun st => gNx cuts (gWW p l e R s m args below meth c Q E nL) (gx prog cuts Cs E.2.2.2.2.1 E.2.2.2.2.2 (gWW p l e R s m args below meth c Q E nL) Pi Pl Pv f) t ls st M2 (n2, F2, B.2.2)) → gWW p l e R s m args below meth c Q E nL (pc + 3) ls (r.toList ++ rest) M2 (n2, F2, B.2.2.1 + 0, B.2.2.2 + 0) := fun r M2 n2 F2 q => by
          cases r with
          | none => exact nx q
          | some v => exact nx q
        rcases hlink with hlink | ⟨host, hlink⟩
        · exact g_callS X hY (gOK_mono hO hpost) hdd hlink hstat hd (by simpa using hlen) (by rw [gCat_eq]; exact ble_le h1) hroom ⟨_, h, kk⟩
        · exact g_callSN X hY (gOK_mono hO hpost) hdd hlink hstat hd (by simpa using hlen) (by rw [gCat_eq]; exact ble_le h1) hroom ⟨_, h, kk⟩
    | lreturn =>
      have hl : len = _ := hl
      subst hl
      obtain ⟨x, st, rfl, h⟩ := gL1_spec h
      obtain ⟨rfl, h⟩ := gRN_spec h
      exact hPl pc ls x M B hd h
    | ireturn =>
      have hl : len = _ := hl
      subst hl
      obtain ⟨x, st, rfl, h⟩ := gI1_spec h
      obtain ⟨rfl, h⟩ := gRN_spec h
      exact hPi pc ls x M B hd h
    | return_ =>
      have hl : len = _ := hl
      subst hl
      obtain ⟨rfl, h⟩ := gRN_spec h
      exact hPv pc ls M B hd h
    | _ => exact h.elim
end GMAIN
