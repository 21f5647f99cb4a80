/-! contracts and calls -/
def gNr : Option gV → Prop
  | some (.inr (.inl _)) => False
  | _ => True
def gPc (E : gE) (av : List gV) (M : gM) (n : Nat) (F : gR) : Array Value → State → Prop := fun v U => v = (av.map (gtr E)).toArray ∧ gEnv E U ∧ gH E M n F U.heap
theorem gPc.blind {E : gE} {av : List gV} {M : gM} {n : Nat} {F : gR} : FrameBlind (gPc E av M n F) := fun _ _ _ _ h => ⟨h.1, h.2.1.calling, h.2.2⟩
def gQc (E : gE) (post : gPost) : Array Value → State → Outcome → State → Prop := fun _ st oc t =>
  (∃ (r : Option gV) (M' : gM) (n' : Nat) (F' : gR), oc = .returned (r.map (gtr E)) ∧ gNr r ∧ post r M' n' F' ∧ gH E M' n' F' t.heap) ∧ va_F (fun q => E.1 ≤ q) st t
def gRm (d mc ms : Nat) : Room := { frames := d, cells := mc, slots := ms, locals := 39 * d }
def gMet (l : Launch) (y : MethodName) (cc : ByteArray) (maxL : Nat) (ret : Option FieldType) (d mc ms : Nat) (av : List gV) (M : gM) (n : Nat) (F : gR) (post : gPost) : Prop :=
  ∀ E : gE, Met l y (Cond.code y cc maxL ret :: gA) (gRm d mc ms) (gPc E av M n F) (gQc E post) mc ms (fun q => E.1 ≤ q)
/-- a method keeps its contract T -/
def gOK (l : Launch) (y : MethodName) (cc : ByteArray) (maxL : Nat) (ret : Option FieldType) (d mc ms : Nat) (T : gT) : Prop :=
  ∀ (av : List gV) (M : gM) (n : Nat) (F : gR) (post : gPost), (∀ v ∈ av, gOk n v) → T av M n F post → gMet l y cc maxL ret d mc ms av M n F post
/-- what the tables say of a method, whoever calls it -/
def gYI (y : MethodName) (cc : ByteArray) (maxL : Nat) (ret : Option FieldType) (na : Nat) : Prop :=
  Cond.code y cc maxL ret ∈ gA ∧ Cond.initialized y.cls ∈ gA ∧ (y.cls ≠ "java/lang/invoke/MethodHandle" ∧ y.cls ≠ "java/lang/invoke/VarHandle" ∧ (parseMethodDescriptor y.desc).map (fun d => d.parameters.length) = some na) ∧ maxL ≤ 19
theorem gA_in {y : MethodName} {cc : ByteArray} {maxL : Nat} {ret : Option FieldType} (h : Cond.code y cc maxL ret ∈ gA) : GoodIn gA (Cond.code y cc maxL ret :: gA) := fun w hw => by
  rcases List.mem_cons.mp hw with rfl | hw
  · exact ⟨h, (gA_good _ h).2⟩
  · exact ⟨hw, (gA_good _ hw).2⟩
section GCALL
variable {p : Program} {l : Launch} {e : Env} {R : Room} {s : State} {m : MethodId} {args : Array Value} {below : List Frame} {meth : Method} {c : Code} {Q : State → Prop} {E : gE} {nL : Nat}
variable {own : String} {cc : ByteArray} {d : Nat} {pc : Nat} {ls : gLs} {st : List gV} {M : gM} {B : gB}
theorem g_after {H : Heap} {locs : List Loc} {k w mc ms : Nat} {la : Array Slot} {st0 rest : List Value} {post : gPost} {a : Array Value} (hr : va_Run p l e R s m args below meth c H locs k w mc ms (F0 m pc la st0) rest (gQc E post a) (fun q => E.1 ≤ q)) (hS : va_S (fun q => E.1 ≤ q) s.heap H locs)
    (kk : ∀ (r : Option gV) (M' : gM) (n' : Nat) (F' : gR) (H1 : Heap) (locs1 : List Loc), gNr r → post r M' n' F' → gH E M' n' F' H1 → va_S (fun q => E.1 ≤ q) s.heap H1 locs1 → H.size ≤ H1.size → W p l e R s m args below meth c H1 locs1 (k + mc) (w + ms) Q (F0 m (pc + 3) la ((r.map (gtr E)).toList ++ rest))) : W p l e R s m args below meth c H locs k w Q (F0 m pc la st0) := by
  intro T hT X
  obtain ⟨v, st₀, t, T', L, h0, X', hL, e1, e2, ⟨⟨r, M', n', F', hv, hnr, hp, hb⟩, hz, hk⟩, st⟩ := hr T hT X
  have hv : v = r.map (gtr E) := Outcome.returned.inj hv
  subst hv
  rw [h0] at hz hk
  obtain ⟨t2, a1, b1⟩ := kk r M' n' F' T'.heap (locs ++ L) hnr hp (by rw [e1]; exact hb)
    ⟨Nat.le_trans hS.1 (by rw [e1]; exact hz), fun q h1 h2 => by rw [e1, hk q (Nat.lt_of_lt_of_le h1 hS.1) h2]; exact hS.2.1 q h1 h2, fun q hq => by
      rcases List.mem_append.mp hq with h | h
      · exact hS.2.2 q h
      · exact hL q h⟩ (by rw [e1]; exact hz) T' rfl X'
  exact ⟨t2, st t2 a1, b1⟩
theorem gEnv_at {H : Heap} {locs : List Loc} (X : gX p R s m args c E own cc nL d) (hS : va_S (fun q => E.1 ≤ q) s.heap H locs) {U : State} (hU : U.heap = H) (hW : s.WarmedH U.vm) : gEnv E U := by
  refine X.2.2.2.2.2.1.warm hW ?_ ?_
  · rw [hU]
    exact Nat.le_trans X.2.2.2.2.2.1.2.2.2.2.2.2 hS.1
  · intro q h1 h2
    rw [hU]
    exact hS.2.1 q h1 h2
theorem gLen {n n' : Nat} {M M' : gM} {F F' : gR} {H H1 : Heap} (h : gH E M n F H) (h1 : gH E M' n' F' H1) (hz : H.size ≤ H1.size) : n ≤ n' := by
  have a := h.2.2.1
  have b := h1.2.2.1
  omega
theorem gRet {n : Nat} {r : Option gV} (h : gNr r) : ∀ v ∈ r.toList, gOk n v := by
  intro v hv
  cases r with
  | none => cases hv
  | some w =>
    rcases List.mem_singleton.mp hv with rfl
    rcases v with x | ⟨t, q⟩ | x | x
    · trivial
    · exact h.elim
    · trivial
    · trivial
theorem vapp {n : Nat} {a b : List gV} (ha : ∀ w ∈ a, gOk n w) (hb : ∀ w ∈ b, gOk n w) : ∀ w ∈ a ++ b, gOk n w := fun w hw => (List.mem_append.mp hw).elim (ha w) (hb w)
/-- from a call's run: the caller goes on -/
theorem g_goon {H : Heap} {locs : List Loc} {mc ms : Nat} {la : Array Slot} {st0 : List Value} {post : gPost} {a : Array Value} (hH : gH E M B.1 B.2.1 H) (hS : va_S (fun q => E.1 ≤ q) s.heap H locs) (hL : gLA E nL B.1 ls la) (hV : ∀ v ∈ st, gOk B.1 v) (hB : B.2.2.1 + mc ≤ R.cells ∧ B.2.2.2 + ms ≤ R.slots)
    (hr : va_Run p l e R s m args below meth c H locs B.2.2.1 B.2.2.2 mc ms (F0 m pc la st0) (st.map (gtr E)) (gQc E post a) (fun q => E.1 ≤ q))
    (k : ∀ r M' n' F', post r M' n' F' → gWW p l e R s m args below meth c Q E nL (pc + 3) ls (r.toList ++ st) M' (n', F', B.2.2.1 + mc, B.2.2.2 + ms)) : W p l e R s m args below meth c H locs B.2.2.1 B.2.2.2 Q (F0 m pc la st0) := by
  refine g_after hr hS fun r M' n' F' H1 locs1 hnr hp hH1 hS1 hz => ?_
  have hn := gLen hH hH1 hz
  have h1 := k r M' n' F' hp H1 locs1 la hH1 hS1 (hL.mono hn) (vapp (gRet hnr) (fun v hv => (hV v hv).mono hn)) hB
  have e2 : (r.toList ++ st).map (gtr E) = (r.map (gtr E)).toList ++ st.map (gtr E) := by cases r <;> rfl
  rw [e2] at h1
  exact h1
theorem g_callV {y : MethodName} {cy : ByteArray} {maxL i na d' mc ms t q : Nat} {ret : Option FieldType} {T : gT} {av : List gV} {rr : vw_C} (X : gX p R s m args c E own cc nL d) (hY : gYI y cy maxL ret na) (hO : gOK l y cy maxL ret d' mc ms T) (hdd : d' + 1 ≤ d) (ht : t < 8) (hrr : vwCl[t]? = some rr) (hcls : rr.1 = y.cls)
    (hlink : Cond.methodLink own i y ∈ gA) (hinst : Cond.instanceMethod y ∈ gA) (hsel : Cond.selects y.cls y y ∈ gA) (hd : decode cc pc = .ok (.invokevirtual i, 3)) (hna : av.length = na) (hr : ((st.map (gtr E)).map fun v => v.category).sum ≤ 8) (hB2 : B.2.2.1 + mc ≤ R.cells ∧ B.2.2.2 + ms ≤ R.slots)
    (k : T (.inr (.inl (t, q)) :: av) M B.1 B.2.1 (fun r M' n' F' => gWW p l e R s m args below meth c Q E nL (pc + 3) ls (r.toList ++ st) M' (n', F', B.2.2.1 + mc, B.2.2.2 + ms))) :
    gWW p l e R s m args below meth c Q E nL pc ls (av.reverse ++ .inr (.inl (t, q)) :: st) M B := by
  intro H locs la hH hS hL hV hB
  have hVr : ∀ v ∈ (.inr (.inl (t, q)) :: av : List gV), gOk B.1 v := fun v hv => by
    refine hV v ?_
    rcases List.mem_cons.mp hv with rfl | hv
    · exact List.mem_append_right _ List.mem_cons_self
    · exact List.mem_append_left _ (List.mem_reverse.mpr hv)
  have hVs : ∀ v ∈ st, gOk B.1 v := fun v hv => hV v (List.mem_append_right _ (List.mem_cons_of_mem _ hv))
  obtain ⟨hq, hk⟩ := (vh hVr).obj (gRO_lt (by omega))
  have hts := X.2.2.2.2.1
  have hM := hO _ M B.1 B.2.1 _ hVr k E
  have e1 : (av.reverse ++ .inr (.inl (t, q)) :: st).map (gtr E) = (av.map (gtr E)).reverse ++ .ref (E.1 + q) :: st.map (gtr E) := by
    rw [List.map_append, List.map_cons, gtr_ref (gRO_lt (by omega)), List.map_reverse]
  rw [e1]
  refine g_goon hH hS hL hVs hB2 (va_runV (b := E.1 + q) (C := y.cls) (As := av.map (gtr E)) (rest := st.map (gtr E)) (Ts := gA) ⟨X.1, X.2.1, X.2.2.1, X.2.2.2.1, hts⟩ hM ⟨callB_of na hts (gA_in hY.1) rfl rfl rfl (hts _ hY.2.1) (hts _ hlink) hY.2.2.1 ⟨?_, ?_⟩, hts _ hinst, hts _ hsel⟩ ⟨gPc.blind, ?_, fun U hU hW => ⟨?_, gEnv_at X hS hU hW, by rw [hU]; exact hH⟩⟩ rfl (by simpa using hna) hL.1 rfl (lv_room hr) hd hB2) (fun r M' n' F' hp => hp)
  · rw [X.2.2.2.2.2.2.1]; exact hdd
  · refine Nat.le_trans ?_ X.2.2.2.2.2.2.2
    have hm := hY.2.2.2
    show 8 + (maxL + 11) + 39 * d' ≤ 39 * d
    omega
  · rw [← hcls]
    exact va_recv (q := rr) X.2.2.2.2.2.1.1 hH.2.2.2 hrr (gCs_at hq |>.trans (by rw [gCt_obj ht hk]))
  · rw [List.map_cons, gtr_ref (gRO_lt (by omega))]
theorem g_callS {y : MethodName} {cy : ByteArray} {maxL i na d' mc ms : Nat} {ret : Option FieldType} {T : gT} {av : List gV} (X : gX p R s m args c E own cc nL d) (hY : gYI y cy maxL ret na) (hO : gOK l y cy maxL ret d' mc ms T) (hdd : d' + 1 ≤ d)
    (hlink : Cond.methodLink own i y ∈ gA) (hstat : Cond.static y ∈ gA) (hd : decode cc pc = .ok (.invokestatic i, 3)) (hna : av.length = na) (hr : ((st.map (gtr E)).map fun v => v.category).sum ≤ 8) (hB2 : B.2.2.1 + mc ≤ R.cells ∧ B.2.2.2 + ms ≤ R.slots)
    (k : T av M B.1 B.2.1 (fun r M' n' F' => gWW p l e R s m args below meth c Q E nL (pc + 3) ls (r.toList ++ st) M' (n', F', B.2.2.1 + mc, B.2.2.2 + ms))) :
    gWW p l e R s m args below meth c Q E nL pc ls (av.reverse ++ st) M B := by
  intro H locs la hH hS hL hV hB
  have hVr : ∀ v ∈ av, gOk B.1 v := fun v hv => hV v (List.mem_append_left _ (List.mem_reverse.mpr hv))
  have hVs : ∀ v ∈ st, gOk B.1 v := fun v hv => hV v (List.mem_append_right _ hv)
  have hts := X.2.2.2.2.1
  have hM := hO _ M B.1 B.2.1 _ hVr k E
  have e1 : (av.reverse ++ st).map (gtr E) = (av.map (gtr E)).reverse ++ st.map (gtr E) := by rw [List.map_append, List.map_reverse]
  rw [e1]
  refine g_goon hH hS hL hVs hB2 (va_runS (As := av.map (gtr E)) (rest := st.map (gtr E)) (Ts := gA) ⟨X.1, X.2.1, X.2.2.1, X.2.2.2.1, hts⟩ hM ⟨callB_of na hts (gA_in hY.1) rfl rfl rfl (hts _ hY.2.1) (hts _ hlink) hY.2.2.1 ⟨?_, ?_⟩, hts _ hstat⟩ ⟨gPc.blind, fun U hU hW => ⟨rfl, gEnv_at X hS hU hW, by rw [hU]; exact hH⟩⟩ rfl (by simpa using hna) hL.1 rfl (lv_room hr) hd hB2) (fun r M' n' F' hp => hp)
  · rw [X.2.2.2.2.2.2.1]; exact hdd
  · refine Nat.le_trans ?_ X.2.2.2.2.2.2.2
    have hm := hY.2.2.2
    show 8 + (maxL + 11) + 39 * d' ≤ 39 * d
    omega
theorem g_callSN {y : MethodName} {cy : ByteArray} {maxL i na d' mc ms : Nat} {ret : Option FieldType} {T : gT} {av : List gV} {host : String} (X : gX p R s m args c E own cc nL d) (hY : gYI y cy maxL ret na) (hO : gOK l y cy maxL ret d' mc ms T) (hdd : d' + 1 ≤ d)
    (hlink : (own, i, y, host) ∈ gNm) (hstat : Cond.static y ∈ gA) (hd : decode cc pc = .ok (.invokestatic i, 3)) (hna : av.length = na) (hr : ((st.map (gtr E)).map fun v => v.category).sum ≤ 8) (hB2 : B.2.2.1 + mc ≤ R.cells ∧ B.2.2.2 + ms ≤ R.slots)
    (k : T av M B.1 B.2.1 (fun r M' n' F' => gWW p l e R s m args below meth c Q E nL (pc + 3) ls (r.toList ++ st) M' (n', F', B.2.2.1 + mc, B.2.2.2 + ms))) :
    gWW p l e R s m args below meth c Q E nL pc ls (av.reverse ++ st) M B := by
  intro H locs la hH hS hL hV hB
  have hVr : ∀ v ∈ av, gOk B.1 v := fun v hv => hV v (List.mem_append_left _ (List.mem_reverse.mpr hv))
  have hVs : ∀ v ∈ st, gOk B.1 v := fun v hv => hV v (List.mem_append_right _ hv)
  have hts := X.2.2.2.2.1
  have hM := hO _ M B.1 B.2.1 _ hVr k E
  have e1 : (av.reverse ++ st).map (gtr E) = (av.map (gtr E)).reverse ++ st.map (gtr E) := by rw [List.map_append, List.map_reverse]
  rw [e1]
  refine g_goon hH hS hL hVs hB2 (va_runSN (As := av.map (gtr E)) (rest := st.map (gtr E)) (Ts := gA) ⟨X.1, X.2.1, X.2.2.1, X.2.2.2.1, hts⟩ hM ⟨va_cnB na hts (gA_in hY.1) rfl rfl rfl (X.2.2.2.2.2.1.2.1 _ hlink) (hts _ hY.2.1) hY.2.2.1 ⟨?_, ?_⟩, hts _ hstat, trivial⟩ ⟨gPc.blind, fun U hU hW => ⟨rfl, gEnv_at X hS hU hW, by rw [hU]; exact hH⟩⟩ rfl (by simpa using hna) hL.1 rfl (lv_room hr) hd hB2) (fun r M' n' F' hp => hp)
  · rw [X.2.2.2.2.2.2.1]; exact hdd
  · refine Nat.le_trans ?_ X.2.2.2.2.2.2.2
    have hm := hY.2.2.2
    show 8 + (maxL + 11) + 39 * d' ≤ 39 * d
    omega
/-- a method's end, with a whole number -/
theorem g_iret {v : Int32} {post : gPost} {mc ms : Nat} (X : gX p R s m args c E own cc nL d) (hr : meth.sig.returnType = some .int) (hlk : meth.locks = false) (hd : decode cc pc = .ok (.ireturn, 1)) (hB : B.2.2 = (mc, ms)) (hp : post (some (.inl v)) M B.1 B.2.1) :
    gWW p l e R s m args below meth c (MQ below (gQc E post) args s mc ms (fun q => E.1 ≤ q)) E nL pc ls [.inl v] M B := by
  intro H locs la hH hS hL hV hB2
  obtain ⟨n, F, k, w⟩ := B
  cases hB
  exact W.iret (v := v) X.1 X.2.1 hr (fun t ht hW => ⟨⟨some (.inl v), M, n, F, rfl, trivial, hp, by rw [ht]; exact hH⟩, hS.F ht⟩) hS.2.2 hd hlk
theorem g_zret {v : Int32} {post : gPost} {mc ms : Nat} (X : gX p R s m args c E own cc nL d) (hr : meth.sig.returnType = some .boolean) (hlk : meth.locks = false) (hd : decode cc pc = .ok (.ireturn, 1)) (hv : v = 0 ∨ v = 1) (hB : B.2.2 = (mc, ms)) (hp : post (some (.inl v)) M B.1 B.2.1) :
    gWW p l e R s m args below meth c (MQ below (gQc E post) args s mc ms (fun q => E.1 ≤ q)) E nL pc ls [.inl v] M B := by
  intro H locs la hH hS hL hV hB2
  obtain ⟨n, F, k, w⟩ := B
  cases hB
  exact W.zret (v := v) X.1 X.2.1 hr (by rcases hv with rfl | rfl <;> rfl) (fun t ht hW => ⟨⟨some (.inl v), M, n, F, rfl, trivial, hp, by rw [ht]; exact hH⟩, hS.F ht⟩) hS.2.2 hd hlk
theorem g_vret {post : gPost} {mc ms : Nat} (X : gX p R s m args c E own cc nL d) (hr : meth.sig.returnType = none) (hlk : meth.locks = false) (hd : decode cc pc = .ok (.return_, 1)) (hB : B.2.2 = (mc, ms)) (hp : post none M B.1 B.2.1) :
    gWW p l e R s m args below meth c (MQ below (gQc E post) args s mc ms (fun q => E.1 ≤ q)) E nL pc ls [] M B := by
  intro H locs la hH hS hL hV hB2
  obtain ⟨n, F, k, w⟩ := B
  cases hB
  exact W.vret X.1 X.2.1 hr (fun t ht hW => ⟨⟨none, M, n, F, rfl, trivial, hp, by rw [ht]; exact hH⟩, hS.F ht⟩) hS.2.2 hd hlk
/-- a method's end, with a long -/
theorem g_lret {v : Int64} {post : gPost} {mc ms : Nat} (X : gX p R s m args c E own cc nL d) (hr : meth.sig.returnType = some .long) (hlk : meth.locks = false) (hd : decode cc pc = .ok (.lreturn, 1)) (hB : B.2.2 = (mc, ms)) (hp : post (some (.inr (.inr (.inl v)))) M B.1 B.2.1) :
    gWW p l e R s m args below meth c (MQ below (gQc E post) args s mc ms (fun q => E.1 ≤ q)) E nL pc ls [.inr (.inr (.inl v))] M B := by
  intro H locs la hH hS hL hV hB2
  obtain ⟨n, F, k, w⟩ := B
  cases hB
  exact W.lret (v := v) X.1 X.2.1 hr (fun t ht hW => ⟨⟨some (.inr (.inr (.inl v))), M, n, F, rfl, trivial, hp, by rw [ht]; exact hH⟩, hS.F ht⟩) hS.2.2 hd hlk
end GCALL
/-- the locals at a method's entry -/
def gEnt (nL : Nat) (av : List gV) : gLs := av.map some ++ List.replicate (nL - av.length) none
theorem lv_args_at (E : gE) : ∀ (av : List gV) (j i : Nat) (v : gV), (∀ w ∈ av, gC1 w) → av[i]? = some v → (j + i, gtr E v) ∈ lv_args j (av.map (gtr E))
  | [], _, _, _, _, h => by simp at h
  | a :: av, j, 0, v, _, h => by
    simp at h
    subst h
    exact List.mem_cons_self
  | a :: av, j, i + 1, v, hc, h => by
    have h1 := lv_args_at E av (j + 1) i v (fun w hw => hc w (List.mem_cons_of_mem _ hw)) (by simpa using h)
    have ha : (gtr E a).category = 1 := (hc a List.mem_cons_self).cat
    show _ ∈ (j, gtr E a) :: lv_args (if (gtr E a).category = 2 then j + 2 else j + 1) (av.map (gtr E))
    rw [if_neg (by rw [ha]; decide)]
    refine List.mem_cons_of_mem _ ?_
    rw [show j + (i + 1) = j + 1 + i by omega]
    exact h1
theorem lg_sl_len (E : gE) : ∀ (av : List gV), (∀ w ∈ av, gC1 w) → (lg_sl (av.map (gtr E))).length = av.length
  | [], _ => rfl
  | a :: av, hc => by
    have ha : (gtr E a).category = 1 := (hc a List.mem_cons_self).cat
    have ih := lg_sl_len E av (fun w hw => hc w (List.mem_cons_of_mem _ hw))
    simp only [lg_sl, List.map_cons, List.flatMap_cons, ha] at ih ⊢
    simp [ih]
/-- a contract, from the walk of the body -/
theorem gOK_of {l : Launch} {y : MethodName} {cy : ByteArray} {maxL : Nat} {ret : Option FieldType} {d mc ms : Nat} {T : gT} (hy : plainName y.cls = true)
    (body : ∀ (p : Program) (e : Env) (s : State) (m : MethodId) (args : Array Value) (below : List Frame) (meth : Method) (c : Code) (E : gE) (av : List gV) (M : gM) (n : Nat) (F : gR) (post : gPost), gX p (gRm d mc ms) s m args c E y.cls cy maxL d → meth.sig.returnType = ret → meth.locks = false → (y.name = "<init>" → meth.name = "<init>") → T av M n F post →
      ((∀ w ∈ av, gC1 w) ∧ av.length ≤ maxL) ∧ gWW p l e (gRm d mc ms) s m args below meth c (MQ below (gQc E post) args s mc ms (fun q => E.1 ≤ q)) E maxL 0 (gEnt maxL av) [] M (n, F, 0, 0)) : gOK l y cy maxL ret d mc ms T := by
  intro av M n F post hok hT E
  refine Met.ofW (cc := cy) (maxL := maxL) (ret := ret) hy rfl ?_
  intro p e s m args below meth c s₁ B hml hv
  obtain ⟨rfl, hE, hH⟩ := hv
  have hts := atoms_spec (ws := Cond.code y cy maxL ret :: gA) B.pre
  have X : gX p (gRm d mc ms) s m (av.map (gtr E)).toArray c E y.cls cy maxL d := ⟨B.exec, B.bytes, hml, findClass_of_methodNamed B.named, fun w hw => hts w (List.mem_cons_of_mem _ hw), hE, rfl, Nat.le_refl _⟩
  obtain ⟨⟨hc1, hlen⟩, hW⟩ := body p e s m _ below meth c E av M n F post X B.returns B.notSynchronized (fun h => (name_of_methodNamed B.named B.method).1.trans h) hT
  rw [lg_entry_eq]
  have hl := lv_entry (av.map (gtr E)) (n := maxL) (by rw [lg_sl_len E av hc1]; exact hlen)
  generalize (lg_sl (av.map (gtr E)) ++ List.replicate (maxL - (lg_sl (av.map (gtr E))).length) Slot.unset).toArray = la at hl ⊢
  refine hW s.heap [] la hH va_S.rf ⟨hl.1, hl.2.1, by simp [gEnt]; omega, fun i v hi => ?_⟩ (fun v hv => by cases hv) ⟨Nat.zero_le _, Nat.zero_le _⟩
  have hi2 : av[i]? = some v := by
    unfold gEnt at hi
    by_cases h : i < av.length
    · rw [List.getElem?_append_left (by simpa using h), List.getElem?_map] at hi
      rw [List.getElem?_eq_getElem h] at hi ⊢
      simpa using hi
    · rw [List.getElem?_append_right (by simp; omega)] at hi
      have := List.mem_of_getElem? hi
      rw [List.mem_replicate] at this
      cases this.2
  refine ⟨?_, hok v (List.mem_of_getElem? hi2)⟩
  have := hl.2.2 _ (lv_args_at E av 0 i v hc1 hi2)
  rw [Nat.zero_add] at this
  exact this
