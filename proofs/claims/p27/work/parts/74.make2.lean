/-! what constructors do: calls of constructors, a copy of a read-only array -/
def gRoC (M : gM) (q1 N : Nat) (f : Nat → Int32) : gM := fun q j => if q = q1 ∧ j < N then f j else M q j
theorem gRoC_row {M : gM} {q1 N q : Nat} {f : Nat → Int32} (h : q ≠ q1) : gRoC M q1 N f q = M q := funext fun _ => if_neg (fun e => h e.1)
section GMAKE2
variable {p : Program} {l : Launch} {e : Env} {R : Room} {s : State} {m : MethodId} {args : Array Value} {below : List Frame} {meth : Method} {c : Code} {Q : State → Prop} {E : gE} {nL : Nat}
variable {own : String} {cc : ByteArray} {d : Nat} {pc : Nat} {ls : gLs} {st : List gV} {M : gM} {B : gB}
theorem g_callI {y : MethodName} {cy : ByteArray} {maxL i d' mc ms t q : Nat} {T : gT} (X : gX p R s m args c E own cc nL d) (hY : gYI y cy maxL none 0) (hO : gOK l y cy maxL none d' mc ms T) (hdd : d' + 1 ≤ d) (ht : t < 8) (hnm : y.name = "<init>") (him : Cond.instanceMethod y ∈ gA)
    (hlink : Cond.methodLink own i y ∈ gA) (hd : decode cc pc = .ok (.invokespecial i, 3)) (hr : ((st.map (gtr E)).map fun v => v.category).sum ≤ 8) (hB2 : B.2.2.1 + mc ≤ R.cells ∧ B.2.2.2 + ms ≤ R.slots)
    (k : T [.inr (.inl (t, q))] M B.1 B.2.1 (fun r M' n' F' => gWW p l e R s m args below meth c Q E nL (pc + 3) ls (r.toList ++ st) M' (n', F', B.2.2.1 + mc, B.2.2.2 + ms))) :
    gWW p l e R s m args below meth c Q E nL pc ls (.inr (.inl (t, q)) :: st) M B := by
  intro H locs la hH hS hL hV hB
  have hVr : ∀ v ∈ ([.inr (.inl (t, q))] : List gV), gOk B.1 v := fun v hv => by
    rw [List.mem_singleton.mp hv]
    exact vh hV
  have hts := X.2.2.2.2.1
  have hM := hO _ M B.1 B.2.1 _ hVr k E
  have e1 : (.inr (.inl (t, q)) :: st : List gV).map (gtr E) = .ref (E.1 + q) :: st.map (gtr E) := by
    rw [List.map_cons, gtr_ref (gRO_lt (by omega))]
  rw [e1]
  refine g_goon hH hS hL (vd hV) hB2 (va_runI (b := E.1 + q) (As := []) (rest := st.map (gtr E)) (Ts := gA) ⟨X.1, X.2.1, X.2.2.1, X.2.2.2.1, hts⟩ hM ⟨callB_of 0 hts (gA_in hY.1) rfl rfl rfl (hts _ hY.2.1) (hts _ hlink) hY.2.2.1 ⟨?_, ?_⟩, hnm, hts _ him⟩ ⟨gPc.blind, fun U hU hW => ⟨?_, gEnv_at X hS hU hW, by rw [hU]; exact hH⟩⟩ rfl rfl hL.1 rfl (lv_room hr) hd hB2) (fun r M' n' F' hp => hp)
  · rw [X.2.2.2.2.2.2.1]; exact hdd
  · refine Nat.le_trans ?_ X.2.2.2.2.2.2.2
    have hm := hY.2.2.2
    show 8 + (maxL + 11) + 39 * d' ≤ 39 * d
    omega
  · rw [List.map_cons, gtr_ref (gRO_lt (by omega))]
    rfl
theorem g_callIN {y : MethodName} {cy : ByteArray} {maxL i d' mc ms t q : Nat} {T : gT} {host : String} (X : gX p R s m args c E own cc nL d) (hY : gYI y cy maxL none 0) (hO : gOK l y cy maxL none d' mc ms T) (hdd : d' + 1 ≤ d) (ht : t < 8) (hnm : y.name = "<init>") (him : Cond.instanceMethod y ∈ gA)
    (hlink : (own, i, y, host) ∈ gNm) (hd : decode cc pc = .ok (.invokespecial i, 3)) (hr : ((st.map (gtr E)).map fun v => v.category).sum ≤ 8) (hB2 : B.2.2.1 + mc ≤ R.cells ∧ B.2.2.2 + ms ≤ R.slots)
    (k : T [.inr (.inl (t, q))] M B.1 B.2.1 (fun r M' n' F' => gWW p l e R s m args below meth c Q E nL (pc + 3) ls (r.toList ++ st) M' (n', F', B.2.2.1 + mc, B.2.2.2 + ms))) :
    gWW p l e R s m args below meth c Q E nL pc ls (.inr (.inl (t, q)) :: st) M B := by
  intro H locs la hH hS hL hV hB
  have hVr : ∀ v ∈ ([.inr (.inl (t, q))] : List gV), gOk B.1 v := fun v hv => by
    rw [List.mem_singleton.mp hv]
    exact vh hV
  have hts := X.2.2.2.2.1
  have hM := hO _ M B.1 B.2.1 _ hVr k E
  have e1 : (.inr (.inl (t, q)) :: st : List gV).map (gtr E) = .ref (E.1 + q) :: st.map (gtr E) := by
    rw [List.map_cons, gtr_ref (gRO_lt (by omega))]
  rw [e1]
  refine g_goon hH hS hL (vd hV) hB2 (va_runIN (b := E.1 + q) (As := []) (rest := st.map (gtr E)) (Ts := gA) ⟨X.1, X.2.1, X.2.2.1, X.2.2.2.1, hts⟩ hM ⟨va_cnB 0 hts (gA_in hY.1) rfl rfl rfl (X.2.2.2.2.2.1.2.1 _ hlink) (hts _ hY.2.1) hY.2.2.1 ⟨?_, ?_⟩, hnm, hts _ him⟩ ⟨gPc.blind, fun U hU hW => ⟨?_, gEnv_at X hS hU hW, by rw [hU]; exact hH⟩⟩ rfl rfl hL.1 rfl (lv_room hr) hd hB2) (fun r M' n' F' hp => hp)
  · rw [X.2.2.2.2.2.2.1]; exact hdd
  · refine Nat.le_trans ?_ X.2.2.2.2.2.2.2
    have hm := hY.2.2.2
    show 8 + (maxL + 11) + 39 * d' ≤ 39 * d
    omega
  · rw [List.map_cons, gtr_ref (gRO_lt (by omega))]
    rfl
theorem g_copyRO {a1 q0 q1 i N k0 : Nat} (X : gX p R s m args c E own cc nL d) (h0 : k0 < 6) (h1 : 100 ≤ a1) (hn0 : N ≤ gRl E k0) (hn1 : N ≤ a1 - 100) (hN : N < 2 ^ 31) (hlink : Cond.methodLink own i arraycopyName ∈ gA) (hnat : Cond.native arraycopyName ∈ gA) (hstat : Cond.static arraycopyName ∈ gA) (hini : Cond.initialized "java/lang/System" ∈ gA)
    (hdp : 1 ≤ d) (hr : ((st.map (gtr E)).map fun v => v.category).sum ≤ 8) (hd : decode cc pc = .ok (.invokestatic i, 3)) (k : gWW p l e R s m args below meth c Q E nL (pc + 3) ls st (gRoC M q1 N (gRx E k0)) B) :
    gWW p l e R s m args below meth c Q E nL pc ls (.inl (nI N) :: .inl 0 :: .inr (.inl (a1, q1)) :: .inl 0 :: .inr (.inl (50 + k0, q0)) :: st) M B := by
  intro H locs la hH hS hL hV hB
  obtain ⟨hq1, hk1⟩ := (vh (vd (vd hV))).obj (gRO_ge h1)
  show W _ _ _ _ _ _ _ _ _ _ _ _ _ _ _ (F0 m pc la (.int (nI N) :: .int 0 :: gtr E (.inr (.inl (a1, q1))) :: .int 0 :: gtr E (.inr (.inl (50 + k0, q0))) :: st.map (gtr E)))
  rw [gtr_ref (gRO_ge h1), gtr_ro h0]
  have hts := X.2.2.2.2.1
  have hcl : (nI N).toNatClampNeg = N := nI_clamp hN
  have ha1 : (gCs E M B.1 B.2.1)[q1]? = some (E.1 + q1, .inl (E.2.2.2.1 0, a1 - 100, .inl (M q1))) := by rw [gCs_at hq1, gCt_int (by omega) hk1]
  obtain ⟨hX0, hlt0⟩ := X.2.2.2.2.2.1.2.2.2.2.1 k0 h0
  have hz1 : E.1 ≤ s.heap.size := X.2.2.2.2.2.1.2.2.2.2.2.2
  obtain ⟨scr, g1, g2, g3, g4, g5⟩ := hX0.kept (H1 := H) (hS.2.1 _ (Nat.lt_of_lt_of_le hlt0 hz1) (Nat.not_le.mpr hlt0))
  intro T hT XT
  have hc1 : H[E.1 + q1]? = some (vp_cell (E.2.2.2.1 0) (a1 - 100, .inl (M q1))) := hH.2.2.2 q1 _ ha1
  have hK := X.2.2.2.2.2.1.1
  obtain ⟨gs, k0', hk0', cm0, hkk0⟩ := g2
  obtain ⟨-, k1, hk1', cm1, hkk1⟩ := (hK.2 0 _ rfl).1 (a1 - 100) (fun j => .int (M q1 j))
  have hz0 : ((0 : Int32).toNatClampNeg) = 0 := rfl
  have hzi : ((0 : Int32).toInt) = 0 := rfl
  have hNi : (nI N).toInt = (N : Int) := nI_toInt hN
  have hroom : 2 * 0 + ((st.map (gtr E)).map fun v => v.category).sum + (nativeFrameWords "java/lang/System" "arraycopy" 5 + 11) ≤ 39 * d := by
    have h7 : nativeFrameWords "java/lang/System" "arraycopy" 5 = 7 := by decide +kernel
    rw [h7]
    omega
  have hread : ∀ i, i < N → scr.slots.getD ((0 : Int32).toNatClampNeg + i) .null = .int (gRx E k0 i) := fun i hi => by
    rw [Array.getD_eq_getD_getElem?, hz0, Nat.zero_add, g5 i (by omega)]
    rfl
  obtain ⟨vm', X', step⟩ := XT.arraycopy X.1 X.2.2.2.1 (hts _ hlink) (hts _ hnat) (hts _ hstat) (hts _ hini) (src := E.2.1 k0) (dst := E.1 + q1) (cs := scr) (cd := vp_cell (E.2.2.2.1 0) (a1 - 100, .inl (M q1))) (srcPos := 0) (destPos := 0) (n := nI N) (by rw [hT]; exact g1) (by rw [hT]; exact hc1)
    gs (fun _ h => by cases h) g3 (fun h => by cases h) hk0' hk1' hkk0 hkk1 (by simp [refKind]) (by decide) (by decide) (nI_pos hN)
    (by rw [hzi, hNi, g4]; omega)
    (by rw [hzi, hNi]; show ¬ _ > ((arrV _ (a1 - 100) (fun j => .int (M q1 j))).slots.size : Int); rw [arrV_size]; omega)
    (fun vm₁ _ i hi => by
      rw [hcl] at hi
      refine ⟨?_, ?_⟩
      · rw [hread i hi]
        rfl
      · rw [hread i hi]
        exact trivial)
    (g := F0 m pc la (.int (nI N) :: .int 0 :: .ref (E.1 + q1) :: .int 0 :: .ref (E.2.1 k0) :: st.map (gtr E))) rfl (by rw [X.2.2.1]; exact hL.1) (rest := st.map (gtr E)) rfl (by rw [X.2.1]; exact hd) (by rw [X.2.2.2.2.2.2.1]; exact hdp) (Nat.le_trans hroom X.2.2.2.2.2.2.2)
  have e1 : copied scr (vp_cell (E.2.2.2.1 0) (a1 - 100, .inl (M q1))) 0 0 (nI N) = vp_cell (E.2.2.2.1 0) (a1 - 100, .inl (va_cpy (gRx E k0) (M q1) (0 : Int32).toNatClampNeg (0 : Int32).toNatClampNeg (nI N).toNatClampNeg)) := va_copiedX (fun z => .int z) scr _ _ _ g5 (by rw [hcl, hz0]; omega)
  rw [e1] at X' step
  have hl : E.1 + q1 < H.size := (Array.getElem?_eq_some_iff.mp hc1).1
  generalize hcell : vp_cell (E.2.2.2.1 0) (a1 - 100, .inl (va_cpy (gRx E k0) (M q1) (0 : Int32).toNatClampNeg (0 : Int32).toNatClampNeg (nI N).toNatClampNeg)) = cn at X' step
  have hheap : ((T.setVm vm').setCell (E.1 + q1) cn).heap = H.setIfInBounds (E.1 + q1) cn := by rw [← hT]; rfl
  have oq : ∀ q : Nat, q ≠ E.1 + q1 → (H.setIfInBounds (E.1 + q1) cn)[q]? = H[q]? := fun q hq => by simp [Array.getElem?_setIfInBounds, Ne.symm hq]
  have hP1 : va_P E.2.2.1 vwCl (gCs E (gRoC M q1 N (gRx E k0)) B.1 B.2.1) (H.setIfInBounds (E.1 + q1) cn) := by
    have hP1 : va_P E.2.2.1 vwCl ((gCs E M B.1 B.2.1).set q1 (E.1 + q1, .inl (E.2.2.2.1 0, a1 - 100, .inl (va_cpy (gRx E k0) (M q1) (0 : Int32).toNatClampNeg (0 : Int32).toNatClampNeg (nI N).toNatClampNeg)))) (H.setIfInBounds (E.1 + q1) cn) := by
      refine hH.2.2.2.set (gCs_D E M B.1 B.2.1) ha1 ?_ oq
      show (H.setIfInBounds _ _)[E.1 + q1]? = some _
      rw [← hcell]
      simp [Array.getElem?_setIfInBounds, hl]
    rw [gCs_set (M' := gRoC M q1 N (gRx E k0)) (F' := B.2.1) hq1 ?_ (fun j hj => gCt_row (gRoC_row hj) rfl)] at hP1
    · exact hP1
    · rw [gCt_int (by omega) hk1]
      congr 3
      refine congrArg Sum.inl (funext fun z => ?_)
      rw [hcl, hz0]
      unfold va_cpy gRoC
      by_cases hz : z < N
      · rw [if_pos ⟨rfl, hz⟩, if_pos ⟨Nat.zero_le _, by omega⟩, Nat.zero_add, Nat.sub_zero]
      · rw [if_neg (fun h => hz h.2), if_neg (fun h => hz (by omega))]
  obtain ⟨t, a1, b1⟩ := k _ (locs ++ _) la ⟨hH.1, hH.2.1, by simp; exact hH.2.2.1, hP1⟩ ⟨by simp; exact hS.1, fun q g1 g2 => by
      rw [oq q (fun e => g2 (by rw [e]; exact Nat.le_add_right _ _))]
      exact hS.2.1 q g1 g2, fun q hq => by
      rcases List.mem_append.mp hq with h | h
      · exact hS.2.2 q h
      · obtain ⟨z, -, hz⟩ := List.mem_map.mp h
        rw [← hz]
        exact Nat.le_add_right _ _⟩ hL (vd (vd (vd (vd (vd hV))))) hB _ hheap X'
  exact ⟨t, step t a1, b1⟩
end GMAKE2
