/-! arrays, read-only arrays, statics, JDK members -/
section GHEAP2
variable {p : Program} {l : Launch} {e : Env} {R : Room} {s : State} {m : MethodId} {args : Array Value} {below : List Frame} {meth : Method} {c : Code} {Q : State → Prop} {E : gE} {nL : Nat}
variable {own : String} {cc : ByteArray} {d : Nat} {pc : Nat} {ls : gLs} {st : List gV} {M : gM} {B : gB}
theorem g_iald {a q : Nat} {i : Int32} (X : gX p R s m args c E own cc nL d) (ha : 100 ≤ a) (hin : vp_in i (a - 100)) (hd : decode cc pc = .ok (.iaload, 1)) (k : gWW p l e R s m args below meth c Q E nL (pc + 1) ls (.inl (M q i.toNatClampNeg) :: st) M B) :
    gWW p l e R s m args below meth c Q E nL pc ls (.inl i :: .inr (.inl (a, q)) :: st) M B := by
  intro H locs la hH hS hL hV hB
  obtain ⟨hq, hk⟩ := (vh (vd hV)).obj (gRO_ge ha)
  show W _ _ _ _ _ _ _ _ _ _ _ _ _ _ _ (F0 m pc la (.int i :: gtr E (.inr (.inl (a, q))) :: st.map (gtr E)))
  rw [gtr_ref (gRO_ge ha)]
  exact va_iald X.1 X.2.1 X.2.2.2.2.2.1.1 hH.2.2.2 q 0 (by rw [gCs_at hq, gCt_int (by omega) hk]) rfl hin hd (k H locs la hH hS hL (vc trivial (vd (vd hV))) hB)
theorem g_iast {a q : Nat} {i x : Int32} (X : gX p R s m args c E own cc nL d) (ha : 100 ≤ a) (hin : vp_in i (a - 100)) (hd : decode cc pc = .ok (.iastore, 1)) (k : gWW p l e R s m args below meth c Q E nL (pc + 1) ls st (gUp M q i.toNatClampNeg x) B) :
    gWW p l e R s m args below meth c Q E nL pc ls (.inl x :: .inl i :: .inr (.inl (a, q)) :: st) M B := by
  intro H locs la hH hS hL hV hB
  obtain ⟨hq, hk⟩ := (vh (vd (vd hV))).obj (gRO_ge ha)
  show W _ _ _ _ _ _ _ _ _ _ _ _ _ _ _ (F0 m pc la (.int x :: .int i :: gtr E (.inr (.inl (a, q))) :: st.map (gtr E)))
  rw [gtr_ref (gRO_ge ha)]
  have hc : (gCs E M B.1 B.2.1)[q]? = some (E.1 + q, .inl (E.2.2.2.1 0, a - 100, .inl (M q))) := by rw [gCs_at hq, gCt_int (by omega) hk]
  have hK := X.2.2.2.2.2.1.1
  refine W.iast X.1 X.2.1 (hH.2.2.2 q _ hc) ((hK.2 0 _ rfl).1 (a - 100) (fun j => .int (M q j))) (fun q => by cases q) (by show ¬ (i < 0 ∨ (arrV _ _ _).slots.size ≤ _); rw [arrV_size]; exact hin) rfl rfl hd fun H1 e1 z oq => ?_
  have hP1 : va_P E.2.2.1 vwCl ((gCs E M B.1 B.2.1).set q (E.1 + q, .inl (E.2.2.2.1 0, a - 100, .inl (upd (M q) i.toNatClampNeg x)))) H1 := by
    refine hH.2.2.2.set (gCs_D E M B.1 B.2.1) hc ?_ oq
    show H1[E.1 + q]? = some (vp_cell _ _)
    rw [e1]
    rw [vp_cell_i, vp_cell_i, arrV_store]
    congr 2
    funext z
    by_cases hz : z = i.toNatClampNeg
    · subst hz
      simp [updV, upd]
    · simp [updV, upd, hz]
  refine k H1 _ la ⟨hH.1, hH.2.1, z.trans hH.2.2.1, ?_⟩ (hS.put z oq (Nat.le_add_right _ _)) hL (vd (vd (vd hV))) hB
  rw [gCs_set (M' := gUp M q i.toNatClampNeg x) (F' := B.2.1) hq ?_ (fun j hj => gCt_row (gUp_row hj) rfl)] at hP1
  · exact hP1
  · rw [gCt_int (by omega) hk]
    congr 3
    refine congrArg Sum.inl (funext fun z => ?_)
    by_cases hz : z = i.toNatClampNeg
    · subst hz
      rw [gUp_same]
      simp [upd]
    · rw [gUp_ne (Or.inr hz)]
      simp [upd, hz]
theorem gEl_ro {a : Nat} : gRO (gEl a).1 = false := by
  unfold gEl
  split <;> rfl
theorem g_aald {a q : Nat} {i : Int32} (X : gX p R s m args c E own cc nL d) (h8 : 8 ≤ a) (ha : a < 11) (hin : vp_in i (gEl a).2.2.2) (hF : B.2.1 q i.toNatClampNeg = true) (hd : decode cc pc = .ok (.aaload, 1)) (k : gWW p l e R s m args below meth c Q E nL (pc + 1) ls (.inr (.inl ((gEl a).1, q + (gEl a).2.1 + (gEl a).2.2.1 * i.toNatClampNeg)) :: st) M B) :
    gWW p l e R s m args below meth c Q E nL pc ls (.inl i :: .inr (.inl (a, q)) :: st) M B := by
  intro H locs la hH hS hL hV hB
  obtain ⟨hq, hk⟩ := (vh (vd hV)).obj (gRO_lt (by omega))
  have hlt : i.toNatClampNeg < (gEl a).2.2.2 := Nat.not_le.mp fun q => hin (Or.inr q)
  have hqN : q < gN := Nat.lt_of_lt_of_le hq hH.1
  have hk2 := gK_elm (j := i.toNatClampNeg) hqN (by omega) (by omega) (by rw [hk]; exact hlt)
  have hn := (hH.2.1 q hq _ hF).2 (by omega) (by omega) (by rw [hk]; exact hlt)
  rw [hk] at hk2 hn
  have kk := k H locs la hH hS hL (vc (Or.inr ⟨hn, hk2.1⟩) (vd (vd hV))) hB
  rw [List.map_cons, gtr_ref gEl_ro] at kk
  show W _ _ _ _ _ _ _ _ _ _ _ _ _ _ _ (F0 m pc la (.int i :: gtr E (.inr (.inl (a, q))) :: st.map (gtr E)))
  rw [gtr_ref (gRO_lt (by omega))]
  have hc : (gCs E M B.1 B.2.1)[q]? = some (E.1 + q, .inl (E.2.2.2.1 (a - 7), (gEl a).2.2.2, .inr (.inr (.inr (.inr (fun j => if B.2.1 q j = true then some (E.1 + (q + (gEl a).2.1 + (gEl a).2.2.1 * j)) else none)))))) := by rw [gCs_at hq, gCt_arr h8 ha hk]
  have e1 : va_rf (if B.2.1 q i.toNatClampNeg = true then some (E.1 + (q + (gEl a).2.1 + (gEl a).2.2.1 * i.toNatClampNeg)) else none) = .ref (E.1 + (q + (gEl a).2.1 + (gEl a).2.2.1 * i.toNatClampNeg)) := by rw [if_pos hF]; rfl
  have e2 : a = 8 ∨ a = 9 ∨ a = 10 := by omega
  rcases e2 with rfl | rfl | rfl
  · exact va_aldq X.1 X.2.1 X.2.2.2.2.2.1.1 hH.2.2.2 q 1 hc rfl hin hd (by rw [e1]; exact kk)
  · exact va_aldq X.1 X.2.1 X.2.2.2.2.2.1.1 hH.2.2.2 q 2 hc rfl hin hd (by rw [e1]; exact kk)
  · exact va_aldq X.1 X.2.1 X.2.2.2.2.2.1.1 hH.2.2.2 q 3 hc rfl hin hd (by rw [e1]; exact kk)
theorem gRO_in {k : Nat} (h : k < 6) : gRO (50 + k) = true := by
  have : k = 0 ∨ k = 1 ∨ k = 2 ∨ k = 3 ∨ k = 4 ∨ k = 5 := by omega
  rcases this with rfl | rfl | rfl | rfl | rfl | rfl <;> rfl
theorem gtr_ro {E : gE} {k q : Nat} (h : k < 6) : gtr E (.inr (.inl (50 + k, q))) = .ref (E.2.1 k) := by
  show Value.ref (if gRO (50 + k) = true then _ else _) = _
  rw [gRO_in h, if_pos rfl, Nat.add_sub_cancel_left]
theorem g_iaro {k0 q : Nat} {i : Int32} (X : gX p R s m args c E own cc nL d) (hk : k0 < 6) (hin : vp_in i (gRl E k0)) (hd : decode cc pc = .ok (.iaload, 1)) (k : gWW p l e R s m args below meth c Q E nL (pc + 1) ls (.inl (gRx E k0 i.toNatClampNeg) :: st) M B) :
    gWW p l e R s m args below meth c Q E nL pc ls (.inl i :: .inr (.inl (50 + k0, q)) :: st) M B := by
  intro H locs la hH hS hL hV hB
  show W _ _ _ _ _ _ _ _ _ _ _ _ _ _ _ (F0 m pc la (.int i :: gtr E (.inr (.inl (50 + k0, q))) :: st.map (gtr E)))
  rw [gtr_ro hk]
  obtain ⟨-, -, -, -, hro, -, hsz⟩ := X.2.2.2.2.2.1
  have h1 := hro k0 hk
  exact va_sld X.1 X.2.1 h1.1 (Nat.lt_of_lt_of_le h1.2 hsz) (Nat.not_le.mpr h1.2) hS hin hd (k H locs la hH hS hL (vc trivial (vd (vd hV))) hB)
theorem g_alro {k0 q : Nat} (X : gX p R s m args c E own cc nL d) (hk : k0 < 6) (hd : decode cc pc = .ok (.arraylength, 1)) (k : gWW p l e R s m args below meth c Q E nL (pc + 1) ls (.inl (nI (gRl E k0)) :: st) M B) :
    gWW p l e R s m args below meth c Q E nL pc ls (.inr (.inl (50 + k0, q)) :: st) M B := by
  intro H locs la hH hS hL hV hB
  show W _ _ _ _ _ _ _ _ _ _ _ _ _ _ _ (F0 m pc la (gtr E (.inr (.inl (50 + k0, q))) :: st.map (gtr E)))
  rw [gtr_ro hk]
  obtain ⟨-, -, -, -, hro, -, hsz⟩ := X.2.2.2.2.2.1
  have h1 := hro k0 hk
  exact va_slen X.1 X.2.1 h1.1 (Nat.lt_of_lt_of_le h1.2 hsz) (Nat.not_le.mpr h1.2) hS hd (k H locs la hH hS hL (vc trivial (vd hV)) hB)
theorem g_gets {k0 i : Nat} (X : gX p R s m args c E own cc nL d) (hk : k0 < 5) (hw : Cond.fieldLink own i "CrustBlocks" (gSn k0) "[I" ∈ gA) (hd : decode cc pc = .ok (.getstatic i, 3)) (k : gWW p l e R s m args below meth c Q E nL (pc + 3) ls (.inr (.inl (50 + k0, 0)) :: st) M B) :
    gWW p l e R s m args below meth c Q E nL pc ls st M B := by
  intro H locs la hH hS hL hV hB
  have kk := k H locs la hH hS hL (vc (Or.inl (gRO_in (by omega))) hV) hB
  rw [List.map_cons, gtr_ro (by omega)] at kk
  exact va_gets X.1 X.2.1 (X.2.2.2.2.2.1.2.2.2.1 k0 hk) hS X.2.2.2.1 (X.2.2.2.2.1 _ hw) (fun _ h => h) hd kk
theorem g_getsN {k0 i : Nat} {host : String} (X : gX p R s m args c E own cc nL d) (hk : k0 < 5) (hw : (own, i, "CrustBlocks", gSn k0, "[I", host) ∈ gNf) (hd : decode cc pc = .ok (.getstatic i, 3)) (k : gWW p l e R s m args below meth c Q E nL (pc + 3) ls (.inr (.inl (50 + k0, 0)) :: st) M B) :
    gWW p l e R s m args below meth c Q E nL pc ls st M B := by
  intro H locs la hH hS hL hV hB
  have kk := k H locs la hH hS hL (vc (Or.inl (gRO_in (by omega))) hV) hB
  rw [List.map_cons, gtr_ro (by omega)] at kk
  exact va_getsN X.1 X.2.1 (X.2.2.2.2.2.1.2.2.2.1 k0 hk) hS X.2.2.2.1 (va_Nw.use rfl (X.2.2.2.2.2.1.2.2.1 _ hw)) (fun _ h => h) hd kk
theorem g_copy {a0 a1 q0 q1 i N : Nat} (X : gX p R s m args c E own cc nL d) (h0 : 100 ≤ a0) (h1 : 100 ≤ a1) (hn0 : N ≤ a0 - 100) (hn1 : N ≤ a1 - 100) (hN : N < 2 ^ 31) (hlink : Cond.methodLink own i arraycopyName ∈ gA) (hnat : Cond.native arraycopyName ∈ gA) (hstat : Cond.static arraycopyName ∈ gA) (hini : Cond.initialized "java/lang/System" ∈ gA)
    (hdp : 1 ≤ d) (hr : ((st.map (gtr E)).map fun v => v.category).sum ≤ 8) (hd : decode cc pc = .ok (.invokestatic i, 3)) (k : gWW p l e R s m args below meth c Q E nL (pc + 3) ls st (gCp M q0 q1 N) B) :
    gWW p l e R s m args below meth c Q E nL pc ls (.inl (nI N) :: .inl 0 :: .inr (.inl (a1, q1)) :: .inl 0 :: .inr (.inl (a0, q0)) :: st) M B := by
  intro H locs la hH hS hL hV hB
  obtain ⟨hq1, hk1⟩ := (vh (vd (vd hV))).obj (gRO_ge h1)
  obtain ⟨hq0, hk0⟩ := (vh (vd (vd (vd (vd hV))))).obj (gRO_ge h0)
  show W _ _ _ _ _ _ _ _ _ _ _ _ _ _ _ (F0 m pc la (.int (nI N) :: .int 0 :: gtr E (.inr (.inl (a1, q1))) :: .int 0 :: gtr E (.inr (.inl (a0, q0))) :: st.map (gtr E)))
  rw [gtr_ref (gRO_ge h1), gtr_ref (gRO_ge h0)]
  have hts := X.2.2.2.2.1
  have hcl : (nI N).toNatClampNeg = N := nI_clamp hN
  have ha0 : (gCs E M B.1 B.2.1)[q0]? = some (E.1 + q0, .inl (E.2.2.2.1 0, a0 - 100, .inl (M q0))) := by rw [gCs_at hq0, gCt_int (by omega) hk0]
  have ha1 : (gCs E M B.1 B.2.1)[q1]? = some (E.1 + q1, .inl (E.2.2.2.1 0, a1 - 100, .inl (M q1))) := by rw [gCs_at hq1, gCt_int (by omega) hk1]
  intro T hT XT
  have hc0 : H[E.1 + q0]? = some (vp_cell (E.2.2.2.1 0) (a0 - 100, .inl (M q0))) := hH.2.2.2 q0 _ ha0
  have hc1 : H[E.1 + q1]? = some (vp_cell (E.2.2.2.1 0) (a1 - 100, .inl (M q1))) := hH.2.2.2 q1 _ ha1
  have hK := X.2.2.2.2.2.1.1
  obtain ⟨-, k0, hk0', cm0, hkk0⟩ := (hK.2 0 _ rfl).1 (a0 - 100) (fun j => .int (M q0 j))
  obtain ⟨-, k1, hk1', cm1, hkk1⟩ := (hK.2 0 _ rfl).1 (a1 - 100) (fun j => .int (M q1 j))
  have hz0 : ((0 : Int32).toNatClampNeg) = 0 := rfl
  have hzi : ((0 : Int32).toInt) = 0 := rfl
  have hNi : (nI N).toInt = (N : Int) := nI_toInt hN
  have hroom : 2 * 0 + ((st.map (gtr E)).map fun v => v.category).sum + (nativeFrameWords "java/lang/System" "arraycopy" 5 + 11) ≤ 39 * d := by
    have h7 : nativeFrameWords "java/lang/System" "arraycopy" 5 = 7 := by decide +kernel
    rw [h7]
    omega
  obtain ⟨vm', X', step⟩ := XT.arraycopy X.1 X.2.2.2.1 (hts _ hlink) (hts _ hnat) (hts _ hstat) (hts _ hini) (src := E.1 + q0) (dst := E.1 + q1) (cs := vp_cell (E.2.2.2.1 0) (a0 - 100, .inl (M q0))) (cd := vp_cell (E.2.2.2.1 0) (a1 - 100, .inl (M q1))) (srcPos := 0) (destPos := 0) (n := nI N) (by rw [hT]; exact hc0) (by rw [hT]; exact hc1)
    (fun _ h => by cases h) (fun _ h => by cases h) (fun h => by cases h) (fun h => by cases h) hk0' hk1' hkk0 hkk1 (by simp [refKind]) (by decide) (by decide) (nI_pos hN)
    (by rw [hzi, hNi]; show ¬ _ > ((arrV _ (a0 - 100) (fun j => .int (M q0 j))).slots.size : Int); rw [arrV_size]; omega)
    (by rw [hzi, hNi]; show ¬ _ > ((arrV _ (a1 - 100) (fun j => .int (M q1 j))).slots.size : Int); rw [arrV_size]; omega)
    (fun vm₁ _ i hi => by
      have e : (vp_cell (E.2.2.2.1 0) (a0 - 100, .inl (M q0))).slots.getD ((0 : Int32).toNatClampNeg + i) .null = .int (M q0 i) := by
        show (arrV _ (a0 - 100) (fun j => .int (M q0 j))).slots.getD _ _ = _
        rw [hcl] at hi
        rw [Array.getD_eq_getD_getElem?, arrV_read _ _ (by omega), hz0, Nat.zero_add]
        rfl
      refine ⟨?_, ?_⟩
      · rw [e]
        rfl
      · rw [e]
        exact trivial)
    (g := F0 m pc la (.int (nI N) :: .int 0 :: .ref (E.1 + q1) :: .int 0 :: .ref (E.1 + q0) :: st.map (gtr E))) rfl (by rw [X.2.2.1]; exact hL.1) (rest := st.map (gtr E)) rfl (by rw [X.2.1]; exact hd) (by rw [X.2.2.2.2.2.2.1]; exact hdp) (Nat.le_trans hroom X.2.2.2.2.2.2.2)
  have e1 : copied (vp_cell (E.2.2.2.1 0) (a0 - 100, .inl (M q0))) (vp_cell (E.2.2.2.1 0) (a1 - 100, .inl (M q1))) 0 0 (nI N) = vp_cell (E.2.2.2.1 0) (a1 - 100, .inl (va_cpy (M q0) (M q1) (0 : Int32).toNatClampNeg (0 : Int32).toNatClampNeg (nI N).toNatClampNeg)) := va_copied (fun z => .int z) _ _ _ _ (by rw [hcl, hz0]; omega)
  rw [e1] at X' step
  have hl : E.1 + q1 < H.size := (Array.getElem?_eq_some_iff.mp hc1).1
  generalize hcell : vp_cell (E.2.2.2.1 0) (a1 - 100, .inl (va_cpy (M q0) (M q1) (0 : Int32).toNatClampNeg (0 : Int32).toNatClampNeg (nI N).toNatClampNeg)) = cn at X' step
  have hheap : ((T.setVm vm').setCell (E.1 + q1) cn).heap = H.setIfInBounds (E.1 + q1) cn := by rw [← hT]; rfl
  have oq : ∀ q : Nat, q ≠ E.1 + q1 → (H.setIfInBounds (E.1 + q1) cn)[q]? = H[q]? := fun q hq => by simp [Array.getElem?_setIfInBounds, Ne.symm hq]
  have hP1 : va_P E.2.2.1 vwCl (gCs E (gCp M q0 q1 N) B.1 B.2.1) (H.setIfInBounds (E.1 + q1) cn) := by
    have hP1 : va_P E.2.2.1 vwCl ((gCs E M B.1 B.2.1).set q1 (E.1 + q1, .inl (E.2.2.2.1 0, a1 - 100, .inl (va_cpy (M q0) (M q1) (0 : Int32).toNatClampNeg (0 : Int32).toNatClampNeg (nI N).toNatClampNeg)))) (H.setIfInBounds (E.1 + q1) cn) := by
      refine hH.2.2.2.set (gCs_D E M B.1 B.2.1) ha1 ?_ oq
      show (H.setIfInBounds _ _)[E.1 + q1]? = some _
      rw [← hcell]
      simp [Array.getElem?_setIfInBounds, hl]
    rw [gCs_set (M' := gCp M q0 q1 N) (F' := B.2.1) hq1 ?_ (fun j hj => gCt_row (gCp_row hj) rfl)] at hP1
    · exact hP1
    · rw [gCt_int (by omega) hk1]
      congr 3
      refine congrArg Sum.inl (funext fun z => ?_)
      rw [hcl, hz0]
      unfold va_cpy gCp
      by_cases hz : z < N
      · rw [if_pos ⟨rfl, hz⟩, if_pos ⟨Nat.zero_le _, by omega⟩, Nat.zero_add, Nat.sub_zero]
      · rw [if_neg (fun h => hz h.2), if_neg (fun h => hz (by omega))]
  obtain ⟨t, a1, b1⟩ := k _ (locs ++ _) la ⟨hH.1, hH.2.1, by simp; exact hH.2.2.1, hP1⟩ ⟨by simp; exact hS.1, fun q g1 g2 => by
      rw [oq q (fun e => g2 (by rw [e]; exact Nat.le_add_right _ _))]
      exact hS.2.1 q g1 g2, fun q hq => by
      rcases List.mem_append.mp hq with h | h
      · exact hS.2.2 q h
      · obtain ⟨z, -, hz⟩ := List.mem_map.mp h
        rw [← hz]
        exact Nat.le_add_right _ _⟩ hL (vd (vd (vd (vd (vd hV))))) hB _ hheap X'
  exact ⟨t, step t a1, b1⟩
theorem g_mmin {i : Nat} {x y : Int32} (X : gX p R s m args c E own cc nL d) (hlink : Cond.methodLink own i Lib.Math.min.name ∈ gA) (hstat : Cond.static Lib.Math.min.name ∈ gA) (hini : Cond.initialized "java/lang/Math" ∈ gA) (hcode : Cond.code Lib.Math.min.name Lib.Math.min.code 2 (some .int) ∈ gA)
    (hdp : 1 ≤ d) (hr : ((st.map (gtr E)).map fun v => v.category).sum ≤ 8) (hd : decode cc pc = .ok (.invokestatic i, 3)) (k : gWW p l e R s m args below meth c Q E nL (pc + 3) ls (.inl (if y < x then y else x) :: st) M B) :
    gWW p l e R s m args below meth c Q E nL pc ls (.inl y :: .inl x :: st) M B := by
  intro H locs la hH hS hL hV hB
  have hts := X.2.2.2.2.1
  exact va_mmin X.1 X.2.1 (X.2.2.1.trans hL.1.symm) X.2.2.2.1 (hts _ hlink) (hts _ hstat) (hts _ hini) (hts _ hcode) (by rw [X.2.2.2.2.2.2.1]; exact hdp) (by have := X.2.2.2.2.2.2.2; omega) hB.1 hB.2 hd (k H locs la hH hS hL (vc trivial (vd (vd hV))) hB)
theorem g_mmax {i : Nat} {x y : Int32} (X : gX p R s m args c E own cc nL d) (hlink : Cond.methodLink own i Lib.Math.max.name ∈ gA) (hstat : Cond.static Lib.Math.max.name ∈ gA) (hini : Cond.initialized "java/lang/Math" ∈ gA) (hcode : Cond.code Lib.Math.max.name Lib.Math.max.code 2 (some .int) ∈ gA)
    (hdp : 1 ≤ d) (hr : ((st.map (gtr E)).map fun v => v.category).sum ≤ 8) (hd : decode cc pc = .ok (.invokestatic i, 3)) (k : gWW p l e R s m args below meth c Q E nL (pc + 3) ls (.inl (if x < y then y else x) :: st) M B) :
    gWW p l e R s m args below meth c Q E nL pc ls (.inl y :: .inl x :: st) M B := by
  intro H locs la hH hS hL hV hB
  have hts := X.2.2.2.2.1
  exact va_mmax X.1 X.2.1 (X.2.2.1.trans hL.1.symm) X.2.2.2.1 (hts _ hlink) (hts _ hstat) (hts _ hini) (hts _ hcode) (by rw [X.2.2.2.2.2.2.1]; exact hdp) (by have := X.2.2.2.2.2.2.2; omega) hB.1 hB.2 hd (k H locs la hH hS hL (vc trivial (vd (vd hV))) hB)
theorem g_mminl {i : Nat} {x y : Int64} (X : gX p R s m args c E own cc nL d) (hlink : Cond.methodLink own i Lib.MathLoose.min_long.x ∈ gA) (hstat : Cond.static Lib.MathLoose.min_long.x ∈ gA) (hini : Cond.initialized "java/lang/Math" ∈ gA) (hcode : Cond.code Lib.MathLoose.min_long.x Lib.MathLoose.min_long.code 4 (some .long) ∈ gA)
    (hdp : 1 ≤ d) (hr : ((st.map (gtr E)).map fun v => v.category).sum ≤ 8) (hd : decode cc pc = .ok (.invokestatic i, 3)) (k : gWW p l e R s m args below meth c Q E nL (pc + 3) ls (.inr (.inr (.inl (if y < x then y else x))) :: st) M B) :
    gWW p l e R s m args below meth c Q E nL pc ls (.inr (.inr (.inl y)) :: .inr (.inr (.inl x)) :: st) M B := by
  intro H locs la hH hS hL hV hB
  have hts := X.2.2.2.2.1
  exact va_mmin_long X.1 X.2.1 (X.2.2.1.trans hL.1.symm) X.2.2.2.1 (hts _ hlink) (hts _ hstat) (hts _ hini) (hts _ hcode) (by rw [X.2.2.2.2.2.2.1]; exact hdp) (by have := X.2.2.2.2.2.2.2; omega) hB.1 hB.2 hd (k H locs la hH hS hL (vc trivial (vd (vd hV))) hB)
end GHEAP2
