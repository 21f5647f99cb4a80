/-! what constructors do, an instruction a row -/
def gFu (F : gR) (q k : Nat) : gR := fun q' k' => if q' = q ∧ k' = k then true else F q' k'
theorem gFu_same (F : gR) (q k : Nat) : gFu F q k q k = true := if_pos ⟨rfl, rfl⟩
theorem gFu_ne {F : gR} {q k q' k' : Nat} (h : q' ≠ q ∨ k' ≠ k) : gFu F q k q' k' = F q' k' := if_neg (fun e => h.elim (fun h => h e.1) (fun h => h e.2))
theorem gFu_row {F : gR} {q k q' : Nat} (h : q' ≠ q) : gFu F q k q' = F q' := funext fun _ => gFu_ne (Or.inl h)
theorem gCs_push (E : gE) (M : gM) (n : Nat) (F : gR) : gCs E M (n + 1) F = gCs E M n F ++ [(E.1 + n, gCt E M F n)] := by
  unfold gCs
  rw [List.range_succ, List.map_append]
  rfl
/-- nothing stands at a place that is not made yet -/
def gFree (n : Nat) (M : gM) (F : gR) : Prop := ∀ q, n ≤ q → ∀ k, M q k = 0 ∧ F q k = false
theorem gFree.mono {n n' : Nat} {M : gM} {F : gR} (h : gFree n M F) (hn : n ≤ n') : gFree n' M F := fun q hq => h q (Nat.le_trans hn hq)
theorem gRk_push {n : Nat} {F : gR} (h : gRk n F) (hz : ∀ k, F n k = false) : gRk (n + 1) F := by
  intro p hp j hj
  have hlt : p < n := by
    rcases Nat.lt_or_ge p n with a | a
    · exact a
    · have : p = n := by omega
      subst this
      rw [hz j] at hj
      cases hj
  have := h p hlt j hj
  exact ⟨fun t δ e => Nat.lt_succ_of_lt (this.1 t δ e), fun a b c => Nat.lt_succ_of_lt (this.2 a b c)⟩
theorem dflt_ref {ty : FieldType} (h : ∀ q : Nat, narrow ty (.ref q) = .ref q ∧ fits ty (.ref q) = true) : defaultValue ty = .null := by
  have := (h 0).2
  cases ty <;> first | rfl | (simp [fits] at this; done)
section GMAKE
variable {p : Program} {l : Launch} {e : Env} {R : Room} {s : State} {m : MethodId} {args : Array Value} {below : List Frame} {meth : Method} {c : Code} {Q : State → Prop} {E : gE} {nL : Nat}
variable {own : String} {cc : ByteArray} {d : Nat} {pc : Nat} {ls : gLs} {st : List gV} {M : gM} {B : gB}
theorem g_oinit {i a q : Nat} (X : gX p R s m args c E own cc nL d) (hw : Cond.methodLink own i objectInit ∈ gA) (hdp : 1 ≤ d) (ha : a < 8) (hr : ((st.map (gtr E)).map fun v => v.category).sum ≤ 8) (hd : decode cc pc = .ok (.invokespecial i, 3)) (k : gWW p l e R s m args below meth c Q E nL (pc + 3) ls st M B) :
    gWW p l e R s m args below meth c Q E nL pc ls (.inr (.inl (a, q)) :: st) M B := by
  intro H locs la hH hS hL hV hB
  have hts := X.2.2.2.2.1
  show W _ _ _ _ _ _ _ _ _ _ _ _ _ _ _ (F0 m pc la (gtr E (.inr (.inl (a, q))) :: st.map (gtr E)))
  rw [gtr_ref (gRO_lt (by omega))]
  refine W.objInit X.1 X.2.1 X.2.2.2.1 (hts _ hw) (hts _ im_objectInit) (hts _ co_objectInit) rfl (by rw [X.2.2.1]; exact hL.1) rfl hd (by rw [X.2.2.2.2.2.2.1]; exact hdp) (by refine Nat.le_trans ?_ X.2.2.2.2.2.2.2; show 2 * 0 + _ + 12 ≤ 39 * d; omega) ?_
  exact W.eq (g2 := F0 m (pc + 3) la (st.map (gtr E))) rfl (k H locs la hH hS hL (vd hV) hB)
theorem g_new {i a : Nat} {r : vw_C} (X : gX p R s m args c E own cc nL d) (hr : gCl a r) (hcl : Cond.classLink own i r.1 ∈ gA) (hinst : Cond.instantiable r.1 r.2.2 ∈ gA) (hini : Cond.initialized r.1 ∈ gA) (hn : B.1 < gN) (hk : gK B.1 = a) (hz : ∀ k, M B.1 k = 0 ∧ B.2.1 B.1 k = false) (hd : decode cc pc = .ok (.new i, 3)) (hB2 : B.2.2.1 + 1 ≤ R.cells ∧ B.2.2.2 + r.2.2 ≤ R.slots)
    (k : gWW p l e R s m args below meth c Q E nL (pc + 3) ls (.inr (.inl (a, B.1)) :: st) M (B.1 + 1, B.2.1, B.2.2.1 + 1, B.2.2.2 + r.2.2)) : gWW p l e R s m args below meth c Q E nL pc ls st M B := by
  intro H locs la hH hS hL hV hB
  have hts := X.2.2.2.2.1
  obtain ⟨ha, hc, hin, hlen, hty, -⟩ := hr
  have hK := X.2.2.2.2.2.1.1
  have hKn := hK.1 a _ hc
  refine W.newcK X.1 X.2.1 X.2.2.2.1 (hts _ hcl) (hts _ hinst) (hts _ hini) rfl hd hB2.1 hB2.2 hKn.2.1 rfl fun H1 kC hkC e1 z1 o1 => ?_
  have hk0 : ∀ (k : Nat) (x : Nat × va_E), (gCs E M B.1 B.2.1)[k]? = some x → H1[x.1]? = H[x.1]? := fun k x hx => o1 x.1 ((hH.2.2.2 k x hx).lt)
  have kk := k H1 locs la ⟨hn, gRk_push hH.2.1 (fun k => (hz k).2), by rw [z1, hH.2.2.1]; rfl, ?_⟩ ⟨Nat.le_trans hS.1 (by omega), fun x h1 h2 => (o1 x (Nat.lt_of_lt_of_le h1 hS.1)).trans (hS.2.1 x h1 h2), hS.2.2⟩ (hL.mono (Nat.le_succ _)) (vc (Or.inr ⟨Nat.lt_succ_self _, hk⟩) (fun v hv => (hV v hv).mono (Nat.le_succ _))) hB2
  · rw [List.map_cons, gtr_ref (gRO_lt (by omega))] at kk
    rw [hH.2.2.1]
    exact kk
  · show va_P E.2.2.1 vwCl (gCs E M (B.1 + 1) B.2.1) H1
    rw [gCs_push]
    refine (hH.2.2.2.kept hk0).app (fun k x hx => ?_)
    have hz2 : k < 1 := (List.getElem?_eq_some_iff.mp hx).1
    rw [show k = 0 by omega] at hx
    cases hx
    rw [gCt_obj ha hk]
    have hty2 : ∀ k, k < r.2.2 → parseFieldDescriptor (r.2.1 k).2.2.1 = some ((fun k => if h : k < r.2.2 then (hty k h).choose else .int) k) := fun k hk => by
      show _ = some (if h : k < r.2.2 then (hty k h).choose else .int)
      rw [dif_pos hk]
      exact (hty k hk).choose_spec.1
    rw [hH.2.2.1] at e1
    refine ⟨_, hc, (u_born _ hts hin hKn hkC e1 hty2).to (fun j hj => ?_)⟩
    show defaultValue (if h : j < r.2.2 then (hty j h).choose else .int) = _
    rw [dif_pos hj]
    have hs := (hty j hj).choose_spec.2
    have hjl : j < (gFl a).length := by omega
    obtain ⟨T, hT⟩ : ∃ T, T = (hty j hj).choose := ⟨_, rfl⟩
    rw [← hT] at hs ⊢
    unfold vp_V
    rw [List.getD_eq_getElem?_getD, List.getElem?_map, List.getElem?_range hjl, Option.map_some, Option.getD_some, List.getD_eq_getElem?_getD, List.getElem?_eq_getElem hjl, Option.getD_some]
    cases hf : (gFl a)[j] with
    | none =>
      rw [((hs.1 (by rw [List.getElem?_eq_getElem hjl, hf])).1)]
      show Value.int 0 = Value.int (M B.1 j)
      rw [(hz j).1]
    | some td =>
      obtain ⟨t, δ⟩ := td
      rw [dflt_ref ((hs.2 t δ (by rw [List.getElem?_eq_getElem hjl, hf])).1)]
      show _ = if B.2.1 B.1 j = true then _ else Value.null
      rw [if_neg (by rw [(hz j).2]; decide)]
theorem g_newI {N : Nat} (X : gX p R s m args c E own cc nL d) (hN : N ≤ 100000) (hn : B.1 < gN) (hk : gK B.1 = 100 + N) (hz : ∀ k, M B.1 k = 0 ∧ B.2.1 B.1 k = false) (hd : decode cc pc = .ok (.newarray .int, 2)) (hB2 : B.2.2.1 + 1 ≤ R.cells ∧ B.2.2.2 + N ≤ R.slots)
    (k : gWW p l e R s m args below meth c Q E nL (pc + 2) ls (.inr (.inl (100 + N, B.1)) :: st) M (B.1 + 1, B.2.1, B.2.2.1 + 1, B.2.2.2 + N)) : gWW p l e R s m args below meth c Q E nL pc ls (.inl (nI N) :: st) M B := by
  intro H locs la hH hS hL hV hB
  have hts := X.2.2.2.2.1
  have hK := X.2.2.2.2.2.1.1
  refine va_newaK (atype := .int) X.1 X.2.1 (hts _ ac_int) rfl hd rfl (nI_pos (by omega)) (nI_clamp (by omega)) (by show N * 4 ≤ 536870912; omega) hB2.1 hB2.2 rfl fun H1 cA e1 z1 o1 hAr hNm => ?_
  have hc0 : cA = E.2.2.2.1 0 := by
    have h0 : s.vm.findClass ("[" ++ (FieldType.int).toString) = some (E.2.2.2.1 0) := (hK.2 0 _ rfl).2
    exact Option.some.inj (hNm.symm.trans h0)
  subst hc0
  have hk0 : ∀ (k : Nat) (x : Nat × va_E), (gCs E M B.1 B.2.1)[k]? = some x → H1[x.1]? = H[x.1]? := fun k x hx => o1 x.1 ((hH.2.2.2 k x hx).lt)
  have kk := k H1 locs la ⟨hn, gRk_push hH.2.1 (fun k => (hz k).2), by rw [z1, hH.2.2.1]; rfl, ?_⟩ ⟨Nat.le_trans hS.1 (by omega), fun x h1 h2 => (o1 x (Nat.lt_of_lt_of_le h1 hS.1)).trans (hS.2.1 x h1 h2), hS.2.2⟩ (hL.mono (Nat.le_succ _)) (vc (Or.inr ⟨Nat.lt_succ_self _, hk⟩) (fun v hv => (vd hV v hv).mono (Nat.le_succ _))) hB2
  · rw [List.map_cons, gtr_ref (gRO_ge (by omega))] at kk
    rw [hH.2.2.1]
    exact kk
  · show va_P E.2.2.1 vwCl (gCs E M (B.1 + 1) B.2.1) H1
    rw [gCs_push]
    refine (hH.2.2.2.kept hk0).app (fun k x hx => ?_)
    have hz2 : k < 1 := (List.getElem?_eq_some_iff.mp hx).1
    rw [show k = 0 by omega] at hx
    cases hx
    rw [gCt_int (a := 100 + N) (by omega) hk, Nat.add_sub_cancel_left]
    rw [hH.2.2.1] at e1
    show H1[E.1 + B.1]? = some (arrV (E.2.2.2.1 0) N (fun j => .int (M B.1 j)))
    rw [e1]
    congr 2
    funext j
    rw [(hz j).1]
    rfl
def gCn (a : Nat) : String := match a with
  | 8 => "CrustBlocks$Column"
  | 9 => "CrustBlocks$Crust"
  | _ => "CrustBlocks$State"
theorem g_newA {i a : Nat} (X : gX p R s m args c E own cc nL d) (h8 : 8 ≤ a) (ha : a < 11) (hcl : Cond.classLink own i (gCn a) ∈ gA) (hn : B.1 < gN) (hk : gK B.1 = a) (hz : ∀ k, M B.1 k = 0 ∧ B.2.1 B.1 k = false) (hd : decode cc pc = .ok (.anewarray i, 3)) (hB2 : B.2.2.1 + 1 ≤ R.cells ∧ B.2.2.2 + (gEl a).2.2.2 ≤ R.slots)
    (k : gWW p l e R s m args below meth c Q E nL (pc + 3) ls (.inr (.inl (a, B.1)) :: st) M (B.1 + 1, B.2.1, B.2.2.1 + 1, B.2.2.2 + (gEl a).2.2.2)) : gWW p l e R s m args below meth c Q E nL pc ls (.inl (nI (gEl a).2.2.2) :: st) M B := by
  intro H locs la hH hS hL hV hB
  have hts := X.2.2.2.2.1
  have hK := X.2.2.2.2.2.1.1
  have hao : va_AO (gCn a) s ∧ (s.vm.findClass ("[" ++ (FieldType.object (gCn a)).toString) = some (E.2.2.2.1 (a - 7))) ∧ (gEl a).2.2.2 ≤ 10 := by
    obtain ⟨a1, a2, a3⟩ := X.2.2.2.2.2.1.2.2.2.2.2.1
    rcases (by omega : a = 8 ∨ a = 9 ∨ a = 10) with rfl | rfl | rfl
    · obtain ⟨_, _, _, _, _, hf⟩ := (hK.2 1 _ rfl).2
      exact ⟨a1, hf, by decide⟩
    · obtain ⟨_, _, _, _, _, hf⟩ := (hK.2 2 _ rfl).2
      exact ⟨a2, hf, by decide⟩
    · obtain ⟨_, _, _, _, _, hf⟩ := (hK.2 3 _ rfl).2
      exact ⟨a3, hf, by decide⟩
  obtain ⟨hover, hfc, hN10⟩ := hao
  have hcN : (nI (gEl a).2.2.2).toNatClampNeg = (gEl a).2.2.2 := nI_clamp (by omega)
  refine W.anew X.1 X.2.1 X.2.2.2.1 (hts _ hcl) (va_AO.use hover) rfl hd rfl (nI_pos (by omega)) (by rw [hcN]; omega) hB2.1 (by rw [hcN]; exact hB2.2) fun cA kA comp f1 f2 f3 f4 => ?_
  have hc0 : cA = E.2.2.2.1 (a - 7) := Option.some.inj (f1.symm.trans hfc)
  subst hc0
  rw [hcN]
  generalize hH1 : H.push ({ cls := E.2.2.2.1 (a - 7), slots := Array.replicate (gEl a).2.2.2 .null, vm := .none } : Cell) = H1
  have z1 : H1.size = H.size + 1 := by rw [← hH1, Array.size_push]
  have e1 : H1[H.size]? = some (arrV (E.2.2.2.1 (a - 7)) (gEl a).2.2.2 (fun _ => .null)) := by rw [← hH1, Array.getElem?_push_size, ← arrV_new]
  have o1 : ∀ q : Nat, q < H.size → H1[q]? = H[q]? := fun q hq => by rw [← hH1, Array.getElem?_push, if_neg (Nat.ne_of_lt hq)]
  have hk0 : ∀ (k : Nat) (x : Nat × va_E), (gCs E M B.1 B.2.1)[k]? = some x → H1[x.1]? = H[x.1]? := fun k x hx => o1 x.1 ((hH.2.2.2 k x hx).lt)
  have kk := k H1 locs la ⟨hn, gRk_push hH.2.1 (fun k => (hz k).2), by rw [z1, hH.2.2.1]; rfl, ?_⟩ ⟨Nat.le_trans hS.1 (by omega), fun x h1 h2 => (o1 x (Nat.lt_of_lt_of_le h1 hS.1)).trans (hS.2.1 x h1 h2), hS.2.2⟩ (hL.mono (Nat.le_succ _)) (vc (Or.inr ⟨Nat.lt_succ_self _, hk⟩) (fun v hv => (vd hV v hv).mono (Nat.le_succ _))) hB2
  · rw [List.map_cons, gtr_ref (gRO_lt (by omega))] at kk
    rw [hH.2.2.1]
    exact kk
  · show va_P E.2.2.1 vwCl (gCs E M (B.1 + 1) B.2.1) H1
    rw [gCs_push]
    refine (hH.2.2.2.kept hk0).app (fun k x hx => ?_)
    have hz2 : k < 1 := (List.getElem?_eq_some_iff.mp hx).1
    rw [show k = 0 by omega] at hx
    cases hx
    rw [gCt_arr h8 ha hk]
    rw [hH.2.2.1] at e1
    show H1[E.1 + B.1]? = some (vp_cell _ _)
    rw [e1, vp_cell_q]
    congr 2
    funext j
    rw [if_neg (by rw [(hz j).2]; decide)]
    rfl
/-- a reference into a field that a constructor sets -/
theorem g_putR {i a b q t δ : Nat} {r : vw_C} (X : gX p R s m args c E own cc nL d) (hr : gCl a r) (hw : Cond.fieldLink own i (r.2.1 b).1 (r.2.1 b).2.1 (r.2.1 b).2.2.1 ∈ gA) (hin2 : meth.name = "<init>") (hdecl : (r.2.1 b).1 = own) (hd : decode cc pc = .ok (.putfield i, 3)) (hf : (gFl a)[b]? = some (some (t, δ)))
    (k : gWW p l e R s m args below meth c Q E nL (pc + 3) ls st M (B.1, gFu B.2.1 q b, B.2.2)) : gWW p l e R s m args below meth c Q E nL pc ls (.inr (.inl (t, q + δ)) :: .inr (.inl (a, q)) :: st) M B := by
  intro H locs la hH hS hL hV hB
  obtain ⟨ha, hc, hin, hlen, hty, hnm⟩ := hr
  obtain ⟨hq, hk⟩ := (vh (vd hV)).obj (gRO_lt (by omega))
  have hro : gRO t = false := gFl_ro hf
  obtain ⟨hqv, hkv⟩ := (vh hV).obj hro
  have hb : b < (gFl a).length := (List.getElem?_eq_some_iff.mp hf).1
  obtain ⟨ty, hp, -, h2⟩ := hty b (by omega)
  obtain ⟨hnf, hfin⟩ := h2 t δ hf
  show W _ _ _ _ _ _ _ _ _ _ _ _ _ _ _ (F0 m pc la (gtr E (.inr (.inl (t, q + δ))) :: gtr E (.inr (.inl (a, q))) :: st.map (gtr E)))
  rw [gtr_ref (t := t) hro, gtr_ref (t := a) (gRO_lt (by omega))]
  refine gz_putF (v := .ref (E.1 + (q + δ))) X.1 X.2.1 X.2.2.2.2.1 hin (fun k => if h : k < r.2.2 then (hty k h).choose else .int) (fun k hk => by rw [dif_pos hk]; exact (hty k hk).choose_spec.1) hnm X.2.2.2.1 X.2.2.2.2.2.1.1 hH.2.2.2 (gCs_D E M B.1 B.2.1) hS q (by rw [gCs_at hq, gCt_obj ha hk]) hc b (by omega) (X.2.2.2.2.1 _ hw) (fun _ h => h) hfin hin2 hdecl hp (hnf _).1 (hnf _).2 (by simp; omega) hd
    (fun H1 locs1 hz hP1 hS1 => ?_)
  refine k H1 locs1 la ⟨hH.1, ?_, hz.trans hH.2.2.1, ?_⟩ hS1 hL (vd (vd hV)) hB
  · intro p hp j hj
    by_cases e : p = q ∧ j = b
    · obtain ⟨rfl, rfl⟩ := e
      refine ⟨fun t' δ' e => ?_, fun h8 => by omega⟩
      rw [hk, hf] at e
      cases e
      exact hqv
    · have hj : (if p = q ∧ j = b then true else B.2.1 p j) = true := hj
      rw [if_neg e] at hj
      exact hH.2.1 p hp j hj
  · rw [gCs_set (M' := M) (F' := gFu B.2.1 q b) hq ?_ (fun j hj => gCt_row rfl (gFu_row hj))] at hP1
    · exact hP1
    · rw [gCt_obj ha hk]
      congr 2
      refine (map_set _ _ _ _ _ (fun j hj => ?_) (fun j j2 hne hj => ?_)).symm
      · have : j = b := by
          have := List.getElem?_range hb
          rw [this] at hj; exact (Option.some.inj hj).symm
        subst this
        rw [List.getD_eq_getElem?_getD, hf]
        exact if_pos (gFu_same _ _ _)
      · have : j2 = j := by
          have hl := (List.getElem?_eq_some_iff.mp hj).1
          rw [List.getElem?_range (by simpa using hl)] at hj; exact (Option.some.inj hj).symm
        subst this
        cases h9 : (gFl a).getD j2 none with
        | none => rfl
        | some td =>
          show (if gFu B.2.1 q b q j2 = true then _ else _) = if B.2.1 q j2 = true then _ else _
          rw [gFu_ne (Or.inr hne)]
/-- a reference into an array of references -/
theorem g_astR {a q : Nat} {i : Int32} {r : vw_C} (X : gX p R s m args c E own cc nL d) (h8 : 8 ≤ a) (ha : a < 11) (hr : gCl (gEl a).1 r) (hrn : r.1 = gCn a) (hin : vp_in i (gEl a).2.2.2) (hd : decode cc pc = .ok (.aastore, 1))
    (k : gWW p l e R s m args below meth c Q E nL (pc + 1) ls st M (B.1, gFu B.2.1 q i.toNatClampNeg, B.2.2)) :
    gWW p l e R s m args below meth c Q E nL pc ls (.inr (.inl ((gEl a).1, q + (gEl a).2.1 + (gEl a).2.2.1 * i.toNatClampNeg)) :: .inl i :: .inr (.inl (a, q)) :: st) M B := by
  intro H locs la hH hS hL hV hB
  obtain ⟨hq, hk⟩ := (vh (vd (vd hV))).obj (gRO_lt (by omega))
  obtain ⟨hqv, hkv⟩ := (vh hV).obj gEl_ro
  have hlt : i.toNatClampNeg < (gEl a).2.2.2 := Nat.not_le.mp fun q => hin (Or.inr q)
  have h0 : ¬ i < 0 := fun q => hin (Or.inl q)
  obtain ⟨hr8, hrc, -⟩ := hr
  show W _ _ _ _ _ _ _ _ _ _ _ _ _ _ _ (F0 m pc la (gtr E (.inr (.inl ((gEl a).1, _))) :: .int i :: gtr E (.inr (.inl (a, q))) :: st.map (gtr E)))
  rw [gtr_ref (t := (gEl a).1) gEl_ro, gtr_ref (t := a) (gRO_lt (by omega))]
  have hK := X.2.2.2.2.2.1.1
  have hca : (gCs E M B.1 B.2.1)[q]? = some (E.1 + q, .inl (E.2.2.2.1 (a - 7), (gEl a).2.2.2, .inr (.inr (.inr (.inr (fun j => if B.2.1 q j = true then some (E.1 + (q + (gEl a).2.1 + (gEl a).2.2.1 * j)) else none)))))) := by rw [gCs_at hq, gCt_arr h8 ha hk]
  obtain ⟨vs, hcv⟩ : ∃ vs, (gCs E M B.1 B.2.1)[q + (gEl a).2.1 + (gEl a).2.2.1 * i.toNatClampNeg]? = some (E.1 + (q + (gEl a).2.1 + (gEl a).2.2.1 * i.toNatClampNeg), .inr ((gEl a).1, vs)) := ⟨_, by rw [gCs_at hqv, gCt_obj hr8 hkv]⟩
  have hty : (gTys E)[a - 7]? = some (E.2.2.2.1 (a - 7), .object r.1) := by
    rw [hrn]
    rcases (by omega : a = 8 ∨ a = 9 ∨ a = 10) with rfl | rfl | rfl <;> rfl
  obtain ⟨r', hr', cellV, g1, g2, g3, -⟩ := hH.2.2.2 _ _ hcv
  have hcls := (hK.1 (gEl a).1 r hrc).2
  obtain ⟨kA, comp, k1, k2, k3, -⟩ := (hK.2 (a - 7) _ hty).2
  have hcomp : comp = E.2.2.1.1 (gEl a).1 := Option.some.inj (k3.symm.trans hcls.1)
  subst hcomp
  obtain ⟨kC, hkC, -⟩ := hcls.2
  refine W.aast X.1 X.2.1 (hH.2.2.2 q _ hca) (fun q h => by cases h) (fun h => by cases h) k1 k2 rfl hkC ⟨h0, by show _ < (arrV _ _ _).slots.size; rw [arrV_size]; exact hlt⟩ g1 (fun q h => by rw [g3] at h; cases h) (by rw [g2]; exact hkC) (by rw [g2]; exact va_assign hcls) rfl rfl hd fun H1 e z oq => ?_
  refine k H1 (locs ++ _) la ⟨hH.1, ?_, z.trans hH.2.2.1, ?_⟩ (hS.put z oq (Nat.le_add_right _ _)) hL (vd (vd (vd hV))) hB
  · intro p hp j hj
    by_cases e : p = q ∧ j = i.toNatClampNeg
    · obtain ⟨rfl, rfl⟩ := e
      refine ⟨fun t' δ' e => ?_, fun _ _ _ => ?_⟩
      · have hnil : gFl (gK p) = [] := by
          rw [hk]
          rcases (by omega : a = 8 ∨ a = 9 ∨ a = 10) with rfl | rfl | rfl <;> rfl
        rw [hnil] at e
        cases e
      · rw [hk]
        exact hqv
    · have hj : (if p = q ∧ j = i.toNatClampNeg then true else B.2.1 p j) = true := hj
      rw [if_neg e] at hj
      exact hH.2.1 p hp j hj
  · have hP1 : va_P E.2.2.1 vwCl ((gCs E M B.1 B.2.1).set q (E.1 + q, .inl (E.2.2.2.1 (a - 7), (gEl a).2.2.2, .inr (.inr (.inr (.inr (va_up (fun j => if B.2.1 q j = true then some (E.1 + (q + (gEl a).2.1 + (gEl a).2.2.1 * j)) else none) i.toNatClampNeg (some (E.1 + (q + (gEl a).2.1 + (gEl a).2.2.1 * i.toNatClampNeg)))))))))) H1 := by
      refine hH.2.2.2.set (gCs_D E M B.1 B.2.1) hca ?_ oq
      show H1[E.1 + q]? = some (vp_cell _ _)
      rw [e]
      show some (Cell.setSlot (vp_cell _ _) _ _) = _
      rw [vp_cell_q, vp_cell_q, arrV_store]
      congr 2
      funext q
      by_cases hq : q = i.toNatClampNeg
      · subst hq
        simp [updV, va_up, va_rf]
      · simp [updV, va_up, hq]
    rw [gCs_set (M' := M) (F' := gFu B.2.1 q i.toNatClampNeg) hq ?_ (fun j hj => gCt_row rfl (gFu_row hj))] at hP1
    · exact hP1
    · rw [gCt_arr h8 ha hk]
      congr 7
      funext j
      unfold va_up
      by_cases hj : j = i.toNatClampNeg
      · subst hj
        rw [if_pos (gFu_same _ _ _)]
        simp
      · rw [gFu_ne (Or.inr hj)]
        simp [hj]
end GMAKE
