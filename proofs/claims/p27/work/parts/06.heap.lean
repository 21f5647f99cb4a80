def gUp (M : gM) (q k : Nat) (x : Int32) : gM := fun q' k' => if q' = q ∧ k' = k then x else M q' k'
theorem gUp_same (M : gM) (q k : Nat) (x : Int32) : gUp M q k x q k = x := if_pos ⟨rfl, rfl⟩
theorem gUp_ne {M : gM} {q k q' k' : Nat} {x : Int32} (h : q' ≠ q ∨ k' ≠ k) : gUp M q k x q' k' = M q' k' := if_neg (fun e => h.elim (fun h => h e.1) (fun h => h e.2))
theorem gUp_row {M : gM} {q k q' : Nat} {x : Int32} (h : q' ≠ q) : gUp M q k x q' = M q' := funext fun _ => gUp_ne (Or.inl h)
def gCp (M : gM) (q0 q1 n : Nat) : gM := fun q j => if q = q1 ∧ j < n then M q0 j else M q j
theorem gCp_row {M : gM} {q0 q1 n q : Nat} (h : q ≠ q1) : gCp M q0 q1 n q = M q := funext fun _ => if_neg (fun e => h e.1)
theorem gCt_row {E : gE} {M M' : gM} {F F' : gR} {q : Nat} (h : M q = M' q) (hF : F q = F' q) : gCt E M F q = gCt E M' F' q := by
  unfold gCt gFv
  rw [h, hF]
theorem gCt_obj {E : gE} {M : gM} {F : gR} {q a : Nat} (ha : a < 8) (h : gK q = a) : gCt E M F q = .inr (a, (List.range (gFl a).length).map (fun k => gFv E M F q k ((gFl a).getD k none))) := by
  unfold gCt
  rw [h, if_pos ha]
theorem gCt_arr {E : gE} {M : gM} {F : gR} {q a : Nat} (h8 : 8 ≤ a) (ha : a < 11) (h : gK q = a) : gCt E M F q = .inl (E.2.2.2.1 (a - 7), (gEl a).2.2.2, .inr (.inr (.inr (.inr (fun j => if F q j = true then some (E.1 + (q + (gEl a).2.1 + (gEl a).2.2.1 * j)) else none))))) := by
  unfold gCt
  rw [h, if_neg (by omega), if_pos ha]
theorem gCt_int {E : gE} {M : gM} {F : gR} {q a : Nat} (ha : 11 ≤ a) (h : gK q = a) : gCt E M F q = .inl (E.2.2.2.1 0, a - 100, .inl (M q)) := by
  unfold gCt
  rw [h, if_neg (by omega), if_neg (by omega)]
theorem map_set {α β : Type} (l : List α) (f g : α → β) (k : Nat) (v : β) (hv : ∀ a, l[k]? = some a → g a = v) (ho : ∀ j a, j ≠ k → l[j]? = some a → g a = f a) : (l.map f).set k v = l.map g := by
  apply List.ext_getElem?
  intro j
  by_cases hj : j = k
  · subst hj
    by_cases hl : j < l.length
    · rw [List.getElem?_set_self (by simpa using hl), List.getElem?_map]
      obtain ⟨a, ha⟩ : ∃ a, l[j]? = some a := ⟨l[j], List.getElem?_eq_getElem hl⟩
      rw [ha, Option.map_some, hv a ha]
    · rw [List.getElem?_eq_none (by simp; omega), List.getElem?_eq_none (by simp; omega)]
  · rw [List.getElem?_set_ne (Ne.symm hj), List.getElem?_map, List.getElem?_map]
    cases ha : l[j]? with
    | none => rfl
    | some a => rw [Option.map_some, Option.map_some, ho j a hj ha]
theorem gOk.obj {n a q : Nat} (ha : gRO a = false) (h : gOk n (.inr (.inl (a, q)))) : q < n ∧ gK q = a := by
  rcases h with h | h
  · rw [ha] at h; cases h
  · exact h
theorem gRO_lt {a : Nat} (h : a < 50) : gRO a = false := by
  unfold gRO
  rw [show Nat.ble 50 a = false from Bool.eq_false_iff.mpr (fun h1 => by have := Nat.ble_eq.mp h1; omega)]
  rfl
theorem gRO_ge {a : Nat} (h : 100 ≤ a) : gRO a = false := by
  unfold gRO
  rw [show Nat.ble a 59 = false from Bool.eq_false_iff.mpr (fun h1 => by have := Nat.ble_eq.mp h1; omega)]
  simp
theorem gtr_ref {E : gE} {t q : Nat} (h : gRO t = false) : gtr E (.inr (.inl (t, q))) = .ref (E.1 + q) := by
  show Value.ref (if gRO t = true then _ else _) = _
  rw [h]; rfl
section GHEAP
variable {p : Program} {l : Launch} {e : Env} {R : Room} {s : State} {m : MethodId} {args : Array Value} {below : List Frame} {meth : Method} {c : Code} {Q : State → Prop} {E : gE} {nL : Nat}
variable {own : String} {cc : ByteArray} {d : Nat} {pc : Nat} {ls : gLs} {st : List gV} {M : gM} {B : gB}
/-- what a class's row of the table says, as the field rows want it -/
def gCl (a : Nat) (r : vw_C) : Prop := a < 8 ∧ vwCl[a]? = some r ∧ (∀ w ∈ u_ws r.1 r.2.1 r.2.2, w ∈ gA) ∧ (gFl a).length = r.2.2 ∧ (∀ k, k < r.2.2 → ∃ ty, parseFieldDescriptor (r.2.1 k).2.2.1 = some ty ∧ ((gFl a)[k]? = some none → ty = .int ∧ (r.2.1 k).2.2.2 = false) ∧ (∀ t δ, (gFl a)[k]? = some (some (t, δ)) → (∀ q : Nat, narrow ty (.ref q) = .ref q ∧ fits ty (.ref q) = true) ∧ (r.2.1 k).2.2.2 = true)) ∧
  ∀ x, x < r.2.2 → ∀ y, y < r.2.2 → x ≠ y → (r.2.1 x).2.1 ≠ (r.2.1 y).2.1
theorem g_getI {i a b q : Nat} {r : vw_C} (hr : gCl a r) (hw : Cond.fieldLink own i (r.2.1 b).1 (r.2.1 b).2.1 (r.2.1 b).2.2.1 ∈ gA) (hd : decode cc pc = .ok (.getfield i, 3)) (hf : (gFl a)[b]? = some none) (X : gX p R s m args c E own cc nL d) (k : gWW p l e R s m args below meth c Q E nL (pc + 3) ls (.inl (M q b) :: st) M B) :
    gWW p l e R s m args below meth c Q E nL pc ls (.inr (.inl (a, q)) :: st) M B := by
  intro H locs la hH hS hL hV hB
  obtain ⟨ha, hc, hin, hlen, -, -⟩ := hr
  obtain ⟨hq, hk⟩ := (vh hV).obj (gRO_lt (by omega))
  have hb : b < (gFl a).length := (List.getElem?_eq_some_iff.mp hf).1
  show W _ _ _ _ _ _ _ _ _ _ _ _ _ _ _ (F0 m pc la (gtr E (.inr (.inl (a, q))) :: st.map (gtr E)))
  rw [gtr_ref (gRO_lt (by omega))]
  refine va_get (v := .int (M q b)) X.1 X.2.1 X.2.2.2.2.1 hin X.2.2.2.1 X.2.2.2.2.2.1.1 hH.2.2.2 q (by rw [gCs_at hq, gCt_obj ha hk]) hc b (by omega) (X.2.2.2.2.1 _ hw) (fun _ h => h) ?_ hd (k H locs la hH hS hL (vc trivial (vd hV)) hB)
  rw [List.getElem?_map, List.getElem?_range hb, Option.map_some, List.getD_eq_getElem?_getD, hf]
  rfl
theorem g_getR {i a b q t δ : Nat} {r : vw_C} (hr : gCl a r) (hw : Cond.fieldLink own i (r.2.1 b).1 (r.2.1 b).2.1 (r.2.1 b).2.2.1 ∈ gA) (hd : decode cc pc = .ok (.getfield i, 3)) (hf : (gFl a)[b]? = some (some (t, δ))) (hF : B.2.1 q b = true) (X : gX p R s m args c E own cc nL d) (k : gWW p l e R s m args below meth c Q E nL (pc + 3) ls (.inr (.inl (t, q + δ)) :: st) M B) :
    gWW p l e R s m args below meth c Q E nL pc ls (.inr (.inl (a, q)) :: st) M B := by
  intro H locs la hH hS hL hV hB
  obtain ⟨ha, hc, hin, hlen, -, -⟩ := hr
  obtain ⟨hq, hk⟩ := (vh hV).obj (gRO_lt (by omega))
  have hb : b < (gFl a).length := (List.getElem?_eq_some_iff.mp hf).1
  have hqN : q < gN := Nat.lt_of_lt_of_le hq hH.1
  have hf2 : (gFl (gK q))[b]? = some (some (t, δ)) := by rw [hk]; exact hf
  have ht := gK_fld hqN hf2
  have hv : gOk B.1 (.inr (.inl (t, q + δ))) := Or.inr ⟨((hH.2.1 q hq b hF).1 t δ hf2), ht.1⟩
  show W _ _ _ _ _ _ _ _ _ _ _ _ _ _ _ (F0 m pc la (gtr E (.inr (.inl (a, q))) :: st.map (gtr E)))
  rw [gtr_ref (gRO_lt (by omega))]
  have kk := k H locs la hH hS hL (vc hv (vd hV)) hB
  rw [List.map_cons, gtr_ref (gFl_ro hf)] at kk
  refine va_get (v := .ref (E.1 + (q + δ))) X.1 X.2.1 X.2.2.2.2.1 hin X.2.2.2.1 X.2.2.2.2.2.1.1 hH.2.2.2 q (by rw [gCs_at hq, gCt_obj ha hk]) hc b (by omega) (X.2.2.2.2.1 _ hw) (fun _ h => h) ?_ hd kk
  rw [List.getElem?_map, List.getElem?_range hb, Option.map_some, List.getD_eq_getElem?_getD, hf]
  show some (if B.2.1 q b = true then _ else _) = _
  rw [if_pos hF]
/-- va_put, and the heap keeps its size -/
theorem gz_put {D : va_G} {cl : List vw_C} {A : Nat → Prop} {tys : List (ClassId × FieldType)} {ws : va_W} {H H0 : Heap} {locs : List Loc} {cells slots : Nat} {a pc : Nat} {la : Array Slot} {rest : List Value} (hexec : p.tables.exec = Jvm.exec) (hb : c.code = cc) {own ref C : String} {T : u_T} {N ci index : Nat} {Ts : List Cond} (hts : ∀ w ∈ Ts, w.before args s = true) (hin : ∀ w ∈ u_ws C T N, w ∈ Ts) (ty0 : Nat → FieldType) (hty : ∀ k, k < N → parseFieldDescriptor (T k).2.2.1 = some (ty0 k)) (hnm : ∀ a, a < N → ∀ b, b < N → a ≠ b → (T a).2.1 ≠ (T b).2.1) (hown : s.vm.findClass own = some m.cls) (hK : va_K D cl tys s) (hP : va_P D cl ws H) (hD : va_D A ws) (hS0 : va_S A H0 H locs) (q0 : Nat) {fs : List Value} (he : ws[q0]? = some (a, .inr (ci, fs))) (hc : cl[ci]? = some (C, T, N)) (k : Nat) (hk : k < N) (hlink : (Cond.fieldLink own index ref (T k).2.1 (T k).2.2.1).before args s = true) (hsame : ∀ x, s.fieldFound? (T k).1 (T k).2.1 (T k).2.2.1 = some x → s.fieldFound? ref (T k).2.1 (T k).2.2.1 = some x) (hfin : (T k).2.2.2 = false) {ty : FieldType} {v : Value} (hd : parseFieldDescriptor (T k).2.2.1 = some ty) (hn : narrow ty v = v) (hfit : fits ty v = true) (hl : k < fs.length)
    (hdg : decode cc pc = .ok (.putfield index, 3)) (kk : ∀ (H1 : Heap) (locs1 : List Loc), H1.size = H.size → va_P D cl (ws.set q0 (a, .inr (ci, fs.set k v))) H1 → va_S A H0 H1 locs1 → W p l e R s m args below meth c H1 locs1 cells slots Q (F0 m (pc + 3) la rest)) : W p l e R s m args below meth c H locs cells slots Q (F0 m pc la (v :: .ref a :: rest)) := by
  have hap := va_apart (own := own) hts hin ty0 hty hnm hK hc
  obtain ⟨r, h1, cell, q1, q2, q3, q4⟩ := hP q0 _ he
  have hr : r = (C, T, N) := Option.some.inj (h1.symm.trans hc)
  subst hr
  obtain ⟨hS, hfc, kC, hkC, hkind⟩ := hK.1 ci _ hc
  obtain ⟨cf, kf, fi, f, hi, hsl⟩ := hS k hk
  have hlay := hts _ (hin _ (u_in_lay hk))
  unfold u_lay at hlay
  rw [if_neg (by rw [hfin]; decide)] at hlay
  have hst := (u_facts hfc hkC (u_lays hts hin hk) hi).1
  have h6 := u_store hfc hkC hkind hlay hi hd hn hfit
  refine W.putK hexec hb (f := f) ⟨hown, hlink, ⟨_, _, _, hsame _ hi⟩, hst⟩ (by rw [q2]; exact h6) q1 q3 (by rw [hsl]; exact k2_hasslot (q4 k hk)) rfl rfl hdg fun H' e1 e2 e3 => ?_
  rw [hsl] at e1 ⊢
  exact kk H' _ e2 (hP.set hD he ⟨_, hc, t_OB.to (V := updV (vp_V fs) k v) ⟨_, e1, q2, q3, t_set q4 hap hk v⟩ (fun j _ => vp_updV_set hl v j)⟩ e3) (hS0.put e2 e3 (hD.2 q0 _ he))
/-- ... of a final field, in a constructor -/
theorem gz_putF {D : va_G} {cl : List vw_C} {A : Nat → Prop} {tys : List (ClassId × FieldType)} {ws : va_W} {H H0 : Heap} {locs : List Loc} {cells slots : Nat} {a pc : Nat} {la : Array Slot} {rest : List Value} (hexec : p.tables.exec = Jvm.exec) (hb : c.code = cc) {own ref C : String} {T : u_T} {N ci index : Nat} {Ts : List Cond} (hts : ∀ w ∈ Ts, w.before args s = true) (hin : ∀ w ∈ u_ws C T N, w ∈ Ts) (ty0 : Nat → FieldType) (hty : ∀ k, k < N → parseFieldDescriptor (T k).2.2.1 = some (ty0 k)) (hnm : ∀ a, a < N → ∀ b, b < N → a ≠ b → (T a).2.1 ≠ (T b).2.1) (hown : s.vm.findClass own = some m.cls) (hK : va_K D cl tys s) (hP : va_P D cl ws H) (hD : va_D A ws) (hS0 : va_S A H0 H locs) (q0 : Nat) {fs : List Value} (he : ws[q0]? = some (a, .inr (ci, fs))) (hc : cl[ci]? = some (C, T, N)) (k : Nat) (hk : k < N) (hlink : (Cond.fieldLink own index ref (T k).2.1 (T k).2.2.1).before args s = true) (hsame : ∀ x, s.fieldFound? (T k).1 (T k).2.1 (T k).2.2.1 = some x → s.fieldFound? ref (T k).2.1 (T k).2.2.1 = some x) (hfin : (T k).2.2.2 = true) (hin2 : meth.name = "<init>") (hdecl : (T k).1 = own) {ty : FieldType} {v : Value} (hd : parseFieldDescriptor (T k).2.2.1 = some ty) (hn : narrow ty v = v) (hfit : fits ty v = true) (hl : k < fs.length)
    (hdg : decode cc pc = .ok (.putfield index, 3)) (kk : ∀ (H1 : Heap) (locs1 : List Loc), H1.size = H.size → va_P D cl (ws.set q0 (a, .inr (ci, fs.set k v))) H1 → va_S A H0 H1 locs1 → W p l e R s m args below meth c H1 locs1 cells slots Q (F0 m (pc + 3) la rest)) : W p l e R s m args below meth c H locs cells slots Q (F0 m pc la (v :: .ref a :: rest)) := by
  have hap := va_apart (own := own) hts hin ty0 hty hnm hK hc
  obtain ⟨r, h1, cell, q1, q2, q3, q4⟩ := hP q0 _ he
  have hr : r = (C, T, N) := Option.some.inj (h1.symm.trans hc)
  subst hr
  obtain ⟨hS, hfc, kC, hkC, hkind⟩ := hK.1 ci _ hc
  obtain ⟨cf, kf, fi, f, hi, hsl⟩ := hS k hk
  have hlay := hts _ (hin _ (u_in_lay hk))
  unfold u_lay at hlay
  rw [if_pos hfin] at hlay
  have hst := (u_facts hfc hkC (u_lays hts hin hk) hi).1
  have hcf : m.cls = cf := by
    obtain ⟨_, _, c', _, _, _, -, -, hf', -, -, -, hown2, -⟩ := Cond.laysFinal_spec hlay
    have e1 : c' = cf := by have := hi.symm.trans hf'; simp at this; exact this.1.symm
    rw [hdecl] at hown2
    rw [← e1]; exact Option.some.inj (hown.symm.trans hown2)
  have h6 := u_fits hfc hkC hkind (Or.inr hlay) hi hd hn hfit
  refine W.putFinK hexec hb hown hlink (hsame _ hi) hst hcf hin2 (by rw [q2]; exact h6) q1 q3 (by rw [hsl]; exact k2_hasslot (q4 k hk)) rfl rfl hdg fun H' e1 e2 e3 => ?_
  rw [hsl] at e1 ⊢
  exact kk H' _ e2 (hP.set hD he ⟨_, hc, t_OB.to (V := updV (vp_V fs) k v) ⟨_, e1, q2, q3, t_set q4 hap hk v⟩ (fun j _ => vp_updV_set hl v j)⟩ e3) (hS0.put e2 e3 (hD.2 q0 _ he))
theorem g_putI {i a b q : Nat} {r : vw_C} {x : Int32} (hr : gCl a r) (hw : Cond.fieldLink own i (r.2.1 b).1 (r.2.1 b).2.1 (r.2.1 b).2.2.1 ∈ gA) (hd : decode cc pc = .ok (.putfield i, 3)) (hf : (gFl a)[b]? = some none) (X : gX p R s m args c E own cc nL d) (k : gWW p l e R s m args below meth c Q E nL (pc + 3) ls st (gUp M q b x) B) :
    gWW p l e R s m args below meth c Q E nL pc ls (.inl x :: .inr (.inl (a, q)) :: st) M B := by
  intro H locs la hH hS hL hV hB
  obtain ⟨ha, hc, hin, hlen, hty, hnm⟩ := hr
  obtain ⟨hq, hk⟩ := (vh (vd hV)).obj (gRO_lt (by omega))
  have hb : b < (gFl a).length := (List.getElem?_eq_some_iff.mp hf).1
  obtain ⟨ty, hp, h1, -⟩ := hty b (by omega)
  obtain ⟨rfl, hfin⟩ := h1 hf
  show W _ _ _ _ _ _ _ _ _ _ _ _ _ _ _ (F0 m pc la (.int x :: gtr E (.inr (.inl (a, q))) :: st.map (gtr E)))
  rw [gtr_ref (gRO_lt (by omega))]
  refine gz_put (v := .int x) X.1 X.2.1 X.2.2.2.2.1 hin (fun k => if h : k < r.2.2 then (hty k h).choose else .int) (fun k hk => by rw [dif_pos hk]; exact (hty k hk).choose_spec.1) hnm X.2.2.2.1 X.2.2.2.2.2.1.1 hH.2.2.2 (gCs_D E M B.1 B.2.1) hS q (by rw [gCs_at hq, gCt_obj ha hk]) hc b (by omega) (X.2.2.2.2.1 _ hw) (fun _ h => h) hfin hp rfl rfl (by simp; omega) hd
    (fun H1 locs1 hz hP1 hS1 => ?_)
  refine k H1 locs1 la ⟨hH.1, hH.2.1, hz.trans hH.2.2.1, ?_⟩ hS1 hL (vd (vd hV)) hB
  rw [gCs_set (M' := gUp M q b x) (F' := B.2.1) hq ?_ (fun j hj => gCt_row (gUp_row hj) rfl)] at hP1
  · exact hP1
  · rw [gCt_obj ha hk]
    congr 2
    refine (map_set _ _ _ _ _ (fun j hj => ?_) (fun j j2 hne hj => ?_)).symm
    · have : j = b := by
        have := List.getElem?_range hb
        rw [this] at hj; exact (Option.some.inj hj).symm
      subst this
      rw [List.getD_eq_getElem?_getD, hf]
      exact congrArg Value.int (gUp_same M q j x)
    · have : j2 = j := by
        have hl := (List.getElem?_eq_some_iff.mp hj).1
        rw [List.getElem?_range (by simpa using hl)] at hj; exact (Option.some.inj hj).symm
      subst this
      cases h9 : (gFl a).getD j2 none with
      | none => exact congrArg Value.int (gUp_ne (Or.inr hne))
      | some td => rfl
end GHEAP
