/-! ONE INSTRUCTION, ONE ROW: over the world of part 03 -/
def gX (p : Program) (R : Room) (s : State) (m : MethodId) (args : Array Value) (c : Code) (E : gE) (own : String) (cc : ByteArray) (nL d : Nat) : Prop :=
  p.tables.exec = Jvm.exec ∧ c.code = cc ∧ c.maxLocals = nL ∧ s.vm.findClass own = some m.cls ∧ (∀ w ∈ gA, w.before args s = true) ∧ gEnv E s ∧ R.frames = d ∧ 39 * d ≤ R.locals
def gWW (p : Program) (l : Launch) (e : Env) (R : Room) (s : State) (m : MethodId) (args : Array Value) (below : List Frame) (meth : Method) (c : Code) (Q : State → Prop) (E : gE) (nL : Nat) (pc : Nat) (ls : gLs) (st : List gV) (M : gM) (B : gB) : Prop :=
  ∀ (H : Heap) (locs : List Loc) (la : Array Slot), gH E M B.1 B.2.1 H → va_S (fun q => E.1 ≤ q) s.heap H locs → gLA E nL B.1 ls la → (∀ v ∈ st, gOk B.1 v) → B.2.2.1 ≤ R.cells ∧ B.2.2.2 ≤ R.slots →
    W p l e R s m args below meth c H locs B.2.2.1 B.2.2.2 Q (F0 m pc la (st.map (gtr E)))
section GOPS
variable {p : Program} {l : Launch} {e : Env} {R : Room} {s : State} {m : MethodId} {args : Array Value} {below : List Frame} {meth : Method} {c : Code} {Q : State → Prop} {E : gE} {nL : Nat}
variable {own : String} {cc : ByteArray} {d : Nat} {pc : Nat} {ls : gLs} {st : List gV} {M : gM} {B : gB}
theorem vd {n : Nat} {v : gV} {st : List gV} (h : ∀ w ∈ v :: st, gOk n w) : ∀ w ∈ st, gOk n w := fun w hw => h w (List.mem_cons_of_mem _ hw)
theorem vh {n : Nat} {v : gV} {st : List gV} (h : ∀ w ∈ v :: st, gOk n w) : gOk n v := h v List.mem_cons_self
theorem vc {n : Nat} {v : gV} {st : List gV} (hv : gOk n v) (h : ∀ w ∈ st, gOk n w) : ∀ w ∈ v :: st, gOk n w := fun w hw => by
  rcases List.mem_cons.mp hw with rfl | hw
  · exact hv
  · exact h w hw
theorem g_iconst (X : gX p R s m args c E own cc nL d) {n : Int} {v : Int32} (hd : decode cc pc = .ok (.iconst n, 1)) (hv : Int32.ofInt n = v) (k : gWW p l e R s m args below meth c Q E nL (pc + 1) ls (.inl v :: st) M B) : gWW p l e R s m args below meth c Q E nL pc ls st M B := by
  intro H locs la hH hS hL hV hB
  exact lv_iconst X.1 X.2.1 hd hv (k H locs la hH hS hL (vc trivial hV) hB)
theorem g_bipush (X : gX p R s m args c E own cc nL d) {n : Int} {v : Int32} (hd : decode cc pc = .ok (.bipush n, 2)) (hv : (Int8.ofInt n).toInt32 = v) (k : gWW p l e R s m args below meth c Q E nL (pc + 2) ls (.inl v :: st) M B) : gWW p l e R s m args below meth c Q E nL pc ls st M B := by
  intro H locs la hH hS hL hV hB
  exact lv_bipush X.1 X.2.1 hd hv (k H locs la hH hS hL (vc trivial hV) hB)
theorem g_sipush (X : gX p R s m args c E own cc nL d) {n : Int} {v : Int32} (hd : decode cc pc = .ok (.sipush n, 3)) (hv : (Int16.ofInt n).toInt32 = v) (k : gWW p l e R s m args below meth c Q E nL (pc + 3) ls (.inl v :: st) M B) : gWW p l e R s m args below meth c Q E nL pc ls st M B := by
  intro H locs la hH hS hL hV hB
  exact lv_sipush X.1 X.2.1 hd hv (k H locs la hH hS hL (vc trivial hV) hB)
theorem g_ldc (X : gX p R s m args c E own cc nL d) {i : Nat} {v : Int32} (hw : Cond.constant own i v ∈ gA) (hd : decode cc pc = .ok (.ldc i, 2)) (k : gWW p l e R s m args below meth c Q E nL (pc + 2) ls (.inl v :: st) M B) : gWW p l e R s m args below meth c Q E nL pc ls st M B := by
  intro H locs la hH hS hL hV hB
  exact lv_ldc X.1 X.2.1 X.2.2.2.1 (X.2.2.2.2.1 _ hw) hd (k H locs la hH hS hL (vc trivial hV) hB)
theorem g_ldc2 (X : gX p R s m args c E own cc nL d) {i : Nat} {v : Int64} (hw : Cond.constantLong own i v ∈ gA) (hd : decode cc pc = .ok (.ldc2_w i, 3)) (k : gWW p l e R s m args below meth c Q E nL (pc + 3) ls (.inr (.inr (.inl v)) :: st) M B) : gWW p l e R s m args below meth c Q E nL pc ls st M B := by
  intro H locs la hH hS hL hV hB
  exact lv_ldc2 X.1 X.2.1 X.2.2.2.1 (X.2.2.2.2.1 _ hw) hd (k H locs la hH hS hL (vc trivial hV) hB)
theorem g_iload_n (X : gX p R s m args c E own cc nL d) {i : Fin 4} {x : Int32} (hd : decode cc pc = .ok (.iload_n i, 1)) (hl : ls[(i : Nat)]? = some (some (.inl x))) (k : gWW p l e R s m args below meth c Q E nL (pc + 1) ls (.inl x :: st) M B) : gWW p l e R s m args below meth c Q E nL pc ls st M B := by
  intro H locs la hH hS hL hV hB
  exact lv_iload_n X.1 X.2.1 hd rfl (hL.2.2.2 _ _ hl).1 (k H locs la hH hS hL (vc trivial hV) hB)
theorem g_iload (X : gX p R s m args c E own cc nL d) {i : Nat} {x : Int32} (hd : decode cc pc = .ok (.iload i, 2)) (hl : ls[i]? = some (some (.inl x))) (k : gWW p l e R s m args below meth c Q E nL (pc + 2) ls (.inl x :: st) M B) : gWW p l e R s m args below meth c Q E nL pc ls st M B := by
  intro H locs la hH hS hL hV hB
  exact lv_iload X.1 X.2.1 hd (hL.2.2.2 _ _ hl).1 (k H locs la hH hS hL (vc trivial hV) hB)
theorem g_lload_n (X : gX p R s m args c E own cc nL d) {i : Fin 4} {x : Int64} (hd : decode cc pc = .ok (.lload_n i, 1)) (hl : ls[(i : Nat)]? = some (some (.inr (.inr (.inl x))))) (k : gWW p l e R s m args below meth c Q E nL (pc + 1) ls (.inr (.inr (.inl x)) :: st) M B) : gWW p l e R s m args below meth c Q E nL pc ls st M B := by
  intro H locs la hH hS hL hV hB
  exact lv_lload_n X.1 X.2.1 hd rfl (hL.2.2.2 _ _ hl).1 (k H locs la hH hS hL (vc trivial hV) hB)
theorem g_lload (X : gX p R s m args c E own cc nL d) {i : Nat} {x : Int64} (hd : decode cc pc = .ok (.lload i, 2)) (hl : ls[i]? = some (some (.inr (.inr (.inl x))))) (k : gWW p l e R s m args below meth c Q E nL (pc + 2) ls (.inr (.inr (.inl x)) :: st) M B) : gWW p l e R s m args below meth c Q E nL pc ls st M B := by
  intro H locs la hH hS hL hV hB
  exact lv_lload X.1 X.2.1 hd (hL.2.2.2 _ _ hl).1 (k H locs la hH hS hL (vc trivial hV) hB)
theorem g_aload_n (X : gX p R s m args c E own cc nL d) {i : Fin 4} {q : Nat × Nat} (hd : decode cc pc = .ok (.aload_n i, 1)) (hl : ls[(i : Nat)]? = some (some (.inr (.inl q)))) (k : gWW p l e R s m args below meth c Q E nL (pc + 1) ls (.inr (.inl q) :: st) M B) : gWW p l e R s m args below meth c Q E nL pc ls st M B := by
  intro H locs la hH hS hL hV hB
  exact lv_aload_n X.1 X.2.1 hd rfl (hL.2.2.2 _ _ hl).1 (k H locs la hH hS hL (vc (hL.2.2.2 _ _ hl).2 hV) hB)
theorem g_istore_n (X : gX p R s m args c E own cc nL d) {i : Fin 4} {x : Int32} (hd : decode cc pc = .ok (.istore_n i, 1)) (hi : (i : Nat) < nL) (hg : gNl ls (i : Nat)) (k : gWW p l e R s m args below meth c Q E nL (pc + 1) (ls.set (i : Nat) (some (.inl x))) st M B) : gWW p l e R s m args below meth c Q E nL pc ls (.inl x :: st) M B := by
  intro H locs la hH hS hL hV hB
  exact lv_istore_n X.1 X.2.1 hd rfl hL.has hi rfl (fun la' h' => k H locs la' hH hS (hL.put1 hi hg (v := .inl x) trivial h') (vd hV) hB)
theorem g_astore_n (X : gX p R s m args c E own cc nL d) {i : Fin 4} {q : Nat × Nat} (hd : decode cc pc = .ok (.astore_n i, 1)) (hi : (i : Nat) < nL) (hg : gNl ls (i : Nat)) (k : gWW p l e R s m args below meth c Q E nL (pc + 1) (ls.set (i : Nat) (some (.inr (.inl q)))) st M B) : gWW p l e R s m args below meth c Q E nL pc ls (.inr (.inl q) :: st) M B := by
  intro H locs la hH hS hL hV hB
  exact lv_astore_n X.1 X.2.1 hd rfl hL.has hi rfl (fun la' h' => k H locs la' hH hS (hL.put1 hi hg (v := .inr (.inl q)) (vh hV) h') (vd hV) hB)
theorem g_aload (X : gX p R s m args c E own cc nL d) {i : Nat} {q : Nat × Nat} (hd : decode cc pc = .ok (.aload i, 2)) (hl : ls[i]? = some (some (.inr (.inl q)))) (k : gWW p l e R s m args below meth c Q E nL (pc + 2) ls (.inr (.inl q) :: st) M B) : gWW p l e R s m args below meth c Q E nL pc ls st M B := by
  intro H locs la hH hS hL hV hB
  exact lv_aload X.1 X.2.1 hd (hL.2.2.2 _ _ hl).1 (k H locs la hH hS hL (vc (hL.2.2.2 _ _ hl).2 hV) hB)
theorem g_istore (X : gX p R s m args c E own cc nL d) {i : Nat} {x : Int32} (hd : decode cc pc = .ok (.istore i, 2)) (hi : i < nL) (hg : gNl ls i) (k : gWW p l e R s m args below meth c Q E nL (pc + 2) (ls.set i (some (.inl x))) st M B) : gWW p l e R s m args below meth c Q E nL pc ls (.inl x :: st) M B := by
  intro H locs la hH hS hL hV hB
  exact lv_istore X.1 X.2.1 hd hL.has hi rfl (fun la' h' => k H locs la' hH hS (hL.put1 hi hg (v := .inl x) trivial h') (vd hV) hB)
theorem g_astore (X : gX p R s m args c E own cc nL d) {i : Nat} {q : Nat × Nat} (hd : decode cc pc = .ok (.astore i, 2)) (hi : i < nL) (hg : gNl ls i) (k : gWW p l e R s m args below meth c Q E nL (pc + 2) (ls.set i (some (.inr (.inl q)))) st M B) : gWW p l e R s m args below meth c Q E nL pc ls (.inr (.inl q) :: st) M B := by
  intro H locs la hH hS hL hV hB
  exact lv_astore X.1 X.2.1 hd hL.has hi rfl (fun la' h' => k H locs la' hH hS (hL.put1 hi hg (v := .inr (.inl q)) (vh hV) h') (vd hV) hB)
theorem g_lstore (X : gX p R s m args c E own cc nL d) {i : Nat} {x : Int64} (hd : decode cc pc = .ok (.lstore i, 2)) (hi : i + 1 < nL) (hg : gNl ls i) (k : gWW p l e R s m args below meth c Q E nL (pc + 2) ((ls.set i (some (.inr (.inr (.inl x))))).set (i + 1) none) st M B) : gWW p l e R s m args below meth c Q E nL pc ls (.inr (.inr (.inl x)) :: st) M B := by
  intro H locs la hH hS hL hV hB
  exact lv_lstore X.1 X.2.1 hd hL.has hi rfl (fun la' h' => k H locs la' hH hS (hL.put2 hi hg h') (vd hV) hB)
theorem g_iinc (X : gX p R s m args c E own cc nL d) {i : Nat} {n : Int} {x v : Int32} (hd : decode cc pc = .ok (.iinc i n, 3)) (hl : ls[i]? = some (some (.inl x))) (hv : Int32.ofInt n = v) (hi : i < nL) (hg : gNl ls i) (k : gWW p l e R s m args below meth c Q E nL (pc + 3) (ls.set i (some (.inl (x + v)))) st M B) : gWW p l e R s m args below meth c Q E nL pc ls st M B := by
  intro H locs la hH hS hL hV hB
  obtain ⟨j, hj⟩ := List.getElem?_of_mem (gLp_mem (E := E) hl)
  exact lv_iinc (v := x + v) X.1 X.2.1 hd hL.has hj (by rw [hv]) hi rfl (fun la' h' => k H locs la' hH hS (hL.put1 hi hg (v := .inl (x + v)) trivial h') hV hB)
theorem g_iadd (X : gX p R s m args c E own cc nL d) {x y : Int32} (hd : decode cc pc = .ok (.iadd, 1)) (k : gWW p l e R s m args below meth c Q E nL (pc + 1) ls (.inl (x + y) :: st) M B) : gWW p l e R s m args below meth c Q E nL pc ls (.inl y :: .inl x :: st) M B := by
  intro H locs la hH hS hL hV hB
  exact lv_iadd X.1 X.2.1 hd (k H locs la hH hS hL (vc trivial (vd (vd hV))) hB)
theorem g_isub (X : gX p R s m args c E own cc nL d) {x y : Int32} (hd : decode cc pc = .ok (.isub, 1)) (k : gWW p l e R s m args below meth c Q E nL (pc + 1) ls (.inl (x - y) :: st) M B) : gWW p l e R s m args below meth c Q E nL pc ls (.inl y :: .inl x :: st) M B := by
  intro H locs la hH hS hL hV hB
  exact lv_isub X.1 X.2.1 hd (k H locs la hH hS hL (vc trivial (vd (vd hV))) hB)
theorem g_imul (X : gX p R s m args c E own cc nL d) {x y : Int32} (hd : decode cc pc = .ok (.imul, 1)) (k : gWW p l e R s m args below meth c Q E nL (pc + 1) ls (.inl (x * y) :: st) M B) : gWW p l e R s m args below meth c Q E nL pc ls (.inl y :: .inl x :: st) M B := by
  intro H locs la hH hS hL hV hB
  exact lv_imul X.1 X.2.1 hd (k H locs la hH hS hL (vc trivial (vd (vd hV))) hB)
theorem g_iand (X : gX p R s m args c E own cc nL d) {x y : Int32} (hd : decode cc pc = .ok (.iand, 1)) (k : gWW p l e R s m args below meth c Q E nL (pc + 1) ls (.inl (x &&& y) :: st) M B) : gWW p l e R s m args below meth c Q E nL pc ls (.inl y :: .inl x :: st) M B := by
  intro H locs la hH hS hL hV hB
  exact lv_iand X.1 X.2.1 hd (k H locs la hH hS hL (vc trivial (vd (vd hV))) hB)
theorem g_idiv (X : gX p R s m args c E own cc nL d) {x y : Int32} (hd : decode cc pc = .ok (.idiv, 1)) (hy : ¬ y = 0) (k : gWW p l e R s m args below meth c Q E nL (pc + 1) ls (.inl (x / y) :: st) M B) : gWW p l e R s m args below meth c Q E nL pc ls (.inl y :: .inl x :: st) M B := by
  intro H locs la hH hS hL hV hB
  exact lv_idiv X.1 X.2.1 hd hy (k H locs la hH hS hL (vc trivial (vd (vd hV))) hB)
theorem g_irem (X : gX p R s m args c E own cc nL d) {x y : Int32} (hd : decode cc pc = .ok (.irem, 1)) (hy : ¬ y = 0) (k : gWW p l e R s m args below meth c Q E nL (pc + 1) ls (.inl (x - x / y * y) :: st) M B) : gWW p l e R s m args below meth c Q E nL pc ls (.inl y :: .inl x :: st) M B := by
  intro H locs la hH hS hL hV hB
  exact lv_irem X.1 X.2.1 hd hy (k H locs la hH hS hL (vc trivial (vd (vd hV))) hB)
theorem g_ineg (X : gX p R s m args c E own cc nL d) {x : Int32} (hd : decode cc pc = .ok (.ineg, 1)) (k : gWW p l e R s m args below meth c Q E nL (pc + 1) ls (.inl (-x) :: st) M B) : gWW p l e R s m args below meth c Q E nL pc ls (.inl x :: st) M B := by
  intro H locs la hH hS hL hV hB
  exact lv_ineg X.1 X.2.1 hd (k H locs la hH hS hL (vc trivial (vd hV)) hB)
theorem g_lstore_n (X : gX p R s m args c E own cc nL d) {i : Fin 4} {x : Int64} (hd : decode cc pc = .ok (.lstore_n i, 1)) (hi : (i : Nat) + 1 < nL) (hg : gNl ls (i : Nat)) (k : gWW p l e R s m args below meth c Q E nL (pc + 1) ((ls.set (i : Nat) (some (.inr (.inr (.inl x))))).set ((i : Nat) + 1) none) st M B) : gWW p l e R s m args below meth c Q E nL pc ls (.inr (.inr (.inl x)) :: st) M B := by
  intro H locs la hH hS hL hV hB
  exact lv_lstore_n X.1 X.2.1 hd rfl hL.has hi rfl (fun la' h' => k H locs la' hH hS (hL.put2 hi hg h') (vd hV) hB)
theorem g_ladd (X : gX p R s m args c E own cc nL d) {x y : Int64} (hd : decode cc pc = .ok (.ladd, 1)) (k : gWW p l e R s m args below meth c Q E nL (pc + 1) ls (.inr (.inr (.inl (x + y))) :: st) M B) : gWW p l e R s m args below meth c Q E nL pc ls (.inr (.inr (.inl y)) :: .inr (.inr (.inl x)) :: st) M B := by
  intro H locs la hH hS hL hV hB
  exact lv_ladd X.1 X.2.1 hd (k H locs la hH hS hL (vc trivial (vd (vd hV))) hB)
theorem g_ishr (X : gX p R s m args c E own cc nL d) {x y : Int32} (hd : decode cc pc = .ok (.ishr, 1)) (k : gWW p l e R s m args below meth c Q E nL (pc + 1) ls (.inl (x >>> (y &&& 31)) :: st) M B) : gWW p l e R s m args below meth c Q E nL pc ls (.inl y :: .inl x :: st) M B := by
  intro H locs la hH hS hL hV hB
  exact lv_ishr X.1 X.2.1 hd (k H locs la hH hS hL (vc trivial (vd (vd hV))) hB)
theorem g_lmul (X : gX p R s m args c E own cc nL d) {x y : Int64} (hd : decode cc pc = .ok (.lmul, 1)) (k : gWW p l e R s m args below meth c Q E nL (pc + 1) ls (.inr (.inr (.inl (x * y))) :: st) M B) : gWW p l e R s m args below meth c Q E nL pc ls (.inr (.inr (.inl y)) :: .inr (.inr (.inl x)) :: st) M B := by
  intro H locs la hH hS hL hV hB
  exact lv_lmul X.1 X.2.1 hd (k H locs la hH hS hL (vc trivial (vd (vd hV))) hB)
theorem g_lsub (X : gX p R s m args c E own cc nL d) {x y : Int64} (hd : decode cc pc = .ok (.lsub, 1)) (k : gWW p l e R s m args below meth c Q E nL (pc + 1) ls (.inr (.inr (.inl (x - y))) :: st) M B) : gWW p l e R s m args below meth c Q E nL pc ls (.inr (.inr (.inl y)) :: .inr (.inr (.inl x)) :: st) M B := by
  intro H locs la hH hS hL hV hB
  exact lv_lsub X.1 X.2.1 hd (k H locs la hH hS hL (vc trivial (vd (vd hV))) hB)
theorem g_ldiv (X : gX p R s m args c E own cc nL d) {x y : Int64} (hd : decode cc pc = .ok (.ldiv, 1)) (hy : ¬ y = 0) (k : gWW p l e R s m args below meth c Q E nL (pc + 1) ls (.inr (.inr (.inl (x / y))) :: st) M B) : gWW p l e R s m args below meth c Q E nL pc ls (.inr (.inr (.inl y)) :: .inr (.inr (.inl x)) :: st) M B := by
  intro H locs la hH hS hL hV hB
  exact lv_ldiv X.1 X.2.1 hd hy (k H locs la hH hS hL (vc trivial (vd (vd hV))) hB)
theorem g_lcmp (X : gX p R s m args c E own cc nL d) {x y : Int64} (hd : decode cc pc = .ok (.lcmp, 1)) (k : gWW p l e R s m args below meth c Q E nL (pc + 1) ls (.inl (lg_cmp x y) :: st) M B) : gWW p l e R s m args below meth c Q E nL pc ls (.inr (.inr (.inl y)) :: .inr (.inr (.inl x)) :: st) M B := by
  intro H locs la hH hS hL hV hB
  exact W.lcmp X.1 X.2.1 hd (k H locs la hH hS hL (vc trivial (vd (vd hV))) hB)
theorem g_i2l (X : gX p R s m args c E own cc nL d) {x : Int32} (hd : decode cc pc = .ok (.i2l, 1)) (k : gWW p l e R s m args below meth c Q E nL (pc + 1) ls (.inr (.inr (.inl x.toInt64)) :: st) M B) : gWW p l e R s m args below meth c Q E nL pc ls (.inl x :: st) M B := by
  intro H locs la hH hS hL hV hB
  exact lv_i2l X.1 X.2.1 hd rfl (k H locs la hH hS hL (vc trivial (vd hV)) hB)
theorem g_l2i (X : gX p R s m args c E own cc nL d) {x : Int64} (hd : decode cc pc = .ok (.l2i, 1)) (k : gWW p l e R s m args below meth c Q E nL (pc + 1) ls (.inl x.toInt32 :: st) M B) : gWW p l e R s m args below meth c Q E nL pc ls (.inr (.inr (.inl x)) :: st) M B := by
  intro H locs la hH hS hL hV hB
  exact lv_l2i X.1 X.2.1 hd rfl (k H locs la hH hS hL (vc trivial (vd hV)) hB)
/-- an int or a reference takes one place -/
def gC1 : gV → Prop
  | .inr (.inr (.inl _)) => False
  | _ => True
theorem gC1.cat {v : gV} (h : gC1 v) : (gtr E v).category = 1 := by
  rcases v with x | ⟨t, p⟩ | x | x
  · rfl
  · rfl
  · exact h.elim
  · rfl
theorem g_dup (X : gX p R s m args c E own cc nL d) {v : gV} (hv : gC1 v) (hd : decode cc pc = .ok (.dup, 1)) (k : gWW p l e R s m args below meth c Q E nL (pc + 1) ls (v :: v :: st) M B) : gWW p l e R s m args below meth c Q E nL pc ls (v :: st) M B := by
  intro H locs la hH hS hL hV hB
  exact lv_dup X.1 X.2.1 hd hv.cat (k H locs la hH hS hL (vc (vh hV) hV) hB)
theorem g_dup2 (X : gX p R s m args c E own cc nL d) {v w : gV} (hv : gC1 v) (hw : gC1 w) (hd : decode cc pc = .ok (.dup2, 1)) (k : gWW p l e R s m args below meth c Q E nL (pc + 1) ls (v :: w :: v :: w :: st) M B) : gWW p l e R s m args below meth c Q E nL pc ls (v :: w :: st) M B := by
  intro H locs la hH hS hL hV hB
  exact lv_dup2_11 X.1 X.2.1 hd hv.cat hw.cat (k H locs la hH hS hL (vc (vh hV) (vc (vh (vd hV)) hV)) hB)
theorem g_goto (X : gX p R s m args c E own cc nL d) {off : Int} {tgt : Nat} (hd : decode cc pc = .ok (.goto off, 3)) (ht : (pc : Int) + off = (tgt : Int)) (k : gWW p l e R s m args below meth c Q E nL tgt ls st M B) : gWW p l e R s m args below meth c Q E nL pc ls st M B := by
  intro H locs la hH hS hL hV hB
  exact lv_goto X.1 X.2.1 hd ht (k H locs la hH hS hL hV hB)
theorem g_if_eq (X : gX p R s m args c E own cc nL d) {x : Int32} {off : Int} {tgt : Nat} (hd : decode cc pc = .ok (.ifCond .eq off, 3)) (ht : (pc : Int) + off = (tgt : Int)) (kt : x = 0 → gWW p l e R s m args below meth c Q E nL tgt ls st M B) (kf : ¬ x = 0 → gWW p l e R s m args below meth c Q E nL (pc + 3) ls st M B) : gWW p l e R s m args below meth c Q E nL pc ls (.inl x :: st) M B := by
  intro H locs la hH hS hL hV hB
  exact lv_if_eq X.1 X.2.1 hd ht (fun h => kt h H locs la hH hS hL (vd hV) hB) (fun h => kf h H locs la hH hS hL (vd hV) hB)
theorem g_icmp_eq (X : gX p R s m args c E own cc nL d) {x y : Int32} {off : Int} {tgt : Nat} (hd : decode cc pc = .ok (.if_icmp .eq off, 3)) (ht : (pc : Int) + off = (tgt : Int)) (kt : x = y → gWW p l e R s m args below meth c Q E nL tgt ls st M B) (kf : ¬ x = y → gWW p l e R s m args below meth c Q E nL (pc + 3) ls st M B) : gWW p l e R s m args below meth c Q E nL pc ls (.inl y :: .inl x :: st) M B := by
  intro H locs la hH hS hL hV hB
  exact lv_icmp_eq X.1 X.2.1 hd ht (fun h => kt h H locs la hH hS hL (vd (vd hV)) hB) (fun h => kf h H locs la hH hS hL (vd (vd hV)) hB)
theorem g_if_ne (X : gX p R s m args c E own cc nL d) {x : Int32} {off : Int} {tgt : Nat} (hd : decode cc pc = .ok (.ifCond .ne off, 3)) (ht : (pc : Int) + off = (tgt : Int)) (kt : ¬ x = 0 → gWW p l e R s m args below meth c Q E nL tgt ls st M B) (kf : x = 0 → gWW p l e R s m args below meth c Q E nL (pc + 3) ls st M B) : gWW p l e R s m args below meth c Q E nL pc ls (.inl x :: st) M B := by
  intro H locs la hH hS hL hV hB
  exact lv_if_ne X.1 X.2.1 hd ht (fun h => kt h H locs la hH hS hL (vd hV) hB) (fun h => kf h H locs la hH hS hL (vd hV) hB)
theorem g_icmp_ne (X : gX p R s m args c E own cc nL d) {x y : Int32} {off : Int} {tgt : Nat} (hd : decode cc pc = .ok (.if_icmp .ne off, 3)) (ht : (pc : Int) + off = (tgt : Int)) (kt : ¬ x = y → gWW p l e R s m args below meth c Q E nL tgt ls st M B) (kf : x = y → gWW p l e R s m args below meth c Q E nL (pc + 3) ls st M B) : gWW p l e R s m args below meth c Q E nL pc ls (.inl y :: .inl x :: st) M B := by
  intro H locs la hH hS hL hV hB
  exact lv_icmp_ne X.1 X.2.1 hd ht (fun h => kt h H locs la hH hS hL (vd (vd hV)) hB) (fun h => kf h H locs la hH hS hL (vd (vd hV)) hB)
theorem g_if_lt (X : gX p R s m args c E own cc nL d) {x : Int32} {off : Int} {tgt : Nat} (hd : decode cc pc = .ok (.ifCond .lt off, 3)) (ht : (pc : Int) + off = (tgt : Int)) (kt : x < 0 → gWW p l e R s m args below meth c Q E nL tgt ls st M B) (kf : ¬ x < 0 → gWW p l e R s m args below meth c Q E nL (pc + 3) ls st M B) : gWW p l e R s m args below meth c Q E nL pc ls (.inl x :: st) M B := by
  intro H locs la hH hS hL hV hB
  exact lv_if_lt X.1 X.2.1 hd ht (fun h => kt h H locs la hH hS hL (vd hV) hB) (fun h => kf h H locs la hH hS hL (vd hV) hB)
theorem g_icmp_lt (X : gX p R s m args c E own cc nL d) {x y : Int32} {off : Int} {tgt : Nat} (hd : decode cc pc = .ok (.if_icmp .lt off, 3)) (ht : (pc : Int) + off = (tgt : Int)) (kt : x < y → gWW p l e R s m args below meth c Q E nL tgt ls st M B) (kf : ¬ x < y → gWW p l e R s m args below meth c Q E nL (pc + 3) ls st M B) : gWW p l e R s m args below meth c Q E nL pc ls (.inl y :: .inl x :: st) M B := by
  intro H locs la hH hS hL hV hB
  exact lv_icmp_lt X.1 X.2.1 hd ht (fun h => kt h H locs la hH hS hL (vd (vd hV)) hB) (fun h => kf h H locs la hH hS hL (vd (vd hV)) hB)
theorem g_if_ge (X : gX p R s m args c E own cc nL d) {x : Int32} {off : Int} {tgt : Nat} (hd : decode cc pc = .ok (.ifCond .ge off, 3)) (ht : (pc : Int) + off = (tgt : Int)) (kt : 0 ≤ x → gWW p l e R s m args below meth c Q E nL tgt ls st M B) (kf : ¬ 0 ≤ x → gWW p l e R s m args below meth c Q E nL (pc + 3) ls st M B) : gWW p l e R s m args below meth c Q E nL pc ls (.inl x :: st) M B := by
  intro H locs la hH hS hL hV hB
  exact lv_if_ge X.1 X.2.1 hd ht (fun h => kt h H locs la hH hS hL (vd hV) hB) (fun h => kf h H locs la hH hS hL (vd hV) hB)
theorem g_icmp_ge (X : gX p R s m args c E own cc nL d) {x y : Int32} {off : Int} {tgt : Nat} (hd : decode cc pc = .ok (.if_icmp .ge off, 3)) (ht : (pc : Int) + off = (tgt : Int)) (kt : y ≤ x → gWW p l e R s m args below meth c Q E nL tgt ls st M B) (kf : ¬ y ≤ x → gWW p l e R s m args below meth c Q E nL (pc + 3) ls st M B) : gWW p l e R s m args below meth c Q E nL pc ls (.inl y :: .inl x :: st) M B := by
  intro H locs la hH hS hL hV hB
  exact lv_icmp_ge X.1 X.2.1 hd ht (fun h => kt h H locs la hH hS hL (vd (vd hV)) hB) (fun h => kf h H locs la hH hS hL (vd (vd hV)) hB)
theorem g_if_gt (X : gX p R s m args c E own cc nL d) {x : Int32} {off : Int} {tgt : Nat} (hd : decode cc pc = .ok (.ifCond .gt off, 3)) (ht : (pc : Int) + off = (tgt : Int)) (kt : 0 < x → gWW p l e R s m args below meth c Q E nL tgt ls st M B) (kf : ¬ 0 < x → gWW p l e R s m args below meth c Q E nL (pc + 3) ls st M B) : gWW p l e R s m args below meth c Q E nL pc ls (.inl x :: st) M B := by
  intro H locs la hH hS hL hV hB
  exact lv_if_gt X.1 X.2.1 hd ht (fun h => kt h H locs la hH hS hL (vd hV) hB) (fun h => kf h H locs la hH hS hL (vd hV) hB)
theorem g_icmp_gt (X : gX p R s m args c E own cc nL d) {x y : Int32} {off : Int} {tgt : Nat} (hd : decode cc pc = .ok (.if_icmp .gt off, 3)) (ht : (pc : Int) + off = (tgt : Int)) (kt : y < x → gWW p l e R s m args below meth c Q E nL tgt ls st M B) (kf : ¬ y < x → gWW p l e R s m args below meth c Q E nL (pc + 3) ls st M B) : gWW p l e R s m args below meth c Q E nL pc ls (.inl y :: .inl x :: st) M B := by
  intro H locs la hH hS hL hV hB
  exact lv_icmp_gt X.1 X.2.1 hd ht (fun h => kt h H locs la hH hS hL (vd (vd hV)) hB) (fun h => kf h H locs la hH hS hL (vd (vd hV)) hB)
theorem g_if_le (X : gX p R s m args c E own cc nL d) {x : Int32} {off : Int} {tgt : Nat} (hd : decode cc pc = .ok (.ifCond .le off, 3)) (ht : (pc : Int) + off = (tgt : Int)) (kt : x ≤ 0 → gWW p l e R s m args below meth c Q E nL tgt ls st M B) (kf : ¬ x ≤ 0 → gWW p l e R s m args below meth c Q E nL (pc + 3) ls st M B) : gWW p l e R s m args below meth c Q E nL pc ls (.inl x :: st) M B := by
  intro H locs la hH hS hL hV hB
  exact lv_if_le X.1 X.2.1 hd ht (fun h => kt h H locs la hH hS hL (vd hV) hB) (fun h => kf h H locs la hH hS hL (vd hV) hB)
theorem g_icmp_le (X : gX p R s m args c E own cc nL d) {x y : Int32} {off : Int} {tgt : Nat} (hd : decode cc pc = .ok (.if_icmp .le off, 3)) (ht : (pc : Int) + off = (tgt : Int)) (kt : x ≤ y → gWW p l e R s m args below meth c Q E nL tgt ls st M B) (kf : ¬ x ≤ y → gWW p l e R s m args below meth c Q E nL (pc + 3) ls st M B) : gWW p l e R s m args below meth c Q E nL pc ls (.inl y :: .inl x :: st) M B := by
  intro H locs la hH hS hL hV hB
  exact lv_icmp_le X.1 X.2.1 hd ht (fun h => kt h H locs la hH hS hL (vd (vd hV)) hB) (fun h => kf h H locs la hH hS hL (vd (vd hV)) hB)
end GOPS
