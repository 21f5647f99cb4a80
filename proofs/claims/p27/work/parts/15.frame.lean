/-! a method's contract out of the engine, over an abstract K -/
def gRT : gR := fun _ _ => true
abbrev gB0 : gB := (926, gRT, 0, 0)
abbrev gF : Type := List gV → gM → (Option gV → gM → Prop) → Prop
/-- a contract of a method that makes nothing, in the finished world -/
def gTn (f : gF) : gT := fun av M n F post => n = 926 ∧ F = gRT ∧ f av M (fun r M' => post r M' 926 gRT)
def gPi (ret : Option FieldType) (P : Option gV → gM → Prop) : Int32 → gM → gB → Prop := fun v M B => match ret with
  | some .int => B = gB0 ∧ P (some (.inl v)) M
  | some .boolean => B = gB0 ∧ (v = 0 ∨ v = 1) ∧ P (some (.inl v)) M
  | _ => False
def gPl (ret : Option FieldType) (P : Option gV → gM → Prop) : Int64 → gM → gB → Prop := fun v M B => match ret with
  | some .long => B = gB0 ∧ P (some (.inr (.inr (.inl v)))) M
  | _ => False
def gPv (ret : Option FieldType) (P : Option gV → gM → Prop) : gM → gB → Prop := fun M B => match ret with
  | none => B = gB0 ∧ P none M
  | _ => False
theorem gNat : Cond.native arraycopyName ∈ gA ∧ Cond.static arraycopyName ∈ gA ∧ Cond.initialized "java/lang/System" ∈ gA := ⟨nm_arraycopyName, sm_arraycopyName, in_RJ10⟩
theorem gMath : Cond.initialized "java/lang/Math" ∈ gA ∧ (Cond.static Lib.Math.min.name ∈ gA ∧ Cond.code Lib.Math.min.name Lib.Math.min.code 2 (some .int) ∈ gA) ∧ (Cond.static Lib.MathLoose.min_long.x ∈ gA ∧ Cond.code Lib.MathLoose.min_long.x Lib.MathLoose.min_long.code 4 (some .long) ∈ gA) ∧ (Cond.static Lib.Math.max.name ∈ gA ∧ Cond.code Lib.Math.max.name Lib.Math.max.code 2 (some .int) ∈ gA) :=
  ⟨in_RJ9, ⟨sm_Lib_Math_min_name, co_Lib_Math_min_name⟩, ⟨sm_Lib_MathLoose_min_long_x, co_Lib_MathLoose_min_long_x⟩, ⟨sm_Lib_Math_max_name, co_Lib_Math_max_name⟩⟩
/-- what a body may use: a run of the engine from any place -/
abbrev gRun (SL : Nat) (SX : Nat → Int32) (prog : List gI) (Cs : List gC) (ret : Option FieldType) (P : Option gV → gM → Prop) (K : Nat → gLs → List gV → gM → gB → Prop) : Prop :=
  ∀ (cuts : List Nat) (f pc : Nat) (ls : gLs) (st : List gV) (M : gM) (i : gI) (t : List gI), gFind pc prog = i :: t → gx prog cuts Cs SL SX K (gPi ret P) (gPl ret P) (gPv ret P) f (i :: t) ls st M gB0 → K pc ls st M gB0
theorem gFind_hd {x : Nat} : ∀ {prog : List gI} {i : gI} {t : List gI}, gFind x prog = i :: t → i.1 = x
  | [], _, _, h => by cases h
  | (pc, I, a, b, c) :: tl, i, t, h => by
    unfold gFind at h
    split at h
    · rename_i hb
      cases h
      exact (Nat.eq_of_beq_eq_true hb).symm
    · exact gFind_hd h
theorem gM_of {l : Launch} {y : MethodName} {cy : ByteArray} {maxL : Nat} {ret : Option FieldType} {d : Nat} {f : gF} {prog : List gI} {Cs : List gC} (hy : plainName y.cls = true) (hall : gAllB cy prog = true) (hlinks : gLinks l y.cls d Cs prog)
    (body : ∀ (SL : Nat) (SX : Nat → Int32) (K : Nat → gLs → List gV → gM → gB → Prop) (P : Option gV → gM → Prop) (av : List gV) (M : gM), gRun SL SX prog Cs ret P K → f av M P → ((∀ w ∈ av, gC1 w) ∧ av.length ≤ maxL) ∧ K 0 (gEnt maxL av) [] M gB0) : gOK l y cy maxL ret d 0 0 (gTn f) := by
  refine gOK_of hy ?_
  rintro p e s m args below meth c E av M n F post X hr hlk - ⟨rfl, rfl, hT⟩
  have hpg := gPg_of hall hlinks
  refine body E.2.2.2.2.1 E.2.2.2.2.2 (gWW p l e (gRm d 0 0) s m args below meth c (MQ below (gQc E post) args s 0 0 (fun q => E.1 ≤ q)) E maxL) (fun r M' => post r M' 926 gRT) av M ?_ hT
  intro cuts f pc ls st M i t hf hg
  have hi := gFind_hd hf
  have h1 := gx_sound (p := p) (l := l) (e := e) (below := below) (meth := meth) (Q := MQ below (gQc E post) args s 0 0 (fun q => E.1 ≤ q)) (Pi := gPi ret (fun r M' => post r M' 926 gRT)) (Pl := gPl ret (fun r M' => post r M' 926 gRT)) (Pv := gPv ret (fun r M' => post r M' 926 gRT)) (cuts := cuts) X hpg ?_ ?_ ?_ gNat gMath f (i :: t) ls st M gB0 (by rw [← hf]; exact (gFind_pg hpg).1) hg i t rfl
  · rw [hi] at h1
    exact h1
  · intro pc ls v M B hd hP
    unfold gPi at hP
    split at hP
    · obtain ⟨rfl, hP⟩ := hP
      exact g_iret X hr hlk hd rfl hP
    · obtain ⟨rfl, hv, hP⟩ := hP
      exact g_zret X hr hlk hd hv rfl hP
    · exact hP.elim
  · intro pc ls v M B hd hP
    unfold gPl at hP
    split at hP
    · obtain ⟨rfl, hP⟩ := hP
      exact g_lret X hr hlk hd rfl hP
    · exact hP.elim
  · intro pc ls M B hd hP
    unfold gPv at hP
    split at hP
    · obtain ⟨rfl, hP⟩ := hP
      exact g_vret X hr hlk hd rfl hP
    · exact hP.elim
