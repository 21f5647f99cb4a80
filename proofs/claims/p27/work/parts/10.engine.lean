/-! THE ENGINE: what must hold for a stretch of code to come to its cuts, found by reduction -/
/-- pc, instruction, two numbers and an int that the instruction's row wants -/
abbrev gI : Type := Nat × Instr × Nat × Nat × Int32
/-- a callee: contract, cells, slots, the receiver's kind (99: none) -/
abbrev gC : Type := gT × Nat × Nat × Nat
def gNth {α : Type} : List α → Nat → Option α
  | [], _ => none
  | a :: _, 0 => some a
  | _ :: t, n + 1 => gNth t n
theorem gNth_eq {α : Type} : ∀ (l : List α) (i : Nat), gNth l i = l[i]?
  | [], _ => by simp [gNth]
  | a :: _, 0 => by simp [gNth]
  | _ :: t, n + 1 => by simp [gNth, gNth_eq t n]
def gSetC : gLs → Nat → Option gV → (gLs → Prop) → Prop
  | [], _, _, k => k []
  | _ :: t, 0, v, k => k (v :: t)
  | h :: t, n + 1, v, k => gSetC t n v (fun t' => k (h :: t'))
theorem gSetC_eq : ∀ (l : gLs) (i : Nat) (v : Option gV) (k : gLs → Prop), gSetC l i v k ↔ k (l.set i v)
  | [], _, _, _ => by simp [gSetC]
  | _ :: t, 0, _, _ => by simp [gSetC]
  | h :: t, n + 1, v, k => by simp [gSetC, gSetC_eq t n v]
def gPop : Nat → List gV → List gV → (List gV → List gV → Prop) → Prop
  | 0, st, acc, k => k acc st
  | n + 1, v :: st, acc, k => gPop n st (v :: acc) k
  | _ + 1, [], _, _ => False
theorem gPop_spec : ∀ (n : Nat) (st acc : List gV) (k : List gV → List gV → Prop), gPop n st acc k → ∃ a r, st = a ++ r ∧ a.length = n ∧ k (a.reverse ++ acc) r
  | 0, st, acc, k, h => ⟨[], st, rfl, rfl, h⟩
  | n + 1, v :: st, acc, k, h => by
    obtain ⟨a, r, h1, h2, h3⟩ := gPop_spec n st (v :: acc) k h
    exact ⟨v :: a, r, by rw [h1]; rfl, by simp [h2], by simpa using h3⟩
  | n + 1, [], acc, k, h => h.elim
def gCat : List gV → Nat
  | [] => 0
  | .inr (.inr (.inl _)) :: t => gCat t + 2
  | _ :: t => gCat t + 1
theorem gCat_eq (E : gE) : ∀ st : List gV, ((st.map (gtr E)).map fun v => v.category).sum = gCat st
  | [] => rfl
  | v :: t => by
    have ih := gCat_eq E t
    rw [List.map_cons, List.map_cons, List.sum_cons, ih]
    rcases v with x | ⟨a, q⟩ | x | x
    · exact Nat.add_comm _ _
    · exact Nat.add_comm _ _
    · exact Nat.add_comm _ _
    · exact Nat.add_comm _ _
def gMem (x : Nat) : List Nat → Bool
  | [] => false
  | y :: t => if Nat.beq x y = true then true else gMem x t
def gFind (x : Nat) : List gI → List gI
  | [] => []
  | i :: t => match Nat.beq x i.1 with
    | true => i :: t
    | false => gFind x t
def gSwT (pc : Nat) (x : Int32) (k : Nat → Prop) : Int → List Int → Prop
  | _, [] => True
  | lo, o :: os => (x = Int32.ofInt lo → k ((pc : Int) + o).toNat) ∧ gSwT pc x k (lo + 1) os
def gSwL (pc : Nat) (x : Int32) (k : Nat → Prop) (dflt : Int) : List (Int × Int) → Prop
  | [] => k ((pc : Int) + dflt).toNat
  | (mm, o) :: ps => (x = Int32.ofInt mm → k ((pc : Int) + o).toNat) ∧ (¬ x = Int32.ofInt mm → gSwL pc x k dflt ps)
def gBr (cnd : ClassFile.Cond) (x y : Int32) (t f : Prop) : Prop := match cnd with
  | .eq => (x = y → t) ∧ (¬ x = y → f)
  | .ne => (¬ x = y → t) ∧ (x = y → f)
  | .lt => (x < y → t) ∧ (¬ x < y → f)
  | .ge => (y ≤ x → t) ∧ (¬ y ≤ x → f)
  | .gt => (y < x → t) ∧ (¬ y < x → f)
  | .le => (x ≤ y → t) ∧ (¬ x ≤ y → f)
def gNlB : gLs → Nat → Bool
  | _, 0 => true
  | ls, j + 1 => match gNth ls j with
    | some (some (.inr (.inr (.inl _)))) => false
    | _ => true
theorem gNlB_spec {ls : gLs} {i : Nat} (h : gNlB ls i = true) : gNl ls i := by
  cases i with
  | zero => trivial
  | succ j =>
    simp only [gNlB, gNth_eq] at h
    show (match ls[j]? with
      | some (some (.inr (.inr (.inl _)))) => False
      | _ => True : Prop)
    split
    · rename_i heq
      rw [heq] at h
      cases h
    · trivial
def gC1B : gV → Bool
  | .inr (.inr (.inl _)) => false
  | _ => true
theorem gC1B_spec {v : gV} (h : gC1B v = true) : gC1 v := by
  rcases v with x | ⟨t, p⟩ | x | x
  · trivial
  · trivial
  · cases h
  · trivial
def gI1 (st : List gV) (k : Int32 → List gV → Prop) : Prop := match st with
  | .inl x :: t => k x t
  | _ => False
def gI2 (st : List gV) (k : Int32 → Int32 → List gV → Prop) : Prop := match st with
  | .inl y :: .inl x :: t => k x y t
  | _ => False
def gL1 (st : List gV) (k : Int64 → List gV → Prop) : Prop := match st with
  | .inr (.inr (.inl x)) :: t => k x t
  | _ => False
def gL2 (st : List gV) (k : Int64 → Int64 → List gV → Prop) : Prop := match st with
  | .inr (.inr (.inl y)) :: .inr (.inr (.inl x)) :: t => k x y t
  | _ => False
def gA1 (st : List gV) (k : Nat → Nat → List gV → Prop) : Prop := match st with
  | .inr (.inl (a, q)) :: t => k a q t
  | _ => False
def gLdI (o : Option (Option gV)) (k : Int32 → Prop) : Prop := match o with
  | some (some (.inl x)) => k x
  | _ => False
def gLdL (o : Option (Option gV)) (k : Int64 → Prop) : Prop := match o with
  | some (some (.inr (.inr (.inl x)))) => k x
  | _ => False
def gLdA (o : Option (Option gV)) (k : Nat → Nat → Prop) : Prop := match o with
  | some (some (.inr (.inl (t, q)))) => k t q
  | _ => False
def gV1 (st : List gV) (k : gV → List gV → Prop) : Prop := match st with
  | v :: t => k v t
  | _ => False
def gIf (b : Bool) (P : Prop) : Prop := match b with
  | true => P
  | false => False
def gFd (o : Option (Option (Nat × Nat))) (ki : Prop) (kr : Nat → Nat → Prop) : Prop := match o with
  | some none => ki
  | some (some (t, δ)) => kr t δ
  | none => False
def gB2 (b : Bool) (P Q : Prop) : Prop := match b with
  | true => P
  | false => Q
def gCee (o : Option gC) (k : gT → Nat → Nat → Nat → Prop) : Prop := match o with
  | some (T, mc, ms, t) => k T mc ms t
  | none => False
def gRs (r : Option gV) (rest : List gV) (k : List gV → Prop) : Prop := match r with
  | none => k rest
  | some v => k (v :: rest)
def gPr (n : Nat) (k0 k1 k2 k3 : Prop) : Prop := match n with
  | 0 => k0
  | 1 => k1
  | 2 => k2
  | 3 => k3
  | _ => False
def gRN (st : List gV) (P : Prop) : Prop := match st with
  | [] => P
  | _ => False
theorem gI1_spec {st : List gV} {k : Int32 → List gV → Prop} (h : gI1 st k) : ∃ x t, st = .inl x :: t ∧ k x t := by
  unfold gI1 at h
  split at h
  · exact ⟨_, _, rfl, h⟩
  · exact h.elim
theorem gI2_spec {st : List gV} {k : Int32 → Int32 → List gV → Prop} (h : gI2 st k) : ∃ x y t, st = .inl y :: .inl x :: t ∧ k x y t := by
  unfold gI2 at h
  split at h
  · exact ⟨_, _, _, rfl, h⟩
  · exact h.elim
theorem gL1_spec {st : List gV} {k : Int64 → List gV → Prop} (h : gL1 st k) : ∃ x t, st = .inr (.inr (.inl x)) :: t ∧ k x t := by
  unfold gL1 at h
  split at h
  · exact ⟨_, _, rfl, h⟩
  · exact h.elim
theorem gL2_spec {st : List gV} {k : Int64 → Int64 → List gV → Prop} (h : gL2 st k) : ∃ x y t, st = .inr (.inr (.inl y)) :: .inr (.inr (.inl x)) :: t ∧ k x y t := by
  unfold gL2 at h
  split at h
  · exact ⟨_, _, _, rfl, h⟩
  · exact h.elim
theorem gA1_spec {st : List gV} {k : Nat → Nat → List gV → Prop} (h : gA1 st k) : ∃ a q t, st = .inr (.inl (a, q)) :: t ∧ k a q t := by
  unfold gA1 at h
  split at h
  · exact ⟨_, _, _, rfl, h⟩
  · exact h.elim
theorem gLdI_spec {o : Option (Option gV)} {k : Int32 → Prop} (h : gLdI o k) : ∃ x, o = some (some (.inl x)) ∧ k x := by
  unfold gLdI at h
  split at h
  · exact ⟨_, rfl, h⟩
  · exact h.elim
theorem gLdL_spec {o : Option (Option gV)} {k : Int64 → Prop} (h : gLdL o k) : ∃ x, o = some (some (.inr (.inr (.inl x)))) ∧ k x := by
  unfold gLdL at h
  split at h
  · exact ⟨_, rfl, h⟩
  · exact h.elim
theorem gLdA_spec {o : Option (Option gV)} {k : Nat → Nat → Prop} (h : gLdA o k) : ∃ t q, o = some (some (.inr (.inl (t, q)))) ∧ k t q := by
  unfold gLdA at h
  split at h
  · exact ⟨_, _, rfl, h⟩
  · exact h.elim
theorem gV1_spec {st : List gV} {k : gV → List gV → Prop} (h : gV1 st k) : ∃ v t, st = v :: t ∧ k v t := by
  unfold gV1 at h
  split at h
  · exact ⟨_, _, rfl, h⟩
  · exact h.elim
theorem gIf_spec {b : Bool} {P : Prop} (h : gIf b P) : b = true ∧ P := by
  cases b
  · exact h.elim
  · exact ⟨rfl, h⟩
theorem gFd_spec {o : Option (Option (Nat × Nat))} {ki : Prop} {kr : Nat → Nat → Prop} (h : gFd o ki kr) : (o = some none ∧ ki) ∨ ∃ t δ, o = some (some (t, δ)) ∧ kr t δ := by
  unfold gFd at h
  split at h
  · exact Or.inl ⟨rfl, h⟩
  · exact Or.inr ⟨_, _, rfl, h⟩
  · exact h.elim
theorem gB2_spec {b : Bool} {P Q : Prop} (h : gB2 b P Q) : (b = true ∧ P) ∨ (b = false ∧ Q) := by
  cases b
  · exact Or.inr ⟨rfl, h⟩
  · exact Or.inl ⟨rfl, h⟩
theorem gCee_spec {o : Option gC} {k : gT → Nat → Nat → Nat → Prop} (h : gCee o k) : ∃ T mc ms t, o = some (T, mc, ms, t) ∧ k T mc ms t := by
  unfold gCee at h
  split at h
  · exact ⟨_, _, _, _, rfl, h⟩
  · exact h.elim
theorem gRN_spec {st : List gV} {P : Prop} (h : gRN st P) : st = [] ∧ P := by
  unfold gRN at h
  split at h
  · exact ⟨rfl, h⟩
  · exact h.elim
section GX
variable (prog : List gI) (cuts : List Nat) (Cs : List gC) (SL : Nat) (SX : Nat → Int32) (K : Nat → gLs → List gV → gM → gB → Prop) (Pi : Int32 → gM → gB → Prop) (Pl : Int64 → gM → gB → Prop) (Pv : gM → gB → Prop)
def gNx (rec : List gI → gLs → List gV → gM → gB → Prop) (tl : List gI) (ls : gLs) (st : List gV) (M : gM) (B : gB) : Prop := match tl with
  | [] => False
  | i :: t => gB2 (gMem i.1 cuts) (K i.1 ls st M B) (rec (i :: t) ls st M B)
def gx : Nat → List gI → gLs → List gV → gM → gB → Prop
  | 0, _, _, _, _, _ => False
  | _ + 1, [], _, _, _, _ => False
  | f + 1, (pc, I, a, b, c) :: tl, ls, st, M, B =>
    match I with
    | .iconst n => gNx cuts K (gx f) tl ls (.inl c :: st) M B
    | .bipush n => gNx cuts K (gx f) tl ls (.inl c :: st) M B
    | .sipush n => gNx cuts K (gx f) tl ls (.inl c :: st) M B
    | .ldc i => gNx cuts K (gx f) tl ls (.inl c :: st) M B
    | .ldc2_w i => gNx cuts K (gx f) tl ls (.inr (.inr (.inl (Int64.ofNat a))) :: st) M B
    | .iload_n i => gLdI (gNth ls i.val) (fun x => gNx cuts K (gx f) tl ls (.inl x :: st) M B)
    | .iload i => gLdI (gNth ls i) (fun x => gNx cuts K (gx f) tl ls (.inl x :: st) M B)
    | .lload_n i => gLdL (gNth ls i.val) (fun x => gNx cuts K (gx f) tl ls (.inr (.inr (.inl (x))) :: st) M B)
    | .lload i => gLdL (gNth ls i) (fun x => gNx cuts K (gx f) tl ls (.inr (.inr (.inl (x))) :: st) M B)
    | .aload_n i => gLdA (gNth ls i.val) (fun t q => gNx cuts K (gx f) tl ls (.inr (.inl (t, q)) :: st) M B)
    | .aload i => gLdA (gNth ls i) (fun t q => gNx cuts K (gx f) tl ls (.inr (.inl (t, q)) :: st) M B)
    | .istore_n i => gI1 st (fun x st => gIf (gNlB ls i.val) (gIf (Nat.blt i.val ls.length) (gSetC ls i.val (some (.inl x)) (fun ls => gNx cuts K (gx f) tl ls st M B))))
    | .istore i => gI1 st (fun x st => gIf (gNlB ls i) (gIf (Nat.blt i ls.length) (gSetC ls i (some (.inl x)) (fun ls => gNx cuts K (gx f) tl ls st M B))))
    | .astore_n i => gA1 st (fun t q st => gIf (gNlB ls i.val) (gIf (Nat.blt i.val ls.length) (gSetC ls i.val (some (.inr (.inl (t, q)))) (fun ls => gNx cuts K (gx f) tl ls st M B))))
    | .astore i => gA1 st (fun t q st => gIf (gNlB ls i) (gIf (Nat.blt i ls.length) (gSetC ls i (some (.inr (.inl (t, q)))) (fun ls => gNx cuts K (gx f) tl ls st M B))))
    | .lstore i => gL1 st (fun x st => gIf (gNlB ls i) (gIf (Nat.blt (i + 1) ls.length) (gSetC ls i (some (.inr (.inr (.inl x)))) (fun ls => gSetC ls (i + 1) none (fun ls => gNx cuts K (gx f) tl ls st M B)))))
    | .lstore_n i => gL1 st (fun x st => gIf (gNlB ls i.val) (gIf (Nat.blt (i.val + 1) ls.length) (gSetC ls i.val (some (.inr (.inr (.inl x)))) (fun ls => gSetC ls (i.val + 1) none (fun ls => gNx cuts K (gx f) tl ls st M B)))))
    | .iinc i n => gLdI (gNth ls i) (fun x => gIf (gNlB ls i) (gSetC ls i (some (.inl (x + c))) (fun ls => gNx cuts K (gx f) tl ls st M B)))
    | .iadd => gI2 st (fun x y st => gNx cuts K (gx f) tl ls (.inl (x + y) :: st) M B)
    | .isub => gI2 st (fun x y st => gNx cuts K (gx f) tl ls (.inl (x - y) :: st) M B)
    | .imul => gI2 st (fun x y st => gNx cuts K (gx f) tl ls (.inl (x * y) :: st) M B)
    | .iand => gI2 st (fun x y st => gNx cuts K (gx f) tl ls (.inl (x &&& y) :: st) M B)
    | .ishr => gI2 st (fun x y st => gNx cuts K (gx f) tl ls (.inl (x >>> (y &&& 31)) :: st) M B)
    | .idiv => gI2 st (fun x y st => ¬ y = 0 ∧ gNx cuts K (gx f) tl ls (.inl (x / y) :: st) M B)
    | .irem => gI2 st (fun x y st => ¬ y = 0 ∧ gNx cuts K (gx f) tl ls (.inl (x - x / y * y) :: st) M B)
    | .ineg => gI1 st (fun x st => gNx cuts K (gx f) tl ls (.inl (-x) :: st) M B)
    | .ladd => gL2 st (fun x y st => gNx cuts K (gx f) tl ls (.inr (.inr (.inl (x + y))) :: st) M B)
    | .lmul => gL2 st (fun x y st => gNx cuts K (gx f) tl ls (.inr (.inr (.inl (x * y))) :: st) M B)
    | .lsub => gL2 st (fun x y st => gNx cuts K (gx f) tl ls (.inr (.inr (.inl (x - y))) :: st) M B)
    | .ldiv => gL2 st (fun x y st => ¬ y = 0 ∧ gNx cuts K (gx f) tl ls (.inr (.inr (.inl (x / y))) :: st) M B)
    | .lcmp => gL2 st (fun x y st => gNx cuts K (gx f) tl ls (.inl (lg_cmp x y) :: st) M B)
    | .i2l => gI1 st (fun x st => gNx cuts K (gx f) tl ls (.inr (.inr (.inl x.toInt64)) :: st) M B)
    | .l2i => gL1 st (fun x st => gNx cuts K (gx f) tl ls (.inl x.toInt32 :: st) M B)
    | .dup => gV1 st (fun v st => gIf (gC1B v) (gNx cuts K (gx f) tl ls (v :: v :: st) M B))
    | .dup2 => gV1 st (fun v st => gV1 st (fun w st => gIf (gC1B v) (gIf (gC1B w) (gNx cuts K (gx f) tl ls (v :: w :: v :: w :: st) M B))))
    | .goto off => gNx cuts K (gx f) (gFind a prog) ls st M B
    | .ifCond cnd off => gI1 st (fun x st => gBr cnd x 0 (gNx cuts K (gx f) (gFind a prog) ls st M B) (gNx cuts K (gx f) tl ls st M B))
    | .if_icmp cnd off => gI2 st (fun x y st => gBr cnd x y (gNx cuts K (gx f) (gFind a prog) ls st M B) (gNx cuts K (gx f) tl ls st M B))
    | .tableswitch dflt lo hi offs => gI1 st (fun x st => gSwT pc x (fun t => gNx cuts K (gx f) (gFind t prog) ls st M B) lo offs.toList ∧ ((x.toInt < lo ∨ hi < x.toInt) → gNx cuts K (gx f) (gFind ((pc : Int) + dflt).toNat prog) ls st M B))
    | .lookupswitch dflt ps => gI1 st (fun x st => gSwL pc x (fun t => gNx cuts K (gx f) (gFind t prog) ls st M B) dflt ps.toList)
    | .getfield i => gA1 st (fun t q st => gIf (Nat.beq a t) (gFd (gNth (gFl a) b) (gNx cuts K (gx f) tl ls (.inl (M q b) :: st) M B) (fun t2 δ => gIf (B.2.1 q b) (gNx cuts K (gx f) tl ls (.inr (.inl (t2, q + δ)) :: st) M B))))
    | .putfield i => gI1 st (fun x st => gA1 st (fun t q st => gIf (Nat.beq a t) (gFd (gNth (gFl a) b) (gNx cuts K (gx f) tl ls st (gUp M q b x) B) (fun _ _ => False))))
    | .getstatic i => gNx cuts K (gx f) tl ls (.inr (.inl (50 + a, 0)) :: st) M B
    | .iaload => gI1 st (fun i st => gA1 st (fun t q st => gB2 (Nat.ble 100 t) (vp_in i (t - 100) ∧ gNx cuts K (gx f) tl ls (.inl (M q i.toNatClampNeg) :: st) M B)
        (gIf (gRO t) (gB2 (Nat.ble 5 (t - 50)) (gIf (Nat.beq (t - 50) 5) (vp_in i SL ∧ gNx cuts K (gx f) tl ls (.inl (SX i.toNatClampNeg) :: st) M B))
          (vp_in i (gSl (t - 50)).length ∧ gNx cuts K (gx f) tl ls (.inl ((gSl (t - 50)).getD i.toNatClampNeg 0) :: st) M B)))))
    | .arraylength => gA1 st (fun t _ st => gIf (Nat.beq t 55) (gNx cuts K (gx f) tl ls (.inl (nI SL) :: st) M B))
    | .iastore => gI2 st (fun i x st => gA1 st (fun t q st => gIf (Nat.ble 100 t) (vp_in i (t - 100) ∧ gNx cuts K (gx f) tl ls st (gUp M q i.toNatClampNeg x) B)))
    | .aaload => gI1 st (fun i st => gA1 st (fun t q st => gIf (Nat.ble 8 t) (gIf (Nat.ble t 10) ((vp_in i (gEl t).2.2.2 ∧ B.2.1 q i.toNatClampNeg = true) ∧ gNx cuts K (gx f) tl ls (.inr (.inl ((gEl t).1, q + (gEl t).2.1 + (gEl t).2.2.1 * i.toNatClampNeg)) :: st) M B))))
    | .invokevirtual i => gPop b st [] (fun av rest => gIf (Nat.ble (gCat rest) 8) (gA1 av (fun t q av => gCee (gNth Cs a) (fun T _ _ t0 => gIf (Nat.beq t t0) (T (.inr (.inl (t, q)) :: av) M B.1 B.2.1 (fun r M2 n2 F2 => gRs r rest (fun st => gNx cuts K (gx f) tl ls st M2 (n2, F2, B.2.2))))))))
    | .invokestatic i => gB2 (Nat.ble 1000 a)
        (gPr (a - 1000)
          (gI2 st (fun dp n st => gA1 st (fun t1 q1 st => gI1 st (fun sp st => gA1 st (fun t0 q0 st => gIf (Nat.ble (gCat st) 8) (gIf (Nat.ble 100 t0) (gIf (Nat.ble 100 t1) (gIf (Nat.ble b (t0 - 100)) (gIf (Nat.ble b (t1 - 100)) (gIf (Nat.ble b 4000) ((n = nI b ∧ dp = 0 ∧ sp = 0) ∧ gNx cuts K (gx f) tl ls st (gCp M q0 q1 b) B)))))))))))
          (gI2 st (fun x y st => gIf (Nat.ble (gCat st) 8) (gNx cuts K (gx f) tl ls (.inl (if y < x then y else x) :: st) M B)))
          (gL2 st (fun x y st => gIf (Nat.ble (gCat st) 8) (gNx cuts K (gx f) tl ls (.inr (.inr (.inl (if y < x then y else x))) :: st) M B)))
          (gI2 st (fun x y st => gIf (Nat.ble (gCat st) 8) (gNx cuts K (gx f) tl ls (.inl (if x < y then y else x) :: st) M B))))
        (gPop b st [] (fun av rest => gIf (Nat.ble (gCat rest) 8) (gCee (gNth Cs a) (fun T _ _ _ => T av M B.1 B.2.1 (fun r M2 n2 F2 => gRs r rest (fun st => gNx cuts K (gx f) tl ls st M2 (n2, F2, B.2.2)))))))
    | .lreturn => gL1 st (fun v st => gRN st (Pl v M B))
    | .ireturn => gI1 st (fun v st => gRN st (Pi v M B))
    | .return_ => gRN st (Pv M B)
    | _ => False
end GX
