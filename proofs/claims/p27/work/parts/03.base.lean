/-! THE WORLD: every cell that the constructors make, at base + its place; a reference is a kind and a place; all ints in one memory M place slot -/
/-- a value: an int, a reference (kind, place), a long, null -/
abbrev gV : Type := Int32 ⊕ ((Nat × Nat) ⊕ (Int64 ⊕ Unit))
abbrev gM : Type := Nat → Nat → Int32
abbrev gR : Type := Nat → Nat → Bool
abbrev gLs : Type := List (Option gV)
/-- places made, reference fields set, cells and slots counted -/
abbrev gB : Type := Nat × gR × Nat × Nat
/-- base, where the read-only arrays lie, classes, array classes, the script's length and ints -/
abbrev gE : Type := Nat × (Nat → Nat) × va_G × (Nat → ClassId) × Nat × (Nat → Int32)
abbrev gPost : Type := Option gV → gM → Nat → gR → Prop
abbrev gT : Type := List gV → gM → Nat → gR → gPost → Prop
def gRO (t : Nat) : Bool := Nat.ble 50 t && Nat.ble t 59
def gtr (E : gE) : gV → Value
  | .inl x => .int x
  | .inr (.inl (t, p)) => .ref (if gRO t = true then E.2.1 (t - 50) else E.1 + p)
  | .inr (.inr (.inl y)) => .long y
  | .inr (.inr (.inr _)) => .null
-- kinds: 0 Column, 1 Crust, 2 History, 3 State, 4 Stepper, 5 Text, 6 CrustBlocks, 7 Model; 8 Column[], 9 Crust[], 10 State[]; 100 + n an int array of n; 50 + k a read-only array
def gKcol : List Nat := [0, 108, 108, 108]
def gKcru : List Nat := [1, 8] ++ (gKcol ++ (gKcol ++ (gKcol ++ (gKcol ++ (gKcol ++ (gKcol ++ (gKcol ++ (gKcol ++ (gKcol ++ gKcol)))))))))
def gKsta : List Nat := [3] ++ (gKcru ++ ([9, 102, 105, 106] ++ (gKcru ++ gKcru)))
def gKL : List Nat := [6] ++ (gKsta ++ (gKsta ++ ([2, 10] ++ (gKsta ++ (gKsta ++ (gKsta ++ (gKsta ++ (gKsta ++ ([5, 240, 4, 110, 110, 110] ++ [])))))))))
def gN : Nat := 926
def gK (p : Nat) : Nat := gKL.getD p 9999
def gFl (t : Nat) : List (Option (Nat × Nat)) := match t with
  | 0 => [some (108, 1), some (108, 2), some (108, 3), none, none]
  | 1 => [some (8, 1)]
  | 2 => [some (10, 1), none, none]
  | 3 => [some (1, 1), some (9, 43), some (102, 44), some (105, 45), some (106, 46), none]
  | 4 => [some (110, 1), some (110, 2), some (110, 3)]
  | 5 => [some (240, 1), none, none, none]
  | 6 => [some (3, 1), some (3, 132), some (2, 263), some (5, 920), some (4, 922)]
  | 7 => [none, some (895, 1), some (895, 2), some (4075, 3), none, some (240, 4), none, some (110, 5), some (110, 6), some (110, 7), none, none]
  | _ => []
/-- arrays of references: the elements' kind, where the first lies behind the array, how far apart, how many -/
def gEl (t : Nat) : Nat × Nat × Nat × Nat := match t with
  | 8 => (0, 1, 4, 10)
  | 9 => (1, 4, 42, 2)
  | _ => (3, 1, 131, 5)
theorem gKL_len : gKL.length = gN := by decide +kernel
def gFv (E : gE) (M : gM) (F : gR) (q k : Nat) (o : Option (Nat × Nat)) : Value := match o with
  | none => .int (M q k)
  | some (_, δ) => if F q k = true then .ref (E.1 + (q + δ)) else .null
def gCt (E : gE) (M : gM) (F : gR) (q : Nat) : va_E :=
  if gK q < 8 then .inr (gK q, (List.range (gFl (gK q)).length).map (fun k => gFv E M F q k ((gFl (gK q)).getD k none)))
  else if gK q < 11 then .inl (E.2.2.2.1 (gK q - 7), (gEl (gK q)).2.2.2, .inr (.inr (.inr (.inr (fun j => if F q j = true then some (E.1 + (q + (gEl (gK q)).2.1 + (gEl (gK q)).2.2.1 * j)) else none)))))
  else .inl (E.2.2.2.1 0, gK q - 100, .inl (M q))
def gCs (E : gE) (M : gM) (n : Nat) (F : gR) : va_W := (List.range n).map (fun q => (E.1 + q, gCt E M F q))
/-- what a set flag says: the target is made -/
def gRk (n : Nat) (F : gR) : Prop := ∀ p, p < n → ∀ j, F p j = true → (∀ t δ, (gFl (gK p))[j]? = some (some (t, δ)) → p + δ < n) ∧ (8 ≤ gK p → gK p < 11 → j < (gEl (gK p)).2.2.2 → p + (gEl (gK p)).2.1 + (gEl (gK p)).2.2.1 * j < n)
def gH (E : gE) (M : gM) (n : Nat) (F : gR) (H : Heap) : Prop := n ≤ gN ∧ gRk n F ∧ H.size = E.1 + n ∧ va_P E.2.2.1 vwCl (gCs E M n F) H
def gTys (E : gE) : List (ClassId × FieldType) := [(E.2.2.2.1 0, .int), (E.2.2.2.1 1, .object "CrustBlocks$Column"), (E.2.2.2.1 2, .object "CrustBlocks$Crust"), (E.2.2.2.1 3, .object "CrustBlocks$State")]
-- the read-only arrays: 0 LIGHTEST, 1 HEAVIEST, 2 FIRST_SETTINGS, 3 LOWEST_SETTINGS, 4 HIGHEST_SETTINGS, 5 the script
def gSn (k : Nat) : String := match k with
  | 0 => "LIGHTEST"
  | 1 => "HEAVIEST"
  | 2 => "FIRST_SETTINGS"
  | 3 => "LOWEST_SETTINGS"
  | _ => "HIGHEST_SETTINGS"
def gSl (k : Nat) : List Int32 := match k with
  | 0 => [9, 22, 24]
  | 1 => [9, 22, 32]
  | 2 => [2000, 100, 100, 50, 40]
  | 3 => [-5000, 0, 0, 0, 1]
  | _ => [9999, 500, 500, 200, 100]
def gRl (E : gE) (k : Nat) : Nat := if k < 5 then (gSl k).length else E.2.2.2.2.1
def gRx (E : gE) (k : Nat) : Nat → Int32 := if k < 5 then fun j => (gSl k).getD j 0 else E.2.2.2.2.2
def gNm : List (String × Nat × MethodName × String) := [(RX1, 17, yX0_init, RX6), (RX6, 28, yX5_init, RX6), (RX6, 35, yX4_init, RX6), (RX0, 34, yX6_isWithin, RX6), (RX4, 105, yX6_isBlock, RX6), (RX5, 34, yX6_isBlock, RX6), (RX5, 82, yX6_isKind, RX6), (RX5, 102, yX6_isWithin, RX6)]
def gNf : List (String × Nat × String × String × String × String) := [(RX3, 32, "CrustBlocks", "FIRST_SETTINGS", "[I", RX6), (RX5, 85, "CrustBlocks", "LIGHTEST", "[I", RX6), (RX5, 88, "CrustBlocks", "HEAVIEST", "[I", RX6)]
def gEnv (E : gE) (U : State) : Prop :=
  va_K E.2.2.1 vwCl (gTys E) U ∧ (∀ q ∈ gNm, va_Nw (.methodLinkNest q.1 q.2.1 q.2.2.1 q.2.2.2) U) ∧ (∀ q ∈ gNf, va_Nw (.fieldLinkNest q.1 q.2.1 q.2.2.1 q.2.2.2.1 q.2.2.2.2.1 q.2.2.2.2.2) U) ∧
  (∀ k, k < 5 → va_Z "CrustBlocks" (gSn k) "[I" (.ref (E.2.1 k)) (fun q => E.1 ≤ q) U U.heap) ∧ (∀ k, k < 6 → va_X (E.2.1 k) (gRl E k) (gRx E k) U U.heap ∧ E.2.1 k < E.1) ∧
  (va_AO "CrustBlocks$Column" U ∧ va_AO "CrustBlocks$Crust" U ∧ va_AO "CrustBlocks$State" U) ∧ E.1 ≤ U.heap.size
theorem gEnv.warm {E : gE} {s U : State} (h : gEnv E s) (hW : s.WarmedH U.vm) (hs : E.1 ≤ U.heap.size) (hq : ∀ q : Nat, q < s.heap.size → ¬ E.1 ≤ q → U.heap[q]? = s.heap[q]?) : gEnv E U := by
  obtain ⟨h1, h2, h3, h4, h5, ⟨h6, h7, h8⟩, h9⟩ := h
  refine ⟨va_K.moved hW.alike h1, fun q hm => (h2 q hm).warmM hW, fun q hm => (h3 q hm).warmF hW, fun k hk => ((h4 k hk).moved hW.alike).kept hq, fun k hk => ⟨((h5 k hk).1.moved hW.alike).kept (hq _ ?_ ?_), (h5 k hk).2⟩, ⟨h6.moved hW.alike, h7.moved hW.alike, h8.moved hW.alike⟩, hs⟩
  · exact Nat.lt_of_lt_of_le (h5 k hk).2 h9
  · exact Nat.not_le.mpr (h5 k hk).2
theorem gEnv.calling {E : gE} {U : State} {g : JFrame} {mk : MethodId} {a : Array Value} (h : gEnv E U) : gEnv E (U.calling g mk a) := by
  obtain ⟨h1, h2, h3, h4, h5, ⟨h6, h7, h8⟩, h9⟩ := h
  have al : U.vm.Alike (U.calling g mk a).vm := Vm.Alike.refl U.vm
  refine ⟨va_K.moved al h1, fun q hm => va_Nw.same rfl rfl (h2 q hm), fun q hm => va_Nw.same rfl rfl (h3 q hm), fun k hk => (h4 k hk).moved al, fun k hk => ⟨(h5 k hk).1.moved al, (h5 k hk).2⟩, ⟨h6.moved al, h7.moved al, h8.moved al⟩, h9⟩
theorem gCs_len (E : gE) (M : gM) (n : Nat) (F : gR) : (gCs E M n F).length = n := by simp [gCs]
theorem gCs_at {E : gE} {M : gM} {n : Nat} {F : gR} {q : Nat} (h : q < n) : (gCs E M n F)[q]? = some (E.1 + q, gCt E M F q) := by
  simp [gCs, h]
theorem gCs_D (E : gE) (M : gM) (n : Nat) (F : gR) : va_D (fun q => E.1 ≤ q) (gCs E M n F) := by
  constructor
  · intro i j p q hi hj he
    have li : i < n := by have := (List.getElem?_eq_some_iff.mp hi).1; rwa [gCs_len] at this
    have lj : j < n := by have := (List.getElem?_eq_some_iff.mp hj).1; rwa [gCs_len] at this
    rw [gCs_at li] at hi
    rw [gCs_at lj] at hj
    cases hi
    cases hj
    have he : E.1 + i = E.1 + j := he
    omega
  · intro k q hk
    have lk : k < n := by have := (List.getElem?_eq_some_iff.mp hk).1; rwa [gCs_len] at this
    rw [gCs_at lk] at hk
    cases hk
    exact Nat.le_add_right _ _
/-- the world with another content at one place -/
theorem gCs_set {E : gE} {M M' : gM} {n : Nat} {F F' : gR} {q : Nat} (h : q < n) {c : va_E} (hc : gCt E M' F' q = c) (ho : ∀ j, j ≠ q → gCt E M' F' j = gCt E M F j) : (gCs E M n F).set q (E.1 + q, c) = gCs E M' n F' := by
  apply List.ext_getElem?
  intro j
  by_cases hj : j = q
  · subst hj
    rw [List.getElem?_set_self (by rw [gCs_len]; exact h), gCs_at h, hc]
  · rw [List.getElem?_set_ne (Ne.symm hj)]
    by_cases hl : j < n
    · rw [gCs_at hl, gCs_at hl, ho j hj]
    · rw [List.getElem?_eq_none (by rw [gCs_len]; omega), List.getElem?_eq_none (by rw [gCs_len]; omega)]
def gOk (n : Nat) : gV → Prop
  | .inr (.inl (t, p)) => gRO t = true ∨ (p < n ∧ gK p = t)
  | _ => True
theorem gOk.mono {n n' : Nat} (h : n ≤ n') {v : gV} (hv : gOk n v) : gOk n' v := by
  rcases v with x | ⟨t, p⟩ | x | x
  · trivial
  · rcases hv with hv | hv
    · exact Or.inl hv
    · exact Or.inr ⟨Nat.lt_of_lt_of_le hv.1 h, hv.2⟩
  · trivial
  · trivial
def gLA (E : gE) (nL n : Nat) (ls : gLs) (la : Array Slot) : Prop := la.size = nL ∧ lv_wf la ∧ ls.length = nL ∧ ∀ (i : Nat) (v : gV), ls[i]? = some (some v) → la[i]? = some (.val (gtr E v)) ∧ gOk n v
theorem gLA.mono {E : gE} {nL n n' : Nat} {ls : gLs} {la : Array Slot} (h : gLA E nL n ls la) (hn : n ≤ n') : gLA E nL n' ls la := ⟨h.1, h.2.1, h.2.2.1, fun i v hi => ⟨(h.2.2.2 i v hi).1, (h.2.2.2 i v hi).2.mono hn⟩⟩
def gLp (E : gE) (ls : gLs) : List (Nat × Value) := (List.range ls.length).filterMap (fun i => match ls[i]? with
  | some (some v) => some (i, gtr E v)
  | _ => none)
theorem gLp_mem {E : gE} {ls : gLs} {i : Nat} {v : gV} (h : ls[i]? = some (some v)) : (i, gtr E v) ∈ gLp E ls := by
  refine List.mem_filterMap.mpr ⟨i, List.mem_range.mpr (List.getElem?_eq_some_iff.mp h).1, ?_⟩
  rw [h]
theorem gLA.has {E : gE} {nL n : Nat} {ls : gLs} {la : Array Slot} (h : gLA E nL n ls la) : lv_has la nL (gLp E ls) := by
  refine ⟨h.1, h.2.1, fun q hq => ?_⟩
  obtain ⟨i, -, hi⟩ := List.mem_filterMap.mp hq
  cases hv : ls[i]? with
  | none => rw [hv] at hi; cases hi
  | some o =>
    cases o with
    | none => rw [hv] at hi; cases hi
    | some v =>
      rw [hv] at hi
      cases hi
      exact (h.2.2.2 i v hv).1
/-- no long begins at the place before i -/
def gNl (ls : gLs) (i : Nat) : Prop := match i with
  | 0 => True
  | j + 1 => match ls[j]? with
    | some (some (.inr (.inr (.inl _)))) => False
    | _ => True
theorem gLA.put1 {E : gE} {nL n i : Nat} {ls : gLs} {la la' : Array Slot} {v : gV} (h : gLA E nL n ls la) (hi : i < nL) (hg : gNl ls i) (hv : gOk n v)
    (h' : lv_has la' nL ((i, gtr E v) :: (gLp E ls).filter (fun q => !(q.1 == i) && !(q.1 + 1 == i && q.2.category == 2)))) : gLA E nL n (ls.set i (some v)) la' := by
  refine ⟨h'.1, h'.2.1, by simp [h.2.2.1], fun j w hj => ?_⟩
  by_cases hji : j = i
  · subst hji
    rw [List.getElem?_set_self (by rw [h.2.2.1]; exact hi)] at hj
    cases hj
    exact ⟨h'.2.2 (j, gtr E v) List.mem_cons_self, hv⟩
  · rw [List.getElem?_set_ne (Ne.symm hji)] at hj
    refine ⟨h'.2.2 (j, gtr E w) (List.mem_cons_of_mem _ (List.mem_filter.mpr ⟨gLp_mem hj, ?_⟩)), (h.2.2.2 j w hj).2⟩
    by_cases hj1 : j + 1 = i
    · subst hj1
      have hg : (match ls[j]? with
        | some (some (.inr (.inr (.inl _)))) => False
        | _ => True : Prop) := hg
      rw [hj] at hg
      have hc : (gtr E w).category = 1 := by
        rcases w with x | ⟨t, p⟩ | x | x
        · rfl
        · rfl
        · exact hg.elim
        · rfl
      simp [hc]
    · simp [hji, hj1]
theorem gLA.put2 {E : gE} {nL n i : Nat} {ls : gLs} {la la' : Array Slot} {y : Int64} (h : gLA E nL n ls la) (hi : i + 1 < nL) (hg : gNl ls i)
    (h' : lv_has la' nL ((i, Value.long y) :: (gLp E ls).filter (fun q => !(q.1 == i) && (!(q.1 == i + 1) && !(q.1 + 1 == i && q.2.category == 2))))) : gLA E nL n ((ls.set i (some (.inr (.inr (.inl y))))).set (i + 1) none) la' := by
  refine ⟨h'.1, h'.2.1, by simp [h.2.2.1], fun j w hj => ?_⟩
  by_cases hji : j = i + 1
  · subst hji
    rw [List.getElem?_set_self (by simp [h.2.2.1]; exact hi)] at hj
    cases hj
  · rw [List.getElem?_set_ne (Ne.symm hji)] at hj
    by_cases hji2 : j = i
    · subst hji2
      rw [List.getElem?_set_self (by rw [h.2.2.1]; omega)] at hj
      cases hj
      exact ⟨h'.2.2 (j, Value.long y) List.mem_cons_self, trivial⟩
    · rw [List.getElem?_set_ne (Ne.symm hji2)] at hj
      refine ⟨h'.2.2 (j, gtr E w) (List.mem_cons_of_mem _ (List.mem_filter.mpr ⟨gLp_mem hj, ?_⟩)), (h.2.2.2 j w hj).2⟩
      by_cases hj1 : j + 1 = i
      · subst hj1
        have hg : (match ls[j]? with
          | some (some (.inr (.inr (.inl _)))) => False
          | _ => True : Prop) := hg
        rw [hj] at hg
        have hc : (gtr E w).category = 1 := by
          rcases w with x | ⟨t, p⟩ | x | x
          · rfl
          · rfl
          · exact hg.elim
          · rfl
        simp [hc]
        omega
      · simp [hji, hji2, hj1]
