/-! a method's code, checked in one go -/
def gLkB (I : Instr) (n : Nat) : Bool := match I with
  | .bipush _ => n == 2
  | .ldc _ => n == 2
  | .iload _ => n == 2
  | .istore _ => n == 2
  | .aload _ => n == 2
  | .astore _ => n == 2
  | .lload _ => n == 2
  | .lstore _ => n == 2
  | .newarray _ => n == 2
  | .sipush _ => n == 3
  | .ldc2_w _ => n == 3
  | .iinc _ _ => n == 3
  | .goto _ => n == 3
  | .ifCond _ _ => n == 3
  | .if_icmp _ _ => n == 3
  | .getfield _ => n == 3
  | .putfield _ => n == 3
  | .getstatic _ => n == 3
  | .invokevirtual _ => n == 3
  | .invokestatic _ => n == 3
  | .invokespecial _ => n == 3
  | .new _ => n == 3
  | .anewarray _ => n == 3
  | .tableswitch _ _ _ _ => true
  | .lookupswitch _ _ => true
  | _ => n == 1
theorem gLkB_spec {I : Instr} {n : Nat} (h : gLkB I n = true) : gLk I n := by
  cases I <;> first | exact eq_of_beq h | trivial
/-- is it an instruction that asks something of the tables? -/
def gIsL (I : Instr) : Bool := match I with
  | .ldc _ => true
  | .ldc2_w _ => true
  | .getfield _ => true
  | .putfield _ => true
  | .getstatic _ => true
  | .invokevirtual _ => true
  | .invokestatic _ => true
  | _ => false
def gGdB (pc : Nat) (I : Instr) (a : Nat) (c : Int32) : Bool := match I with
  | .iconst n => Int32.ofInt n == c
  | .bipush n => (Int8.ofInt n).toInt32 == c
  | .sipush n => (Int16.ofInt n).toInt32 == c
  | .iinc _ n => Int32.ofInt n == c
  | .goto off => decide ((pc : Int) + off = (a : Int))
  | .ifCond _ off => decide ((pc : Int) + off = (a : Int))
  | .if_icmp _ off => decide ((pc : Int) + off = (a : Int))
  | .tableswitch dflt lo hi offs => decide (lo ≤ hi) && decide (hi - lo + 1 = (offs.size : Int)) && offs.toList.all (fun o => decide (0 ≤ (pc : Int) + o)) && decide (0 ≤ (pc : Int) + dflt)
  | .lookupswitch dflt ps => (ps.toList.zip (ps.toList.drop 1)).all (fun (a, next) => a.1 < next.1) && ps.toList.all (fun o => decide (0 ≤ (pc : Int) + o.2) && decide ((Int32.ofInt o.1).toInt = o.1)) && decide (0 ≤ (pc : Int) + dflt)
  | _ => true
theorem gGdB_spec {l : Launch} {own : String} {d : Nat} {Cs : List gC} {pc : Nat} {I : Instr} {a b : Nat} {c : Int32} (h : gGdB pc I a c = true) (hL : gIsL I = false) : gGd l own d Cs pc I a b c := by
  cases I <;> (try exact eq_of_beq h) <;> (try exact of_decide_eq_true h) <;> (try trivial) <;> (try (cases hL))
  · simp only [gGdB, Bool.and_eq_true, decide_eq_true_eq, List.all_eq_true] at h
    exact ⟨List.all_eq_true.mpr (fun x hx => by simpa using h.1.1 x hx), fun o ho => h.1.2 o ho, h.2⟩
  · simp only [gGdB, Bool.and_eq_true, decide_eq_true_eq, List.all_eq_true] at h
    exact ⟨h.1.1.1, h.1.1.2, fun o ho => h.1.2 o ho, h.2⟩
def gAllB (cc : ByteArray) : List gI → Bool
  | [] => true
  | (pc, I, a, _, c) :: tl => (match decode cc pc with
    | .ok (J, n) => decide (J = I) && gLkB I n && (match tl with
      | [] => true
      | i :: _ => Nat.beq i.1 (pc + n))
    | _ => false) && gGdB pc I a c && gAllB cc tl
def gLinks (l : Launch) (own : String) (d : Nat) (Cs : List gC) : List gI → Prop
  | [] => True
  | (pc, I, a, b, c) :: tl => match gIsL I with
    | true => gGd l own d Cs pc I a b c ∧ gLinks l own d Cs tl
    | false => gLinks l own d Cs tl
theorem gPg_of {l : Launch} {own : String} {cc : ByteArray} {d : Nat} {Cs : List gC} : ∀ {prog : List gI}, gAllB cc prog = true → gLinks l own d Cs prog → gPg l own cc d Cs prog
  | [], _, _ => trivial
  | (pc, I, a, b, c) :: tl, h, hl => by
    simp only [gAllB, Bool.and_eq_true] at h
    obtain ⟨⟨h1, h2⟩, h3⟩ := h
    have e1 : ∃ len, decode cc pc = .ok (I, len) ∧ gHd tl (pc + len) ∧ gLk I len := by
      cases hd : decode cc pc with
      | error e => rw [hd] at h1; cases h1
      | ok q =>
        obtain ⟨J, n⟩ := q
        rw [hd] at h1
        simp only [Bool.and_eq_true, decide_eq_true_eq] at h1
        obtain ⟨⟨rfl, h4⟩, h5⟩ := h1
        refine ⟨n, rfl, ?_, gLkB_spec h4⟩
        cases tl with
        | nil => trivial
        | cons i t => exact Nat.eq_of_beq_eq_true h5
    simp only [gLinks] at hl
    split at hl
    · exact ⟨e1, hl.1, gPg_of h3 hl.2⟩
    · rename_i hL
      exact ⟨e1, gGdB_spec h2 hL, gPg_of h3 hl⟩
