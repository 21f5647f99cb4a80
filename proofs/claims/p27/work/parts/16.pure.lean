/-! PURE WORDS: a layer, a column, and what the methods of a column answer -/
abbrev Lay : Type := Int32 × Int32 × Int32
abbrev Col : Type := List Lay × Int32
def lwt (l : List Lay) : Int32 := l.foldl (fun a x => a + x.2.1 * x.2.2) 0
def lth (l : List Lay) : Int32 := l.foldl (fun a x => a + x.2.2) 0
def lic (l : List Lay) : Int32 := l.foldl (fun a x => if x.1 = 0 then a + x.2.2 else a) 0
def lbal (l : List Lay) : Int32 := lwt l / 33
def ltop (c : Col) : Int32 := lth c.1 - c.2
def icy (l : List Lay) : Bool := match l with
  | [] => false
  | x :: _ => decide (x.1 = 0)
def lfb (l : List Lay) : Nat := (l.takeWhile (fun x => decide (x.1 = 0))).length
def lup (c : Col) (k : Nat) : Int32 := (c.1.take k).foldl (fun a x => a - x.2.2) (ltop c)
theorem foldl_take {α : Type} {β : Type} (f : β → α → β) (z : β) {l : List α} {k : Nat} {x : α} (h : l[k]? = some x) : (l.take (k + 1)).foldl f z = f ((l.take k).foldl f z) x := by
  have hk : k < l.length := (List.getElem?_eq_some_iff.mp h).1
  have hx : l[k] = x := (List.getElem?_eq_some_iff.mp h).2
  rw [List.take_succ_eq_append_getElem hk, List.foldl_append, hx]
  rfl
theorem foldl_end {α : Type} {β : Type} (f : β → α → β) (z : β) (l : List α) : (l.take l.length).foldl f z = l.foldl f z := by rw [List.take_length]
/-- the column's cells: at place p -/
def colR (M : gM) (p : Nat) (c : Col) : Prop := c.1.length ≤ 8 ∧ M p 3 = nI c.1.length ∧ M p 4 = c.2 ∧ ∀ (k : Nat) (x : Lay), c.1[k]? = some x → M (p + 1) k = x.1 ∧ M (p + 2) k = x.2.1 ∧ M (p + 3) k = x.2.2
theorem colR.lay {M : gM} {p k : Nat} {c : Col} (h : colR M p c) (hk : k < c.1.length) : M (p + 1) k = (c.1[k]).1 ∧ M (p + 2) k = (c.1[k]).2.1 ∧ M (p + 3) k = (c.1[k]).2.2 := h.2.2.2 k _ (List.getElem?_eq_getElem hk)
theorem colR.kept {M M' : gM} {p : Nat} {c : Col} (h : colR M p c) (hq : ∀ q, p ≤ q → q ≤ p + 3 → M' q = M q) : colR M' p c := by
  obtain ⟨h1, h2, h3, h4⟩ := h
  have e0 := hq p (Nat.le_refl _) (by omega)
  have e1 := hq (p + 1) (by omega) (by omega)
  have e2 := hq (p + 2) (by omega) (by omega)
  have e3 := hq (p + 3) (by omega) (by omega)
  exact ⟨h1, by rw [e0]; exact h2, by rw [e0]; exact h3, by rw [e1, e2, e3]; exact h4⟩
theorem nI_lt8 {n : Nat} (h : n ≤ 8) : n < 2 ^ 31 := by omega
