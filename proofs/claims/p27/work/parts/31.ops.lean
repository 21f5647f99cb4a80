/-! what each call answers, and the world behind it -/
abbrev Wd : Type := St × List St × (Nat → Int32) × Nat
abbrev Op : Type := Int32 × Wd
/-- an action: the state before is kept -/
def wAct (σ : Wd) (S : St) : Wd := (S, hKeep σ.2.1 σ.1, σ.2.2)
def lHv (k : Int32) : Int32 := if k = 0 then 9 else if k = 1 then 22 else 32
def stSet (S : St) (k : Nat) (x : Int32) : St := (S.1, S.2.1, S.2.2.1, (fun i => if i = k then x else S.2.2.2.1 i), S.2.2.2.2)
def stMap (S : St) (f : Col → Col) : St := ((fun b => f (S.1 b)), S.2)
def oAdd (σ : Wd) (b l k d t : Int32) : Op :=
  if ¬ (0 ≤ b ∧ b ≤ 9) ∨ ¬ (0 ≤ k ∧ k ≤ 2) ∨ ¬ (1 ≤ t ∧ t ≤ 9999) then (-100000001, σ)
  else if ¬ (0 ≤ l ∧ l ≤ nI (σ.1.1 b.toNatClampNeg).1.length) ∨ ¬ (lLi k ≤ d ∧ d ≤ lHv k) then (-100000001, σ)
  else if 8 ≤ (σ.1.1 b.toNatClampNeg).1.length then (-100000003, σ)
  else (nI ((σ.1.1 b.toNatClampNeg).1.length + 1), wAct σ (stAcc (stCol σ.1 b.toNatClampNeg ((σ.1.1 b.toNatClampNeg).1.insertIdx l.toNatClampNeg (k, d, t), (σ.1.1 b.toNatClampNeg).2)) 0 (d * t)))
def oRem (σ : Wd) (b l : Int32) : Op :=
  if (0 ≤ b ∧ b ≤ 9) ∧ 0 ≤ l then match (σ.1.1 b.toNatClampNeg).1[l.toNatClampNeg]? with
    | none => (-100000001, σ)
    | some x => (x.2.2, wAct σ (stCol (stAcc σ.1 1 (x.2.1 * x.2.2)) b.toNatClampNeg ((σ.1.1 b.toNatClampNeg).1.eraseIdx l.toNatClampNeg, (σ.1.1 b.toNatClampNeg).2)))
  else (-100000001, σ)
def aLay (C : Cru) : Int32 := cSum (fun c => nI c.1.length) C 10
def aWt (C : Cru) : Int32 := cSum (fun c => lwt c.1) C 10
def sStrip (S : St) (k : Int32) : St := stMap S (fun c => (lDk k c.1, c.2))
def oStrip (σ : Wd) (k : Int32) : Op :=
  if 0 ≤ k ∧ k ≤ 2 then (aLay σ.1.1 - aLay (sStrip σ.1 k).1, wAct σ (stAcc (sStrip σ.1 k) 1 (aWt σ.1.1 - aWt (sStrip σ.1 k).1))) else (-100000001, σ)
def oSettle (σ : Wd) : Op := (cSum (fun c => if c.2 = lbal c.1 then 0 else 1) σ.1.1 10, wAct σ (stMap σ.1 (fun c => (c.1, lbal c.1))))
def sLo (k : Int32) : Int32 := if k = 0 then -5000 else if k = 4 then 1 else 0
def sHg (k : Int32) : Int32 := if k = 0 then 9999 else if k = 1 then 500 else if k = 2 then 500 else if k = 3 then 200 else 100
def oSet (σ : Wd) (k v : Int32) : Op :=
  if (0 ≤ k ∧ k ≤ 4) ∧ sLo k ≤ v ∧ v ≤ sHg k then (σ.1.2.2.2.1 k.toNatClampNeg, wAct σ (stSet σ.1 k.toNatClampNeg v)) else (-100000001, σ)
def sStepN (S : St) : Nat → St
  | 0 => S
  | n + 1 => sStep (sStepN S n)
def stAdd (S : St) (x : Int32) : St := (S.1, S.2.1, S.2.2.1, S.2.2.2.1, S.2.2.2.2.1, S.2.2.2.2.2 + x)
def oRun (σ : Wd) (n : Int32) : Op :=
  if ¬ (1 ≤ n ∧ n ≤ 50) then (-100000001, σ)
  else if 1000 < σ.1.2.2.2.2.2 + n then (-100000003, σ)
  else (σ.1.2.2.2.2.2 + n, wAct σ (stAdd (sStepN σ.1 n.toNatClampNeg) n))
def stSnap (S : St) (j : Nat) : St := (S.1, (fun i => if i = j then S.1 else S.2.1 i), (fun i => if i = j then 1 else S.2.2.1 i), S.2.2.2)
def oTake (σ : Wd) (p : Int32) : Op :=
  if 0 ≤ p ∧ p ≤ 1 then (aLay σ.1.1, wAct σ (stSnap σ.1 p.toNatClampNeg)) else (-100000001, σ)
def stBack (S : St) (j : Nat) : St := stAcc ((S.2.1 j, (stAcc S 1 (aWt S.1)).2)) 0 (aWt (S.2.1 j))
def oRest (σ : Wd) (p : Int32) : Op :=
  if 0 ≤ p ∧ p ≤ 1 then
    if σ.1.2.2.1 p.toNatClampNeg = 0 then (-100000002, σ)
    else (aLay (σ.1.2.1 p.toNatClampNeg), wAct σ (stBack σ.1 p.toNatClampNeg))
  else (-100000001, σ)
def oUndo (σ : Wd) : Op := match σ.2.1.getLast? with
  | none => (-100000002, σ)
  | some S => (nI (σ.2.1.length - 1), (S, σ.2.1.dropLast, σ.2.2))
def oApp (σ : Wd) (c : Int32) : Op :=
  if ¬ (1 ≤ c ∧ c ≤ 255) then (-100000001, σ)
  else if 140 ≤ σ.2.2.2 then (-100000003, σ)
  else (nI (σ.2.2.2 + 1), (σ.1, σ.2.1, (fun i => if i = σ.2.2.2 then c else σ.2.2.1 i), σ.2.2.2 + 1))
def oClr (σ : Wd) : Op := (nI σ.2.2.2, (σ.1, σ.2.1, σ.2.2.1, 0))
def oLoad (σ : Wd) : Op := match pText σ.2.2.1 σ.2.2.2 σ.1 with
  | .inl e => (-200000000 - nI e, σ)
  | .inr (S, i) => (nI i, (S, hKeep σ.2.1 σ.1, σ.2.2.1, 0))
def oCount (σ : Wd) (k : Int32) : Int32 :=
  if k = 0 then σ.1.2.2.2.2.2
  else if k = 1 then σ.1.2.2.2.1 0 else if k = 2 then σ.1.2.2.2.1 1 else if k = 3 then σ.1.2.2.2.1 2 else if k = 4 then σ.1.2.2.2.1 3 else if k = 5 then σ.1.2.2.2.1 4
  else if k = 6 then aLay σ.1.1
  else if k = 7 then cSum (fun c => if c.1.length = 0 then 0 else 1) σ.1.1 10
  else if k = 8 then cSum (fun c => if icy c.1 = true then 1 else 0) σ.1.1 10
  else if k = 9 then cSum (fun c => if c.2 = lbal c.1 then 0 else 1) σ.1.1 10
  else if k = 10 then nI (cHi σ.1.1 9)
  else if k = 11 then 0 + σ.1.2.2.1 0 + σ.1.2.2.1 1
  else if k = 12 then nI σ.2.1.length
  else if k = 13 then nI σ.2.2.2
  else -100000001
def colQ (c : Col) (k : Int32) : Int32 :=
  if k = 0 then nI c.1.length else if k = 1 then lwt c.1 else if k = 2 then lbal c.1 else if k = 3 then c.2 else if k = 4 then ltop c else if k = 5 then lth c.1 else if k = 6 then lic c.1 * 9 else -100000001
def oBlock (σ : Wd) (b k : Int32) : Int32 := if 0 ≤ b ∧ b ≤ 9 then colQ (σ.1.1 b.toNatClampNeg) k else -100000001
def oLayer (σ : Wd) (b l k : Int32) : Int32 :=
  if (0 ≤ b ∧ b ≤ 9) ∧ 0 ≤ l ∧ 0 ≤ k ∧ k ≤ 3 then match (σ.1.1 b.toNatClampNeg).1[l.toNatClampNeg]? with
    | none => -100000009
    | some x => if k = 0 then x.1 else if k = 1 then x.2.1 else if k = 2 then x.2.2 else lup (σ.1.1 b.toNatClampNeg) l.toNatClampNeg
  else -100000001
def oAcc (σ : Wd) (k : Int32) : Int32 :=
  if 0 ≤ k ∧ k ≤ 7 then
    if k = 7 then aWt σ.1.1 else if k = 6 then σ.1.2.2.2.2.1 4 - σ.1.2.2.2.2.1 5 else σ.1.2.2.2.2.1 k.toNatClampNeg
  else -100000001
def oDens (σ : Wd) (b h : Int32) : Int32 := if (0 ≤ b ∧ b ≤ 9) ∧ -99999 ≤ h ∧ h ≤ 99999 then ldens (σ.1.1 b.toNatClampNeg) h else -100000001
def oPres (σ : Wd) (b d : Int32) : Int32 := if (0 ≤ b ∧ b ≤ 9) ∧ 0 ≤ d ∧ d ≤ 99999 then lpr (σ.1.1 b.toNatClampNeg) d else -100000001
def oWhy (σ : Wd) (b : Int32) : Int32 := if 0 ≤ b ∧ b ≤ 9 then cWhy σ.1.1 b.toNatClampNeg (σ.1.2.2.2.1 3) else -100000001
def oVal (σ : Wd) (b : Int32) : Int32 := if 0 ≤ b ∧ b ≤ 9 then oN (cLow σ.1.1 b.toNatClampNeg) else -100000001
def oBare (σ : Wd) (b : Int32) : Int32 := if 0 ≤ b ∧ b ≤ 9 then lbare (σ.1.1 b.toNatClampNeg) else -100000001
def oTopIn (σ : Wd) (b n : Int32) : Int32 := if (0 ≤ b ∧ b ≤ 9) ∧ 0 ≤ n ∧ n ≤ 100 then ltop ((sStepN σ.1 n.toNatClampNeg).1 b.toNatClampNeg) else -100000001
def cGr (C : Cru) (d : Int32) : Nat → Nat
  | 0 => 0
  | n + 1 => if lpr (C (cGr C d n)) d < lpr (C (n + 1)) d then n + 1 else cGr C d n
def cLs (C : Cru) (d : Int32) : Nat → Nat
  | 0 => 0
  | n + 1 => if lpr (C (n + 1)) d < lpr (C (cLs C d n)) d then n + 1 else cLs C d n
def oUnev (σ : Wd) (d k : Int32) : Int32 :=
  if (0 ≤ d ∧ d ≤ 99999) ∧ 0 ≤ k ∧ k ≤ 2 then
    if k = 0 then lpr (σ.1.1 (cGr σ.1.1 d 9)) d - lpr (σ.1.1 (cLs σ.1.1 d 9)) d else if k = 1 then nI (cGr σ.1.1 d 9) else nI (cLs σ.1.1 d 9)
  else -100000001
/-- the world of the class -/
def chOk (t : Nat → Int32) (n : Nat) : Prop := ∀ k, k < n → t k ≤ 255 ∧ 1 ≤ t k
def clR (M : gM) (σ : Wd) : Prop := stR M 1 σ.1 ∧ hiR M 263 σ.2.1 ∧ txL M 920 σ.2.2.1 σ.2.2.2 ∧ chOk σ.2.2.1 σ.2.2.2
theorem txL.kept {M M' : gM} {w : Nat} {t : Nat → Int32} {n : Nat} (h : txL M w t n) (h1 : M' w = M w) (h2 : M' (w + 1) = M (w + 1)) : txL M' w t n := ⟨h.1, fun k hk => by rw [h2]; exact h.2.1 k hk, by rw [h1]; exact h.2.2⟩
theorem clR.st {M M' : gM} {σ : Wd} {S : St} (h : clR M σ) (hS : stR M' 1 S) (hf : gFn M M' 1 131) : clR M' (S, σ.2) := ⟨hS, h.2.1.fn hf (by omega), h.2.2.1.kept (hf _ (by omega)) (hf _ (by omega)), h.2.2.2⟩
theorem clR.act {M M' : gM} {σ : Wd} (h : clR M σ) (hS : hiR M' 263 (hKeep σ.2.1 σ.1)) (hf : gFn M M' 263 657) : clR M' (wAct σ σ.1) := ⟨h.1.fn hf (by omega), hS, h.2.2.1.kept (hf _ (by omega)) (hf _ (by omega)), h.2.2.2⟩
theorem clR.kept {M M' : gM} {σ : Wd} (h : clR M σ) (h1 : ∀ r, 1 ≤ r → r < 132 → M' r = M r) (h2 : ∀ r, 263 ≤ r → r < 922 → M' r = M r) : clR M' σ := by
  refine ⟨h.1.kept fun r a b => h1 r a b, ?_, h.2.2.1.kept (h2 _ (by omega) (by omega)) (h2 _ (by omega) (by omega)), h.2.2.2⟩
  obtain ⟨a1, o, a2, a3, a4, a5⟩ := h.2.1
  refine ⟨a1, o, a2, by rw [h2 _ (by omega) (by omega)]; exact a3, by rw [h2 _ (by omega) (by omega)]; exact a4, fun i S hi => (a5 i S hi).kept fun r b1 b2 => h2 r (by omega) (by omega)⟩
def cQ (M : gM) (o : Op) (post : Option gV → gM → Prop) : Prop := ∀ M', clR M' o.2 → gFn M M' 0 926 → post (some (.inl o.1)) M'
theorem cQ.no {M : gM} {o : Op} {σ : Wd} {r : Int32} {post : Option gV → gM → Prop} (h : cQ M o post) (hM : clR M σ) (e : o = (r, σ)) : post (some (.inl r)) M := by
  subst e
  exact h M hM (gFn.rf _ _ _)
