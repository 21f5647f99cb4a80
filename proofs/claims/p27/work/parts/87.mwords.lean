/-! pure words that the bounds stand on -/
def licw (l : List Lay) : Int32 := l.foldl (fun a x => if x.1 = 0 then a + x.2.1 * x.2.2 else a) 0
/-- a layer thicker by x; gone if nothing is left -/
def lGr (l : List Lay) (j : Nat) (x : Int32) : List Lay := match l[j]? with
  | none => l
  | some y => if y.2.2 + x = 0 then l.eraseIdx j else l.set j (y.1, y.2.1, y.2.2 + x)
def mFrz (S : St) (b : Nat) : St :=
  if icy (S.1 b).1 = true then stAcc (stCol S b (lGr (S.1 b).1 0 (S.2.2.2.1 1), (S.1 b).2)) 2 (9 * S.2.2.2.1 1)
  else if (S.1 b).1.length < 8 ∧ 0 < S.2.2.2.1 1 then stAcc (stCol S b ((S.1 b).1.insertIdx 0 (0, 9, S.2.2.2.1 1), (S.1 b).2)) 2 (9 * S.2.2.2.1 1)
  else S
def mMlt (S : St) (b : Nat) : St := match (S.1 b).1 with
  | [] => S
  | x :: _ => if x.1 = 0 then stCol (stAcc S 3 (9 * (if S.2.2.2.1 2 < x.2.2 then S.2.2.2.1 2 else x.2.2))) b (lGr (S.1 b).1 0 (-(if S.2.2.2.1 2 < x.2.2 then S.2.2.2.1 2 else x.2.2)), (S.1 b).2) else S
def mIce (S : St) (b : Nat) : St := if ¬ (S.1 b).1 = [] ∧ S.2.2.2.1 0 < ltop (S.1 b) then mFrz S b else mMlt S b
def mIceN (S : St) : Nat → St
  | 0 => S
  | n + 1 => mIce (mIceN S n) n
def mTak (C : Cru) (b : Nat) (e : Int32) : Int32 := match (C b).1 with
  | [] => 0
  | x :: _ => if x.1 = 0 then 0 else match cLow C b with
    | none => 0
    | some v => if (ltop (C b) - ltop (C v)) * e / 1000 < x.2.2 then (ltop (C b) - ltop (C v)) * e / 1000 else x.2.2
def mLay (l : List Lay) (pl : Nat) (th : Int32) : List Lay × Int32 × Nat := match l[lfb l]? with
  | some x => if x.1 = 1 then (lGr l (lfb l) th, th, pl) else pNew l pl th
  | none => pNew l pl th
def mEr (S : St) (pl : Nat → Nat) (b : Nat) (tk : Int32) (v : Nat) : St × (Nat → Nat) := match (S.1 b).1[pl b]? with
  | none => (S, pl)
  | some x =>
    (stAcc (stAcc (stCol (stCol S b (lGr (S.1 b).1 (pl b) (-tk), (S.1 b).2)) v ((mLay ((cSet S.1 b (lGr (S.1 b).1 (pl b) (-tk), (S.1 b).2)) v).1 (pl v) (tk * x.2.1 / 22)).1, ((cSet S.1 b (lGr (S.1 b).1 (pl b) (-tk), (S.1 b).2)) v).2)) 4 (tk * x.2.1)) 5 (22 * (mLay ((cSet S.1 b (lGr (S.1 b).1 (pl b) (-tk), (S.1 b).2)) v).1 (pl v) (tk * x.2.1 / 22)).2.1),
      fun j => if j = v then (mLay ((cSet S.1 b (lGr (S.1 b).1 (pl b) (-tk), (S.1 b).2)) v).1 (pl v) (tk * x.2.1 / 22)).2.2 else pl j)
def mErN (S : St) (tk : Nat → Int32) (v : Nat → Nat) : Nat → St × (Nat → Nat)
  | 0 => (S, fun _ => 0)
  | n + 1 => if 0 < tk n then mEr (mErN S tk v n).1 (mErN S tk v n).2 n (tk n) (v n) else mErN S tk v n
def mFld (d b r : Int32) : Int32 := d + (if (b - d) * r / 100 = 0 then (if 0 < b - d then 1 else if b - d < 0 then -1 else 0) else (b - d) * r / 100)
def mFl (S : St) (n : Nat) : St := stCol S n ((S.1 n).1, mFld (S.1 n).2 (lbal (S.1 n).1) (S.2.2.2.1 4))
def mFlN (S : St) : Nat → St
  | 0 => S
  | n + 1 => mFl (mFlN S n) n
/-- the losing layer is there when its turn comes -/
def mGood (S : St) : Prop := ∀ n, n < 10 → 0 < mTak S.1 n (S.2.2.2.1 3) → (mErN S (fun b => mTak S.1 b (S.2.2.2.1 3)) (eV S.1) n).2 n < ((mErN S (fun b => mTak S.1 b (S.2.2.2.1 3)) (eV S.1) n).1.1 n).1.length
def mStep (S : St) : St := stAdd (mFlN (mErN (mIceN S 10) (fun b => mTak (mIceN S 10).1 b ((mIceN S 10).2.2.2.1 3)) (eV (mIceN S 10).1) 10).1 10) 1
def mStepN (S : St) : Nat → St
  | 0 => S
  | n + 1 => mStep (mStepN S n)
/-- the model's steps go as the class's -/
def mOk (S : St) (n : Nat) : Prop := (∀ i, i < n → mGood (mIceN (mStepN S i) 10)) ∧ mStepN S n = stAdd (sStepN S n) (nI n)
theorem ti_add {a b : Int32} (h1 : -2147483648 ≤ a.toInt + b.toInt) (h2 : a.toInt + b.toInt ≤ 2147483647) : (a + b).toInt = a.toInt + b.toInt := by
  rw [Int32.toInt_add]
  exact Int.bmod_eq_of_le (by omega) (by omega)
theorem ti_sub {a b : Int32} (h1 : -2147483648 ≤ a.toInt - b.toInt) (h2 : a.toInt - b.toInt ≤ 2147483647) : (a - b).toInt = a.toInt - b.toInt := by
  rw [Int32.toInt_sub]
  exact Int.bmod_eq_of_le (by omega) (by omega)
theorem ti_mul {a b : Int32} (h1 : -2147483648 ≤ a.toInt * b.toInt) (h2 : a.toInt * b.toInt ≤ 2147483647) : (a * b).toInt = a.toInt * b.toInt := by
  rw [Int32.toInt_mul]
  generalize a.toInt * b.toInt = z at h1 h2
  exact Int.bmod_eq_of_le (by omega) (by omega)
/-- a layer as calls and texts may add it -/
def vL0 (x : Lay) : Prop := ((x.1 = 0 ∧ x.2.1 = 9) ∨ (x.1 = 1 ∧ x.2.1 = 22) ∨ (x.1 = 2 ∧ 24 ≤ x.2.1 ∧ x.2.1 ≤ 32)) ∧ 1 ≤ x.2.2 ∧ x.2.2 ≤ 4000
theorem kd3 {kd : Int32} (h : 0 ≤ kd ∧ kd ≤ 2) : kd = 0 ∨ kd = 1 ∨ kd = 2 := by
  have a0 : 0 ≤ kd.toInt := Int32.le_iff_toInt_le.mp h.1
  have a2 : kd.toInt ≤ 2 := Int32.le_iff_toInt_le.mp h.2
  rcases (by omega : kd.toInt = 0 ∨ kd.toInt = 1 ∨ kd.toInt = 2) with e | e | e
  · exact Or.inl (Int32.toInt_inj.mp e)
  · exact Or.inr (Or.inl (Int32.toInt_inj.mp e))
  · exact Or.inr (Or.inr (Int32.toInt_inj.mp e))
theorem foldl_plus {α : Type} (g : α → Int32) (l : List α) (z : Int32) : l.foldl (fun a x => a + g x) z = z + l.foldl (fun a x => a + g x) 0 := by
  induction l generalizing z with
  | nil => exact (Int32.add_zero z).symm
  | cons x t ih =>
    rw [List.foldl_cons, List.foldl_cons, ih, ih (0 + g x)]
    rw [Int32.zero_add, Int32.add_assoc]
theorem lwt_cons (x : Lay) (t : List Lay) : lwt (x :: t) = x.2.1 * x.2.2 + lwt t := by
  unfold lwt
  rw [List.foldl_cons, foldl_plus (fun x : Lay => x.2.1 * x.2.2) t, Int32.zero_add]
theorem lth_cons (x : Lay) (t : List Lay) : lth (x :: t) = x.2.2 + lth t := by
  unfold lth
  rw [List.foldl_cons, foldl_plus (fun x : Lay => x.2.2) t, Int32.zero_add]
/-- the model's pressure -/
def mPrN (c : Col) (d : Int32) : Nat → Int32
  | 0 => if d ≤ c.2 then 0 else 33 * (d - c.2)
  | k + 1 => match c.1[k]? with
    | none => mPrN c d k
    | some x => mPrN c d k + x.2.1 * (if (if x.2.2 < d + lup c k then x.2.2 else d + lup c k) < 0 then 0 else (if x.2.2 < d + lup c k then x.2.2 else d + lup c k))
def mPr (c : Col) (d : Int32) : Int32 := mPrN c d c.1.length
theorem mPrN_step {c : Col} {d : Int32} {k : Nat} (hk : k < c.1.length) : mPrN c d (k + 1) = mPrN c d k + c.1[k].2.1 * (if (if c.1[k].2.2 < d + lup c k then c.1[k].2.2 else d + lup c k) < 0 then 0 else (if c.1[k].2.2 < d + lup c k then c.1[k].2.2 else d + lup c k)) := by
  rw [mPrN, List.getElem?_eq_getElem hk]
/-- the model's density -/
def mDnN (c : Col) (y : Int32) : Nat → Int32
  | 0 => if y < -c.2 then 33 else 0
  | k + 1 => match c.1[k]? with
    | none => mDnN c y k
    | some x => if lup c k - x.2.2 ≤ y ∧ y ≤ lup c k - 1 then x.2.1 else mDnN c y k
def mDn (c : Col) (y : Int32) : Int32 := mDnN c y c.1.length
theorem mDnN_step {c : Col} {y : Int32} {k : Nat} (hk : k < c.1.length) : mDnN c y (k + 1) = if lup c k - c.1[k].2.2 ≤ y ∧ y ≤ lup c k - 1 then c.1[k].2.1 else mDnN c y k := by
  rw [mDnN, List.getElem?_eq_getElem hk]
def mItF (b r d : Int32) : Nat → Int32
  | 0 => d
  | n + 1 => mFld (mItF b r d n) b r
