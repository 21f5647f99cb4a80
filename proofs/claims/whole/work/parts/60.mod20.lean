/-! the model: take -/
def mSp (s : Nat → Int32) (j k : Nat) : Nat → Int32 := fun z => if 274 + 261 * j ≤ z ∧ z < 274 + 261 * j + k then s (z - (274 + 261 * j)) else if z = 273 + 261 * j then 1 else s z
theorem mSp_R {s : Nat → Int32} {S : St} {j : Nat} (h : msR s S) (hj : j < 2) : msR (mSp s j 260) (stSnap S j) := by
  obtain ⟨h1, h2, h3, h4, h5, h6, h7⟩ := h
  have out : ∀ z, (z < 273 + 261 * j ∨ 273 + 261 * j + 261 ≤ z) → mSp s j 260 z = s z := fun z hz => by
    unfold mSp
    rw [if_neg (by omega), if_neg (by omega)]
  refine ⟨fun b hb => (h1 b hb).kept fun i hi => out _ (by omega), fun i hi b hb => ?_, fun i hi => ?_, fun k hk => (out _ (by omega)).trans (h4 k hk), fun k hk => (out _ (by omega)).trans (h5 k hk), (out _ (by omega)).trans h6, (out _ (by omega)).trans h7⟩
  · show mcR _ _ ((if i = j then S.1 else S.2.1 i) b)
    by_cases e : i = j
    · subst e
      rw [if_pos rfl]
      refine (h1 b hb).kept fun k hk => ?_
      unfold mSp
      rw [if_pos (by omega)]
      congr 1
      omega
    · rw [if_neg e]
      exact (h2 i hi b hb).kept fun k hk => out _ (by omega)
  · show _ = (if i = j then 1 else S.2.2.1 i)
    by_cases e : i = j
    · subst e
      rw [if_pos rfl]
      unfold mSp
      rw [if_neg (by omega), if_pos rfl]
    · rw [if_neg e]
      exact (out _ (by omega)).trans (h3 i hi)
