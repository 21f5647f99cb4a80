/-! the law's head -/
theorem st_X {args : Array Value} {s : State} {tm : Term} {N : Nat} {f : Nat → Int32} (hN : N < 2 ^ 31) (harr : (Cond.arrayOf tm .int).before args s = true) (hlen : (Term.length tm).eval args s none [] s = some (.int (Int32.ofNat N))) (hel : ∀ j : Nat, j < N → (Term.elem tm (.int (Int32.ofNat j))).eval args s none [] s = some (.int (f j))) : ∃ t : Nat, tm.eval args s none [] s = some (.ref t) ∧ va_X t N f s s.heap ∧ t < s.heap.size := by
  obtain ⟨t, ht, cell, hcell, hof, hkn, -, hsz, hval, -⟩ := va_Tof (A := fun _ => False) hN harr hlen (f := fun j => .int (f j)) hel (fun _ _ h => h)
  obtain ⟨t2, cell2, ht2, hat, -⟩ := Term.length_spec hlen
  cases ht.symm.trans ht2
  obtain ⟨hc2, -, -, -⟩ := State.arrayAt?_spec hat
  cases hcell.symm.trans hc2
  have hlt : cell.slots.size < 2 ^ 31 := by
    simp only [Term.eval, ht, hat, Option.bind_eq_bind, Option.bind_some] at hlen
    by_cases hlt : cell.slots.size < 2147483648
    · exact hlt
    · simp [hlt] at hlen
  have e : cell.slots.size = N := by
    have h1 : Int32.ofNat cell.slots.size = Int32.ofNat N := hsz
    have h2 := congrArg Int32.toNatClampNeg h1
    rw [show (Int32.ofNat cell.slots.size).toNatClampNeg = cell.slots.size from nI_clamp hlt, show (Int32.ofNat N).toNatClampNeg = N from nI_clamp hN] at h2
    exact h2
  exact ⟨t, ht, ⟨cell, hcell, hof, hkn, e, hval⟩, (Array.getElem?_eq_some_iff.mp hcell).1⟩
/-- the flags of a world that is whole -/
theorem gH_RT {E : gE} {M : gM} {F : gR} {H : Heap} (h : gH E M 926 F H) (hr : ∀ q, q < 926 → ∀ k, gRel q k → F q k = true) : gH E M 926 gRT H := by
  refine ⟨h.1, fun p hp j _ => ⟨fun t δ e => (gK_fld hp e).2, fun a b c => (gK_elm hp a b c).2⟩, h.2.2.1, fun k x hx => ?_⟩
  have hk : k < 926 := by
    have := (List.getElem?_eq_some_iff.mp hx).1
    rwa [gCs_len] at this
  rw [gCs_at hk] at hx
  cases hx
  have h1 := h.2.2.2 k _ (gCs_at hk)
  by_cases a1 : gK k < 8
  · rw [gCt_obj a1 rfl] at h1 ⊢
    have e : (List.range (gFl (gK k)).length).map (fun j => gFv E M F k j ((gFl (gK k)).getD j none)) = (List.range (gFl (gK k)).length).map (fun j => gFv E M gRT k j ((gFl (gK k)).getD j none)) := by
      refine List.map_congr_left fun j hj => ?_
      have hj := List.mem_range.mp hj
      rw [List.getD_eq_getElem?_getD, List.getElem?_eq_getElem hj, Option.getD_some]
      cases hf : (gFl (gK k))[j] with
      | none => rfl
      | some td =>
        obtain ⟨t, δ⟩ := td
        have := hr k hk j (Or.inl ⟨t, δ, by rw [List.getElem?_eq_getElem hj, hf]⟩)
        show (if F k j = true then Value.ref (E.1 + (k + δ)) else Value.null) = if gRT k j = true then Value.ref (E.1 + (k + δ)) else Value.null
        rw [if_pos this, if_pos (show gRT k _ = true from rfl)]
    rw [← e]
    exact h1
  · by_cases a2 : gK k < 11
    · rw [gCt_arr (by omega) a2 rfl] at h1 ⊢
      have h1 : H[E.1 + k]? = some (vp_cell (E.2.2.2.1 (gK k - 7)) ((gEl (gK k)).2.2.2, .inr (.inr (.inr (.inr (fun j => if F k j = true then some (E.1 + (k + (gEl (gK k)).2.1 + (gEl (gK k)).2.2.1 * j)) else none)))))) := h1
      show H[E.1 + k]? = some (vp_cell _ _)
      rw [h1, vp_cell_q, vp_cell_q]
      unfold arrV
      congr 3
      funext j
      have := hr k hk j.val (Or.inr ⟨by omega, a2, j.isLt⟩)
      dsimp only
      rw [if_pos this, if_pos (show gRT k _ = true from rfl)]
    · rw [gCt_int (by omega) rfl] at h1 ⊢
      exact h1
theorem gWW_RT {p : Program} {l : Launch} {e : Env} {R : Room} {s : State} {m : MethodId} {args : Array Value} {below : List Frame} {meth : Method} {c : Code} {Q : State → Prop} {E : gE} {nL pc : Nat} {ls : gLs} {st : List gV} {M : gM} {F : gR} {cs : Nat × Nat} (hr : ∀ q, q < 926 → ∀ k, gRel q k → F q k = true) (k : gWW p l e R s m args below meth c Q E nL pc ls st M (926, gRT, cs)) : gWW p l e R s m args below meth c Q E nL pc ls st M (926, F, cs) :=
  fun H locs la hH hS hL hV hB => k H locs la (gH_RT hH hr) hS hL hV hB
def M00 : gM := fun _ _ => 0
def F00 : gR := fun _ _ => false
theorem first_cl {M : gM} (h : ∀ r, r < 926 → ∀ k, M r k = iCB r k) : clR M σ0 := by
  have z : ∀ r, r < 926 → (r < 1 ∨ ((r - 1) ≠ 45 ∧ (r < 132))) → ∀ k, M r k = 0 := by
    intro r hr h2 k
    rw [h r hr]
    unfold iCB iSt
    by_cases a : r = 0
    · rw [if_pos a]
    · rw [if_neg a, if_pos (by omega), if_neg (by omega)]
  have col : ∀ p, p + 3 < 132 → 0 < p → p ≠ 46 → colR M p ([], 0) := fun p hp h0 h1 => ⟨Nat.zero_le _, z p (by omega) (by omega) 3, z p (by omega) (by omega) 4, fun k x hx => (by cases hx)⟩
  refine ⟨⟨fun i hi => col _ (by omega) (by omega) (by omega), fun j hj i hi => col _ (by omega) (by omega) (by omega), fun k hk => z 45 (by decide) (by decide) k, fun k hk => ?_, fun k hk => z 47 (by decide) (by decide) k, z 1 (by decide) (by decide) 5⟩, ⟨Nat.zero_le _, 0, by decide, ?_, ?_, fun i S hi => (by cases hi)⟩, ⟨Nat.zero_le _, fun k hk => absurd hk (Nat.not_lt_zero k), ?_⟩, fun k hk => absurd hk (Nat.not_lt_zero k)⟩
  · exact h 46 (by decide) k
  · exact h 263 (by decide) 1
  · exact h 263 (by decide) 2
  · exact h 920 (by decide) 1
set_option maxRecDepth 100000 in
set_option maxHeartbeats 4000000 in
theorem law_env {p : Program} {s : State} {m : MethodId} {meth : Method} {c : Code} {b L : Nat} {xs : Nat → Int32} (C0 : lw_At p s m meth c b L xs) : ∃ E : gE, E.1 = s.heap.size ∧ E.2.1 5 = b ∧ E.2.2.2.2.1 = L ∧ E.2.2.2.2.2 = xs ∧ gEnv E s := by
  obtain ⟨hx, hb, hr, hml, hown, hts, hX, hbl, hlocks, hgv⟩ := C0
  have hs := flat_of_before _ hgv
  have htA : ∀ w ∈ gA, w.before #[Value.ref b] s = true := fun w hw => hts w (gA_good w hw).1
  obtain ⟨c0, iS0, hK0⟩ := u_known (C := RX0) (T := TX0) (N := 5) (n := 5) htA ui_X0 (htA _ it_RX0)
  obtain ⟨c1, iS1, hK1⟩ := u_known (C := RX1) (T := TX1) (N := 1) (n := 1) htA ui_X1 (htA _ it_RX1)
  obtain ⟨c2, iS2, hK2⟩ := u_known (C := RX2) (T := TX2) (N := 3) (n := 3) htA ui_X2 (htA _ it_RX2)
  obtain ⟨c3, iS3, hK3⟩ := u_known (C := RX3) (T := TX3) (N := 6) (n := 6) htA ui_X3 (htA _ it_RX3)
  obtain ⟨c4, iS4, hK4⟩ := u_known (C := RX4) (T := TX4) (N := 3) (n := 3) htA ui_X4 (htA _ it_RX4)
  obtain ⟨c5, iS5, hK5⟩ := u_known (C := RX5) (T := TX5) (N := 4) (n := 4) htA ui_X5 (htA _ it_RX5)
  obtain ⟨c6, iS6, hK6⟩ := u_known (C := RX6) (T := TX6) (N := 5) (n := 5) htA ui_X6 (htA _ it_RX6)
  obtain ⟨dC, dI, hKc⟩ : ∃ (dC : Nat → ClassId) (dI : Nat → Nat → Nat), ∀ (k : Nat) (q : vw_C), vwCl[k]? = some q → u_Kn s q.1 q.2.1 q.2.2 (dC k) (dI k) := by
    refine ⟨fun k => if k = 0 then c0 else if k = 1 then c1 else if k = 2 then c2 else if k = 3 then c3 else if k = 4 then c4 else if k = 5 then c5 else c6, fun k => if k = 0 then iS0 else if k = 1 then iS1 else if k = 2 then iS2 else if k = 3 then iS3 else if k = 4 then iS4 else if k = 5 then iS5 else iS6, ?_⟩
    intro k q hq
    match k, hq with
    | 0, hq => cases hq; exact hK0
    | 1, hq => cases hq; exact hK1
    | 2, hq => cases hq; exact hK2
    | 3, hq => cases hq; exact hK3
    | 4, hq => cases hq; exact hK4
    | 5, hq => cases hq; exact hK5
    | 6, hq => cases hq; exact hK6
    | k + 7, hq => simp [vwCl] at hq
  obtain ⟨a0, k0, _, n0, n1, n2⟩ := Cond.arrayClass_spec (htA _ ac_int)
  have ao0 := hts _ ao_RX0
  obtain ⟨comp0, cA0, kA0, p0, q0, r0, u0, v0⟩ := Cond.arrayOver_spec ao0
  have ao1 := hts _ ao_RX1
  obtain ⟨comp1, cA1, kA1, p1, q1, r1, u1, v1⟩ := Cond.arrayOver_spec ao1
  have ao2 := hts _ ao_RX3
  obtain ⟨comp2, cA2, kA2, p2, q2, r2, u2, v2⟩ := Cond.arrayOver_spec ao2
  obtain ⟨t0, ht0, hX0, hl0⟩ := st_X (N := 3) (f := fun j => (gSl 0).getD j 0) (tm := .static "CrustBlocks" "LIGHTEST" "[I") (by decide) (hs _ (by decide +kernel)) (va_eqt (hs (Cond.eq (.length (.static "CrustBlocks" "LIGHTEST" "[I")) (.int 3)) (by decide +kernel))) (fun j hj => by
    rcases (by omega : j = 0 ∨ j = 1 ∨ j = 2) with rfl | rfl | rfl
    · exact va_eqt (hs (Cond.eq (.elem (.static "CrustBlocks" "LIGHTEST" "[I") (.int 0)) (.int (9 : Int32))) (by decide +kernel))
    · exact va_eqt (hs (Cond.eq (.elem (.static "CrustBlocks" "LIGHTEST" "[I") (.int 1)) (.int (22 : Int32))) (by decide +kernel))
    · exact va_eqt (hs (Cond.eq (.elem (.static "CrustBlocks" "LIGHTEST" "[I") (.int 2)) (.int (24 : Int32))) (by decide +kernel)))
  obtain ⟨t1, ht1, hX1, hl1⟩ := st_X (N := 3) (f := fun j => (gSl 1).getD j 0) (tm := .static "CrustBlocks" "HEAVIEST" "[I") (by decide) (hs _ (by decide +kernel)) (va_eqt (hs (Cond.eq (.length (.static "CrustBlocks" "HEAVIEST" "[I")) (.int 3)) (by decide +kernel))) (fun j hj => by
    rcases (by omega : j = 0 ∨ j = 1 ∨ j = 2) with rfl | rfl | rfl
    · exact va_eqt (hs (Cond.eq (.elem (.static "CrustBlocks" "HEAVIEST" "[I") (.int 0)) (.int (9 : Int32))) (by decide +kernel))
    · exact va_eqt (hs (Cond.eq (.elem (.static "CrustBlocks" "HEAVIEST" "[I") (.int 1)) (.int (22 : Int32))) (by decide +kernel))
    · exact va_eqt (hs (Cond.eq (.elem (.static "CrustBlocks" "HEAVIEST" "[I") (.int 2)) (.int (32 : Int32))) (by decide +kernel)))
  obtain ⟨t2, ht2, hX2, hl2⟩ := st_X (N := 5) (f := fun j => (gSl 2).getD j 0) (tm := .static "CrustBlocks" "FIRST_SETTINGS" "[I") (by decide) (hs _ (by decide +kernel)) (va_eqt (hs (Cond.eq (.length (.static "CrustBlocks" "FIRST_SETTINGS" "[I")) (.int 5)) (by decide +kernel))) (fun j hj => by
    rcases (by omega : j = 0 ∨ j = 1 ∨ j = 2 ∨ j = 3 ∨ j = 4) with rfl | rfl | rfl | rfl | rfl
    · exact va_eqt (hs (Cond.eq (.elem (.static "CrustBlocks" "FIRST_SETTINGS" "[I") (.int 0)) (.int (2000 : Int32))) (by decide +kernel))
    · exact va_eqt (hs (Cond.eq (.elem (.static "CrustBlocks" "FIRST_SETTINGS" "[I") (.int 1)) (.int (100 : Int32))) (by decide +kernel))
    · exact va_eqt (hs (Cond.eq (.elem (.static "CrustBlocks" "FIRST_SETTINGS" "[I") (.int 2)) (.int (100 : Int32))) (by decide +kernel))
    · exact va_eqt (hs (Cond.eq (.elem (.static "CrustBlocks" "FIRST_SETTINGS" "[I") (.int 3)) (.int (50 : Int32))) (by decide +kernel))
    · exact va_eqt (hs (Cond.eq (.elem (.static "CrustBlocks" "FIRST_SETTINGS" "[I") (.int 4)) (.int (40 : Int32))) (by decide +kernel)))
  obtain ⟨t3, ht3, hX3, hl3⟩ := st_X (N := 5) (f := fun j => (gSl 3).getD j 0) (tm := .static "CrustBlocks" "LOWEST_SETTINGS" "[I") (by decide) (hs _ (by decide +kernel)) (va_eqt (hs (Cond.eq (.length (.static "CrustBlocks" "LOWEST_SETTINGS" "[I")) (.int 5)) (by decide +kernel))) (fun j hj => by
    rcases (by omega : j = 0 ∨ j = 1 ∨ j = 2 ∨ j = 3 ∨ j = 4) with rfl | rfl | rfl | rfl | rfl
    · exact va_eqt (hs (Cond.eq (.elem (.static "CrustBlocks" "LOWEST_SETTINGS" "[I") (.int 0)) (.int (-5000 : Int32))) (by decide +kernel))
    · exact va_eqt (hs (Cond.eq (.elem (.static "CrustBlocks" "LOWEST_SETTINGS" "[I") (.int 1)) (.int (0 : Int32))) (by decide +kernel))
    · exact va_eqt (hs (Cond.eq (.elem (.static "CrustBlocks" "LOWEST_SETTINGS" "[I") (.int 2)) (.int (0 : Int32))) (by decide +kernel))
    · exact va_eqt (hs (Cond.eq (.elem (.static "CrustBlocks" "LOWEST_SETTINGS" "[I") (.int 3)) (.int (0 : Int32))) (by decide +kernel))
    · exact va_eqt (hs (Cond.eq (.elem (.static "CrustBlocks" "LOWEST_SETTINGS" "[I") (.int 4)) (.int (1 : Int32))) (by decide +kernel)))
  obtain ⟨t4, ht4, hX4, hl4⟩ := st_X (N := 5) (f := fun j => (gSl 4).getD j 0) (tm := .static "CrustBlocks" "HIGHEST_SETTINGS" "[I") (by decide) (hs _ (by decide +kernel)) (va_eqt (hs (Cond.eq (.length (.static "CrustBlocks" "HIGHEST_SETTINGS" "[I")) (.int 5)) (by decide +kernel))) (fun j hj => by
    rcases (by omega : j = 0 ∨ j = 1 ∨ j = 2 ∨ j = 3 ∨ j = 4) with rfl | rfl | rfl | rfl | rfl
    · exact va_eqt (hs (Cond.eq (.elem (.static "CrustBlocks" "HIGHEST_SETTINGS" "[I") (.int 0)) (.int (9999 : Int32))) (by decide +kernel))
    · exact va_eqt (hs (Cond.eq (.elem (.static "CrustBlocks" "HIGHEST_SETTINGS" "[I") (.int 1)) (.int (500 : Int32))) (by decide +kernel))
    · exact va_eqt (hs (Cond.eq (.elem (.static "CrustBlocks" "HIGHEST_SETTINGS" "[I") (.int 2)) (.int (500 : Int32))) (by decide +kernel))
    · exact va_eqt (hs (Cond.eq (.elem (.static "CrustBlocks" "HIGHEST_SETTINGS" "[I") (.int 3)) (.int (200 : Int32))) (by decide +kernel))
    · exact va_eqt (hs (Cond.eq (.elem (.static "CrustBlocks" "HIGHEST_SETTINGS" "[I") (.int 4)) (.int (100 : Int32))) (by decide +kernel)))
  have hA : ∀ a : Nat, a < s.heap.size → ¬ (fun q : Nat => s.heap.size ≤ q) a := fun a h1 h2 => absurd h1 (Nat.not_lt.mpr h2)
  have hin : (Cond.initialized "CrustBlocks").before #[Value.ref b] s = true := htA _ in_RX6
  have hZ0 : va_Z "CrustBlocks" "LIGHTEST" "[I" (.ref t0) (fun q => s.heap.size ≤ q) s s.heap := va_Zref (hts _ ls_LIGHTEST) hin ht0 hA
  have hZ1 : va_Z "CrustBlocks" "HEAVIEST" "[I" (.ref t1) (fun q => s.heap.size ≤ q) s s.heap := va_Zref (hts _ ls_HEAVIEST) hin ht1 hA
  have hZ2 : va_Z "CrustBlocks" "FIRST_SETTINGS" "[I" (.ref t2) (fun q => s.heap.size ≤ q) s s.heap := va_Zref (hts _ ls_FIRST_SETTINGS) hin ht2 hA
  have hZ3 : va_Z "CrustBlocks" "LOWEST_SETTINGS" "[I" (.ref t3) (fun q => s.heap.size ≤ q) s s.heap := va_Zref (hts _ ls_LOWEST_SETTINGS) hin ht3 hA
  have hZ4 : va_Z "CrustBlocks" "HIGHEST_SETTINGS" "[I" (.ref t4) (fun q => s.heap.size ≤ q) s s.heap := va_Zref (hts _ ls_HIGHEST_SETTINGS) hin ht4 hA
  refine ⟨(s.heap.size, (fun k => if k = 0 then t0 else if k = 1 then t1 else if k = 2 then t2 else if k = 3 then t3 else if k = 4 then t4 else b), (dC, dI), (fun k => if k = 0 then a0 else if k = 1 then cA0 else if k = 2 then cA1 else cA2), L, xs), rfl, rfl, rfl, rfl, ⟨hKc, fun k q hq => ?_⟩, fun q hq => ?_, fun q hq => ?_, fun k hk => ?_, fun k hk => ?_, ⟨va_AO.of ao0, va_AO.of ao1, va_AO.of ao2⟩, Nat.le_refl _⟩
  · match k, hq with
    | 0, hq =>
      cases hq
      exact ⟨fun n z => ⟨fun k h => (by cases h), k0, n1, _, n2⟩, n0⟩
    | 1, hq =>
      cases hq
      exact ⟨fun n z => ⟨fun k h => (by cases h), kA0, r0, comp0, u0⟩, kA0, comp0, r0, u0, p0, v0⟩
    | 2, hq =>
      cases hq
      exact ⟨fun n z => ⟨fun k h => (by cases h), kA1, r1, comp1, u1⟩, kA1, comp1, r1, u1, p1, v1⟩
    | 3, hq =>
      cases hq
      exact ⟨fun n z => ⟨fun k h => (by cases h), kA2, r2, comp2, u2⟩, kA2, comp2, r2, u2, p2, v2⟩
    | k + 4, hq => simp [gTys] at hq
  · refine va_Nw.of rfl (A := #[Value.ref b]) (hts _ ?_)
    simp only [gNm, List.mem_cons, List.not_mem_nil, or_false] at hq
    rcases hq with rfl | rfl | rfl | rfl | rfl | rfl | rfl | rfl
    · exact mn_RX1_17
    · exact mn_RX6_28
    · exact mn_RX6_35
    · exact mn_RX0_34
    · exact mn_RX4_105
    · exact mn_RX5_34
    · exact mn_RX5_82
    · exact mn_RX5_102
  · refine va_Nw.of rfl (A := #[Value.ref b]) (hts _ ?_)
    simp only [gNf, List.mem_cons, List.not_mem_nil, or_false] at hq
    rcases hq with rfl | rfl | rfl
    · exact fn_RX3_32
    · exact fn_RX5_85
    · exact fn_RX5_88
  · match k, hk with
    | 0, _ => exact hZ0
    | 1, _ => exact hZ1
    | 2, _ => exact hZ2
    | 3, _ => exact hZ3
    | 4, _ => exact hZ4
    | k + 5, hk => omega
  · match k, hk with
    | 0, _ => exact ⟨hX0, hl0⟩
    | 1, _ => exact ⟨hX1, hl1⟩
    | 2, _ => exact ⟨hX2, hl2⟩
    | 3, _ => exact ⟨hX3, hl3⟩
    | 4, _ => exact ⟨hX4, hl4⟩
    | 5, _ => exact ⟨hX, hbl⟩
    | k + 6, hk => omega
