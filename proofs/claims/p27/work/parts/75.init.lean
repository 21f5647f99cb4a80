/-! the constructors -/
def gRel (q k : Nat) : Prop := (∃ t δ, (gFl (gK q))[k]? = some (some (t, δ))) ∨ (8 ≤ gK q ∧ gK q < 11 ∧ k < (gEl (gK q)).2.2.2)
theorem gRel_obj {q k a : Nat} (h : gK q = a) (ha : a < 8) (hr : gRel q k) : ∃ t δ, (gFl a)[k]? = some (some (t, δ)) := by
  subst h
  rcases hr with h | ⟨h, -, -⟩
  · exact h
  · omega
theorem gRel_arr {q k a : Nat} (h : gK q = a) (h8 : 8 ≤ a) (ha : a < 11) (hr : gRel q k) : k < (gEl a).2.2.2 := by
  subst h
  rcases hr with ⟨t, δ, h⟩ | ⟨-, -, h⟩
  · have : gFl (gK q) = [] := by
      rcases (by omega : gK q = 8 ∨ gK q = 9 ∨ gK q = 10) with e | e | e <;> (rw [e]; rfl)
    rw [this] at h
    cases h
  · exact h
theorem gFl_100 (a : Nat) : gFl (100 + a) = [] := by
  unfold gFl
  split <;> first | omega | rfl
theorem gRel_int {q k a : Nat} (h : gK q = 100 + a) (hr : gRel q k) : False := by
  rcases hr with ⟨t, δ, h2⟩ | ⟨-, h2, -⟩
  · rw [h, gFl_100] at h2
    cases h2
  · omega
/-- what a constructor's whole leaves: from q on, sz places -/
def gDone (q sz : Nat) (ini : Nat → Nat → Int32) (M : gM) (F : gR) (M' : gM) (F' : gR) : Prop :=
  (∀ r, r < q → M' r = M r ∧ F' r = F r) ∧ (∀ r, r < sz → ∀ k, M' (q + r) k = ini r k) ∧ (∀ r, r < sz → ∀ k, gRel (q + r) k → F' (q + r) k = true) ∧ gFree (q + sz) M' F'
def gIT (t sz : Nat) (ini : Nat → Nat → Int32) : gT := fun av M n F post => ∃ q, av = [.inr (.inl (t, q))] ∧ n = q + 1 ∧ q + sz ≤ 926 ∧ gK q = t ∧ gFree q M F ∧ ∀ M' F', gDone q sz ini M F M' F' → post none M' (q + sz) F'
def i0 : Nat → Nat → Int32 := fun _ _ => 0
theorem gB_eq {p : Program} {l : Launch} {e : Env} {R : Room} {s : State} {m : MethodId} {args : Array Value} {below : List Frame} {meth : Method} {c : Code} {Q : State → Prop} {E : gE} {nL pc : Nat} {ls : gLs} {st : List gV} {M : gM} {B B2 : gB} (h : B = B2) (k : gWW p l e R s m args below meth c Q E nL pc ls st M B2) : gWW p l e R s m args below meth c Q E nL pc ls st M B := by
  subst h
  exact k
theorem gFree.fu {q b n : Nat} {M : gM} {F : gR} (h : gFree n M F) (hq : q < n) : gFree n M (gFu F q b) := fun r hr k => ⟨(h r hr k).1, (gFu_ne (Or.inl (by omega))).trans (h r hr k).2⟩
theorem oi_0 (l : Launch) : gOK l yX0_init cX0_init 1 none 1 3 24 (gIT 0 4 i0) := by
  refine gOK_of (by decide) ?_
  rintro p e s m args below meth c E av M n F post X hr hlk hin2 ⟨q, rfl, rfl, hsz, hk, hfr, h⟩
  have hin2 : meth.name = "<init>" := hin2 rfl
  have hqN : q < gN := Nat.lt_of_lt_of_le (by omega) hsz
  refine ⟨⟨by simp [gC1], Nat.le_of_ble_eq_true rfl⟩, ?_⟩
  have hls : gEnt 1 [.inr (.inl (0, q))] = [some (.inr (.inl (0, q)))] := rfl
  rw [hls]
  have k1 : gK (q + 1) = 108 := (gK_fld hqN (b := 0) (by rw [hk]; rfl)).1
  have k2 : gK (q + 2) = 108 := (gK_fld hqN (b := 1) (by rw [hk]; rfl)).1
  have k3 : gK (q + 3) = 108 := (gK_fld hqN (b := 2) (by rw [hk]; rfl)).1
  refine g_aload_n X (show decode cX0_init 0 = .ok (.aload_n 0, 1) by decide +kernel) rfl ?_
  refine g_oinit X ml_RX0_3 (by decide) (by decide) (by rw [gCat_eq]; exact Nat.le_of_ble_eq_true rfl) (show decode cX0_init 1 = .ok (.invokespecial 3, 3) by decide +kernel) ?_
  refine g_aload_n X (show decode cX0_init 4 = .ok (.aload_n 0, 1) by decide +kernel) rfl ?_
  refine g_bipush (v := nI 8) X (show decode cX0_init 5 = .ok (.bipush 8, 2) by decide +kernel) rfl ?_
  refine g_newI (N := 8) X (by decide) (by show _ < 926; omega) (k1) (fun k => ⟨(hfr (q + 1) (by omega) k).1, by show F (q + 1) k = false; exact (hfr _ (by omega) k).2⟩) (show decode cX0_init 7 = .ok (.newarray .int, 2) by decide +kernel) ⟨Nat.le_of_ble_eq_true rfl, Nat.le_of_ble_eq_true rfl⟩ ?_
  refine gB_eq (B2 := (q + 2, F, 1, 8)) rfl ?_
  refine g_putR (b := 0) X gcl_0 fl_RX0_9 hin2 rfl (show decode cX0_init 9 = .ok (.putfield 9, 3) by decide +kernel) rfl ?_
  refine gB_eq (B2 := (q + 2, (gFu F q 0), 1, 8)) rfl ?_
  refine g_aload_n X (show decode cX0_init 12 = .ok (.aload_n 0, 1) by decide +kernel) rfl ?_
  refine g_bipush (v := nI 8) X (show decode cX0_init 13 = .ok (.bipush 8, 2) by decide +kernel) rfl ?_
  refine g_newI (N := 8) X (by decide) (by show _ < 926; omega) (k2) (fun k => ⟨(hfr (q + 2) (by omega) k).1, by show (gFu F q 0) (q + 2) k = false; rw [gFu_ne (Or.inl (by omega))]; exact (hfr _ (by omega) k).2⟩) (show decode cX0_init 15 = .ok (.newarray .int, 2) by decide +kernel) ⟨Nat.le_of_ble_eq_true rfl, Nat.le_of_ble_eq_true rfl⟩ ?_
  refine gB_eq (B2 := (q + 3, (gFu F q 0), 2, 16)) rfl ?_
  refine g_putR (b := 1) X gcl_0 fl_RX0_15 hin2 rfl (show decode cX0_init 17 = .ok (.putfield 15, 3) by decide +kernel) rfl ?_
  refine gB_eq (B2 := (q + 3, (gFu (gFu F q 0) q 1), 2, 16)) rfl ?_
  refine g_aload_n X (show decode cX0_init 20 = .ok (.aload_n 0, 1) by decide +kernel) rfl ?_
  refine g_bipush (v := nI 8) X (show decode cX0_init 21 = .ok (.bipush 8, 2) by decide +kernel) rfl ?_
  refine g_newI (N := 8) X (by decide) (by show _ < 926; omega) (k3) (fun k => ⟨(hfr (q + 3) (by omega) k).1, by show (gFu (gFu F q 0) q 1) (q + 3) k = false; rw [gFu_ne (Or.inl (by omega)), gFu_ne (Or.inl (by omega))]; exact (hfr _ (by omega) k).2⟩) (show decode cX0_init 23 = .ok (.newarray .int, 2) by decide +kernel) ⟨Nat.le_of_ble_eq_true rfl, Nat.le_of_ble_eq_true rfl⟩ ?_
  refine gB_eq (B2 := (q + 4, (gFu (gFu F q 0) q 1), 3, 24)) rfl ?_
  refine g_putR (b := 2) X gcl_0 fl_RX0_18 hin2 rfl (show decode cX0_init 25 = .ok (.putfield 18, 3) by decide +kernel) rfl ?_
  refine gB_eq (B2 := (q + 4, (gFu (gFu (gFu F q 0) q 1) q 2), 3, 24)) rfl ?_
  refine g_vret X hr hlk (show decode cX0_init 28 = .ok (.return_, 1) by decide +kernel) rfl ?_
  refine h M (gFu (gFu (gFu F q 0) q 1) q 2) ⟨fun r hr => ⟨rfl, ?_⟩, fun r hr k => (hfr _ (by omega) k).1, fun r hr k hrel => ?_, ?_⟩
  · rw [gFu_row (by omega), gFu_row (by omega), gFu_row (by omega)]
  · rcases (by omega : r = 0 ∨ r = 1 ∨ r = 2 ∨ r = 3) with rfl | rfl | rfl | rfl
    · obtain ⟨t, δ, hf⟩ := gRel_obj (q := q + 0) (a := 0) hk (by decide) hrel
      rw [Nat.add_zero]
      match k, hf with
      | 0, _ => rw [gFu_ne (Or.inr (by decide)), gFu_ne (Or.inr (by decide))]; exact gFu_same _ _ _
      | 1, _ => rw [gFu_ne (Or.inr (by decide))]; exact gFu_same _ _ _
      | 2, _ => exact gFu_same _ _ _
      | 3, hf => cases hf
      | 4, hf => cases hf
      | k + 5, hf => simp [gFl] at hf
    · exact (gRel_int (a := 8) k1 hrel).elim
    · exact (gRel_int (a := 8) k2 hrel).elim
    · exact (gRel_int (a := 8) k3 hrel).elim
  · exact gFree.fu (gFree.fu (gFree.fu (hfr.mono (show q ≤ q + 4 by omega)) (by omega)) (by omega)) (by omega)
theorem oi_4 (l : Launch) : gOK l yX4_init cX4_init 1 none 1 3 30 (gIT 4 4 i0) := by
  refine gOK_of (by decide) ?_
  rintro p e s m args below meth c E av M n F post X hr hlk hin2 ⟨q, rfl, rfl, hsz, hk, hfr, h⟩
  have hin2 : meth.name = "<init>" := hin2 rfl
  have hqN : q < gN := Nat.lt_of_lt_of_le (by omega) hsz
  refine ⟨⟨by simp [gC1], Nat.le_of_ble_eq_true rfl⟩, ?_⟩
  have hls : gEnt 1 [.inr (.inl (4, q))] = [some (.inr (.inl (4, q)))] := rfl
  rw [hls]
  have k1 : gK (q + 1) = 110 := (gK_fld hqN (b := 0) (by rw [hk]; rfl)).1
  have k2 : gK (q + 2) = 110 := (gK_fld hqN (b := 1) (by rw [hk]; rfl)).1
  have k3 : gK (q + 3) = 110 := (gK_fld hqN (b := 2) (by rw [hk]; rfl)).1
  refine g_aload_n X (show decode cX4_init 0 = .ok (.aload_n 0, 1) by decide +kernel) rfl ?_
  refine g_oinit X ml_RX4_3 (by decide) (by decide) (by rw [gCat_eq]; exact Nat.le_of_ble_eq_true rfl) (show decode cX4_init 1 = .ok (.invokespecial 3, 3) by decide +kernel) ?_
  refine g_aload_n X (show decode cX4_init 4 = .ok (.aload_n 0, 1) by decide +kernel) rfl ?_
  refine g_bipush (v := nI 10) X (show decode cX4_init 5 = .ok (.bipush 10, 2) by decide +kernel) rfl ?_
  refine g_newI (N := 10) X (by decide) (by show _ < 926; omega) (k1) (fun k => ⟨(hfr (q + 1) (by omega) k).1, by show F (q + 1) k = false; exact (hfr _ (by omega) k).2⟩) (show decode cX4_init 7 = .ok (.newarray .int, 2) by decide +kernel) ⟨Nat.le_of_ble_eq_true rfl, Nat.le_of_ble_eq_true rfl⟩ ?_
  refine gB_eq (B2 := (q + 2, F, 1, 10)) rfl ?_
  refine g_putR (b := 0) X gcl_4 fl_RX4_9 hin2 rfl (show decode cX4_init 9 = .ok (.putfield 9, 3) by decide +kernel) rfl ?_
  refine gB_eq (B2 := (q + 2, (gFu F q 0), 1, 10)) rfl ?_
  refine g_aload_n X (show decode cX4_init 12 = .ok (.aload_n 0, 1) by decide +kernel) rfl ?_
  refine g_bipush (v := nI 10) X (show decode cX4_init 13 = .ok (.bipush 10, 2) by decide +kernel) rfl ?_
  refine g_newI (N := 10) X (by decide) (by show _ < 926; omega) (k2) (fun k => ⟨(hfr (q + 2) (by omega) k).1, by show (gFu F q 0) (q + 2) k = false; rw [gFu_ne (Or.inl (by omega))]; exact (hfr _ (by omega) k).2⟩) (show decode cX4_init 15 = .ok (.newarray .int, 2) by decide +kernel) ⟨Nat.le_of_ble_eq_true rfl, Nat.le_of_ble_eq_true rfl⟩ ?_
  refine gB_eq (B2 := (q + 3, (gFu F q 0), 2, 20)) rfl ?_
  refine g_putR (b := 1) X gcl_4 fl_RX4_15 hin2 rfl (show decode cX4_init 17 = .ok (.putfield 15, 3) by decide +kernel) rfl ?_
  refine gB_eq (B2 := (q + 3, (gFu (gFu F q 0) q 1), 2, 20)) rfl ?_
  refine g_aload_n X (show decode cX4_init 20 = .ok (.aload_n 0, 1) by decide +kernel) rfl ?_
  refine g_bipush (v := nI 10) X (show decode cX4_init 21 = .ok (.bipush 10, 2) by decide +kernel) rfl ?_
  refine g_newI (N := 10) X (by decide) (by show _ < 926; omega) (k3) (fun k => ⟨(hfr (q + 3) (by omega) k).1, by show (gFu (gFu F q 0) q 1) (q + 3) k = false; rw [gFu_ne (Or.inl (by omega)), gFu_ne (Or.inl (by omega))]; exact (hfr _ (by omega) k).2⟩) (show decode cX4_init 23 = .ok (.newarray .int, 2) by decide +kernel) ⟨Nat.le_of_ble_eq_true rfl, Nat.le_of_ble_eq_true rfl⟩ ?_
  refine gB_eq (B2 := (q + 4, (gFu (gFu F q 0) q 1), 3, 30)) rfl ?_
  refine g_putR (b := 2) X gcl_4 fl_RX4_18 hin2 rfl (show decode cX4_init 25 = .ok (.putfield 18, 3) by decide +kernel) rfl ?_
  refine gB_eq (B2 := (q + 4, (gFu (gFu (gFu F q 0) q 1) q 2), 3, 30)) rfl ?_
  refine g_vret X hr hlk (show decode cX4_init 28 = .ok (.return_, 1) by decide +kernel) rfl ?_
  refine h M (gFu (gFu (gFu F q 0) q 1) q 2) ⟨fun r hr => ⟨rfl, ?_⟩, fun r hr k => (hfr _ (by omega) k).1, fun r hr k hrel => ?_, ?_⟩
  · rw [gFu_row (by omega), gFu_row (by omega), gFu_row (by omega)]
  · rcases (by omega : r = 0 ∨ r = 1 ∨ r = 2 ∨ r = 3) with rfl | rfl | rfl | rfl
    · obtain ⟨t, δ, hf⟩ := gRel_obj (q := q + 0) (a := 4) hk (by decide) hrel
      rw [Nat.add_zero]
      match k, hf with
      | 0, _ => rw [gFu_ne (Or.inr (by decide)), gFu_ne (Or.inr (by decide))]; exact gFu_same _ _ _
      | 1, _ => rw [gFu_ne (Or.inr (by decide))]; exact gFu_same _ _ _
      | 2, _ => exact gFu_same _ _ _
      | k + 3, hf => simp [gFl] at hf
    · exact (gRel_int (a := 10) k1 hrel).elim
    · exact (gRel_int (a := 10) k2 hrel).elim
    · exact (gRel_int (a := 10) k3 hrel).elim
  · exact gFree.fu (gFree.fu (gFree.fu (hfr.mono (show q ≤ q + 4 by omega)) (by omega)) (by omega)) (by omega)
theorem oi_5 (l : Launch) : gOK l yX5_init cX5_init 1 none 1 1 140 (gIT 5 2 i0) := by
  refine gOK_of (by decide) ?_
  rintro p e s m args below meth c E av M n F post X hr hlk hin2 ⟨q, rfl, rfl, hsz, hk, hfr, h⟩
  have hin2 : meth.name = "<init>" := hin2 rfl
  have hqN : q < gN := Nat.lt_of_lt_of_le (by omega) hsz
  refine ⟨⟨by simp [gC1], Nat.le_of_ble_eq_true rfl⟩, ?_⟩
  have hls : gEnt 1 [.inr (.inl (5, q))] = [some (.inr (.inl (5, q)))] := rfl
  rw [hls]
  have k1 : gK (q + 1) = 240 := (gK_fld hqN (b := 0) (by rw [hk]; rfl)).1
  refine g_aload_n X (show decode cX5_init 0 = .ok (.aload_n 0, 1) by decide +kernel) rfl ?_
  refine g_oinit X ml_RX5_3 (by decide) (by decide) (by rw [gCat_eq]; exact Nat.le_of_ble_eq_true rfl) (show decode cX5_init 1 = .ok (.invokespecial 3, 3) by decide +kernel) ?_
  refine g_aload_n X (show decode cX5_init 4 = .ok (.aload_n 0, 1) by decide +kernel) rfl ?_
  refine g_sipush (v := nI 140) X (show decode cX5_init 5 = .ok (.sipush 140, 3) by decide +kernel) rfl ?_
  refine g_newI (N := 140) X (by decide) (by show _ < 926; omega) (k1) (fun k => ⟨(hfr (q + 1) (by omega) k).1, by show F (q + 1) k = false; exact (hfr _ (by omega) k).2⟩) (show decode cX5_init 8 = .ok (.newarray .int, 2) by decide +kernel) ⟨Nat.le_of_ble_eq_true rfl, Nat.le_of_ble_eq_true rfl⟩ ?_
  refine gB_eq (B2 := (q + 2, F, 1, 140)) rfl ?_
  refine g_putR (b := 0) X gcl_5 fl_RX5_9 hin2 rfl (show decode cX5_init 10 = .ok (.putfield 9, 3) by decide +kernel) rfl ?_
  refine gB_eq (B2 := (q + 2, (gFu F q 0), 1, 140)) rfl ?_
  refine g_vret X hr hlk (show decode cX5_init 13 = .ok (.return_, 1) by decide +kernel) rfl ?_
  refine h M (gFu F q 0) ⟨fun r hr => ⟨rfl, ?_⟩, fun r hr k => (hfr _ (by omega) k).1, fun r hr k hrel => ?_, ?_⟩
  · rw [gFu_row (by omega)]
  · rcases (by omega : r = 0 ∨ r = 1) with rfl | rfl
    · obtain ⟨t, δ, hf⟩ := gRel_obj (q := q + 0) (a := 5) hk (by decide) hrel
      rw [Nat.add_zero]
      match k, hf with
      | 0, _ => exact gFu_same _ _ _
      | 1, hf => cases hf
      | 2, hf => cases hf
      | 3, hf => cases hf
      | k + 4, hf => simp [gFl] at hf
    · exact (gRel_int (a := 140) k1 hrel).elim
  · exact gFree.fu (hfr.mono (show q ≤ q + 2 by omega)) (by omega)
/-- a part of what a constructor leaves: h places from q on; open are the object's own fields and the array at x -/
def gPart (q h x : Nat) (ini : Nat → Nat → Int32) (M : gM) (F : gR) (M' : gM) (F' : gR) : Prop :=
  (∀ r, r < q → M' r = M r ∧ F' r = F r) ∧ (∀ r, r < h → ∀ k, M' (q + r) k = ini r k) ∧ (∀ r, r < h → r ≠ 0 → r ≠ x → ∀ k, gRel (q + r) k → F' (q + r) k = true) ∧ gFree (q + h) M' F'
theorem gPart.free {q h x : Nat} {ini : Nat → Nat → Int32} {M M' : gM} {F F' : gR} (P : gPart q h x ini M F M' F') : ∀ k, M' (q + h) k = 0 ∧ F' (q + h) k = false := fun k => P.2.2.2 _ (Nat.le_refl _) k
theorem gPart.start {q x : Nat} {ini : Nat → Nat → Int32} {M : gM} {F : gR} (hf : gFree q M F) (hi : ∀ k, ini 0 k = 0) : gPart q 1 x ini M F M F := by
  refine ⟨fun _ _ => ⟨rfl, rfl⟩, fun r hr k => ?_, fun r hr h0 => absurd (by omega) h0, hf.mono (Nat.le_succ q)⟩
  obtain rfl : r = 0 := by omega
  rw [hi]
  exact (hf _ (Nat.le_add_right _ _) k).1
theorem gPart.int {q h x a : Nat} {ini : Nat → Nat → Int32} {M M' : gM} {F F' : gR} (P : gPart q h x ini M F M' F') (hk : gK (q + h) = 100 + a) (hi : ∀ k, ini h k = 0) : gPart q (h + 1) x ini M F M' F' := by
  refine ⟨P.1, fun r hr k => ?_, fun r hr h0 hx k hrel => ?_, P.2.2.2.mono (Nat.le_succ _)⟩
  · by_cases e : r = h
    · subst e
      rw [hi]
      exact (P.free k).1
    · exact P.2.1 r (by omega) k
  · by_cases e : r = h
    · subst e
      exact (gRel_int hk hrel).elim
    · exact P.2.2.1 r (by omega) h0 hx k hrel
theorem gPart.ref {q x : Nat} {ini : Nat → Nat → Int32} {M M' : gM} {F F' : gR} (P : gPart q x x ini M F M' F') (hi : ∀ k, ini x k = 0) : gPart q (x + 1) x ini M F M' F' := by
  refine ⟨P.1, fun r hr k => ?_, fun r hr h0 hx k hrel => P.2.2.1 r (by omega) h0 hx k hrel, P.2.2.2.mono (Nat.le_succ _)⟩
  by_cases e : r = x
  · subst e
    rw [hi]
    exact (P.free k).1
  · exact P.2.1 r (by omega) k
theorem gPart.new {q h x z : Nat} {ini inE : Nat → Nat → Int32} {M M' M2 : gM} {F F' F2 : gR} (P : gPart q h x ini M F M' F') (D : gDone (q + h) z inE M' F' M2 F2) (hi : ∀ r, r < z → ∀ k, ini (h + r) k = inE r k) : gPart q (h + z) x ini M F M2 F2 := by
  refine ⟨fun r hr => ⟨((D.1 r (by omega)).1).trans (P.1 r hr).1, ((D.1 r (by omega)).2).trans (P.1 r hr).2⟩, fun r hr k => ?_, fun r hr h0 hx k hrel => ?_, ?_⟩
  · by_cases e : r < h
    · rw [(D.1 (q + r) (by omega)).1]
      exact P.2.1 r e k
    · obtain ⟨y, rfl⟩ : ∃ y, r = h + y := ⟨r - h, by omega⟩
      rw [hi y (by omega), ← Nat.add_assoc]
      exact D.2.1 y (by omega) k
  · by_cases e : r < h
    · rw [(D.1 (q + r) (by omega)).2]
      exact P.2.2.1 r e h0 hx k hrel
    · obtain ⟨y, rfl⟩ : ∃ y, r = h + y := ⟨r - h, by omega⟩
      rw [← Nat.add_assoc] at hrel ⊢
      exact D.2.2.1 y (by omega) k hrel
  · rw [← Nat.add_assoc]
    exact D.2.2.2
theorem gPart.fu {q h x : Nat} {ini : Nat → Nat → Int32} {M M' : gM} {F F' : gR} (P : gPart q h x ini M F M' F') {p : Nat} (b : Nat) (h1 : q ≤ p) (h2 : p < q + h) : gPart q h x ini M F M' (gFu F' p b) := by
  refine ⟨fun r hr => ⟨(P.1 r hr).1, (gFu_row (by omega)).trans (P.1 r hr).2⟩, P.2.1, fun r hr h0 hx k hrel => ?_, P.2.2.2.fu h2⟩
  have := P.2.2.1 r hr h0 hx k hrel
  unfold gFu
  split
  · rfl
  · exact this
theorem gPart.done {q h x : Nat} {ini : Nat → Nat → Int32} {M M' : gM} {F F' : gR} (P : gPart q h x ini M F M' F') (h0 : ∀ k, gRel q k → F' q k = true) (hx : ∀ k, gRel (q + x) k → F' (q + x) k = true) : gDone q h ini M F M' F' := by
  refine ⟨P.1, P.2.1, fun r hr k hrel => ?_, P.2.2.2⟩
  by_cases e0 : r = 0
  · subst e0
    exact h0 k hrel
  · by_cases e1 : r = x
    · subst e1
      exact hx k hrel
    · exact P.2.2.1 r hr e0 e1 k hrel
theorem g_astR2 {p : Program} {l : Launch} {e : Env} {R : Room} {s : State} {m : MethodId} {args : Array Value} {below : List Frame} {meth : Method} {c : Code} {Q : State → Prop} {E : gE} {nL : Nat} {own : String} {cc : ByteArray} {d pc : Nat} {ls : gLs} {st : List gV} {M : gM} {B : gB} {a q v j : Nat} {i : Int32} {r : vw_C} (X : gX p R s m args c E own cc nL d) (h8 : 8 ≤ a) (ha : a < 11) (hr : gCl (gEl a).1 r) (hrn : r.1 = gCn a) (hin : vp_in i (gEl a).2.2.2) (hj : i.toNatClampNeg = j) (hv : v = q + (gEl a).2.1 + (gEl a).2.2.1 * j) (hd : decode cc pc = .ok (.aastore, 1))
    (k : gWW p l e R s m args below meth c Q E nL (pc + 1) ls st M (B.1, gFu B.2.1 q j, B.2.2)) :
    gWW p l e R s m args below meth c Q E nL pc ls (.inr (.inl ((gEl a).1, v)) :: .inl i :: .inr (.inl (a, q)) :: st) M B := by
  subst hj
  subst hv
  exact g_astR X h8 ha hr hrn hin hd k
theorem gB_mk {a a2 c c2 s s2 : Nat} (F : gR) (h1 : a = a2) (h2 : c = c2) (h3 : s = s2) : ((a, F, c, s) : gB) = (a2, F, c2, s2) := by
  subst h1
  subst h2
  subst h3
  rfl
theorem oi_1 (l : Launch) : gOK l yX1_init cX1_init 2 none 2 41 300 (gIT 1 42 i0) := by
  refine gOK_of (by decide) ?_
  rintro p e s m args below meth c E av M n F post X hr hlk hin2 ⟨q, rfl, rfl, hsz, hk, hfr, h⟩
  have hin2 : meth.name = "<init>" := hin2 rfl
  have hqN : q < gN := Nat.lt_of_lt_of_le (by omega) hsz
  refine ⟨⟨by simp [gC1], Nat.le_of_ble_eq_true rfl⟩, ?_⟩
  have hls : gEnt 2 [.inr (.inl (1, q))] = [some (.inr (.inl (1, q))), none] := rfl
  rw [hls]
  have hsz : q + 42 ≤ 926 := hsz
  have kx : gK (q + 1) = 8 := (gK_fld hqN (b := 0) (by rw [hk]; rfl)).1
  have P : gPart q 1 1 i0 M F M F := gPart.start hfr (fun _ => rfl)
  refine g_aload_n X (show decode cX1_init 0 = .ok (.aload_n 0, 1) by decide +kernel) rfl ?_
  refine g_oinit X ml_RX1_3 (by decide) (by decide) (by rw [gCat_eq]; exact Nat.le_of_ble_eq_true rfl) (show decode cX1_init 1 = .ok (.invokespecial 3, 3) by decide +kernel) ?_
  refine g_aload_n X (show decode cX1_init 4 = .ok (.aload_n 0, 1) by decide +kernel) rfl ?_
  refine g_bipush (v := nI 10) X (show decode cX1_init 5 = .ok (.bipush 10, 2) by decide +kernel) rfl ?_
  refine g_newA (a := 8) X (by decide) (by decide) cl_RX1_9 (by show _ < 926; omega) (kx) P.free (show decode cX1_init 7 = .ok (.anewarray 9, 3) by decide +kernel) ⟨Nat.le_of_ble_eq_true rfl, Nat.le_of_ble_eq_true rfl⟩ ?_
  refine gB_eq (B2 := (q + 2, F, 1, 10)) rfl ?_
  have P := P.ref (fun _ => rfl)
  refine g_putR (b := 0) X gcl_1 fl_RX1_11 hin2 rfl (show decode cX1_init 10 = .ok (.putfield 11, 3) by decide +kernel) rfl ?_
  have P := P.fu (p := q) 0 (Nat.le_refl _) (by omega)
  have f0 := gFu_same F q 0
  refine gB_eq (B2 := (q + 2, (gFu F q 0), 1, 10)) rfl ?_
  generalize (gFu F q 0) = F100 at P f0 ⊢
  refine g_iconst (v := nI 0) X (show decode cX1_init 13 = .ok (.iconst 0, 1) by decide +kernel) rfl ?_
  refine g_istore_n X (show decode cX1_init 14 = .ok (.istore_n 1, 1) by decide +kernel) (by decide) trivial ?_
  refine upto (n := 10) (A := fun i => ∀ M' F', gPart q (2 + 4 * i) 1 i0 M F M' F' → F' q 0 = true → (∀ j, j < i → F' (q + 1) j = true) → gWW p l e (gRm 2 41 300) s m args below meth c (MQ below (gQc E post) args s 41 300 (fun q => E.1 ≤ q)) E 2 15 [some (.inr (.inl (1, q))), some (.inl (nI i))] [] M' (q + (2 + 4 * i), F', 1 + 4 * i, 10 + 29 * i)) ?_ (fun i hi ih => ?_) 0 (Nat.zero_le _) M F100 P f0 (fun j hj => absurd hj (Nat.not_lt_zero j))
  · intro M9 F9 P f0 fx
    refine g_iload_n X (show decode cX1_init 15 = .ok (.iload_n 1, 1) by decide +kernel) rfl ?_
    refine g_bipush (v := nI 10) X (show decode cX1_init 16 = .ok (.bipush 10, 2) by decide +kernel) rfl ?_
    refine g_icmp_ge (tgt := 40) X (show decode cX1_init 18 = .ok (.if_icmp .ge 22, 3) by decide +kernel) rfl (fun _ => ?_) (fun b => absurd (nI_le (Nat.le_refl 10) (by decide)) b)
    refine g_vret X hr hlk (show decode cX1_init 40 = .ok (.return_, 1) by decide +kernel) (by rfl) ?_
    refine h M9 F9 (P.done ?_ (fun k hrel => fx k (gRel_arr kx (by decide) (by decide) hrel)))
    · intro k hrel
      obtain ⟨t, δ, hf⟩ := gRel_obj (a := 1) hk (by decide) hrel
      match k, hf with
      | 0, _ => exact f0
      | k + 1, hf => simp [gFl] at hf
  · intro M9 F9 P f0 fx
    have kc : gK (q + (2 + 4 * i)) = 0 := by
      have := gK_elm (q := q + 1) (j := i) (by show _ < 926; omega) (by rw [kx]; decide) (by rw [kx]; decide) (by rw [kx]; exact hi)
      rw [kx] at this
      have h1 : gK (q + 1 + 1 + 4 * i) = 0 := this.1
      rw [show q + (2 + 4 * i) = q + 1 + 1 + 4 * i by omega]
      exact h1
    refine g_iload_n X (show decode cX1_init 15 = .ok (.iload_n 1, 1) by decide +kernel) rfl ?_
    refine g_bipush (v := nI 10) X (show decode cX1_init 16 = .ok (.bipush 10, 2) by decide +kernel) rfl ?_
    refine g_icmp_ge (tgt := 40) X (show decode cX1_init 18 = .ok (.if_icmp .ge 22, 3) by decide +kernel) rfl (fun b => absurd b (nI_ge hi (by decide))) (fun _ => ?_)
    refine g_aload_n X (show decode cX1_init 21 = .ok (.aload_n 0, 1) by decide +kernel) rfl ?_
    refine g_getR (b := 0) gcl_1 fl_RX1_11 (show decode cX1_init 22 = .ok (.getfield 11, 3) by decide +kernel) rfl f0 X ?_
    refine g_iload_n X (show decode cX1_init 25 = .ok (.iload_n 1, 1) by decide +kernel) rfl ?_
    refine g_new (r := (RX0, TX0, 5)) X gcl_0 cl_RX1_9 it_RX0 in_RX0 (by show _ < 926; omega) (kc) P.free (show decode cX1_init 26 = .ok (.new 9, 3) by decide +kernel) ⟨(by show _ ≤ 41; show 1 + 4 * i + 1 ≤ 41; omega), (by show 10 + 29 * i + 5 ≤ 300; omega)⟩ ?_
    refine gB_eq (B2 := (q + (2 + 4 * i + 1), F9, 1 + 4 * i + 1, 10 + 29 * i + 5)) rfl ?_
    refine g_dup X trivial (show decode cX1_init 29 = .ok (.dup, 1) by decide +kernel) ?_
    refine g_callIN X yi_yX0_init (oi_0 l) (by decide) (by decide) rfl im_yX0_init (show (RX1, 17, yX0_init, RX6) ∈ gNm by simp [gNm]) (show decode cX1_init 30 = .ok (.invokespecial 17, 3) by decide +kernel) (by rw [gCat_eq]; exact Nat.le_of_ble_eq_true rfl) ⟨(by show 1 + 4 * i + 1 + 3 ≤ 41; omega), (by show 10 + 29 * i + 5 + 24 ≤ 300; omega)⟩ ?_
    refine ⟨q + (2 + 4 * i), rfl, rfl, by omega, kc, P.2.2.2, fun M0 F0 hD => ?_⟩
    have P := P.new hD (fun _ _ _ => rfl)
    have f0 := (congrFun (hD.1 q (by omega)).2 0).trans f0
    refine gB_eq (B2 := (q + (2 + 4 * i + 4), F0, 1 + 4 * i + 1 + 3, 10 + 29 * i + 5 + 24)) rfl ?_
    refine g_astR2 (a := 8) (j := i) X (by decide) (by decide) gcl_0 rfl (vp_in_nI (N := 10) hi (by decide)) (nI_clamp (by omega)) (by show q + (2 + 4 * i) = q + 1 + 1 + 4 * i; omega) (show decode cX1_init 33 = .ok (.aastore, 1) by decide +kernel) ?_
    refine g_iinc (v := 1) X (show decode cX1_init 34 = .ok (.iinc 1 1, 3) by decide +kernel) rfl rfl (by decide) trivial ?_
    refine g_goto (tgt := 15) X (show decode cX1_init 37 = .ok (.goto (-22), 3) by decide +kernel) rfl ?_
    rw [nI_1]
    have P := P.fu (p := q + 1) i (by omega) (by omega)
    refine gB_eq (gB_mk (gFu F0 (q + 1) i) (a2 := q + (2 + 4 * (i + 1))) (c2 := 1 + 4 * (i + 1)) (s2 := 10 + 29 * (i + 1)) (by omega) (by omega) (by omega)) ?_
    refine ih M0 (gFu F0 (q + 1) i) (by rw [show 2 + 4 * (i + 1) = 2 + 4 * i + 4 by omega]; exact P) ((gFu_ne (Or.inl (by omega))).trans f0) (fun j hj => ?_)
    by_cases e : j = i
    · subst e; exact gFu_same _ _ _
    · rw [gFu_ne (Or.inr e), (hD.1 (q + 1) (by omega)).2]; exact fx j (by omega)
def iSt : Nat → Nat → Int32 := fun r k => if r = 45 then (gSl 2).getD k 0 else 0
def iH : Nat → Nat → Int32 := fun r k => if r < 2 then 0 else iSt ((r - 2) % 131) k
theorem gPart.up {q h x : Nat} {ini ini2 : Nat → Nat → Int32} {M M' : gM} {F F' : gR} (P : gPart q h x ini M F M' F') (hi : ∀ r, r < h → ∀ k, ini r k = ini2 r k) : gPart q h x ini2 M F M' F' := ⟨P.1, fun r hr k => (P.2.1 r hr k).trans (hi r hr k), P.2.2⟩
theorem gPart.ro {q h x y N : Nat} {ini : Nat → Nat → Int32} {f : Nat → Int32} {M M' : gM} {F F' : gR} (P : gPart q h x ini M F M' F') (hy : y < h) (hf : ∀ k, N ≤ k → f k = ini y k) : gPart q h x (fun r k => if r = y then f k else ini r k) M F (gRoC M' (q + y) N f) F' := by
  refine ⟨fun r hr => ⟨(gRoC_row (by omega)).trans (P.1 r hr).1, (P.1 r hr).2⟩, fun r hr k => ?_, P.2.2.1, fun r hr k => ?_⟩
  · show _ = (if r = y then f k else ini r k)
    by_cases e : r = y
    · subst e
      rw [if_pos rfl]
      unfold gRoC
      by_cases hk : k < N
      · rw [if_pos ⟨rfl, hk⟩]
      · rw [if_neg (fun a => hk a.2), P.2.1 r hr k, hf k (by omega)]
    · rw [if_neg e, gRoC_row (by omega)]
      exact P.2.1 r hr k
  · have := P.2.2.2 r hr k
    rw [gRoC_row (by omega)]
    exact this
theorem oi_3 (l : Launch) : gOK l yX3_init cX3_init 2 none 3 130 918 (gIT 3 131 iSt) := by
  refine gOK_of (by decide) ?_
  rintro p e s m args below meth c E av M n F post X hr hlk hin2 ⟨q, rfl, rfl, hsz, hk, hfr, h⟩
  have hin2 : meth.name = "<init>" := hin2 rfl
  have hqN : q < gN := Nat.lt_of_lt_of_le (by omega) hsz
  refine ⟨⟨by simp [gC1], Nat.le_of_ble_eq_true rfl⟩, ?_⟩
  have hls : gEnt 2 [.inr (.inl (3, q))] = [some (.inr (.inl (3, q))), none] := rfl
  rw [hls]
  have hsz : q + 131 ≤ 926 := hsz
  have kx : gK (q + 43) = 9 := (gK_fld hqN (b := 1) (by rw [hk]; rfl)).1
  have k1 : gK (q + 1) = 1 := (gK_fld hqN (b := 0) (by rw [hk]; rfl)).1
  have k44 : gK (q + 44) = 102 := (gK_fld hqN (b := 2) (by rw [hk]; rfl)).1
  have k45 : gK (q + 45) = 105 := (gK_fld hqN (b := 3) (by rw [hk]; rfl)).1
  have k46 : gK (q + 46) = 106 := (gK_fld hqN (b := 4) (by rw [hk]; rfl)).1
  have P : gPart q 1 43 i0 M F M F := gPart.start hfr (fun _ => rfl)
  refine g_aload_n X (show decode cX3_init 0 = .ok (.aload_n 0, 1) by decide +kernel) rfl ?_
  refine g_oinit X ml_RX3_3 (by decide) (by decide) (by rw [gCat_eq]; exact Nat.le_of_ble_eq_true rfl) (show decode cX3_init 1 = .ok (.invokespecial 3, 3) by decide +kernel) ?_
  refine g_aload_n X (show decode cX3_init 4 = .ok (.aload_n 0, 1) by decide +kernel) rfl ?_
  refine g_new (r := (RX1, TX1, 1)) X gcl_1 cl_RX3_9 it_RX1 in_RX1 (by show _ < 926; omega) (k1) P.free (show decode cX3_init 5 = .ok (.new 9, 3) by decide +kernel) ⟨Nat.le_of_ble_eq_true rfl, Nat.le_of_ble_eq_true rfl⟩ ?_
  refine gB_eq (B2 := (q + 2, F, 1, 1)) rfl ?_
  refine g_dup X trivial (show decode cX3_init 8 = .ok (.dup, 1) by decide +kernel) ?_
  refine g_callI X yi_yX1_init (oi_1 l) (by decide) (by decide) rfl im_yX1_init ml_RX3_11 (show decode cX3_init 9 = .ok (.invokespecial 11, 3) by decide +kernel) (by rw [gCat_eq]; exact Nat.le_of_ble_eq_true rfl) ⟨Nat.le_of_ble_eq_true rfl, Nat.le_of_ble_eq_true rfl⟩ ?_
  refine ⟨q + 1, rfl, rfl, by omega, k1, P.2.2.2, fun M0 F0 hD => ?_⟩
  have P := P.new hD (fun _ _ _ => rfl)
  refine gB_eq (B2 := (q + 43, F0, 42, 301)) rfl ?_
  refine g_putR (b := 0) X gcl_3 fl_RX3_12 hin2 rfl (show decode cX3_init 12 = .ok (.putfield 12, 3) by decide +kernel) rfl ?_
  have P := P.fu (p := q) 0 (Nat.le_refl _) (by omega)
  have f0 := gFu_same F0 q 0
  refine gB_eq (B2 := (q + 43, (gFu F0 q 0), 42, 301)) rfl ?_
  generalize (gFu F0 q 0) = F101 at P f0 ⊢
  refine g_aload_n X (show decode cX3_init 15 = .ok (.aload_n 0, 1) by decide +kernel) rfl ?_
  refine g_iconst (v := nI 2) X (show decode cX3_init 16 = .ok (.iconst 2, 1) by decide +kernel) rfl ?_
  refine g_newA (a := 9) X (by decide) (by decide) cl_RX3_9 (by show _ < 926; omega) (kx) P.free (show decode cX3_init 17 = .ok (.anewarray 9, 3) by decide +kernel) ⟨Nat.le_of_ble_eq_true rfl, Nat.le_of_ble_eq_true rfl⟩ ?_
  refine gB_eq (B2 := (q + 44, F101, 43, 303)) rfl ?_
  have P := P.ref (fun _ => rfl)
  refine g_putR (b := 1) X gcl_3 fl_RX3_18 hin2 rfl (show decode cX3_init 20 = .ok (.putfield 18, 3) by decide +kernel) rfl ?_
  have P := P.fu (p := q) 1 (Nat.le_refl _) (by omega)
  have f0 := (gFu_ne (F := F101) (q := q) (k := 1) (q' := q) (k' := 0) (Or.inr (by decide))).trans f0
  have f1 := gFu_same F101 q 1
  refine gB_eq (B2 := (q + 44, (gFu F101 q 1), 43, 303)) rfl ?_
  generalize (gFu F101 q 1) = F102 at P f0 f1 ⊢
  refine g_aload_n X (show decode cX3_init 23 = .ok (.aload_n 0, 1) by decide +kernel) rfl ?_
  refine g_iconst (v := nI 2) X (show decode cX3_init 24 = .ok (.iconst 2, 1) by decide +kernel) rfl ?_
  refine g_newI (N := 2) X (by decide) (by show _ < 926; omega) (k44) P.free (show decode cX3_init 25 = .ok (.newarray .int, 2) by decide +kernel) ⟨Nat.le_of_ble_eq_true rfl, Nat.le_of_ble_eq_true rfl⟩ ?_
  refine gB_eq (B2 := (q + 45, F102, 44, 305)) rfl ?_
  have P := P.int (a := 2) k44 (fun _ => rfl)
  refine g_putR (b := 2) X gcl_3 fl_RX3_22 hin2 rfl (show decode cX3_init 27 = .ok (.putfield 22, 3) by decide +kernel) rfl ?_
  have P := P.fu (p := q) 2 (Nat.le_refl _) (by omega)
  have f0 := (gFu_ne (F := F102) (q := q) (k := 2) (q' := q) (k' := 0) (Or.inr (by decide))).trans f0
  have f1 := (gFu_ne (F := F102) (q := q) (k := 2) (q' := q) (k' := 1) (Or.inr (by decide))).trans f1
  have f2 := gFu_same F102 q 2
  refine gB_eq (B2 := (q + 45, (gFu F102 q 2), 44, 305)) rfl ?_
  generalize (gFu F102 q 2) = F103 at P f0 f1 f2 ⊢
  refine g_aload_n X (show decode cX3_init 30 = .ok (.aload_n 0, 1) by decide +kernel) rfl ?_
  refine g_iconst (v := nI 5) X (show decode cX3_init 31 = .ok (.iconst 5, 1) by decide +kernel) rfl ?_
  refine g_newI (N := 5) X (by decide) (by show _ < 926; omega) (k45) P.free (show decode cX3_init 32 = .ok (.newarray .int, 2) by decide +kernel) ⟨Nat.le_of_ble_eq_true rfl, Nat.le_of_ble_eq_true rfl⟩ ?_
  refine gB_eq (B2 := (q + 46, F103, 45, 310)) rfl ?_
  have P := P.int (a := 5) k45 (fun _ => rfl)
  refine g_putR (b := 3) X gcl_3 fl_RX3_26 hin2 rfl (show decode cX3_init 34 = .ok (.putfield 26, 3) by decide +kernel) rfl ?_
  have P := P.fu (p := q) 3 (Nat.le_refl _) (by omega)
  have f0 := (gFu_ne (F := F103) (q := q) (k := 3) (q' := q) (k' := 0) (Or.inr (by decide))).trans f0
  have f1 := (gFu_ne (F := F103) (q := q) (k := 3) (q' := q) (k' := 1) (Or.inr (by decide))).trans f1
  have f2 := (gFu_ne (F := F103) (q := q) (k := 3) (q' := q) (k' := 2) (Or.inr (by decide))).trans f2
  have f3 := gFu_same F103 q 3
  refine gB_eq (B2 := (q + 46, (gFu F103 q 3), 45, 310)) rfl ?_
  generalize (gFu F103 q 3) = F104 at P f0 f1 f2 f3 ⊢
  refine g_aload_n X (show decode cX3_init 37 = .ok (.aload_n 0, 1) by decide +kernel) rfl ?_
  refine g_bipush (v := nI 6) X (show decode cX3_init 38 = .ok (.bipush 6, 2) by decide +kernel) rfl ?_
  refine g_newI (N := 6) X (by decide) (by show _ < 926; omega) (k46) P.free (show decode cX3_init 40 = .ok (.newarray .int, 2) by decide +kernel) ⟨Nat.le_of_ble_eq_true rfl, Nat.le_of_ble_eq_true rfl⟩ ?_
  refine gB_eq (B2 := (q + 47, F104, 46, 316)) rfl ?_
  have P := P.int (a := 6) k46 (fun _ => rfl)
  refine g_putR (b := 4) X gcl_3 fl_RX3_29 hin2 rfl (show decode cX3_init 42 = .ok (.putfield 29, 3) by decide +kernel) rfl ?_
  have P := P.fu (p := q) 4 (Nat.le_refl _) (by omega)
  have f0 := (gFu_ne (F := F104) (q := q) (k := 4) (q' := q) (k' := 0) (Or.inr (by decide))).trans f0
  have f1 := (gFu_ne (F := F104) (q := q) (k := 4) (q' := q) (k' := 1) (Or.inr (by decide))).trans f1
  have f2 := (gFu_ne (F := F104) (q := q) (k := 4) (q' := q) (k' := 2) (Or.inr (by decide))).trans f2
  have f3 := (gFu_ne (F := F104) (q := q) (k := 4) (q' := q) (k' := 3) (Or.inr (by decide))).trans f3
  have f4 := gFu_same F104 q 4
  refine gB_eq (B2 := (q + 47, (gFu F104 q 4), 46, 316)) rfl ?_
  generalize (gFu F104 q 4) = F105 at P f0 f1 f2 f3 f4 ⊢
  refine g_iconst (v := nI 0) X (show decode cX3_init 45 = .ok (.iconst 0, 1) by decide +kernel) rfl ?_
  refine g_istore_n X (show decode cX3_init 46 = .ok (.istore_n 1, 1) by decide +kernel) (by decide) trivial ?_
  refine upto (n := 2) (A := fun i => ∀ M' F', gPart q (47 + 42 * i) 43 i0 M F M' F' → F' q 0 = true → F' q 1 = true → F' q 2 = true → F' q 3 = true → F' q 4 = true → (∀ j, j < i → F' (q + 43) j = true) → gWW p l e (gRm 3 130 918) s m args below meth c (MQ below (gQc E post) args s 130 918 (fun q => E.1 ≤ q)) E 2 47 [some (.inr (.inl (3, q))), some (.inl (nI i))] [] M' (q + (47 + 42 * i), F', 46 + 42 * i, 316 + 301 * i)) ?_ (fun i hi ih => ?_) 0 (Nat.zero_le _) M0 F105 P f0 f1 f2 f3 f4 (fun j hj => absurd hj (Nat.not_lt_zero j))
  · intro M9 F9 P f0 f1 f2 f3 f4 fx
    refine g_iload_n X (show decode cX3_init 47 = .ok (.iload_n 1, 1) by decide +kernel) rfl ?_
    refine g_iconst (v := nI 2) X (show decode cX3_init 48 = .ok (.iconst 2, 1) by decide +kernel) rfl ?_
    refine g_icmp_ge (tgt := 71) X (show decode cX3_init 49 = .ok (.if_icmp .ge 22, 3) by decide +kernel) rfl (fun _ => ?_) (fun b => absurd (nI_le (Nat.le_refl 2) (by decide)) b)
    refine g_getsN (k0 := 2) (host := RX6) X (by decide) (show (RX3, 32, "CrustBlocks", gSn 2, "[I", RX6) ∈ gNf by simp [gNf, gSn]) (show decode cX3_init 71 = .ok (.getstatic 32, 3) by decide +kernel) ?_
    refine g_iconst (v := 0) X (show decode cX3_init 74 = .ok (.iconst 0, 1) by decide +kernel) rfl ?_
    refine g_aload_n X (show decode cX3_init 75 = .ok (.aload_n 0, 1) by decide +kernel) rfl ?_
    refine g_getR (b := 3) gcl_3 fl_RX3_26 (show decode cX3_init 76 = .ok (.getfield 26, 3) by decide +kernel) rfl f3 X ?_
    refine g_iconst (v := 0) X (show decode cX3_init 79 = .ok (.iconst 0, 1) by decide +kernel) rfl ?_
    refine g_iconst (v := nI 5) X (show decode cX3_init 80 = .ok (.iconst 5, 1) by decide +kernel) rfl ?_
    refine g_copyRO (N := 5) (k0 := 2) (a1 := 105) X (by decide) (by decide) (show 5 ≤ gRl E 2 from Nat.le_refl 5) (by decide) (by decide) ml_RX3_35 gNat.1 gNat.2.1 gNat.2.2 (by decide) (by rw [gCat_eq]; exact Nat.le_of_ble_eq_true rfl) (show decode cX3_init 81 = .ok (.invokestatic 35, 3) by decide +kernel) ?_
    refine g_vret X hr hlk (show decode cX3_init 84 = .ok (.return_, 1) by decide +kernel) (by rfl) ?_
    have P := (P.ro (y := 45) (N := 5) (f := gRx E 2) (by decide) (fun k hk => ?_)).up (ini2 := iSt) (fun r hr k => ?_)
    refine h _ F9 (P.done ?_ (fun k hrel => fx k (gRel_arr kx (by decide) (by decide) hrel)))
    · intro k hrel
      obtain ⟨t, δ, hf⟩ := gRel_obj (a := 3) hk (by decide) hrel
      match k, hf with
      | 0, _ => exact f0
      | 1, _ => exact f1
      | 2, _ => exact f2
      | 3, _ => exact f3
      | 4, _ => exact f4
      | 5, hf => cases hf
      | k + 6, hf => simp [gFl] at hf
    · show (gSl 2).getD k 0 = 0
      rw [List.getD_eq_getElem?_getD, List.getElem?_eq_none (show (gSl 2).length ≤ k from hk)]
      rfl
    · show (if r = 45 then (gSl 2).getD k 0 else 0) = _
      rfl
  · intro M9 F9 P f0 f1 f2 f3 f4 fx
    have kc : gK (q + (47 + 42 * i)) = 1 := by
      have := gK_elm (q := q + 43) (j := i) (by show _ < 926; omega) (by rw [kx]; decide) (by rw [kx]; decide) (by rw [kx]; exact hi)
      rw [kx] at this
      have h1 : gK (q + 43 + 4 + 42 * i) = 1 := this.1
      rw [show q + (47 + 42 * i) = q + 43 + 4 + 42 * i by omega]
      exact h1
    refine g_iload_n X (show decode cX3_init 47 = .ok (.iload_n 1, 1) by decide +kernel) rfl ?_
    refine g_iconst (v := nI 2) X (show decode cX3_init 48 = .ok (.iconst 2, 1) by decide +kernel) rfl ?_
    refine g_icmp_ge (tgt := 71) X (show decode cX3_init 49 = .ok (.if_icmp .ge 22, 3) by decide +kernel) rfl (fun b => absurd b (nI_ge hi (by decide))) (fun _ => ?_)
    refine g_aload_n X (show decode cX3_init 52 = .ok (.aload_n 0, 1) by decide +kernel) rfl ?_
    refine g_getR (b := 1) gcl_3 fl_RX3_18 (show decode cX3_init 53 = .ok (.getfield 18, 3) by decide +kernel) rfl f1 X ?_
    refine g_iload_n X (show decode cX3_init 56 = .ok (.iload_n 1, 1) by decide +kernel) rfl ?_
    refine g_new (r := (RX1, TX1, 1)) X gcl_1 cl_RX3_9 it_RX1 in_RX1 (by show _ < 926; omega) (kc) P.free (show decode cX3_init 57 = .ok (.new 9, 3) by decide +kernel) ⟨(by show _ ≤ 130; show 46 + 42 * i + 1 ≤ 130; omega), (by show 316 + 301 * i + 1 ≤ 918; omega)⟩ ?_
    refine gB_eq (B2 := (q + (47 + 42 * i + 1), F9, 46 + 42 * i + 1, 316 + 301 * i + 1)) rfl ?_
    refine g_dup X trivial (show decode cX3_init 60 = .ok (.dup, 1) by decide +kernel) ?_
    refine g_callI X yi_yX1_init (oi_1 l) (by decide) (by decide) rfl im_yX1_init ml_RX3_11 (show decode cX3_init 61 = .ok (.invokespecial 11, 3) by decide +kernel) (by rw [gCat_eq]; exact Nat.le_of_ble_eq_true rfl) ⟨(by show 46 + 42 * i + 1 + 41 ≤ 130; omega), (by show 316 + 301 * i + 1 + 300 ≤ 918; omega)⟩ ?_
    refine ⟨q + (47 + 42 * i), rfl, rfl, by omega, kc, P.2.2.2, fun M0 F0 hD => ?_⟩
    have P := P.new hD (fun _ _ _ => rfl)
    have f0 := (congrFun (hD.1 q (by omega)).2 0).trans f0
    have f1 := (congrFun (hD.1 q (by omega)).2 1).trans f1
    have f2 := (congrFun (hD.1 q (by omega)).2 2).trans f2
    have f3 := (congrFun (hD.1 q (by omega)).2 3).trans f3
    have f4 := (congrFun (hD.1 q (by omega)).2 4).trans f4
    refine gB_eq (B2 := (q + (47 + 42 * i + 42), F0, 46 + 42 * i + 1 + 41, 316 + 301 * i + 1 + 300)) rfl ?_
    refine g_astR2 (a := 9) (j := i) X (by decide) (by decide) gcl_1 rfl (vp_in_nI (N := 2) hi (by decide)) (nI_clamp (by omega)) (by show q + (47 + 42 * i) = q + 43 + 4 + 42 * i; omega) (show decode cX3_init 64 = .ok (.aastore, 1) by decide +kernel) ?_
    refine g_iinc (v := 1) X (show decode cX3_init 65 = .ok (.iinc 1 1, 3) by decide +kernel) rfl rfl (by decide) trivial ?_
    refine g_goto (tgt := 47) X (show decode cX3_init 68 = .ok (.goto (-21), 3) by decide +kernel) rfl ?_
    rw [nI_1]
    have P := P.fu (p := q + 43) i (by omega) (by omega)
    refine gB_eq (gB_mk (gFu F0 (q + 43) i) (a2 := q + (47 + 42 * (i + 1))) (c2 := 46 + 42 * (i + 1)) (s2 := 316 + 301 * (i + 1)) (by omega) (by omega) (by omega)) ?_
    refine ih M0 (gFu F0 (q + 43) i) (by rw [show 47 + 42 * (i + 1) = 47 + 42 * i + 42 by omega]; exact P) ((gFu_ne (Or.inl (by omega))).trans f0) ((gFu_ne (Or.inl (by omega))).trans f1) ((gFu_ne (Or.inl (by omega))).trans f2) ((gFu_ne (Or.inl (by omega))).trans f3) ((gFu_ne (Or.inl (by omega))).trans f4) (fun j hj => ?_)
    by_cases e : j = i
    · subst e; exact gFu_same _ _ _
    · rw [gFu_ne (Or.inr e), (hD.1 (q + 43) (by omega)).2]; exact fx j (by omega)
theorem oi_2 (l : Launch) : gOK l yX2_init cX2_init 2 none 4 656 4625 (gIT 2 657 iH) := by
  refine gOK_of (by decide) ?_
  rintro p e s m args below meth c E av M n F post X hr hlk hin2 ⟨q, rfl, rfl, hsz, hk, hfr, h⟩
  have hin2 : meth.name = "<init>" := hin2 rfl
  have hqN : q < gN := Nat.lt_of_lt_of_le (by omega) hsz
  refine ⟨⟨by simp [gC1], Nat.le_of_ble_eq_true rfl⟩, ?_⟩
  have hls : gEnt 2 [.inr (.inl (2, q))] = [some (.inr (.inl (2, q))), none] := rfl
  rw [hls]
  have hsz : q + 657 ≤ 926 := hsz
  have kx : gK (q + 1) = 10 := (gK_fld hqN (b := 0) (by rw [hk]; rfl)).1
  have P : gPart q 1 1 iH M F M F := gPart.start hfr (fun _ => rfl)
  refine g_aload_n X (show decode cX2_init 0 = .ok (.aload_n 0, 1) by decide +kernel) rfl ?_
  refine g_oinit X ml_RX2_3 (by decide) (by decide) (by rw [gCat_eq]; exact Nat.le_of_ble_eq_true rfl) (show decode cX2_init 1 = .ok (.invokespecial 3, 3) by decide +kernel) ?_
  refine g_aload_n X (show decode cX2_init 4 = .ok (.aload_n 0, 1) by decide +kernel) rfl ?_
  refine g_iconst (v := nI 5) X (show decode cX2_init 5 = .ok (.iconst 5, 1) by decide +kernel) rfl ?_
  refine g_newA (a := 10) X (by decide) (by decide) cl_RX2_9 (by show _ < 926; omega) (kx) P.free (show decode cX2_init 6 = .ok (.anewarray 9, 3) by decide +kernel) ⟨Nat.le_of_ble_eq_true rfl, Nat.le_of_ble_eq_true rfl⟩ ?_
  refine gB_eq (B2 := (q + 2, F, 1, 5)) rfl ?_
  have P := P.ref (fun _ => rfl)
  refine g_putR (b := 0) X gcl_2 fl_RX2_11 hin2 rfl (show decode cX2_init 9 = .ok (.putfield 11, 3) by decide +kernel) rfl ?_
  have P := P.fu (p := q) 0 (Nat.le_refl _) (by omega)
  have f0 := gFu_same F q 0
  refine gB_eq (B2 := (q + 2, (gFu F q 0), 1, 5)) rfl ?_
  generalize (gFu F q 0) = F100 at P f0 ⊢
  refine g_iconst (v := nI 0) X (show decode cX2_init 12 = .ok (.iconst 0, 1) by decide +kernel) rfl ?_
  refine g_istore_n X (show decode cX2_init 13 = .ok (.istore_n 1, 1) by decide +kernel) (by decide) trivial ?_
  refine upto (n := 5) (A := fun i => ∀ M' F', gPart q (2 + 131 * i) 1 iH M F M' F' → F' q 0 = true → (∀ j, j < i → F' (q + 1) j = true) → gWW p l e (gRm 4 656 4625) s m args below meth c (MQ below (gQc E post) args s 656 4625 (fun q => E.1 ≤ q)) E 2 14 [some (.inr (.inl (2, q))), some (.inl (nI i))] [] M' (q + (2 + 131 * i), F', 1 + 131 * i, 5 + 924 * i)) ?_ (fun i hi ih => ?_) 0 (Nat.zero_le _) M F100 P f0 (fun j hj => absurd hj (Nat.not_lt_zero j))
  · intro M9 F9 P f0 fx
    refine g_iload_n X (show decode cX2_init 14 = .ok (.iload_n 1, 1) by decide +kernel) rfl ?_
    refine g_iconst (v := nI 5) X (show decode cX2_init 15 = .ok (.iconst 5, 1) by decide +kernel) rfl ?_
    refine g_icmp_ge (tgt := 38) X (show decode cX2_init 16 = .ok (.if_icmp .ge 22, 3) by decide +kernel) rfl (fun _ => ?_) (fun b => absurd (nI_le (Nat.le_refl 5) (by decide)) b)
    refine g_vret X hr hlk (show decode cX2_init 38 = .ok (.return_, 1) by decide +kernel) (by rfl) ?_
    refine h M9 F9 (P.done ?_ (fun k hrel => fx k (gRel_arr kx (by decide) (by decide) hrel)))
    · intro k hrel
      obtain ⟨t, δ, hf⟩ := gRel_obj (a := 2) hk (by decide) hrel
      match k, hf with
      | 0, _ => exact f0
      | 1, hf => cases hf
      | 2, hf => cases hf
      | k + 3, hf => simp [gFl] at hf
  · intro M9 F9 P f0 fx
    have kc : gK (q + (2 + 131 * i)) = 3 := by
      have := gK_elm (q := q + 1) (j := i) (by show _ < 926; omega) (by rw [kx]; decide) (by rw [kx]; decide) (by rw [kx]; exact hi)
      rw [kx] at this
      have h1 : gK (q + 1 + 1 + 131 * i) = 3 := this.1
      rw [show q + (2 + 131 * i) = q + 1 + 1 + 131 * i by omega]
      exact h1
    refine g_iload_n X (show decode cX2_init 14 = .ok (.iload_n 1, 1) by decide +kernel) rfl ?_
    refine g_iconst (v := nI 5) X (show decode cX2_init 15 = .ok (.iconst 5, 1) by decide +kernel) rfl ?_
    refine g_icmp_ge (tgt := 38) X (show decode cX2_init 16 = .ok (.if_icmp .ge 22, 3) by decide +kernel) rfl (fun b => absurd b (nI_ge hi (by decide))) (fun _ => ?_)
    refine g_aload_n X (show decode cX2_init 19 = .ok (.aload_n 0, 1) by decide +kernel) rfl ?_
    refine g_getR (b := 0) gcl_2 fl_RX2_11 (show decode cX2_init 20 = .ok (.getfield 11, 3) by decide +kernel) rfl f0 X ?_
    refine g_iload_n X (show decode cX2_init 23 = .ok (.iload_n 1, 1) by decide +kernel) rfl ?_
    refine g_new (r := (RX3, TX3, 6)) X gcl_3 cl_RX2_9 it_RX3 in_RX3 (by show _ < 926; omega) (kc) P.free (show decode cX2_init 24 = .ok (.new 9, 3) by decide +kernel) ⟨(by show _ ≤ 656; show 1 + 131 * i + 1 ≤ 656; omega), (by show 5 + 924 * i + 6 ≤ 4625; omega)⟩ ?_
    refine gB_eq (B2 := (q + (2 + 131 * i + 1), F9, 1 + 131 * i + 1, 5 + 924 * i + 6)) rfl ?_
    refine g_dup X trivial (show decode cX2_init 27 = .ok (.dup, 1) by decide +kernel) ?_
    refine g_callI X yi_yX3_init (oi_3 l) (by decide) (by decide) rfl im_yX3_init ml_RX2_17 (show decode cX2_init 28 = .ok (.invokespecial 17, 3) by decide +kernel) (by rw [gCat_eq]; exact Nat.le_of_ble_eq_true rfl) ⟨(by show 1 + 131 * i + 1 + 130 ≤ 656; omega), (by show 5 + 924 * i + 6 + 918 ≤ 4625; omega)⟩ ?_
    refine ⟨q + (2 + 131 * i), rfl, rfl, by omega, kc, P.2.2.2, fun M0 F0 hD => ?_⟩
    have P := P.new hD (fun r hr k => by show (if 2 + 131 * i + r < 2 then 0 else iSt ((2 + 131 * i + r - 2) % 131) k) = iSt r k; rw [if_neg (by omega), show (2 + 131 * i + r - 2) % 131 = r by omega])
    have f0 := (congrFun (hD.1 q (by omega)).2 0).trans f0
    refine gB_eq (B2 := (q + (2 + 131 * i + 131), F0, 1 + 131 * i + 1 + 130, 5 + 924 * i + 6 + 918)) rfl ?_
    refine g_astR2 (a := 10) (j := i) X (by decide) (by decide) gcl_3 rfl (vp_in_nI (N := 5) hi (by decide)) (nI_clamp (by omega)) (by show q + (2 + 131 * i) = q + 1 + 1 + 131 * i; omega) (show decode cX2_init 31 = .ok (.aastore, 1) by decide +kernel) ?_
    refine g_iinc (v := 1) X (show decode cX2_init 32 = .ok (.iinc 1 1, 3) by decide +kernel) rfl rfl (by decide) trivial ?_
    refine g_goto (tgt := 14) X (show decode cX2_init 35 = .ok (.goto (-21), 3) by decide +kernel) rfl ?_
    rw [nI_1]
    have P := P.fu (p := q + 1) i (by omega) (by omega)
    refine gB_eq (gB_mk (gFu F0 (q + 1) i) (a2 := q + (2 + 131 * (i + 1))) (c2 := 1 + 131 * (i + 1)) (s2 := 5 + 924 * (i + 1)) (by omega) (by omega) (by omega)) ?_
    refine ih M0 (gFu F0 (q + 1) i) (by rw [show 2 + 131 * (i + 1) = 2 + 131 * i + 131 by omega]; exact P) ((gFu_ne (Or.inl (by omega))).trans f0) (fun j hj => ?_)
    by_cases e : j = i
    · subst e; exact gFu_same _ _ _
    · rw [gFu_ne (Or.inr e), (hD.1 (q + 1) (by omega)).2]; exact fx j (by omega)
def iCB : Nat → Nat → Int32 := fun r k => if r = 0 then 0 else if r < 132 then iSt (r - 1) k else if r < 263 then iSt (r - 132) k else if r < 920 then iH (r - 263) k else 0
set_option maxRecDepth 100000 in
theorem oi_6 (l : Launch) : gOK l yX6_init cX6_init 1 none 5 925 6653 (gIT 6 926 iCB) := by
  refine gOK_of (by decide) ?_
  rintro p e s m args below meth c E av M n F post X hr hlk hin2 ⟨q, rfl, rfl, hsz, hk, hfr, h⟩
  have hin2 : meth.name = "<init>" := hin2 rfl
  have hqN : q < gN := Nat.lt_of_lt_of_le (by omega) hsz
  refine ⟨⟨by simp [gC1], Nat.le_of_ble_eq_true rfl⟩, ?_⟩
  have hls : gEnt 1 [.inr (.inl (6, q))] = [some (.inr (.inl (6, q)))] := rfl
  rw [hls]
  have hsz : q + 926 ≤ 926 := hsz
  have k1 : gK (q + 1) = 3 := (gK_fld hqN (b := 0) (by rw [hk]; rfl)).1
  have k132 : gK (q + 132) = 3 := (gK_fld hqN (b := 1) (by rw [hk]; rfl)).1
  have k263 : gK (q + 263) = 2 := (gK_fld hqN (b := 2) (by rw [hk]; rfl)).1
  have k920 : gK (q + 920) = 5 := (gK_fld hqN (b := 3) (by rw [hk]; rfl)).1
  have k922 : gK (q + 922) = 4 := (gK_fld hqN (b := 4) (by rw [hk]; rfl)).1
  have P : gPart q 1 0 iCB M F M F := gPart.start hfr (fun _ => rfl)
  refine g_aload_n X (show decode cX6_init 0 = .ok (.aload_n 0, 1) by decide +kernel) rfl ?_
  refine g_oinit X ml_RX6_1 (by decide) (by decide) (by rw [gCat_eq]; exact Nat.le_of_ble_eq_true rfl) (show decode cX6_init 1 = .ok (.invokespecial 1, 3) by decide +kernel) ?_
  refine g_aload_n X (show decode cX6_init 4 = .ok (.aload_n 0, 1) by decide +kernel) rfl ?_
  refine g_new (r := (RX3, TX3, 6)) X gcl_3 cl_RX6_7 it_RX3 in_RX3 (by show _ < 926; omega) (k1) P.free (show decode cX6_init 5 = .ok (.new 7, 3) by decide +kernel) ⟨Nat.le_of_ble_eq_true rfl, Nat.le_of_ble_eq_true rfl⟩ ?_
  refine gB_eq (B2 := (q + 2, F, 1, 6)) rfl ?_
  refine g_dup X trivial (show decode cX6_init 8 = .ok (.dup, 1) by decide +kernel) ?_
  refine g_callI X yi_yX3_init (oi_3 l) (by decide) (by decide) rfl im_yX3_init ml_RX6_9 (show decode cX6_init 9 = .ok (.invokespecial 9, 3) by decide +kernel) (by rw [gCat_eq]; exact Nat.le_of_ble_eq_true rfl) ⟨Nat.le_of_ble_eq_true rfl, Nat.le_of_ble_eq_true rfl⟩ ?_
  refine ⟨q + 1, rfl, rfl, by omega, k1, P.2.2.2, fun M0 F0 hD => ?_⟩
  have P := P.new hD (fun r hr k => by show iCB (1 + r) k = _; unfold iCB; rw [if_neg (by omega), if_pos (by omega), Nat.add_sub_cancel_left])
  refine gB_eq (B2 := (q + 132, F0, 131, 924)) rfl ?_
  refine g_putR (b := 0) X gcl_6 fl_RX6_10 hin2 rfl (show decode cX6_init 12 = .ok (.putfield 10, 3) by decide +kernel) rfl ?_
  have P := P.fu (p := q) 0 (Nat.le_refl _) (by omega)
  have f0 := gFu_same F0 q 0
  refine gB_eq (B2 := (q + 132, (gFu F0 q 0), 131, 924)) rfl ?_
  generalize (gFu F0 q 0) = F101 at P f0 ⊢
  refine g_aload_n X (show decode cX6_init 15 = .ok (.aload_n 0, 1) by decide +kernel) rfl ?_
  refine g_new (r := (RX3, TX3, 6)) X gcl_3 cl_RX6_7 it_RX3 in_RX3 (by show _ < 926; omega) (k132) P.free (show decode cX6_init 16 = .ok (.new 7, 3) by decide +kernel) ⟨Nat.le_of_ble_eq_true rfl, Nat.le_of_ble_eq_true rfl⟩ ?_
  refine gB_eq (B2 := (q + 133, F101, 132, 930)) rfl ?_
  refine g_dup X trivial (show decode cX6_init 19 = .ok (.dup, 1) by decide +kernel) ?_
  refine g_callI X yi_yX3_init (oi_3 l) (by decide) (by decide) rfl im_yX3_init ml_RX6_9 (show decode cX6_init 20 = .ok (.invokespecial 9, 3) by decide +kernel) (by rw [gCat_eq]; exact Nat.le_of_ble_eq_true rfl) ⟨Nat.le_of_ble_eq_true rfl, Nat.le_of_ble_eq_true rfl⟩ ?_
  refine ⟨q + 132, rfl, rfl, by omega, k132, P.2.2.2, fun M2 F2 hD => ?_⟩
  have P := P.new hD (fun r hr k => by show iCB (132 + r) k = _; unfold iCB; rw [if_neg (by omega), if_neg (by omega), if_pos (by omega), Nat.add_sub_cancel_left])
  have f0 := (congrFun (hD.1 q (by omega)).2 0).trans f0
  refine gB_eq (B2 := (q + 263, F2, 262, 1848)) rfl ?_
  refine g_putR (b := 1) X gcl_6 fl_RX6_16 hin2 rfl (show decode cX6_init 23 = .ok (.putfield 16, 3) by decide +kernel) rfl ?_
  have P := P.fu (p := q) 1 (Nat.le_refl _) (by omega)
  have f0 := (gFu_ne (F := F2) (q := q) (k := 1) (q' := q) (k' := 0) (Or.inr (by decide))).trans f0
  have f1 := gFu_same F2 q 1
  refine gB_eq (B2 := (q + 263, (gFu F2 q 1), 262, 1848)) rfl ?_
  generalize (gFu F2 q 1) = F103 at P f0 f1 ⊢
  refine g_aload_n X (show decode cX6_init 26 = .ok (.aload_n 0, 1) by decide +kernel) rfl ?_
  refine g_new (r := (RX2, TX2, 3)) X gcl_2 cl_RX6_19 it_RX2 in_RX2 (by show _ < 926; omega) (k263) P.free (show decode cX6_init 27 = .ok (.new 19, 3) by decide +kernel) ⟨Nat.le_of_ble_eq_true rfl, Nat.le_of_ble_eq_true rfl⟩ ?_
  refine gB_eq (B2 := (q + 264, F103, 263, 1851)) rfl ?_
  refine g_dup X trivial (show decode cX6_init 30 = .ok (.dup, 1) by decide +kernel) ?_
  refine g_callI X yi_yX2_init (oi_2 l) (by decide) (by decide) rfl im_yX2_init ml_RX6_21 (show decode cX6_init 31 = .ok (.invokespecial 21, 3) by decide +kernel) (by rw [gCat_eq]; exact Nat.le_of_ble_eq_true rfl) ⟨Nat.le_of_ble_eq_true rfl, Nat.le_of_ble_eq_true rfl⟩ ?_
  refine ⟨q + 263, rfl, rfl, by omega, k263, P.2.2.2, fun M4 F4 hD => ?_⟩
  have P := P.new hD (fun r hr k => by show iCB (263 + r) k = _; unfold iCB; rw [if_neg (by omega), if_neg (by omega), if_neg (by omega), if_pos (by omega), Nat.add_sub_cancel_left])
  have f0 := (congrFun (hD.1 q (by omega)).2 0).trans f0
  have f1 := (congrFun (hD.1 q (by omega)).2 1).trans f1
  refine gB_eq (B2 := (q + 920, F4, 919, 6476)) rfl ?_
  refine g_putR (b := 2) X gcl_6 fl_RX6_22 hin2 rfl (show decode cX6_init 34 = .ok (.putfield 22, 3) by decide +kernel) rfl ?_
  have P := P.fu (p := q) 2 (Nat.le_refl _) (by omega)
  have f0 := (gFu_ne (F := F4) (q := q) (k := 2) (q' := q) (k' := 0) (Or.inr (by decide))).trans f0
  have f1 := (gFu_ne (F := F4) (q := q) (k := 2) (q' := q) (k' := 1) (Or.inr (by decide))).trans f1
  have f2 := gFu_same F4 q 2
  refine gB_eq (B2 := (q + 920, (gFu F4 q 2), 919, 6476)) rfl ?_
  generalize (gFu F4 q 2) = F105 at P f0 f1 f2 ⊢
  refine g_aload_n X (show decode cX6_init 37 = .ok (.aload_n 0, 1) by decide +kernel) rfl ?_
  refine g_new (r := (RX5, TX5, 4)) X gcl_5 cl_RX6_26 it_RX5 in_RX5 (by show _ < 926; omega) (k920) P.free (show decode cX6_init 38 = .ok (.new 26, 3) by decide +kernel) ⟨Nat.le_of_ble_eq_true rfl, Nat.le_of_ble_eq_true rfl⟩ ?_
  refine gB_eq (B2 := (q + 921, F105, 920, 6480)) rfl ?_
  refine g_dup X trivial (show decode cX6_init 41 = .ok (.dup, 1) by decide +kernel) ?_
  refine g_callIN X yi_yX5_init (oi_5 l) (by decide) (by decide) rfl im_yX5_init (show (RX6, 28, yX5_init, RX6) ∈ gNm by simp [gNm]) (show decode cX6_init 42 = .ok (.invokespecial 28, 3) by decide +kernel) (by rw [gCat_eq]; exact Nat.le_of_ble_eq_true rfl) ⟨Nat.le_of_ble_eq_true rfl, Nat.le_of_ble_eq_true rfl⟩ ?_
  refine ⟨q + 920, rfl, rfl, by omega, k920, P.2.2.2, fun M6 F6 hD => ?_⟩
  have P := P.new hD (fun r hr k => by show iCB (920 + r) k = _; unfold iCB; rw [if_neg (by omega), if_neg (by omega), if_neg (by omega), if_neg (by omega)]; rfl)
  have f0 := (congrFun (hD.1 q (by omega)).2 0).trans f0
  have f1 := (congrFun (hD.1 q (by omega)).2 1).trans f1
  have f2 := (congrFun (hD.1 q (by omega)).2 2).trans f2
  refine gB_eq (B2 := (q + 922, F6, 921, 6620)) rfl ?_
  refine g_putR (b := 3) X gcl_6 fl_RX6_29 hin2 rfl (show decode cX6_init 45 = .ok (.putfield 29, 3) by decide +kernel) rfl ?_
  have P := P.fu (p := q) 3 (Nat.le_refl _) (by omega)
  have f0 := (gFu_ne (F := F6) (q := q) (k := 3) (q' := q) (k' := 0) (Or.inr (by decide))).trans f0
  have f1 := (gFu_ne (F := F6) (q := q) (k := 3) (q' := q) (k' := 1) (Or.inr (by decide))).trans f1
  have f2 := (gFu_ne (F := F6) (q := q) (k := 3) (q' := q) (k' := 2) (Or.inr (by decide))).trans f2
  have f3 := gFu_same F6 q 3
  refine gB_eq (B2 := (q + 922, (gFu F6 q 3), 921, 6620)) rfl ?_
  generalize (gFu F6 q 3) = F107 at P f0 f1 f2 f3 ⊢
  refine g_aload_n X (show decode cX6_init 48 = .ok (.aload_n 0, 1) by decide +kernel) rfl ?_
  refine g_new (r := (RX4, TX4, 3)) X gcl_4 cl_RX6_33 it_RX4 in_RX4 (by show _ < 926; omega) (k922) P.free (show decode cX6_init 49 = .ok (.new 33, 3) by decide +kernel) ⟨Nat.le_of_ble_eq_true rfl, Nat.le_of_ble_eq_true rfl⟩ ?_
  refine gB_eq (B2 := (q + 923, F107, 922, 6623)) rfl ?_
  refine g_dup X trivial (show decode cX6_init 52 = .ok (.dup, 1) by decide +kernel) ?_
  refine g_callIN X yi_yX4_init (oi_4 l) (by decide) (by decide) rfl im_yX4_init (show (RX6, 35, yX4_init, RX6) ∈ gNm by simp [gNm]) (show decode cX6_init 53 = .ok (.invokespecial 35, 3) by decide +kernel) (by rw [gCat_eq]; exact Nat.le_of_ble_eq_true rfl) ⟨Nat.le_of_ble_eq_true rfl, Nat.le_of_ble_eq_true rfl⟩ ?_
  refine ⟨q + 922, rfl, rfl, by omega, k922, P.2.2.2, fun M8 F8 hD => ?_⟩
  have P := P.new hD (fun r hr k => by show iCB (922 + r) k = _; unfold iCB; rw [if_neg (by omega), if_neg (by omega), if_neg (by omega), if_neg (by omega)]; rfl)
  have f0 := (congrFun (hD.1 q (by omega)).2 0).trans f0
  have f1 := (congrFun (hD.1 q (by omega)).2 1).trans f1
  have f2 := (congrFun (hD.1 q (by omega)).2 2).trans f2
  have f3 := (congrFun (hD.1 q (by omega)).2 3).trans f3
  refine gB_eq (B2 := (q + 926, F8, 925, 6653)) rfl ?_
  refine g_putR (b := 4) X gcl_6 fl_RX6_36 hin2 rfl (show decode cX6_init 56 = .ok (.putfield 36, 3) by decide +kernel) rfl ?_
  have P := P.fu (p := q) 4 (Nat.le_refl _) (by omega)
  have f0 := (gFu_ne (F := F8) (q := q) (k := 4) (q' := q) (k' := 0) (Or.inr (by decide))).trans f0
  have f1 := (gFu_ne (F := F8) (q := q) (k := 4) (q' := q) (k' := 1) (Or.inr (by decide))).trans f1
  have f2 := (gFu_ne (F := F8) (q := q) (k := 4) (q' := q) (k' := 2) (Or.inr (by decide))).trans f2
  have f3 := (gFu_ne (F := F8) (q := q) (k := 4) (q' := q) (k' := 3) (Or.inr (by decide))).trans f3
  have f4 := gFu_same F8 q 4
  refine gB_eq (B2 := (q + 926, (gFu F8 q 4), 925, 6653)) rfl ?_
  generalize (gFu F8 q 4) = F109 at P f0 f1 f2 f3 f4 ⊢
  refine g_vret X hr hlk (show decode cX6_init 59 = .ok (.return_, 1) by decide +kernel) (by rfl) ?_
  have hz : ∀ k, gRel q k → F109 q k = true := by
    intro k hrel
    obtain ⟨t, δ, hf⟩ := gRel_obj (a := 6) hk (by decide) hrel
    match k, hf with
    | 0, _ => exact f0
    | 1, _ => exact f1
    | 2, _ => exact f2
    | 3, _ => exact f3
    | 4, _ => exact f4
    | k + 5, hf => simp [gFl] at hf
  exact h _ _ (P.done hz hz)
