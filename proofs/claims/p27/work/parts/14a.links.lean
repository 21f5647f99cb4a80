theorem gcl_0 : gCl 0 (RX0, TX0, 5) := by
  refine ⟨by decide, rfl, ui_X0, rfl, fun k hk => ?_, nmX0⟩
  refine ⟨tyX0 k, tyX0_ok k hk, ?_⟩
  have hk : k < 5 := hk
  rcases (by omega : k = 0 ∨ k = 1 ∨ k = 2 ∨ k = 3 ∨ k = 4) with rfl | rfl | rfl | rfl | rfl
  · exact ⟨fun h => (by cases h), fun t δ _ => ⟨fun _ => ⟨rfl, rfl⟩, rfl⟩⟩
  · exact ⟨fun h => (by cases h), fun t δ _ => ⟨fun _ => ⟨rfl, rfl⟩, rfl⟩⟩
  · exact ⟨fun h => (by cases h), fun t δ _ => ⟨fun _ => ⟨rfl, rfl⟩, rfl⟩⟩
  · exact ⟨fun _ => ⟨rfl, rfl⟩, fun t δ h => by cases h⟩
  · exact ⟨fun _ => ⟨rfl, rfl⟩, fun t δ h => by cases h⟩
theorem gcl_1 : gCl 1 (RX1, TX1, 1) := by
  refine ⟨by decide, rfl, ui_X1, rfl, fun k hk => ?_, nmX1⟩
  refine ⟨tyX1 k, tyX1_ok k hk, ?_⟩
  have hk : k < 1 := hk
  obtain rfl : k = 0 := by omega
  · exact ⟨fun h => (by cases h), fun t δ _ => ⟨fun _ => ⟨rfl, rfl⟩, rfl⟩⟩
theorem gcl_2 : gCl 2 (RX2, TX2, 3) := by
  refine ⟨by decide, rfl, ui_X2, rfl, fun k hk => ?_, nmX2⟩
  refine ⟨tyX2 k, tyX2_ok k hk, ?_⟩
  have hk : k < 3 := hk
  rcases (by omega : k = 0 ∨ k = 1 ∨ k = 2) with rfl | rfl | rfl
  · exact ⟨fun h => (by cases h), fun t δ _ => ⟨fun _ => ⟨rfl, rfl⟩, rfl⟩⟩
  · exact ⟨fun _ => ⟨rfl, rfl⟩, fun t δ h => by cases h⟩
  · exact ⟨fun _ => ⟨rfl, rfl⟩, fun t δ h => by cases h⟩
theorem gcl_3 : gCl 3 (RX3, TX3, 6) := by
  refine ⟨by decide, rfl, ui_X3, rfl, fun k hk => ?_, nmX3⟩
  refine ⟨tyX3 k, tyX3_ok k hk, ?_⟩
  have hk : k < 6 := hk
  rcases (by omega : k = 0 ∨ k = 1 ∨ k = 2 ∨ k = 3 ∨ k = 4 ∨ k = 5) with rfl | rfl | rfl | rfl | rfl | rfl
  · exact ⟨fun h => (by cases h), fun t δ _ => ⟨fun _ => ⟨rfl, rfl⟩, rfl⟩⟩
  · exact ⟨fun h => (by cases h), fun t δ _ => ⟨fun _ => ⟨rfl, rfl⟩, rfl⟩⟩
  · exact ⟨fun h => (by cases h), fun t δ _ => ⟨fun _ => ⟨rfl, rfl⟩, rfl⟩⟩
  · exact ⟨fun h => (by cases h), fun t δ _ => ⟨fun _ => ⟨rfl, rfl⟩, rfl⟩⟩
  · exact ⟨fun h => (by cases h), fun t δ _ => ⟨fun _ => ⟨rfl, rfl⟩, rfl⟩⟩
  · exact ⟨fun _ => ⟨rfl, rfl⟩, fun t δ h => by cases h⟩
theorem gcl_4 : gCl 4 (RX4, TX4, 3) := by
  refine ⟨by decide, rfl, ui_X4, rfl, fun k hk => ?_, nmX4⟩
  refine ⟨tyX4 k, tyX4_ok k hk, ?_⟩
  have hk : k < 3 := hk
  rcases (by omega : k = 0 ∨ k = 1 ∨ k = 2) with rfl | rfl | rfl
  · exact ⟨fun h => (by cases h), fun t δ _ => ⟨fun _ => ⟨rfl, rfl⟩, rfl⟩⟩
  · exact ⟨fun h => (by cases h), fun t δ _ => ⟨fun _ => ⟨rfl, rfl⟩, rfl⟩⟩
  · exact ⟨fun h => (by cases h), fun t δ _ => ⟨fun _ => ⟨rfl, rfl⟩, rfl⟩⟩
theorem gcl_5 : gCl 5 (RX5, TX5, 4) := by
  refine ⟨by decide, rfl, ui_X5, rfl, fun k hk => ?_, nmX5⟩
  refine ⟨tyX5 k, tyX5_ok k hk, ?_⟩
  have hk : k < 4 := hk
  rcases (by omega : k = 0 ∨ k = 1 ∨ k = 2 ∨ k = 3) with rfl | rfl | rfl | rfl
  · exact ⟨fun h => (by cases h), fun t δ _ => ⟨fun _ => ⟨rfl, rfl⟩, rfl⟩⟩
  · exact ⟨fun _ => ⟨rfl, rfl⟩, fun t δ h => by cases h⟩
  · exact ⟨fun _ => ⟨rfl, rfl⟩, fun t δ h => by cases h⟩
  · exact ⟨fun _ => ⟨rfl, rfl⟩, fun t δ h => by cases h⟩
theorem gcl_6 : gCl 6 (RX6, TX6, 5) := by
  refine ⟨by decide, rfl, ui_X6, rfl, fun k hk => ?_, nmX6⟩
  refine ⟨tyX6 k, tyX6_ok k hk, ?_⟩
  have hk : k < 5 := hk
  rcases (by omega : k = 0 ∨ k = 1 ∨ k = 2 ∨ k = 3 ∨ k = 4) with rfl | rfl | rfl | rfl | rfl
  · exact ⟨fun h => (by cases h), fun t δ _ => ⟨fun _ => ⟨rfl, rfl⟩, rfl⟩⟩
  · exact ⟨fun h => (by cases h), fun t δ _ => ⟨fun _ => ⟨rfl, rfl⟩, rfl⟩⟩
  · exact ⟨fun h => (by cases h), fun t δ _ => ⟨fun _ => ⟨rfl, rfl⟩, rfl⟩⟩
  · exact ⟨fun h => (by cases h), fun t δ _ => ⟨fun _ => ⟨rfl, rfl⟩, rfl⟩⟩
  · exact ⟨fun h => (by cases h), fun t δ _ => ⟨fun _ => ⟨rfl, rfl⟩, rfl⟩⟩
theorem gf_RX0_9 : ∃ r, gCl 0 r ∧ Cond.fieldLink RX0 9 (r.2.1 0).1 (r.2.1 0).2.1 (r.2.1 0).2.2.1 ∈ gA := ⟨_, gcl_0, fl_RX0_9⟩
theorem gf_RX4_118 : ∃ r, gCl 0 r ∧ Cond.fieldLink RX4 118 (r.2.1 0).1 (r.2.1 0).2.1 (r.2.1 0).2.2.1 ∈ gA := ⟨_, gcl_0, fl_RX4_118⟩
theorem gf_RX6_202 : ∃ r, gCl 0 r ∧ Cond.fieldLink RX6 202 (r.2.1 0).1 (r.2.1 0).2.1 (r.2.1 0).2.2.1 ∈ gA := ⟨_, gcl_0, fl_RX6_202⟩
theorem gf_RX0_15 : ∃ r, gCl 0 r ∧ Cond.fieldLink RX0 15 (r.2.1 1).1 (r.2.1 1).2.1 (r.2.1 1).2.2.1 ∈ gA := ⟨_, gcl_0, fl_RX0_15⟩
theorem gf_RX4_108 : ∃ r, gCl 0 r ∧ Cond.fieldLink RX4 108 (r.2.1 1).1 (r.2.1 1).2.1 (r.2.1 1).2.2.1 ∈ gA := ⟨_, gcl_0, fl_RX4_108⟩
theorem gf_RX6_205 : ∃ r, gCl 0 r ∧ Cond.fieldLink RX6 205 (r.2.1 1).1 (r.2.1 1).2.1 (r.2.1 1).2.2.1 ∈ gA := ⟨_, gcl_0, fl_RX6_205⟩
theorem gf_RX0_18 : ∃ r, gCl 0 r ∧ Cond.fieldLink RX0 18 (r.2.1 2).1 (r.2.1 2).2.1 (r.2.1 2).2.2.1 ∈ gA := ⟨_, gcl_0, fl_RX0_18⟩
theorem gf_RX4_70 : ∃ r, gCl 0 r ∧ Cond.fieldLink RX4 70 (r.2.1 2).1 (r.2.1 2).2.1 (r.2.1 2).2.2.1 ∈ gA := ⟨_, gcl_0, fl_RX4_70⟩
theorem gf_RX6_90 : ∃ r, gCl 0 r ∧ Cond.fieldLink RX6 90 (r.2.1 2).1 (r.2.1 2).2.1 (r.2.1 2).2.2.1 ∈ gA := ⟨_, gcl_0, fl_RX6_90⟩
theorem gf_RX1_54 : ∃ r, gCl 0 r ∧ Cond.fieldLink RX1 54 (r.2.1 2).1 (r.2.1 2).2.1 (r.2.1 2).2.2.1 ∈ gA := ⟨_, gcl_0, fl_RX1_54⟩
theorem gf_RX0_27 : ∃ r, gCl 0 r ∧ Cond.fieldLink RX0 27 (r.2.1 3).1 (r.2.1 3).2.1 (r.2.1 3).2.2.1 ∈ gA := ⟨_, gcl_0, fl_RX0_27⟩
theorem gf_RX6_62 : ∃ r, gCl 0 r ∧ Cond.fieldLink RX6 62 (r.2.1 3).1 (r.2.1 3).2.1 (r.2.1 3).2.2.1 ∈ gA := ⟨_, gcl_0, fl_RX6_62⟩
theorem gf_RX4_54 : ∃ r, gCl 0 r ∧ Cond.fieldLink RX4 54 (r.2.1 3).1 (r.2.1 3).2.1 (r.2.1 3).2.2.1 ∈ gA := ⟨_, gcl_0, fl_RX4_54⟩
theorem gf_RX1_22 : ∃ r, gCl 0 r ∧ Cond.fieldLink RX1 22 (r.2.1 3).1 (r.2.1 3).2.1 (r.2.1 3).2.2.1 ∈ gA := ⟨_, gcl_0, fl_RX1_22⟩
theorem gf_RX5_65 : ∃ r, gCl 0 r ∧ Cond.fieldLink RX5 65 (r.2.1 3).1 (r.2.1 3).2.1 (r.2.1 3).2.2.1 ∈ gA := ⟨_, gcl_0, fl_RX5_65⟩
theorem gf_RX0_31 : ∃ r, gCl 0 r ∧ Cond.fieldLink RX0 31 (r.2.1 4).1 (r.2.1 4).2.1 (r.2.1 4).2.2.1 ∈ gA := ⟨_, gcl_0, fl_RX0_31⟩
theorem gf_RX1_34 : ∃ r, gCl 0 r ∧ Cond.fieldLink RX1 34 (r.2.1 4).1 (r.2.1 4).2.1 (r.2.1 4).2.2.1 ∈ gA := ⟨_, gcl_0, fl_RX1_34⟩
theorem gf_RX6_189 : ∃ r, gCl 0 r ∧ Cond.fieldLink RX6 189 (r.2.1 4).1 (r.2.1 4).2.1 (r.2.1 4).2.2.1 ∈ gA := ⟨_, gcl_0, fl_RX6_189⟩
theorem gf_RX1_11 : ∃ r, gCl 1 r ∧ Cond.fieldLink RX1 11 (r.2.1 0).1 (r.2.1 0).2.1 (r.2.1 0).2.2.1 ∈ gA := ⟨_, gcl_1, fl_RX1_11⟩
theorem gf_RX4_27 : ∃ r, gCl 1 r ∧ Cond.fieldLink RX4 27 (r.2.1 0).1 (r.2.1 0).2.1 (r.2.1 0).2.2.1 ∈ gA := ⟨_, gcl_1, fl_RX4_27⟩
theorem gf_RX6_56 : ∃ r, gCl 1 r ∧ Cond.fieldLink RX6 56 (r.2.1 0).1 (r.2.1 0).2.1 (r.2.1 0).2.2.1 ∈ gA := ⟨_, gcl_1, fl_RX6_56⟩
theorem gf_RX5_51 : ∃ r, gCl 1 r ∧ Cond.fieldLink RX5 51 (r.2.1 0).1 (r.2.1 0).2.1 (r.2.1 0).2.2.1 ∈ gA := ⟨_, gcl_1, fl_RX5_51⟩
theorem gs_RX3_32 : 2 < 5 ∧ (Cond.fieldLink RX3 32 "CrustBlocks" (gSn 2) "[I" ∈ gA ∨ ∃ host, (RX3, 32, "CrustBlocks", gSn 2, "[I", host) ∈ gNf) := ⟨by decide, Or.inr ⟨RX6, by simp [gNf, gSn]⟩⟩
theorem gf_RX3_12 : ∃ r, gCl 3 r ∧ Cond.fieldLink RX3 12 (r.2.1 0).1 (r.2.1 0).2.1 (r.2.1 0).2.2.1 ∈ gA := ⟨_, gcl_3, fl_RX3_12⟩
theorem gf_RX4_21 : ∃ r, gCl 3 r ∧ Cond.fieldLink RX4 21 (r.2.1 0).1 (r.2.1 0).2.1 (r.2.1 0).2.2.1 ∈ gA := ⟨_, gcl_3, fl_RX4_21⟩
theorem gf_RX6_52 : ∃ r, gCl 3 r ∧ Cond.fieldLink RX6 52 (r.2.1 0).1 (r.2.1 0).2.1 (r.2.1 0).2.2.1 ∈ gA := ⟨_, gcl_3, fl_RX6_52⟩
theorem gf_RX5_45 : ∃ r, gCl 3 r ∧ Cond.fieldLink RX5 45 (r.2.1 0).1 (r.2.1 0).2.1 (r.2.1 0).2.2.1 ∈ gA := ⟨_, gcl_3, fl_RX5_45⟩
theorem gf_RX3_18 : ∃ r, gCl 3 r ∧ Cond.fieldLink RX3 18 (r.2.1 1).1 (r.2.1 1).2.1 (r.2.1 1).2.2.1 ∈ gA := ⟨_, gcl_3, fl_RX3_18⟩
theorem gf_RX6_135 : ∃ r, gCl 3 r ∧ Cond.fieldLink RX6 135 (r.2.1 1).1 (r.2.1 1).2.1 (r.2.1 1).2.2.1 ∈ gA := ⟨_, gcl_3, fl_RX6_135⟩
theorem gf_RX3_22 : ∃ r, gCl 3 r ∧ Cond.fieldLink RX3 22 (r.2.1 2).1 (r.2.1 2).2.1 (r.2.1 2).2.2.1 ∈ gA := ⟨_, gcl_3, fl_RX3_22⟩
theorem gf_RX6_143 : ∃ r, gCl 3 r ∧ Cond.fieldLink RX6 143 (r.2.1 2).1 (r.2.1 2).2.1 (r.2.1 2).2.2.1 ∈ gA := ⟨_, gcl_3, fl_RX6_143⟩
theorem gf_RX3_26 : ∃ r, gCl 3 r ∧ Cond.fieldLink RX3 26 (r.2.1 3).1 (r.2.1 3).2.1 (r.2.1 3).2.2.1 ∈ gA := ⟨_, gcl_3, fl_RX3_26⟩
theorem gf_RX4_45 : ∃ r, gCl 3 r ∧ Cond.fieldLink RX4 45 (r.2.1 3).1 (r.2.1 3).2.1 (r.2.1 3).2.2.1 ∈ gA := ⟨_, gcl_3, fl_RX4_45⟩
theorem gf_RX6_123 : ∃ r, gCl 3 r ∧ Cond.fieldLink RX6 123 (r.2.1 3).1 (r.2.1 3).2.1 (r.2.1 3).2.2.1 ∈ gA := ⟨_, gcl_3, fl_RX6_123⟩
theorem gf_RX3_29 : ∃ r, gCl 3 r ∧ Cond.fieldLink RX3 29 (r.2.1 4).1 (r.2.1 4).2.1 (r.2.1 4).2.2.1 ∈ gA := ⟨_, gcl_3, fl_RX3_29⟩
theorem gf_RX6_84 : ∃ r, gCl 3 r ∧ Cond.fieldLink RX6 84 (r.2.1 4).1 (r.2.1 4).2.1 (r.2.1 4).2.2.1 ∈ gA := ⟨_, gcl_3, fl_RX6_84⟩
theorem gf_RX4_83 : ∃ r, gCl 3 r ∧ Cond.fieldLink RX4 83 (r.2.1 4).1 (r.2.1 4).2.1 (r.2.1 4).2.2.1 ∈ gA := ⟨_, gcl_3, fl_RX4_83⟩
theorem gf_RX5_57 : ∃ r, gCl 3 r ∧ Cond.fieldLink RX5 57 (r.2.1 4).1 (r.2.1 4).2.1 (r.2.1 4).2.2.1 ∈ gA := ⟨_, gcl_3, fl_RX5_57⟩
theorem gf_RX3_45 : ∃ r, gCl 3 r ∧ Cond.fieldLink RX3 45 (r.2.1 5).1 (r.2.1 5).2.1 (r.2.1 5).2.2.1 ∈ gA := ⟨_, gcl_3, fl_RX3_45⟩
theorem gf_RX6_126 : ∃ r, gCl 3 r ∧ Cond.fieldLink RX6 126 (r.2.1 5).1 (r.2.1 5).2.1 (r.2.1 5).2.2.1 ∈ gA := ⟨_, gcl_3, fl_RX6_126⟩
theorem gf_RX2_11 : ∃ r, gCl 2 r ∧ Cond.fieldLink RX2 11 (r.2.1 0).1 (r.2.1 0).2.1 (r.2.1 0).2.2.1 ∈ gA := ⟨_, gcl_2, fl_RX2_11⟩
theorem gf_RX2_22 : ∃ r, gCl 2 r ∧ Cond.fieldLink RX2 22 (r.2.1 1).1 (r.2.1 1).2.1 (r.2.1 1).2.2.1 ∈ gA := ⟨_, gcl_2, fl_RX2_22⟩
theorem gf_RX2_18 : ∃ r, gCl 2 r ∧ Cond.fieldLink RX2 18 (r.2.1 2).1 (r.2.1 2).2.1 (r.2.1 2).2.2.1 ∈ gA := ⟨_, gcl_2, fl_RX2_18⟩
theorem gf_RX6_147 : ∃ r, gCl 2 r ∧ Cond.fieldLink RX6 147 (r.2.1 2).1 (r.2.1 2).2.1 (r.2.1 2).2.2.1 ∈ gA := ⟨_, gcl_2, fl_RX6_147⟩
theorem gf_RX5_9 : ∃ r, gCl 5 r ∧ Cond.fieldLink RX5 9 (r.2.1 0).1 (r.2.1 0).2.1 (r.2.1 0).2.2.1 ∈ gA := ⟨_, gcl_5, fl_RX5_9⟩
theorem gf_RX5_99 : ∃ r, gCl 5 r ∧ Cond.fieldLink RX5 99 (r.2.1 1).1 (r.2.1 1).2.1 (r.2.1 1).2.2.1 ∈ gA := ⟨_, gcl_5, fl_RX5_99⟩
theorem gf_RX6_151 : ∃ r, gCl 5 r ∧ Cond.fieldLink RX6 151 (r.2.1 1).1 (r.2.1 1).2.1 (r.2.1 1).2.2.1 ∈ gA := ⟨_, gcl_5, fl_RX6_151⟩
theorem gf_RX5_19 : ∃ r, gCl 5 r ∧ Cond.fieldLink RX5 19 (r.2.1 2).1 (r.2.1 2).2.1 (r.2.1 2).2.2.1 ∈ gA := ⟨_, gcl_5, fl_RX5_19⟩
theorem gf_RX5_15 : ∃ r, gCl 5 r ∧ Cond.fieldLink RX5 15 (r.2.1 3).1 (r.2.1 3).2.1 (r.2.1 3).2.2.1 ∈ gA := ⟨_, gcl_5, fl_RX5_15⟩
theorem gf_RX6_168 : ∃ r, gCl 5 r ∧ Cond.fieldLink RX6 168 (r.2.1 3).1 (r.2.1 3).2.1 (r.2.1 3).2.2.1 ∈ gA := ⟨_, gcl_5, fl_RX6_168⟩
theorem gf_RX4_9 : ∃ r, gCl 4 r ∧ Cond.fieldLink RX4 9 (r.2.1 0).1 (r.2.1 0).2.1 (r.2.1 0).2.2.1 ∈ gA := ⟨_, gcl_4, fl_RX4_9⟩
theorem gf_RX4_15 : ∃ r, gCl 4 r ∧ Cond.fieldLink RX4 15 (r.2.1 1).1 (r.2.1 1).2.1 (r.2.1 1).2.2.1 ∈ gA := ⟨_, gcl_4, fl_RX4_15⟩
theorem gf_RX4_18 : ∃ r, gCl 4 r ∧ Cond.fieldLink RX4 18 (r.2.1 2).1 (r.2.1 2).2.1 (r.2.1 2).2.2.1 ∈ gA := ⟨_, gcl_4, fl_RX4_18⟩
theorem gf_RX6_10 : ∃ r, gCl 6 r ∧ Cond.fieldLink RX6 10 (r.2.1 0).1 (r.2.1 0).2.1 (r.2.1 0).2.2.1 ∈ gA := ⟨_, gcl_6, fl_RX6_10⟩
theorem gf_RX6_16 : ∃ r, gCl 6 r ∧ Cond.fieldLink RX6 16 (r.2.1 1).1 (r.2.1 1).2.1 (r.2.1 1).2.2.1 ∈ gA := ⟨_, gcl_6, fl_RX6_16⟩
theorem gf_RX6_22 : ∃ r, gCl 6 r ∧ Cond.fieldLink RX6 22 (r.2.1 2).1 (r.2.1 2).2.1 (r.2.1 2).2.2.1 ∈ gA := ⟨_, gcl_6, fl_RX6_22⟩
theorem gf_RX6_29 : ∃ r, gCl 6 r ∧ Cond.fieldLink RX6 29 (r.2.1 3).1 (r.2.1 3).2.1 (r.2.1 3).2.2.1 ∈ gA := ⟨_, gcl_6, fl_RX6_29⟩
theorem gf_RX6_36 : ∃ r, gCl 6 r ∧ Cond.fieldLink RX6 36 (r.2.1 4).1 (r.2.1 4).2.1 (r.2.1 4).2.2.1 ∈ gA := ⟨_, gcl_6, fl_RX6_36⟩
theorem gs_RX6_68 : 0 < 5 ∧ (Cond.fieldLink RX6 68 "CrustBlocks" (gSn 0) "[I" ∈ gA ∨ ∃ host, (RX6, 68, "CrustBlocks", gSn 0, "[I", host) ∈ gNf) := ⟨by decide, Or.inl fl_RX6_68⟩
theorem gs_RX6_72 : 1 < 5 ∧ (Cond.fieldLink RX6 72 "CrustBlocks" (gSn 1) "[I" ∈ gA ∨ ∃ host, (RX6, 72, "CrustBlocks", gSn 1, "[I", host) ∈ gNf) := ⟨by decide, Or.inl fl_RX6_72⟩
theorem gs_RX6_117 : 3 < 5 ∧ (Cond.fieldLink RX6 117 "CrustBlocks" (gSn 3) "[I" ∈ gA ∨ ∃ host, (RX6, 117, "CrustBlocks", gSn 3, "[I", host) ∈ gNf) := ⟨by decide, Or.inl fl_RX6_117⟩
theorem gs_RX6_120 : 4 < 5 ∧ (Cond.fieldLink RX6 120 "CrustBlocks" (gSn 4) "[I" ∈ gA ∨ ∃ host, (RX6, 120, "CrustBlocks", gSn 4, "[I", host) ∈ gNf) := ⟨by decide, Or.inl fl_RX6_120⟩
theorem gs_RX5_85 : 0 < 5 ∧ (Cond.fieldLink RX5 85 "CrustBlocks" (gSn 0) "[I" ∈ gA ∨ ∃ host, (RX5, 85, "CrustBlocks", gSn 0, "[I", host) ∈ gNf) := ⟨by decide, Or.inr ⟨RX6, by simp [gNf, gSn]⟩⟩
theorem gs_RX5_88 : 1 < 5 ∧ (Cond.fieldLink RX5 88 "CrustBlocks" (gSn 1) "[I" ∈ gA ∨ ∃ host, (RX5, 88, "CrustBlocks", gSn 1, "[I", host) ∈ gNf) := ⟨by decide, Or.inr ⟨RX6, by simp [gNf, gSn]⟩⟩
theorem yi_yX0_init : gYI yX0_init cX0_init 1 none 0 := ⟨co_yX0_init, in_RX0, by decide +kernel, by decide⟩
theorem yi_yX0_copyFrom : gYI yX0_copyFrom cX0_copyFrom 2 none 1 := ⟨co_yX0_copyFrom, in_RX0, by decide +kernel, by decide⟩
theorem yi_yX0_hasLayer : gYI yX0_hasLayer cX0_hasLayer 2 (some .boolean) 1 := ⟨co_yX0_hasLayer, in_RX0, by decide +kernel, by decide⟩
theorem yi_yX0_hasIceOnTop : gYI yX0_hasIceOnTop cX0_hasIceOnTop 1 (some .boolean) 0 := ⟨co_yX0_hasIceOnTop, in_RX0, by decide +kernel, by decide⟩
theorem yi_yX0_weightOf : gYI yX0_weightOf cX0_weightOf 2 (some .int) 1 := ⟨co_yX0_weightOf, in_RX0, by decide +kernel, by decide⟩
theorem yi_yX0_weight : gYI yX0_weight cX0_weight 3 (some .int) 0 := ⟨co_yX0_weight, in_RX0, by decide +kernel, by decide⟩
theorem yi_yX0_allThicknesses : gYI yX0_allThicknesses cX0_allThicknesses 3 (some .int) 0 := ⟨co_yX0_allThicknesses, in_RX0, by decide +kernel, by decide⟩
theorem yi_yX0_iceThickness : gYI yX0_iceThickness cX0_iceThickness 3 (some .int) 0 := ⟨co_yX0_iceThickness, in_RX0, by decide +kernel, by decide⟩
theorem yi_yX0_balance : gYI yX0_balance cX0_balance 1 (some .int) 0 := ⟨co_yX0_balance, in_RX0, by decide +kernel, by decide⟩
theorem yi_yX0_top : gYI yX0_top cX0_top 1 (some .int) 0 := ⟨co_yX0_top, in_RX0, by decide +kernel, by decide⟩
theorem yi_yX0_upperSide : gYI yX0_upperSide cX0_upperSide 4 (some .int) 1 := ⟨co_yX0_upperSide, in_RX0, by decide +kernel, by decide⟩
theorem yi_yX0_firstBelowIce : gYI yX0_firstBelowIce cX0_firstBelowIce 2 (some .int) 0 := ⟨co_yX0_firstBelowIce, in_RX0, by decide +kernel, by decide⟩
theorem yi_yX0_insert : gYI yX0_insert cX0_insert 6 none 4 := ⟨co_yX0_insert, in_RX0, by decide +kernel, by decide⟩
theorem yi_yX0_delete : gYI yX0_delete cX0_delete 3 none 1 := ⟨co_yX0_delete, in_RX0, by decide +kernel, by decide⟩
theorem yi_yX0_moveLayer : gYI yX0_moveLayer cX0_moveLayer 3 none 2 := ⟨co_yX0_moveLayer, in_RX0, by decide +kernel, by decide⟩
theorem yi_yX0_deleteKind : gYI yX0_deleteKind cX0_deleteKind 3 none 1 := ⟨co_yX0_deleteKind, in_RX0, by decide +kernel, by decide⟩
theorem yi_yX0_thin : gYI yX0_thin cX0_thin 3 none 2 := ⟨co_yX0_thin, in_RX0, by decide +kernel, by decide⟩
theorem yi_yX0_balanceBase : gYI yX0_balanceBase cX0_balanceBase 1 none 0 := ⟨co_yX0_balanceBase, in_RX0, by decide +kernel, by decide⟩
theorem yi_yX0_floatOnce : gYI yX0_floatOnce cX0_floatOnce 2 none 1 := ⟨co_yX0_floatOnce, in_RX0, by decide +kernel, by decide⟩
theorem yi_yX0_stepsOfFloating : gYI yX0_stepsOfFloating cX0_stepsOfFloating 5 (some .int) 1 := ⟨co_yX0_stepsOfFloating, in_RX0, by decide +kernel, by decide⟩
theorem yi_yX0_floated : gYI yX0_floated cX0_floated 5 (some .int) 3 := ⟨co_yX0_floated, in_RX0, by decide +kernel, by decide⟩
theorem yi_yX0_densityAt : gYI yX0_densityAt cX0_densityAt 4 (some .int) 1 := ⟨co_yX0_densityAt, in_RX0, by decide +kernel, by decide⟩
theorem yi_yX0_pressureAt : gYI yX0_pressureAt cX0_pressureAt 5 (some .int) 1 := ⟨co_yX0_pressureAt, in_RX0, by decide +kernel, by decide⟩
theorem yi_yX1_init : gYI yX1_init cX1_init 2 none 0 := ⟨co_yX1_init, in_RX1, by decide +kernel, by decide⟩
theorem yi_yX1_copyFrom : gYI yX1_copyFrom cX1_copyFrom 3 none 1 := ⟨co_yX1_copyFrom, in_RX1, by decide +kernel, by decide⟩
theorem yi_yX1_allLayers : gYI yX1_allLayers cX1_allLayers 3 (some .int) 0 := ⟨co_yX1_allLayers, in_RX1, by decide +kernel, by decide⟩
theorem yi_yX1_allWeights : gYI yX1_allWeights cX1_allWeights 3 (some .int) 0 := ⟨co_yX1_allWeights, in_RX1, by decide +kernel, by decide⟩
theorem yi_yX1_withLayers : gYI yX1_withLayers cX1_withLayers 3 (some .int) 0 := ⟨co_yX1_withLayers, in_RX1, by decide +kernel, by decide⟩
theorem yi_yX1_withIceOnTop : gYI yX1_withIceOnTop cX1_withIceOnTop 3 (some .int) 0 := ⟨co_yX1_withIceOnTop, in_RX1, by decide +kernel, by decide⟩
theorem yi_yX1_unbalanced : gYI yX1_unbalanced cX1_unbalanced 3 (some .int) 0 := ⟨co_yX1_unbalanced, in_RX1, by decide +kernel, by decide⟩
theorem yi_yX1_highest : gYI yX1_highest cX1_highest 3 (some .int) 0 := ⟨co_yX1_highest, in_RX1, by decide +kernel, by decide⟩
theorem yi_yX1_lowerNeighbor : gYI yX1_lowerNeighbor cX1_lowerNeighbor 4 (some .int) 1 := ⟨co_yX1_lowerNeighbor, in_RX1, by decide +kernel, by decide⟩
theorem yi_yX1_reason : gYI yX1_reason cX1_reason 4 (some .int) 2 := ⟨co_yX1_reason, in_RX1, by decide +kernel, by decide⟩
theorem yi_yX1_takenBetween : gYI yX1_takenBetween cX1_takenBetween 6 (some .int) 3 := ⟨co_yX1_takenBetween, in_RX1, by decide +kernel, by decide⟩
theorem yi_yX2_init : gYI yX2_init cX2_init 2 none 0 := ⟨co_yX2_init, in_RX2, by decide +kernel, by decide⟩
theorem yi_yX2_keep : gYI yX2_keep cX2_keep 2 none 1 := ⟨co_yX2_keep, in_RX2, by decide +kernel, by decide⟩
theorem yi_yX2_giveBack : gYI yX2_giveBack cX2_giveBack 2 none 1 := ⟨co_yX2_giveBack, in_RX2, by decide +kernel, by decide⟩
theorem yi_yX3_init : gYI yX3_init cX3_init 2 none 0 := ⟨co_yX3_init, in_RX3, by decide +kernel, by decide⟩
theorem yi_yX3_copyFrom : gYI yX3_copyFrom cX3_copyFrom 3 none 1 := ⟨co_yX3_copyFrom, in_RX3, by decide +kernel, by decide⟩
theorem yi_yX3_filledPlaces : gYI yX3_filledPlaces cX3_filledPlaces 3 (some .int) 0 := ⟨co_yX3_filledPlaces, in_RX3, by decide +kernel, by decide⟩
theorem yi_yX4_init : gYI yX4_init cX4_init 1 none 0 := ⟨co_yX4_init, in_RX4, by decide +kernel, by decide⟩
theorem yi_yX4_makeStep : gYI yX4_makeStep cX4_makeStep 3 none 1 := ⟨co_yX4_makeStep, in_RX4, by decide +kernel, by decide⟩
theorem yi_yX4_changeIce : gYI yX4_changeIce cX4_changeIce 3 none 2 := ⟨co_yX4_changeIce, in_RX4, by decide +kernel, by decide⟩
theorem yi_yX4_growIce : gYI yX4_growIce cX4_growIce 3 none 3 := ⟨co_yX4_growIce, in_RX4, by decide +kernel, by decide⟩
theorem yi_yX4_findErosion : gYI yX4_findErosion cX4_findErosion 4 none 1 := ⟨co_yX4_findErosion, in_RX4, by decide +kernel, by decide⟩
theorem yi_yX4_erode : gYI yX4_erode cX4_erode 8 none 2 := ⟨co_yX4_erode, in_RX4, by decide +kernel, by decide⟩
theorem yi_yX4_laidDown : gYI yX4_laidDown cX4_laidDown 5 (some .int) 3 := ⟨co_yX4_laidDown, in_RX4, by decide +kernel, by decide⟩
theorem yi_yX5_init : gYI yX5_init cX5_init 1 none 0 := ⟨co_yX5_init, in_RX5, by decide +kernel, by decide⟩
theorem yi_yX5_isWrong : gYI yX5_isWrong cX5_isWrong 1 (some .boolean) 0 := ⟨co_yX5_isWrong, in_RX5, by decide +kernel, by decide⟩
theorem yi_yX5_readInto : gYI yX5_readInto cX5_readInto 3 (some .int) 1 := ⟨co_yX5_readInto, in_RX5, by decide +kernel, by decide⟩
theorem yi_yX5_readItem : gYI yX5_readItem cX5_readItem 4 none 1 := ⟨co_yX5_readItem, in_RX5, by decide +kernel, by decide⟩
theorem yi_yX5_readLayers : gYI yX5_readLayers cX5_readLayers 3 none 1 := ⟨co_yX5_readLayers, in_RX5, by decide +kernel, by decide⟩
theorem yi_yX5_readLayer : gYI yX5_readLayer cX5_readLayer 5 none 1 := ⟨co_yX5_readLayer, in_RX5, by decide +kernel, by decide⟩
theorem yi_yX5_readNumber : gYI yX5_readNumber cX5_readNumber 6 (some .int) 2 := ⟨co_yX5_readNumber, in_RX5, by decide +kernel, by decide⟩
theorem yi_yX5_expect : gYI yX5_expect cX5_expect 2 none 1 := ⟨co_yX5_expect, in_RX5, by decide +kernel, by decide⟩
theorem yi_yX5_fail : gYI yX5_fail cX5_fail 2 none 1 := ⟨co_yX5_fail, in_RX5, by decide +kernel, by decide⟩
theorem yi_yX5_nextSign : gYI yX5_nextSign cX5_nextSign 1 (some .int) 0 := ⟨co_yX5_nextSign, in_RX5, by decide +kernel, by decide⟩
theorem yi_yX5_kindOf : gYI yX5_kindOf cX5_kindOf 1 (some .int) 1 := ⟨co_yX5_kindOf, in_RX5, by decide +kernel, by decide⟩
theorem yi_yX6_init : gYI yX6_init cX6_init 1 none 0 := ⟨co_yX6_init, in_RX6, by decide +kernel, by decide⟩
theorem yi_yX6_addLayer : gYI yX6_addLayer cX6_addLayer 7 (some .int) 5 := ⟨co_yX6_addLayer, in_RX6, by decide +kernel, by decide⟩
theorem yi_yX6_removeLayer : gYI yX6_removeLayer cX6_removeLayer 5 (some .int) 2 := ⟨co_yX6_removeLayer, in_RX6, by decide +kernel, by decide⟩
theorem yi_yX6_strip : gYI yX6_strip cX6_strip 5 (some .int) 1 := ⟨co_yX6_strip, in_RX6, by decide +kernel, by decide⟩
theorem yi_yX6_settle : gYI yX6_settle cX6_settle 3 (some .int) 0 := ⟨co_yX6_settle, in_RX6, by decide +kernel, by decide⟩
theorem yi_yX6_set : gYI yX6_set cX6_set 4 (some .int) 2 := ⟨co_yX6_set, in_RX6, by decide +kernel, by decide⟩
theorem yi_yX6_run : gYI yX6_run cX6_run 3 (some .int) 1 := ⟨co_yX6_run, in_RX6, by decide +kernel, by decide⟩
theorem yi_yX6_take : gYI yX6_take cX6_take 2 (some .int) 1 := ⟨co_yX6_take, in_RX6, by decide +kernel, by decide⟩
theorem yi_yX6_restore : gYI yX6_restore cX6_restore 2 (some .int) 1 := ⟨co_yX6_restore, in_RX6, by decide +kernel, by decide⟩
theorem yi_yX6_undo : gYI yX6_undo cX6_undo 1 (some .int) 0 := ⟨co_yX6_undo, in_RX6, by decide +kernel, by decide⟩
theorem yi_yX6_load : gYI yX6_load cX6_load 2 (some .int) 0 := ⟨co_yX6_load, in_RX6, by decide +kernel, by decide⟩
theorem yi_yX6_count : gYI yX6_count cX6_count 2 (some .int) 1 := ⟨co_yX6_count, in_RX6, by decide +kernel, by decide⟩
theorem yi_yX6_block : gYI yX6_block cX6_block 4 (some .int) 2 := ⟨co_yX6_block, in_RX6, by decide +kernel, by decide⟩
theorem yi_yX6_layer : gYI yX6_layer cX6_layer 5 (some .int) 3 := ⟨co_yX6_layer, in_RX6, by decide +kernel, by decide⟩
theorem yi_yX6_account : gYI yX6_account cX6_account 2 (some .int) 1 := ⟨co_yX6_account, in_RX6, by decide +kernel, by decide⟩
theorem yi_yX6_density : gYI yX6_density cX6_density 3 (some .int) 2 := ⟨co_yX6_density, in_RX6, by decide +kernel, by decide⟩
theorem yi_yX6_pressure : gYI yX6_pressure cX6_pressure 3 (some .int) 2 := ⟨co_yX6_pressure, in_RX6, by decide +kernel, by decide⟩
theorem yi_yX6_why : gYI yX6_why cX6_why 2 (some .int) 1 := ⟨co_yX6_why, in_RX6, by decide +kernel, by decide⟩
theorem yi_yX6_valley : gYI yX6_valley cX6_valley 2 (some .int) 1 := ⟨co_yX6_valley, in_RX6, by decide +kernel, by decide⟩
theorem yi_yX6_stepsToBalance : gYI yX6_stepsToBalance cX6_stepsToBalance 2 (some .int) 1 := ⟨co_yX6_stepsToBalance, in_RX6, by decide +kernel, by decide⟩
theorem yi_yX6_topIn : gYI yX6_topIn cX6_topIn 4 (some .int) 2 := ⟨co_yX6_topIn, in_RX6, by decide +kernel, by decide⟩
theorem yi_yX6_uneven : gYI yX6_uneven cX6_uneven 8 (some .int) 2 := ⟨co_yX6_uneven, in_RX6, by decide +kernel, by decide⟩
theorem yi_yX6_isWithin : gYI yX6_isWithin cX6_isWithin 3 (some .boolean) 3 := ⟨co_yX6_isWithin, in_RX6, by decide +kernel, by decide⟩
theorem yi_yX6_isBlock : gYI yX6_isBlock cX6_isBlock 1 (some .boolean) 1 := ⟨co_yX6_isBlock, in_RX6, by decide +kernel, by decide⟩
theorem yi_yX6_isKind : gYI yX6_isKind cX6_isKind 1 (some .boolean) 1 := ⟨co_yX6_isKind, in_RX6, by decide +kernel, by decide⟩
theorem yi_yX6_isPlace : gYI yX6_isPlace cX6_isPlace 1 (some .boolean) 1 := ⟨co_yX6_isPlace, in_RX6, by decide +kernel, by decide⟩
theorem yi_yJ6_compare_7cf53 : gYI yJ6_compare_7cf53 cJ6_compare_7cf53 2 (some .int) 2 := ⟨co_yJ6_compare_7cf53, in_RJ6, by decide +kernel, by decide⟩
theorem yi_yL_cell : gYI yL_cell method_2_code 2 (some .int) 2 := ⟨co_yL_cell, in_RL, by decide +kernel, by decide⟩
theorem yi_yL_low : gYI yL_low method_3_code 2 (some .int) 2 := ⟨co_yL_low, in_RL, by decide +kernel, by decide⟩
theorem yi_yL_digest : gYI yL_digest method_4_code 6 (some .long) 1 := ⟨co_yL_digest, in_RL, by decide +kernel, by decide⟩
theorem yi_yL_act : gYI yL_act method_5_code 4 (some .int) 2 := ⟨co_yL_act, in_RL, by decide +kernel, by decide⟩
theorem yi_yL_isRight : gYI yL_isRight method_6_code 18 (some .boolean) 1 := ⟨co_yL_isRight, in_RL, by decide +kernel, by decide⟩
