theorem tt_1 : gA = gA := rfl
