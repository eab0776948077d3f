/-! ===== what the small methods answer ===== -/
theorem b01 {α : Type} (p : Prop) [Decidable p] (A B : α) : (if (if p then (1 : Int32) else 0) = 0 then A else B) = if p then B else A := by by_cases h : p <;> simp [h]
theorem b10 {α : Type} (p : Prop) [Decidable p] (A B : α) : (if (if p then (0 : Int32) else 1) = 0 then A else B) = if p then A else B := by by_cases h : p <;> simp [h]
theorem i_lt (x y : Int32) : x < y ↔ x.toInt < y.toInt := Int32.lt_iff_toInt_lt
theorem i_eq (x y : Int32) : x = y ↔ x.toInt = y.toInt := Int32.toInt_inj.symm
theorem nI_m1 {n : Nat} (h : n < 2 ^ 31) : ¬ nI n = -1 := by
  rw [i_eq, nI_toInt h]; simp
theorem nI_m2 {n : Nat} (h : n < 2 ^ 31) : ¬ nI n = -2 := by
  rw [i_eq, nI_toInt h]; simp
theorem nI_of' {v : Int32} {n : Nat} (h : 0 ≤ v.toInt ∧ v.toInt < n) (hn : n < 2 ^ 31) : ∃ k, k < n ∧ v = nI k ∧ v.toNatClampNeg = k := by
  rcases ixc v n hn with ⟨k, hk, rfl⟩ | h'
  · exact ⟨k, hk, rfl, nI_clamp (by omega)⟩
  · exact absurd h h'
theorem e_isSeat (v : Int32) (s : zM) : f_X8_isSeat v s = some (if 0 ≤ v.toInt ∧ v.toInt < 40 then 1 else 0, s) := by
  unfold f_X8_isSeat
  simp only [i_lt]
  have : (40 : Int32).toInt = 40 := rfl
  have : (0 : Int32).toInt = 0 := rfl
  repeat' split
  all_goals first | rfl | (exfalso; omega)
theorem e_isPlace (v : Int32) (s : zM) : f_X8_isPlace v s = some (if 0 ≤ v.toInt ∧ v.toInt < 20 then 1 else 0, s) := by
  unfold f_X8_isPlace
  simp only [i_lt]
  have : (20 : Int32).toInt = 20 := rfl
  have : (0 : Int32).toInt = 0 := rfl
  repeat' split
  all_goals first | rfl | (exfalso; omega)
theorem e_isRow (v w : Int32) (s : zM) : f_X8_isRow v w s = some (if 0 ≤ v.toInt ∧ v.toInt ≤ w.toInt ∧ w.toInt < 20 then 1 else 0, s) := by
  unfold f_X8_isRow
  simp only [e_isPlace, bnd_some, b01, i_lt]
  repeat' split
  all_goals first | rfl | (exfalso; omega)
theorem e_knows {n : Nat} {s : zM} (hn : n ≤ 16) (h : zg s 3 8 = nI n) (v : Int32) : f_X0_knows v s = some (if 0 ≤ v.toInt ∧ v.toInt < n then 1 else 0, s) := by
  unfold f_X0_knows
  simp only [h, i_lt, nI_toInt (show n < 2 ^ 31 by omega)]
  have : (16 : Int32).toInt = 16 := rfl
  have : (0 : Int32).toInt = 0 := rfl
  repeat' split
  all_goals first | rfl | (exfalso; omega)
theorem e_isFull {n : Nat} {s : zM} (hn : n ≤ 16) (h : zg s 3 8 = nI n) : f_X0_isFull s = some (if n < 16 then 0 else 1, s) := by
  unfold f_X0_isFull
  simp only [h, i_lt, nI_toInt (show n < 2 ^ 31 by omega)]
  have : (16 : Int32).toInt = 16 := rfl
  repeat' split
  all_goals first | rfl | (exfalso; omega)
theorem e_seatOf {n : Nat} {s : zM} (hn : n ≤ 16) (h : zg s 3 8 = nI n) (v : Int32) : f_X0_seatOf v s = some (if 0 ≤ v.toInt ∧ v.toInt < n then zg s 6 v.toNatClampNeg else -1, s) := by
  unfold f_X0_seatOf
  simp only [e_knows hn h, bnd_some, b01]
  split
  · rename_i hv; rw [if_pos (zin_i ⟨hv.1, by omega⟩)]
  · rfl
theorem e_landOf {n : Nat} {s : zM} (hn : n ≤ 16) (h : zg s 3 8 = nI n) (v : Int32) : f_X0_landOf v s = some (if 0 ≤ v.toInt ∧ v.toInt < n then zg s 4 v.toNatClampNeg else 0, s) := by
  unfold f_X0_landOf
  simp only [e_knows hn h, bnd_some, b01]
  split
  · rename_i hv; rw [if_pos (zin_i ⟨hv.1, by omega⟩)]
  · rfl
theorem e_heirOf {n : Nat} {s : zM} (hn : n ≤ 16) (h : zg s 3 8 = nI n) (v : Int32) : f_X0_heirOf v s = some (if 0 ≤ v.toInt ∧ v.toInt < n then zg s 7 v.toNatClampNeg else -1, s) := by
  unfold f_X0_heirOf
  simp only [e_knows hn h, bnd_some, b01]
  split
  · rename_i hv; rw [if_pos (zin_i ⟨hv.1, by omega⟩)]
  · rfl
theorem e_lives {n : Nat} {s : zM} (hn : n ≤ 16) (h : zg s 3 8 = nI n) (v : Int32) : f_X0_lives v s = some (if (0 ≤ v.toInt ∧ v.toInt < n) ∧ ¬ zg s 5 v.toNatClampNeg = 0 then 1 else 0, s) := by
  unfold f_X0_lives
  simp only [e_knows hn h, bnd_some, b01]
  by_cases hv : 0 ≤ v.toInt ∧ v.toInt < n
  · rw [if_pos hv, if_pos (zin_i ⟨hv.1, by omega⟩)]
    by_cases h0 : zg s 5 v.toNatClampNeg = 0 <;> simp [h0, hv]
  · rw [if_neg hv, if_neg (fun q => hv q.1)]
theorem e_sits {n : Nat} {s : zM} (hn : n ≤ 16) (h : zg s 3 8 = nI n) (v : Int32) : f_X0_sits v s = some (if (0 ≤ v.toInt ∧ v.toInt < n) ∧ ¬ zg s 6 v.toNatClampNeg = -1 then 1 else 0, s) := by
  unfold f_X0_sits
  simp only [e_seatOf hn h, bnd_some]
  by_cases hv : 0 ≤ v.toInt ∧ v.toInt < n
  · by_cases h0 : zg s 6 v.toNatClampNeg = -1 <;> simp [h0, hv]
  · simp [hv]
theorem e_at (v : Int32) (s : zM) : f_X0_at v s = some (if 0 ≤ v.toInt ∧ v.toInt < 40 then zg s 9 v.toNatClampNeg else -1, s) := by
  unfold f_X0_at
  simp only [e_isSeat, bnd_some, b01]
  split
  · rename_i hv; rw [if_pos (zin_i ⟨hv.1, by omega⟩)]
  · rfl
-- the model's
theorem e_in (v lo hi : Int32) (s : zM) : f_X12_in v lo hi s = some (if lo.toInt ≤ v.toInt ∧ v.toInt ≤ hi.toInt then 1 else 0, s) := by
  unfold f_X12_in
  simp only [i_lt]
  repeat' split
  all_goals first | rfl | (exfalso; omega)
theorem e_isSeatM (v : Int32) (s : zM) : f_X12_isSeat v s = some (if 0 ≤ v.toInt ∧ v.toInt < 40 then 1 else 0, s) := by
  unfold f_X12_isSeat
  simp only [i_lt]
  have : (40 : Int32).toInt = 40 := rfl
  have : (0 : Int32).toInt = 0 := rfl
  repeat' split
  all_goals first | rfl | (exfalso; omega)
theorem e_isGuest {n : Nat} {s : zM} (hn : n ≤ 16) (h : zg s 69 0 = nI n) (v : Int32) : f_X12_isGuest v s = some (if 0 ≤ v.toInt ∧ v.toInt < n then 1 else 0, s) := by
  unfold f_X12_isGuest
  simp only [h, i_lt, nI_toInt (show n < 2 ^ 31 by omega)]
  have : (0 : Int32).toInt = 0 := rfl
  repeat' split
  all_goals first | rfl | (exfalso; omega)
