/-! ===== the pure part: numbers, memory, binds ===== -/
theorem bnd_some {α β : Type} (r : α) (s : zM) (f : α → zM → Option β) : bnd (some (r, s)) f = f r s := Eq.trans (Eq.refl _) (Eq.refl _)
theorem bnd_none {α β : Type} (f : α → zM → Option β) : bnd (none : Option (α × zM)) f = none := Eq.trans (Eq.refl _) (Eq.refl _)
theorem lt_eq {α β : Type} (v : α) (f : α → β) : lt v f = f v := Eq.trans (Eq.refl _) (Eq.refl _)
theorem zg_ne {σ : zM} {k j k' j' : Nat} {v : Int32} (h : k' ≠ k) : zg (zs σ k j v) k' j' = zg σ k' j' := by simp [zg, zs, h]
theorem zg_nj {σ : zM} {k j j' : Nat} {v : Int32} (h : j' ≠ j) : zg (zs σ k j v) k j' = zg σ k j' := by simp [zg, zs, h]
theorem zg_eq {σ : zM} {k j : Nat} {v : Int32} : zg (zs σ k j v) k j = v := by simp [zg, zs]
theorem zg_row {σ : zM} {k j j' : Nat} {v : Int32} : zg (zs σ k j v) k j' = if j' = j then v else zg σ k j' := by simp [zg, zs]
theorem zg_sl {σ : zM} {k j x : Nat} {v : Int64} : zg (zsl σ x v) k j = zg σ k j := rfl
theorem zgl_s {σ : zM} {k j x : Nat} {v : Int32} : zgl (zs σ k j v) x = zgl σ x := rfl
theorem zgl_eq {σ : zM} {x : Nat} {v : Int64} : zgl (zsl σ x v) x = v := by simp [zgl, zsl]
theorem zgl_ne {σ : zM} {x y : Nat} {v : Int64} (h : y ≠ x) : zgl (zsl σ x v) y = zgl σ y := by simp [zgl, zsl, h]
theorem zin_n {n N : Nat} (hN : N < 2 ^ 31) (h : n < N) : zin (nI n) N = true := by
  simp only [zin, nI_toInt (show n < 2 ^ 31 by omega), decide_eq_true_eq]; omega
theorem zin_i {x : Int32} {N : Nat} (h : 0 ≤ x.toInt ∧ x.toInt < N) : zin x N = true := by simp [zin, h.1, h.2]
theorem nI_lt_iff {a b : Nat} (ha : a < 2 ^ 31) (hb : b < 2 ^ 31) : nI a < nI b ↔ a < b := nI_ltI ha hb
theorem nI_lit_lt {a : Nat} (k : Nat) (ha : a < 2 ^ 31) (hk : k < 2 ^ 31) : (nI a < (OfNat.ofNat k : Int32)) ↔ a < k := nI_ltI ha hk
/-- a number is one of the first n, or none of them -/
theorem ixc (x : Int32) (n : Nat) (hn : n < 2 ^ 31) : (∃ j : Nat, j < n ∧ x = nI j) ∨ (¬ (0 ≤ x.toInt ∧ x.toInt < n)) := by
  by_cases h : 0 ≤ x.toInt ∧ x.toInt < n
  · refine Or.inl ⟨x.toInt.toNat, by omega, ?_⟩
    apply Int32.toInt_inj.mp
    rw [nI_toInt (by omega)]; omega
  · exact Or.inr h
theorem t_1 (x : Int32) : (x + 1 : Int32).toInt = (x + 1 : Int32).toInt := rfl
theorem zz_a (v : Int32) (s : zM) (n : Nat) (hn : n ≤ 16) (h : zg s 3 8 = nI n) : f_X0_knows v s = some (if 0 ≤ v.toInt ∧ v.toInt < n then 1 else 0, s) := by
  unfold f_X0_knows
  simp only [h, Int32.lt_iff_toInt_lt, nI_toInt (show n < 2 ^ 31 by omega)]
  have h16 : (16 : Int32).toInt = 16 := rfl
  have h0 : (0 : Int32).toInt = 0 := rfl
  rw [h16, h0]
  repeat' split
  all_goals first | rfl | (exfalso; omega)
