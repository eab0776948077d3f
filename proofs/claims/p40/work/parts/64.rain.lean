/-! ===== whose seat is dry ===== -/
def wetB (α : zM) (s mi k : Nat) : Bool := decide (¬ nI mi < zg α 34 k ∧ ¬ nI (s / 2) < zg α 35 k ∧ ¬ zg α 36 k < nI (s / 2))
def dryL (α : zM) (s mi : Nat) : Nat → Nat → Bool
  | 0, _ => true
  | m + 1, k => if wetB α s mi k = true then false else dryL α s mi m (k + 1)
theorem v_half : ∀ s, s < 40 → nI s >>> ((1 : Int32) &&& 31) = nI (s / 2) ∧ nI s / (2 : Int32) = nI (s / 2) := by decide +kernel
theorem e_isDry {F r p s mi : Nat} {σ : zM} (hF : 22 ≤ F) (hN : IN r p σ) (hs : s < 40) : f_X5_isDry F (nI s) (nI mi) σ = some (if dryL σ s mi r 0 = true then 1 else 0, σ) := by
  obtain ⟨n1, n2, n3, n4, n5, n6⟩ := hN
  have key : ∀ (m fu k : Nat), k + m = r → m < fu → f_X5_isDry_L7 F (fun s5 => some ((1 : Int32), s5)) (nI mi) (nI (s / 2)) fu (nI k) σ = some (if dryL σ s mi m k = true then 1 else 0, σ) := by
    intro m
    induction m with
    | zero =>
      intro fu k hk hfu
      obtain ⟨fu, rfl⟩ : ∃ f', fu = f' + 1 := ⟨fu - 1, by omega⟩
      rw [f_X5_isDry_L7, n3, if_neg (by rw [nI_ltI (by omega) (by omega)]; omega)]; rfl
    | succ m ih =>
      intro fu k hk hfu
      obtain ⟨fu, rfl⟩ : ∃ f', fu = f' + 1 := ⟨fu - 1, by omega⟩
      have z : zin (nI k) 10 = true := zin_n (by omega) (by omega)
      have hi := ih fu (k + 1) (by omega) (by omega)
      rw [f_X5_isDry_L7, n3, if_pos (by rw [nI_ltI (by omega) (by omega)]; omega), if_pos (by rw [show (10 : Int32) = nI 10 from rfl, nI_ltI (by omega) (by omega)]; omega), dryL]
      simp only [if_pos z, lt_eq, nI_1, nI_clamp (show k < 2 ^ 31 by omega), hi]
      by_cases q1 : nI mi < zg σ 34 k
      · rw [if_pos q1, show wetB σ s mi k = false from decide_eq_false (fun q => q.1 q1)]; rfl
      · rw [if_neg q1]
        by_cases q2 : nI (s / 2) < zg σ 35 k
        · rw [if_pos q2, show wetB σ s mi k = false from decide_eq_false (fun q => q.2.1 q2)]; rfl
        · rw [if_neg q2]
          by_cases q3 : zg σ 36 k < nI (s / 2)
          · rw [if_pos q3, show wetB σ s mi k = false from decide_eq_false (fun q => q.2.2 q3)]; rfl
          · rw [if_neg q3, show wetB σ s mi k = true from decide_eq_true ⟨q1, q2, q3⟩]
            rfl
  unfold f_X5_isDry
  rw [lt_eq, (v_half s hs).1]
  exact key r F 0 (by omega) (by omega)
theorem e_isWet {F n r p g s mi : Nat} {α σ : zM} (hF : 22 ≤ F) (hG : IG n α) (hB : BG n α σ) (hN : IN r p α) (bN : BN r p α σ) (hg : g < n) (hs : s < 40) (h6 : zg α 6 g = nI s) : f_X12_isWet F (nI g) (nI mi) σ = some (if dryL α s mi r 0 = true then 0 else 1, σ) := by
  have hn := hG.1
  have n1 := hN.1
  have zg16 : zin (nI g) 16 = true := zin_n (by omega) (by omega)
  have key : ∀ (m fu k : Nat), k + m = r → m < fu → f_X12_isWet_L2 F (fun s5 => some ((0 : Int32), s5)) (nI g) (nI mi) fu (nI k) σ = some (if dryL α s mi m k = true then 0 else 1, σ) := by
    intro m
    induction m with
    | zero =>
      intro fu k hk hfu
      obtain ⟨fu, rfl⟩ : ∃ f', fu = f' + 1 := ⟨fu - 1, by omega⟩
      rw [f_X12_isWet_L2, bN.1, if_neg (by rw [nI_ltI (by omega) (by omega)]; omega)]; rfl
    | succ m ih =>
      intro fu k hk hfu
      obtain ⟨fu, rfl⟩ : ∃ f', fu = f' + 1 := ⟨fu - 1, by omega⟩
      have z : zin (nI k) 10 = true := zin_n (by omega) (by omega)
      have hi := ih fu (k + 1) (by omega) (by omega)
      obtain ⟨b1, b2, b3⟩ := bN.2.2.1 k (by omega)
      rw [f_X12_isWet_L2, bN.1, if_pos (by rw [nI_ltI (by omega) (by omega)]; omega), dryL]
      simp only [if_pos z, if_pos zg16, lt_eq, nI_1, nI_clamp (show k < 2 ^ 31 by omega), nI_clamp (show g < 2 ^ 31 by omega), b1, b2, b3, (hB.s71 hG hg hs).mpr h6, (v_half s hs).2, e_in, bnd_some, b01, hi]
      by_cases q1 : nI mi < zg α 34 k
      · rw [if_pos q1, show wetB α s mi k = false from decide_eq_false (fun q => q.1 q1)]; rfl
      · rw [if_neg q1]
        by_cases q2 : nI (s / 2) < zg α 35 k
        · rw [if_neg (by rw [i_lt] at q2; omega), show wetB α s mi k = false from decide_eq_false (fun q => q.2.1 q2)]; rfl
        · by_cases q3 : zg α 36 k < nI (s / 2)
          · rw [if_neg (by rw [i_lt] at q3; omega), show wetB α s mi k = false from decide_eq_false (fun q => q.2.2 q3)]; rfl
          · rw [if_pos (by rw [i_lt] at q2 q3; omega), show wetB α s mi k = true from decide_eq_true ⟨q1, q2, q3⟩]
            rfl
  unfold f_X12_isWet
  exact key r F 0 (by omega) (by omega)
