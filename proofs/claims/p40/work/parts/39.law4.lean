/-! ===== the same, by the model ===== -/
theorem BW.si {m : zMk} {p c : Nat} {α σ σ' : zM} (h : BW p c α σ) (hf : Fx m σ σ') (hd : dis m ([81, 82, 83, 84, 85], [(69, 16)]) = true) : BW p c α σ' := by
  have r81 : ∀ j, zg σ' 81 j = zg σ 81 j := fun j => hf 81 j (dis_row hd (by simp) j)
  have r82 : ∀ j, zg σ' 82 j = zg σ 82 j := fun j => hf 82 j (dis_row hd (by simp) j)
  have r83 : ∀ j, zg σ' 83 j = zg σ 83 j := fun j => hf 83 j (dis_row hd (by simp) j)
  have r84 : ∀ j, zg σ' 84 j = zg σ 84 j := fun j => hf 84 j (dis_row hd (by simp) j)
  have r85 : ∀ j, zg σ' 85 j = zg σ 85 j := fun j => hf 85 j (dis_row hd (by simp) j)
  have f16 : zg σ' 69 16 = zg σ 69 16 := hf 69 16 (dis_fld hd (by simp))
  unfold BW at h ⊢
  simpa only [r81, r82, r83, r84, r85, f16] using h
theorem v_base {m : Nat} (h : m ≤ 200) : (220 : Int32) * (nI m / (220 : Int32)) = nI 0 := by
  rw [show (220 : Int32) = nI 220 from rfl, pk_div (by omega) (by omega) (by omega), show m / 220 = 0 by omega]; rfl
theorem e_cndB {F p q c k : Nat} {α σ : zM} {le : Nat → Int32} (hF : 300 ≤ F) (hW : IW p q c α) (hB : BW p c α σ) (hk : k < c) (hle : ∀ j, j < 10 → zg σ 87 j = le j) : ∃ σ', f_X12_comesTo F (zg σ 84 k) (zg σ 85 k) σ = some (cnd α p le k, σ') ∧ Fx ([86], []) σ σ' := by
  obtain ⟨-, -, -, -, -, hcl⟩ := hW
  obtain ⟨a, m, e, ham, hme, he, h2, h3, h4, h6, ⟨τ, hτ, hT⟩, -⟩ := hcl k hk
  obtain ⟨-, -, b84, b85, b81⟩ := hB.2 k hk
  obtain ⟨σ', g1, g2⟩ := e_comesToL (F := F) (b := true) (a0 := m) he hT (fun j hj => h6 j hj) (e - m) F 300 m [] σ (by omega) (by omega) (by omega) (Nat.le_refl _) (by rw [hτ]; trivial) trivial (fun j v hj hv hp => b81 e he h4 j v hj hv hp) hle
  have hc : cnd α p le k = ev (zg α (p + 5)) (zg α (p + 6)) le e 300 m [] := by
    unfold cnd; rw [h3, h4, nI_clamp (by omega), nI_clamp (by omega)]
  refine ⟨σ', ?_, g2⟩
  rw [b84, b85, h3, h4, hc, ← g1, f_X12_comesTo, lt_eq, v_base (by omega)]; rfl
theorem e_amvB {F p q c k : Nat} {α σ : zM} {le : Nat → Int32} (hF : 300 ≤ F) (hW : IW p q c α) (hB : BW p c α σ) (hk : k < c) (hkind : ¬ zg α (p + 1) k = 112) (hle : ∀ j, j < 10 → zg σ 87 j = le j) : ∃ σ', f_X12_comesTo F (zg σ 83 k) (zg σ 84 k) σ = some (amv α p le k, σ') ∧ Fx ([86], []) σ σ' := by
  obtain ⟨-, -, -, -, -, hcl⟩ := hW
  obtain ⟨a, m, e, ham, hme, he, h2, h3, h4, h6, -, hE⟩ := hcl k hk
  obtain ⟨τ, hτ, hT⟩ := hE.resolve_left hkind
  obtain ⟨-, b83, b84, b85, b81⟩ := hB.2 k hk
  obtain ⟨σ', g1, g2⟩ := e_comesToL (F := F) (b := false) (a0 := a) (show m ≤ 200 by omega) hT (fun j hj => h6 j (by omega)) (m - a) F 300 a [] σ (by omega) (by omega) (by omega) (Nat.le_refl _) (by rw [hτ]; trivial) trivial (fun j v hj hv hp => b81 e he h4 j v (by omega) hv hp) hle
  have hc : amv α p le k = ev (zg α (p + 5)) (zg α (p + 6)) le m 300 a [] := by
    unfold amv; rw [h2, h3, nI_clamp (by omega), nI_clamp (by omega)]
  refine ⟨σ', ?_, g2⟩
  rw [b83, b84, h2, h3, hc, ← g1, f_X12_comesTo, lt_eq, v_base (by omega)]; rfl
theorem le_keptB {σ σ' : zM} {le : Nat → Int32} (h : Fx ([86], []) σ σ') (hle : ∀ j, j < 10 → zg σ 87 j = le j) : ∀ j, j < 10 → zg σ' 87 j = le j := fun j hj => (h 87 j rfl).trans (hle j hj)
theorem cnd_01 {p q c k : Nat} {α : zM} (hW : IW p q c α) (hk : k < c) (le : Nat → Int32) : cnd α p le k = 0 ∨ cnd α p le k = 1 := by
  let β : zM := (fun a b => if a = 13 then le b else α.1 a b, α.2)
  obtain ⟨σ', -, -, h⟩ := e_cndA (F := 300) (σ := β) (le := le) (Nat.le_refl _) hW hk (fun a b hab => by
    have : ¬ a = 13 := by rintro rfl; cases hab
    simp [zg, β, this]) (fun j _ => by simp [zg, β])
  exact h
theorem e_letsL {F p q c : Nat} {α σ : zM} {le : Nat → Int32} (hF : 300 ≤ F) (hW : IW p q c α) (hB : BW p c α σ) (hle : ∀ j, j < 10 → zg σ 87 j = le j) : ∃ σ', f_X12_lets_L11 F (fun y7 s6 => if y7 = 0 then some ((1 : Int32), s6) else some ((0 : Int32), s6)) F (0 : Int32) (0 : Int32) σ = some (if pmt α p le c 0 false = true then 1 else 0, σ') ∧ Fx ([86], []) σ σ' := by
  have hc14 := hW.2.2.2.1
  have key : ∀ (m f k : Nat) (any : Bool) (σ : zM), k + m = c → m < f → BW p c α σ → (∀ j, j < 10 → zg σ 87 j = le j) → ∃ σ', f_X12_lets_L11 F (fun y7 s6 => if y7 = 0 then some ((1 : Int32), s6) else some ((0 : Int32), s6)) f (if any = true then 1 else 0) (nI k) σ = some (if pmt α p le m k any = true then 1 else 0, σ') ∧ Fx ([86], []) σ σ' := by
    intro m
    induction m with
    | zero =>
      intro f k any σ hk hf hB hle
      obtain ⟨f, rfl⟩ : ∃ f', f = f' + 1 := ⟨f - 1, by omega⟩
      rw [f_X12_lets_L11, hB.1, if_neg (by rw [nI_ltI (by omega) (by omega)]; omega)]
      refine ⟨σ, ?_, Fx.rf⟩
      cases any <;> rfl
    | succ m ih =>
      intro f k any σ hk hf hB hle
      obtain ⟨f, rfl⟩ : ∃ f', f = f' + 1 := ⟨f - 1, by omega⟩
      have z : zin (nI k) 14 = true := zin_n (by omega) (by omega)
      have cl := nI_clamp (show k < 2 ^ 31 by omega)
      have hbk := hB.2 k (by omega)
      rw [f_X12_lets_L11, hB.1, if_pos (by rw [nI_ltI (by omega) (by omega)]; omega), if_pos z]
      simp only [if_pos z, cl]
      rw [hbk.1, pmt]
      by_cases h112 : zg α (p + 1) k = 112
      · obtain ⟨σ1, g1, g2⟩ := e_cndB hF hW hB (show k < c by omega) hle
        rw [if_pos h112, if_pos h112, g1, bnd_some]
        rcases cnd_01 hW (show k < c by omega) le with h0 | h0
        · rw [if_neg (by rw [h0]; decide), if_pos h0, lt_eq, nI_1]
          obtain ⟨σ2, e1, e2⟩ := ih f (k + 1) true σ1 (by omega) (by omega) (hB.si g2 rfl) (le_keptB g2 hle)
          exact ⟨σ2, e1, g2.tr e2⟩
        · have hne : ¬ cnd α p le k = 0 := by rw [h0]; decide
          rw [if_pos h0, if_neg hne]
          exact ⟨σ1, rfl, g2⟩
      · rw [if_neg h112, if_neg h112, lt_eq, nI_1]
        exact ih f (k + 1) any σ (by omega) (by omega) hB hle
  exact key c F 0 false σ (by omega) (by omega) hB hle
theorem e_byLaw {F p q c : Nat} {α σ : zM} {le : Nat → Int32} {kind lo hi : Int32} (hkd : ¬ kind = 112) (hF : 300 ≤ F) (hW : IW p q c α) (hB : BW p c α σ) (hle : ∀ j, j < 10 → zg σ 87 j = le j) : ∃ σ', f_X12_byLaw F kind lo hi σ = some (amt α p le kind lo hi c 0, σ') ∧ Fx ([86], []) σ σ' := by
  have hc14 := hW.2.2.2.1
  have key : ∀ (m f k : Nat) (σ : zM), k + m = c → m < f → BW p c α σ → (∀ j, j < 10 → zg σ 87 j = le j) → ∃ σ', f_X12_byLaw_L3 F (fun s7 => some ((0 : Int32), s7)) kind lo hi f (nI k) σ = some (amt α p le kind lo hi m k, σ') ∧ Fx ([86], []) σ σ' := by
    intro m
    induction m with
    | zero =>
      intro f k σ hk hf hB hle
      obtain ⟨f, rfl⟩ : ∃ f', f = f' + 1 := ⟨f - 1, by omega⟩
      rw [f_X12_byLaw_L3, hB.1, if_neg (by rw [nI_ltI (by omega) (by omega)]; omega)]
      exact ⟨σ, rfl, Fx.rf⟩
    | succ m ih =>
      intro f k σ hk hf hB hle
      obtain ⟨f, rfl⟩ : ∃ f', f = f' + 1 := ⟨f - 1, by omega⟩
      have z : zin (nI k) 14 = true := zin_n (by omega) (by omega)
      have cl := nI_clamp (show k < 2 ^ 31 by omega)
      have hbk := hB.2 k (by omega)
      rw [f_X12_byLaw_L3, hB.1, if_pos (by rw [nI_ltI (by omega) (by omega)]; omega), if_pos z]
      simp only [if_pos z, cl]
      rw [hbk.1, amt]
      by_cases hkk : zg α (p + 1) k = kind
      · obtain ⟨σ1, g1, g2⟩ := e_cndB hF hW hB (show k < c by omega) hle
        rw [if_pos hkk, if_pos hkk, g1, bnd_some]
        rcases cnd_01 hW (show k < c by omega) le with h0 | h0
        · rw [if_neg (by rw [h0]; decide), if_pos h0, lt_eq, nI_1]
          obtain ⟨σ2, e1, e2⟩ := ih f (k + 1) σ1 (by omega) (by omega) (hB.si g2 rfl) (le_keptB g2 hle)
          exact ⟨σ2, e1, g2.tr e2⟩
        · obtain ⟨σ2, e1, e2⟩ := e_amvB hF hW (hB.si g2 rfl) (show k < c by omega) (by rw [hkk]; exact hkd) (le_keptB g2 hle)
          rw [if_pos h0, if_neg (show ¬ cnd α p le k = 0 by rw [h0]; decide), e1, bnd_some]
          refine ⟨σ2, ?_, g2.tr e2⟩
          unfold clI
          split
          · rfl
          · split <;> rfl
      · rw [if_neg hkk, if_neg hkk, lt_eq, nI_1]
        exact ih f (k + 1) σ (by omega) (by omega) hB hle
  exact key c F 0 σ (by omega) (by omega) hB hle
