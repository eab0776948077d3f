/-! ===== the letters; who may pass, what harms, who is seen, what a seat is worth ===== -/
def lett (α : zM) (f s g t : Nat) (j : Nat) : Int32 := if j = 0 then nI f else if j = 1 then nI g else if j = 2 then zg α 4 f else if j = 3 then zg α 4 g else if j = 4 then nI s else if j = 5 then nI t else if j = 6 then zg α 8 (16 * f + g) else if j = 7 then zg α 8 (16 * g + f) else if j = 8 then nI (dst s t) else if s % 2 = t % 2 then 0 else 1
def lett1 (α : zM) (f s : Nat) (j : Nat) : Int32 := if j = 0 then nI f else if j = 2 then zg α 4 f else if j = 4 then nI s else 0
theorem n10 {j : Nat} (h : j < 10) : j = 0 ∨ j = 1 ∨ j = 2 ∨ j = 3 ∨ j = 4 ∨ j = 5 ∨ j = 6 ∨ j = 7 ∨ j = 8 ∨ j = 9 := by omega
theorem cl_0 : (0 : Int32).toNatClampNeg = 0 := rfl
theorem cl_1 : (1 : Int32).toNatClampNeg = 1 := rfl
theorem cl_2 : (2 : Int32).toNatClampNeg = 2 := rfl
theorem cl_3 : (3 : Int32).toNatClampNeg = 3 := rfl
theorem cl_4 : (4 : Int32).toNatClampNeg = 4 := rfl
theorem cl_5 : (5 : Int32).toNatClampNeg = 5 := rfl
theorem cl_6 : (6 : Int32).toNatClampNeg = 6 := rfl
theorem cl_7 : (7 : Int32).toNatClampNeg = 7 := rfl
theorem cl_8 : (8 : Int32).toNatClampNeg = 8 := rfl
theorem cl_9 : (9 : Int32).toNatClampNeg = 9 := rfl
theorem e_landOf_n {n g : Nat} {s : zM} (hn : n ≤ 16) (h : zg s 3 8 = nI n) (hg : g < n) : f_X0_landOf (nI g) s = some (zg s 4 g, s) := by
  rw [e_landOf hn h, if_pos (by rw [nI_toInt (by omega)]; omega), nI_clamp (by omega)]
theorem e_seatOf_n {n g : Nat} {s : zM} (hn : n ≤ 16) (h : zg s 3 8 = nI n) (hg : g < n) : f_X0_seatOf (nI g) s = some (zg s 6 g, s) := by
  rw [e_seatOf hn h, if_pos (by rw [nI_toInt (by omega)]; omega), nI_clamp (by omega)]
theorem e_likingOf_n {n a b : Nat} {s : zM} (hn : n ≤ 16) (h : zg s 3 8 = nI n) (ha : a < n) (hb : b < n) : f_X0_likingOf (nI a) (nI b) s = some (zg s 8 (16 * a + b), s) := by
  have e : nI a * (16 : Int32) + nI b = nI (16 * a + b) := by
    rw [show (16 : Int32) = nI 16 from rfl, pk_mul, nI_add, Nat.mul_comm]
  unfold f_X0_likingOf
  rw [e_knows_n hn h ha, bnd_some, if_neg b1n, e_knows_n hn h hb, bnd_some, if_neg b1n, e, if_pos (zin_n (by omega) (by omega)), nI_clamp (by omega)]
theorem v_odd : ∀ s, s < 40 → ∀ t, t < 40 → ((nI s ^^^ nI t) &&& (1 : Int32)) = (if s % 2 = t % 2 then 0 else 1) := by decide +kernel
theorem e_spell {n f g s t : Nat} {σ : zM} (hn : n ≤ 16) (h : zg σ 3 8 = nI n) (hf : f < n) (hg : g < n) (hs : s < 40) (ht : t < 40) : ∃ σ', f_X1_spell (nI f) (nI s) (nI g) (nI t) σ = some ((), σ') ∧ Fx ([13], []) σ σ' ∧ ∀ j, j < 10 → zg σ' 13 j = lett σ f s g t j := by
  have hz : ∀ (τ : zM) (j : Nat) (v : Int32), zg τ 3 8 = nI n → zg (zs τ 13 j v) 3 8 = nI n := fun τ j v q => by rw [zg_ne (by decide)]; exact q
  unfold f_X1_spell
  simp only [cl_0, cl_1, cl_2, cl_3, cl_4, cl_5, cl_6, cl_7, cl_8, cl_9, v_odd s hs t ht, e_apart hs ht, bnd_some, lt_eq]
  rw [if_pos (by decide), if_pos (by decide), e_landOf_n hn (hz _ _ _ (hz _ _ _ h)) hf, bnd_some, if_pos (by decide), e_landOf_n hn (hz _ _ _ (hz _ _ _ (hz _ _ _ h))) hg, bnd_some, if_pos (by decide), if_pos (by decide), if_pos (by decide), e_likingOf_n hn (hz _ _ _ (hz _ _ _ (hz _ _ _ (hz _ _ _ (hz _ _ _ (hz _ _ _ h)))))) hf hg, bnd_some, if_pos (by decide), e_likingOf_n hn (hz _ _ _ (hz _ _ _ (hz _ _ _ (hz _ _ _ (hz _ _ _ (hz _ _ _ (hz _ _ _ h))))))) hg hf, bnd_some, if_pos (by decide), if_pos (by decide)]
  refine ⟨_, rfl, ?_, fun j hj => ?_⟩
  · repeat first | exact Fx.rf | refine Fx.zs ?_ rfl
  · rcases n10 hj with rfl | rfl | rfl | rfl | rfl | rfl | rfl | rfl | rfl | rfl <;> simp [zg_zs, lett]
theorem e_spellAlone {F n f s : Nat} {σ : zM} (hF : 11 ≤ F) (hn : n ≤ 16) (h : zg σ 3 8 = nI n) (hf : f < n) : ∃ σ', f_X1_spellAlone F (nI f) (nI s) σ = some ((), σ') ∧ Fx ([13], []) σ σ' ∧ ∀ j, j < 10 → zg σ' 13 j = lett1 σ f s j := by
  have key : ∀ (m fu k : Nat) (τ : zM), k + m = 10 → m < fu → Fx ([13], []) σ τ → (∀ j, j < k → zg τ 13 j = 0) → ∃ σ', f_X1_spellAlone_L2 F (fun s3 => if zin (0 : Int32) 10 = true then lt (zs s3 13 ((0 : Int32)).toNatClampNeg (nI f)) (fun s4 => bnd (f_X0_landOf (nI f) s4) (fun r6 s5 => if zin (2 : Int32) 10 = true then lt (zs s5 13 ((2 : Int32)).toNatClampNeg r6) (fun s7 => if zin (4 : Int32) 10 = true then lt (zs s7 13 ((4 : Int32)).toNatClampNeg (nI s)) (fun s8 => some ((), s8)) else none) else none)) else none) (nI f) (nI s) fu (nI k) τ = some ((), σ') ∧ Fx ([13], []) σ σ' ∧ ∀ j, j < 10 → zg σ' 13 j = lett1 σ f s j := by
    intro m
    induction m with
    | zero =>
      intro fu k τ hk hfu hτ h0
      obtain ⟨fu, rfl⟩ : ∃ f', fu = f' + 1 := ⟨fu - 1, by omega⟩
      have hk10 : k = 10 := by omega
      subst hk10
      have h3 : zg (zs τ 13 0 (nI f)) 3 8 = nI n := by rw [zg_ne (by decide), hτ 3 8 rfl]; exact h
      have h4 : zg τ 4 f = zg σ 4 f := hτ 4 f rfl
      rw [f_X1_spellAlone_L2, if_neg (by decide), if_pos (by decide), lt_eq, cl_0, e_landOf_n hn h3 hf, bnd_some, if_pos (by decide), lt_eq, cl_2, if_pos (by decide), lt_eq, cl_4]
      refine ⟨_, rfl, ((hτ.zs rfl).zs rfl).zs rfl, fun j hj => ?_⟩
      rcases n10 hj with rfl | rfl | rfl | rfl | rfl | rfl | rfl | rfl | rfl | rfl <;> simp [zg_zs, lett1, h4, h0]
    | succ m ih =>
      intro fu k τ hk hfu hτ h0
      obtain ⟨fu, rfl⟩ : ∃ f', fu = f' + 1 := ⟨fu - 1, by omega⟩
      rw [f_X1_spellAlone_L2, if_pos (by rw [show (10 : Int32) = nI 10 from rfl, nI_ltI (by omega) (by omega)]; omega), if_pos (zin_n (by omega) (by omega)), lt_eq, lt_eq, nI_clamp (by omega), nI_1]
      refine ih fu (k + 1) (zs τ 13 k 0) (by omega) (by omega) (hτ.zs rfl) (fun j hj => ?_)
      rw [zg_row]
      split
      · rfl
      · exact h0 j (by omega)
  exact key 10 F 0 σ (by omega) (by omega) Fx.rf (fun _ h => absurd h (by omega))
/-! by the model -/
theorem v_sizeM : ∀ s, s < 40 → ∀ t, t < 40 → (if (nI s / (2 : Int32) - nI t / (2 : Int32)) < 0 then -(nI s / (2 : Int32) - nI t / (2 : Int32)) else (nI s / (2 : Int32) - nI t / (2 : Int32))) = nI (dst s t) := by decide +kernel
theorem v_oddM : ∀ s, s < 40 → ∀ t, t < 40 → ((nI s - nI s / (2 : Int32) * (2 : Int32)) = (nI t - nI t / (2 : Int32) * (2 : Int32)) ↔ s % 2 = t % 2) := by decide +kernel
theorem e_size (v : Int32) (s : zM) : f_X12_size v s = some (if v < 0 then -v else v, s) := by
  unfold f_X12_size; split <;> rfl
theorem e_feelsOne {F n f : Nat} {x : Int32} {σ : zM} (hF : 11 ≤ F) (hn : n ≤ 16) (hf : f < n) : ∃ σ', f_X12_feelsOne F (nI f) x σ = some ((), σ') ∧ Fx ([87], []) σ σ' ∧ ∀ j, j < 10 → zg σ' 87 j = if j = 0 then nI f else if j = 2 then zg σ 70 f else if j = 4 then x else 0 := by
  have zf : zin (nI f) 16 = true := zin_n (by omega) (by omega)
  have key : ∀ (m fu k : Nat) (τ : zM), k + m = 10 → m < fu → Fx ([87], []) σ τ → (∀ j, j < k → zg τ 87 j = 0) → ∃ σ', f_X12_feelsOne_L2 F (fun s3 => if zin (0 : Int32) 10 = true then lt (zs s3 87 ((0 : Int32)).toNatClampNeg (nI f)) (fun s4 => if zin (nI f) 16 = true then if zin (2 : Int32) 10 = true then lt (zs s4 87 ((2 : Int32)).toNatClampNeg (zg s4 70 (nI f).toNatClampNeg)) (fun s5 => if zin (4 : Int32) 10 = true then lt (zs s5 87 ((4 : Int32)).toNatClampNeg x) (fun s6 => some ((), s6)) else none) else none else none) else none) (nI f) x fu (nI k) τ = some ((), σ') ∧ Fx ([87], []) σ σ' ∧ ∀ j, j < 10 → zg σ' 87 j = if j = 0 then nI f else if j = 2 then zg σ 70 f else if j = 4 then x else 0 := by
    intro m
    induction m with
    | zero =>
      intro fu k τ hk hfu hτ h0
      obtain ⟨fu, rfl⟩ : ∃ f', fu = f' + 1 := ⟨fu - 1, by omega⟩
      have hk10 : k = 10 := by omega
      subst hk10
      have h4 : zg τ 70 f = zg σ 70 f := hτ 70 f rfl
      rw [f_X12_feelsOne_L2, if_neg (by decide), if_pos (by decide), lt_eq, cl_0, if_pos zf, if_pos (by decide), lt_eq, cl_2, nI_clamp (by omega), if_pos (by decide), lt_eq, cl_4]
      refine ⟨_, rfl, ((hτ.zs rfl).zs rfl).zs rfl, fun j hj => ?_⟩
      rcases n10 hj with rfl | rfl | rfl | rfl | rfl | rfl | rfl | rfl | rfl | rfl <;> simp [zg_zs, h4, h0]
    | succ m ih =>
      intro fu k τ hk hfu hτ h0
      obtain ⟨fu, rfl⟩ : ∃ f', fu = f' + 1 := ⟨fu - 1, by omega⟩
      rw [f_X12_feelsOne_L2, if_pos (by rw [show (10 : Int32) = nI 10 from rfl, nI_ltI (by omega) (by omega)]; omega), if_pos (zin_n (by omega) (by omega)), lt_eq, lt_eq, nI_clamp (show k < 2 ^ 31 by omega), nI_1]
      refine ih fu (k + 1) (zs τ 87 k 0) (by omega) (by omega) (hτ.zs rfl) (fun j hj => ?_)
      rw [zg_row]
      split
      · rfl
      · exact h0 j (by omega)
  exact key 10 F 0 σ (by omega) (by omega) Fx.rf (fun _ h => absurd h (by omega))
theorem s_16n {a b : Nat} : (16 : Int32) * nI a + nI b = nI (16 * a + b) := by
  rw [show (16 : Int32) = nI 16 from rfl, pk_mul, nI_add]
theorem e_feels {F n f g s t : Nat} {α σ : zM} (hF : 11 ≤ F) (hG : IG n α) (hB : BG n α σ) (hL : BL α σ) (hf : f < n) (hg : g < n) (hs : s < 40) (ht : t < 40) (h6 : zg α 6 f = nI s) (h7 : zg α 6 g = nI t) : ∃ σ', f_X12_feels F (nI f) (nI g) σ = some ((), σ') ∧ Fx ([87], []) σ σ' ∧ ∀ j, j < 10 → zg σ' 87 j = lett α f s g t j := by
  have hn := hG.1
  have zf : zin (nI f) 16 = true := zin_n (by omega) (by omega)
  have zG : zin (nI g) 16 = true := zin_n (by omega) (by omega)
  have zfg : zin (nI (16 * f + g)) 256 = true := zin_n (by omega) (by omega)
  have zgf : zin (nI (16 * g + f)) 256 = true := zin_n (by omega) (by omega)
  have cf := nI_clamp (show f < 2 ^ 31 by omega)
  have cg := nI_clamp (show g < 2 ^ 31 by omega)
  have cfg := nI_clamp (show 16 * f + g < 2 ^ 31 by omega)
  have cgf := nI_clamp (show 16 * g + f < 2 ^ 31 by omega)
  have q71f : zg σ 71 f = nI s := (hB.s71 hG hf hs).mpr h6
  have q71g : zg σ 71 g = nI t := (hB.s71 hG hg ht).mpr h7
  have q70f := (hB.2 f hf).1
  have q70g := (hB.2 g hg).1
  have q72 := hL (16 * f + g) (by omega)
  have q72' := hL (16 * g + f) (by omega)
  obtain ⟨σ1, e1, e2, e3⟩ := e_feelsOne (F := F) (x := nI s) (σ := σ) hF hn hf
  have r70 : ∀ j, zg σ1 70 j = zg σ 70 j := fun j => e2 70 j rfl
  have r71 : ∀ j, zg σ1 71 j = zg σ 71 j := fun j => e2 71 j rfl
  have r72 : ∀ j, zg σ1 72 j = zg σ 72 j := fun j => e2 72 j rfl
  unfold f_X12_feels
  rw [if_pos zf, cf, q71f, e1, bnd_some, if_pos (by decide), lt_eq, cl_1, if_pos zG, if_pos (by decide), lt_eq, cl_3, cg, if_pos zG, if_pos (by decide), lt_eq, cl_5, s_16n, if_pos zfg, if_pos (by decide), lt_eq, cl_6, cfg, s_16n, if_pos zgf, if_pos (by decide), lt_eq, cl_7, cgf, if_pos zf, if_pos zG, e_size, bnd_some, if_pos (by decide), lt_eq, cl_8, if_pos zf, if_pos zG]
  simp only [zg_zs]
  simp (config := { decide := true }) only [false_and, if_false, r70, r71, r72, q71f, q71g, q70f, q70g, q72, q72', v_sizeM s hs t ht, v_oddM s hs t ht]
  by_cases hst : s % 2 = t % 2
  · rw [if_pos hst]
    refine ⟨_, rfl, ?_, fun j hj => ?_⟩
    · repeat first | exact e2 | refine Fx.zs ?_ rfl
    · rcases n10 hj with rfl | rfl | rfl | rfl | rfl | rfl | rfl | rfl | rfl | rfl <;> simp [zg_zs, lett, e3, q70f, hst]
  · rw [if_neg hst]
    refine ⟨_, rfl, ?_, fun j hj => ?_⟩
    · repeat first | exact e2 | refine Fx.zs ?_ rfl
    · rcases n10 hj with rfl | rfl | rfl | rfl | rfl | rfl | rfl | rfl | rfl | rfl <;> simp [zg_zs, lett, e3, q70f, hst]
