/-! ===== ops: heard, gives, eats, count ===== -/
def dsp (s y : Nat) : Nat := if y ≤ s / 2 then s / 2 - y else y - s / 2
theorem v_dspA : ∀ s, s < 40 → ∀ y, y < 20 → (if 0 ≤ ((nI s >>> ((1 : Int32) &&& 31)) - nI y) then ((nI s >>> ((1 : Int32) &&& 31)) - nI y) else 0 - ((nI s >>> ((1 : Int32) &&& 31)) - nI y)) = nI (dsp s y) := by decide +kernel
theorem v_dspM : ∀ s, s < 40 → ∀ y, y < 20 → (if (nI s / (2 : Int32) - nI y) < 0 then -(nI s / (2 : Int32) - nI y) else (nI s / (2 : Int32) - nI y)) = nI (dsp s y) := by decide +kernel
theorem v_spd {sp m sm : Nat} (h1 : 1 ≤ sp) (h5 : sp ≤ 5) (hm : m < 1000) (hsm : sm < 1000) : ((nI m - nI sm) * nI sp).toInt = (sp : Int) * ((m : Int) - sm) ∧ (nI sp * (nI m - nI sm)).toInt = (sp : Int) * ((m : Int) - sm) := by
  have e := pk_sub_toInt (a := m) (b := sm) (by omega) (by omega)
  rw [Int32.toInt_mul, Int32.toInt_mul, e, nI_toInt (by omega)]
  rcases (show sp = 1 ∨ sp = 2 ∨ sp = 3 ∨ sp = 4 ∨ sp = 5 by omega) with rfl | rfl | rfl | rfl | rfl <;> exact ⟨by rw [Int.bmod_eq_of_le (by omega) (by omega)] <;> omega, by rw [Int.bmod_eq_of_le (by omega) (by omega)] <;> omega⟩
def heaB (α : zM) (s m k : Nat) : Bool := decide (((dsp s (zg α 37 k).toNatClampNeg : Nat) : Int) ≤ ((zg α 39 k).toNatClampNeg : Int) * ((m : Int) - ((zg α 38 k).toNatClampNeg : Int)))
def heaI (α : zM) (s mi : Nat) : Nat → Nat → Int32 → Int32
  | 0, _, acc => acc
  | m + 1, k, acc => heaI α s mi m (k + 1) (if heaB α s mi k = true then acc ||| ((1 : Int32) <<< (nI k &&& 31)) else acc)
theorem dsp_b {s y : Nat} (hs : s < 40) (hy : y < 20) : dsp s y < 20 := by unfold dsp; split <;> omega
theorem e_speechesAt {F r p s mi : Nat} {σ : zM} (hF : 22 ≤ F) (hN : IN r p σ) (hs : s < 40) (hmi : mi < 1000) : f_X5_speechesAt F (nI s) (nI mi) σ = some (heaI σ s mi p 0 0, σ) := by
  obtain ⟨n1, n2, n3, n4, n5, n6⟩ := hN
  have key : ∀ (m fu k : Nat) (acc : Int32), k + m = p → m < fu → f_X5_speechesAt_L5 F (fun y8 s7 => some (y8, s7)) (nI s) (nI mi) fu acc (nI k) σ = some (heaI σ s mi m k acc, σ) := by
    intro m
    induction m with
    | zero =>
      intro fu k acc hk hfu
      obtain ⟨fu, rfl⟩ : ∃ f', fu = f' + 1 := ⟨fu - 1, by omega⟩
      rw [f_X5_speechesAt_L5, n4, if_neg (by rw [nI_ltI (by omega) (by omega)]; omega)]; rfl
    | succ m ih =>
      intro fu k acc hk hfu
      obtain ⟨fu, rfl⟩ : ∃ f', fu = f' + 1 := ⟨fu - 1, by omega⟩
      obtain ⟨⟨y, hy, ey⟩, ⟨z, hz, ez⟩, sp, hp1, hp5, ep⟩ := n6 k (by omega)
      have z10 : zin (nI k) 10 = true := zin_n (by omega) (by omega)
      have hb := dsp_b hs hy
      rw [f_X5_speechesAt_L5, n4, if_pos (by rw [nI_ltI (by omega) (by omega)]; omega), if_pos (by rw [show (10 : Int32) = nI 10 from rfl, nI_ltI (by omega) (by omega)]; omega), heaI]
      simp only [if_pos z10, lt_eq, nI_clamp (show k < 2 ^ 31 by omega), ey, ez, ep, v_dspA s hs y hy, nI_1]
      have hB : heaB σ s mi k = decide (((dsp s y : Nat) : Int) ≤ (sp : Int) * ((mi : Int) - z)) := by
        unfold heaB; rw [ey, ez, ep, nI_clamp (by omega), nI_clamp (by omega), nI_clamp (by omega)]
      have e1 := pk_sub_toInt (a := mi) (b := z) (by omega) (by omega)
      have e2 := (v_spd hp1 hp5 hmi hz).1
      simp only [i_lt, e1, e2, nI_toInt (show dsp s y < 2 ^ 31 by omega), show (0 : Int32).toInt = 0 from rfl, hB, decide_eq_true_eq]
      by_cases q1 : (mi : Int) - z < 0
      · rw [if_pos q1, if_neg (by rcases (show sp = 1 ∨ sp = 2 ∨ sp = 3 ∨ sp = 4 ∨ sp = 5 by omega) with rfl | rfl | rfl | rfl | rfl <;> omega)]
        exact ih fu (k + 1) _ (by omega) (by omega)
      · rw [if_neg q1]
        by_cases q2 : (sp : Int) * ((mi : Int) - z) < ((dsp s y : Nat) : Int)
        · rw [if_pos q2, if_neg (by omega)]
          exact ih fu (k + 1) _ (by omega) (by omega)
        · rw [if_neg q2, if_pos (by omega)]
          exact ih fu (k + 1) _ (by omega) (by omega)
  exact key p F 0 0 (by omega) (by omega)
theorem op_heard {F : Nat} (hF : 22 ≤ F) (v w : Int32) : OP (f_X11_heard F v w) (f_X12_heard F v w) := by
  intro a σ ha ⟨n, t, r, p, kc, x, ko, pl, ql, cl, ⟨hG, hH, hT, hN, hK, hD, hX, hW⟩, ⟨bG, bH, bL, bT, bN, bK, bP, bD, bX, bW⟩, hP⟩
  by_cases hc : (0 ≤ v.toInt ∧ v.toInt < 40) ∧ gd 1000 w
  · obtain ⟨s, hs, rfl, cs⟩ := nI_of' (n := 40) hc.1 (by omega)
    obtain ⟨mi, hmi, rfl, cm⟩ := nI_of' hc.2 (by omega)
    have hN' := hN
    obtain ⟨n1, n2, n3, n4, n5, n6⟩ := hN'
    refine OP.no ⟨n, t, r, p, kc, x, ko, pl, ql, cl, ⟨hG, hH, hT, hN, hK, hD, hX, hW⟩, ⟨bG, bH, bL, bT, bN, bK, bP, bD, bX, bW⟩, hP⟩ (heaI σ s mi p 0 0) ?_ ?_
    · unfold f_X11_heard
      rw [e_isSeat_n hs, bnd_some, if_neg b1n, e_isMinute, if_pos hc.2, bnd_some, if_neg b1n, e_speechesAt hF hN hs hmi]; rfl
    · unfold f_X12_heard
      rw [e_isSeatM_n hs, bnd_some, if_neg b1n, e_isMinuteM, if_pos hc.2, bnd_some, if_neg b1n]
      have key : ∀ (m fu k : Nat) (acc : Int32), k + m = p → m < fu → f_X12_heard_L21 F (fun y11 s10 => some (y11, s10)) (nI s) (nI mi) fu acc (nI k) σ = some (heaI σ s mi m k acc, σ) := by
        intro m
        induction m with
        | zero =>
          intro fu k acc hk hfu
          obtain ⟨fu, rfl⟩ : ∃ f', fu = f' + 1 := ⟨fu - 1, by omega⟩
          rw [f_X12_heard_L21, bN.2.1, if_neg (by rw [nI_ltI (by omega) (by omega)]; omega)]; rfl
        | succ m ih =>
          intro fu k acc hk hfu
          obtain ⟨fu, rfl⟩ : ∃ f', fu = f' + 1 := ⟨fu - 1, by omega⟩
          obtain ⟨⟨y, hy, ey⟩, ⟨z, hz, ez⟩, sp, hp1, hp5, ep⟩ := n6 k (by omega)
          have z10 : zin (nI k) 10 = true := zin_n (by omega) (by omega)
          have hb := dsp_b hs hy
          obtain ⟨b1, b2, b3⟩ := bN.2.2.2 k (by omega)
          rw [f_X12_heard_L21, bN.2.1, if_pos (by rw [nI_ltI (by omega) (by omega)]; omega), heaI, if_pos z10, nI_clamp (by omega), b1, ey, e_size, v_dspM s hs y hy, bnd_some, if_pos z10, if_pos z10, b2, b3, ez, ep, lt_eq, lt_eq, lt_eq, nI_1]
          have hB : heaB σ s mi k = decide (((dsp s y : Nat) : Int) ≤ (sp : Int) * ((mi : Int) - z)) := by
            unfold heaB; rw [ey, ez, ep, nI_clamp (by omega), nI_clamp (by omega), nI_clamp (by omega)]
          have e2 := (v_spd hp1 hp5 hmi hz).2
          simp only [i_lt, e2, nI_toInt (show dsp s y < 2 ^ 31 by omega), hB, decide_eq_true_eq]
          by_cases q2 : (sp : Int) * ((mi : Int) - z) < ((dsp s y : Nat) : Int)
          · rw [if_pos q2, if_neg (by omega)]
            exact ih fu (k + 1) _ (by omega) (by omega)
          · rw [if_neg q2, if_pos (by omega)]
            exact ih fu (k + 1) _ (by omega) (by omega)
      exact key p F 0 0 (by omega) (by omega)
  · refine OP.no ⟨n, t, r, p, kc, x, ko, pl, ql, cl, ⟨hG, hH, hT, hN, hK, hD, hX, hW⟩, ⟨bG, bH, bL, bT, bN, bK, bP, bD, bX, bW⟩, hP⟩ (-1) ?_ ?_
    · unfold f_X11_heard
      rw [e_isSeat, bnd_some, b01]
      by_cases a1 : 0 ≤ v.toInt ∧ v.toInt < 40
      · rw [if_pos a1, e_isMinute, if_neg (fun q => hc ⟨a1, q⟩), bnd_some, if_pos rfl]
      · rw [if_neg a1]
    · unfold f_X12_heard
      rw [e_isSeatM, bnd_some, b01]
      by_cases a1 : 0 ≤ v.toInt ∧ v.toInt < 40
      · rw [if_pos a1, e_isMinuteM, if_neg (fun q => hc ⟨a1, q⟩), bnd_some, if_pos rfl]
      · rw [if_neg a1]
theorem e_isHandful (v : Int32) (s : zM) : f_X7_isHandful v s = some (if 1 ≤ v.toInt ∧ v.toInt < 100 then 1 else 0, s) := by
  unfold f_X7_isHandful
  simp only [i_lt]
  have : (99 : Int32).toInt = 99 := rfl
  have : (1 : Int32).toInt = 1 := rfl
  repeat' split
  all_goals first | rfl | (exfalso; omega)
theorem e_isMany (v : Int32) (s : zM) : f_X12_isMany v s = some (if 1 ≤ v.toInt ∧ v.toInt < 100 then 1 else 0, s) := by
  unfold f_X12_isMany
  simp only [i_lt]
  have : (100 : Int32).toInt = 100 := rfl
  have : (0 : Int32).toInt = 0 := rfl
  repeat' split
  all_goals first | rfl | (exfalso; omega)
theorem BP.up {α σ α' σ' : zM} (h : BP α σ) (r1 : ∀ g, g < 16 → zg σ' 107 g = zg α' 61 g ∧ zg σ' 108 g = zg α' 62 g ∧ zg σ' 109 g = zg α' 63 g) (h64 : ∀ j, zg α' 64 j = zg α 64 j) (h0 : ∀ j, zg σ' 110 j = zg σ 110 j) (h1 : ∀ j, zg σ' 111 j = zg σ 111 j) (h2 : ∀ j, zg σ' 112 j = zg σ 112 j) : BP α' σ' := by
  obtain ⟨a1, a2, a3⟩ := h
  refine ⟨r1, fun i hi => by rw [h2, h64]; exact a2 i hi, fun g hg => ?_⟩
  simp only [h0, h1, h64]
  exact a3 g hg
theorem op_gives (v w : Int32) : OP (f_X11_gives v w) (f_X12_gives v w) := by
  intro a σ ha ⟨n, t, r, p, kc, x, ko, pl, ql, cl, ⟨hG, hH, hT, hN, hK, hD, hX, hW⟩, ⟨bG, bH, bL, bT, bN, bK, bP, bD, bX, bW⟩, hP⟩
  have hn := hG.1
  by_cases hc : gd n v ∧ 1 ≤ w.toInt ∧ w.toInt < 100
  · obtain ⟨g, hg, rfl, cg⟩ := nI_of' hc.1 (by omega)
    have z : zin (nI g) 16 = true := zin_n (by omega) (by omega)
    have hs : f_X0_sits (nI g) σ = some (if zg σ 6 g = -1 then 0 else 1, σ) := by
      rw [e_sits hn hG.2.1, nI_clamp (by omega)]
      by_cases h : zg σ 6 g = -1
      · rw [if_neg (fun q => q.2 h), if_pos h]
      · rw [if_pos ⟨by rw [nI_toInt (by omega)]; omega, h⟩, if_neg h]
    have X : f_X11_gives (nI g) w σ = if zg σ 6 g = -1 then some (-2, σ) else if (9999 : Int32) < zg σ 61 g + w then some (-2, σ) else some (zg σ 61 g + w, zs (zs σ 61 g (zg σ 61 g + w)) 63 g (zg σ 63 g + w)) := by
      unfold f_X11_gives f_X7_hasRoom f_X7_serve
      simp only [e_knows_n hn hG.2.1 hg, e_isHandful, if_pos hc.2, bnd_some, if_neg b1n, hs, b10, e_had (show g < 16 by omega), e_isGuestP (show g < 16 by omega), if_pos z, cg, lt_eq]
      by_cases q1 : zg σ 6 g = -1
      · rw [if_pos q1, if_pos q1]
      · rw [if_neg q1, if_neg q1]
        by_cases q2 : (9999 : Int32) < zg σ 61 g + w
        · rw [if_pos q2, if_pos q2, bnd_some, if_pos rfl]
        · rw [if_neg q2, if_neg q2, bnd_some, if_neg b1n]
          simp [zg_zs]
    have M : ∀ τ, BG n σ τ → zg τ 107 g = zg σ 61 g → zg τ 109 g = zg σ 63 g → f_X12_gives (nI g) w τ = if zg σ 6 g = -1 then some (-2, τ) else if (9999 : Int32) < zg σ 61 g + w then some (-2, τ) else some (zg σ 61 g + w, zs (zs τ 107 g (zg σ 61 g + w)) 109 g (zg σ 63 g + w)) := by
      intro τ bt h7 h9
      unfold f_X12_gives
      simp only [isGuest_n hn bt.1 hg, e_isMany, if_pos hc.2, bnd_some, if_neg b1n, e_sitsM hG bt hg, b10, if_pos z, cg, lt_eq, h7]
      by_cases q1 : zg σ 6 g = -1
      · rw [if_pos q1, if_pos q1]
      · rw [if_neg q1, if_neg q1]
        by_cases q2 : (9999 : Int32) < zg σ 61 g + w
        · rw [if_pos q2, if_pos q2]
        · rw [if_neg q2, if_neg q2]
          simp [zg_zs, h9]
    by_cases q1 : zg σ 6 g = -1
    · rw [if_pos q1] at X
      exact OP.no ⟨n, t, r, p, kc, x, ko, pl, ql, cl, ⟨hG, hH, hT, hN, hK, hD, hX, hW⟩, ⟨bG, bH, bL, bT, bN, bK, bP, bD, bX, bW⟩, hP⟩ (-2) X (by rw [M σ bG (bP.1 g (by omega)).1 (bP.1 g (by omega)).2.2, if_pos q1])
    by_cases q2 : (9999 : Int32) < zg σ 61 g + w
    · rw [if_neg q1, if_pos q2] at X
      exact OP.no ⟨n, t, r, p, kc, x, ko, pl, ql, cl, ⟨hG, hH, hT, hN, hK, hD, hX, hW⟩, ⟨bG, bH, bL, bT, bN, bK, bP, bD, bX, bW⟩, hP⟩ (-2) X (by rw [M σ bG (bP.1 g (by omega)).1 (bP.1 g (by omega)).2.2, if_neg q1, if_pos q2])
    rw [if_neg q1, if_neg q2] at X
    have hfx : Fx ([61, 63], []) σ (zs (zs σ 61 g (zg σ 61 g + w)) 63 g (zg σ 63 g + w)) := (Fx.rf.zs rfl).zs rfl
    have M2 := M _ (bG.si hfx rfl) ((hfx 107 g rfl).trans (bP.1 g (by omega)).1) ((hfx 109 g rfl).trans (bP.1 g (by omega)).2.2)
    rw [if_neg q1, if_neg q2] at M2
    refine ⟨_, _, _, X, M2, a, by omega, ?_⟩
    have hf : Fx ([61, 63, 107, 109], []) σ (zs (zs (zs (zs σ 61 g (zg σ 61 g + w)) 63 g (zg σ 63 g + w)) 107 g (zg σ 61 g + w)) 109 g (zg σ 63 g + w)) := (((Fx.rf.zs rfl).zs rfl).zs rfl).zs rfl
    refine ⟨n, t, r, p, kc, x, ko, pl, ql, cl, ⟨hG.fx hf rfl, hH.fx hf rfl, hT.fx hf rfl, hN.fx hf rfl, hK.fx hf rfl, hD.fx hf rfl, hX.fx hf rfl, hW.fx hf rfl⟩, ⟨(bG.al hf rfl).si hf rfl, (bH.al hf rfl).si hf rfl, (bL.al hf rfl).si hf rfl, (bT.al hf rfl).si hf rfl, (bN.al hf rfl).si hf rfl, (bK.al hf rfl).si hf rfl, bP.up ?_ (fun j => hf 64 j rfl) (fun j => hf 110 j rfl) (fun j => hf 111 j rfl) (fun j => hf 112 j rfl), (bD.al hf rfl).si hf rfl, (bX.al hf rfl).si hf rfl, (bW.al hW.or hf rfl).si hf rfl⟩, hP.fx hW.or hf rfl hf rfl⟩
    intro k hk
    have := bP.1 k hk
    by_cases hkg : k = g
    · subst hkg; simp [zg_zs, this]
    · simp [zg_zs, this, hkg]
  · refine OP.no ⟨n, t, r, p, kc, x, ko, pl, ql, cl, ⟨hG, hH, hT, hN, hK, hD, hX, hW⟩, ⟨bG, bH, bL, bT, bN, bK, bP, bD, bX, bW⟩, hP⟩ (-1) ?_ ?_
    · unfold f_X11_gives
      rw [e_knows hn hG.2.1, bnd_some, b01]
      by_cases a1 : gd n v
      · rw [if_pos a1, e_isHandful, if_neg (fun q => hc ⟨a1, q⟩), bnd_some, if_pos rfl]
      · rw [if_neg a1]
    · unfold f_X12_gives
      rw [e_isGuest hn bG.1, bnd_some, b01]
      by_cases a1 : gd n v
      · rw [if_pos a1, e_isMany, if_neg (fun q => hc ⟨a1, q⟩), bnd_some, if_pos rfl]
      · rw [if_neg a1]
theorem op_eats (v w : Int32) : OP (f_X11_eats v w) (f_X12_eats v w) := by
  intro a σ ha ⟨n, t, r, p, kc, x, ko, pl, ql, cl, ⟨hG, hH, hT, hN, hK, hD, hX, hW⟩, ⟨bG, bH, bL, bT, bN, bK, bP, bD, bX, bW⟩, hP⟩
  have hn := hG.1
  by_cases hc : gd n v ∧ 1 ≤ w.toInt ∧ w.toInt < 100
  · obtain ⟨g, hg, rfl, cg⟩ := nI_of' hc.1 (by omega)
    have z : zin (nI g) 16 = true := zin_n (by omega) (by omega)
    have X : f_X11_eats (nI g) w σ = if zg σ 61 g < w then some (-3, σ) else some (zg σ 61 g - w, zs (zs σ 61 g (zg σ 61 g - w)) 62 g (zg σ 62 g + w)) := by
      unfold f_X11_eats f_X7_eat
      simp only [e_knows_n hn hG.2.1 hg, e_isHandful, if_pos hc.2, bnd_some, if_neg b1n, e_had (show g < 16 by omega), e_isGuestP (show g < 16 by omega), if_pos z, cg, lt_eq]
      by_cases q2 : zg σ 61 g < w
      · rw [if_pos q2, if_pos q2]
      · rw [if_neg q2, if_neg q2]
        simp [zg_zs]
    have M : ∀ τ, BG n σ τ → zg τ 107 g = zg σ 61 g → zg τ 108 g = zg σ 62 g → f_X12_eats (nI g) w τ = if zg σ 61 g < w then some (-3, τ) else some (zg σ 61 g - w, zs (zs τ 107 g (zg σ 61 g - w)) 108 g (zg σ 62 g + w)) := by
      intro τ bt h7 h8
      unfold f_X12_eats
      simp only [isGuest_n hn bt.1 hg, e_isMany, if_pos hc.2, bnd_some, if_neg b1n, if_pos z, cg, lt_eq, h7]
      by_cases q2 : zg σ 61 g < w
      · rw [if_pos q2, if_pos q2]
      · rw [if_neg q2, if_neg q2]
        simp [zg_zs, h8]
    by_cases q2 : zg σ 61 g < w
    · rw [if_pos q2] at X
      exact OP.no ⟨n, t, r, p, kc, x, ko, pl, ql, cl, ⟨hG, hH, hT, hN, hK, hD, hX, hW⟩, ⟨bG, bH, bL, bT, bN, bK, bP, bD, bX, bW⟩, hP⟩ (-3) X (by rw [M σ bG (bP.1 g (by omega)).1 (bP.1 g (by omega)).2.1, if_pos q2])
    rw [if_neg q2] at X
    have hfx : Fx ([61, 62], []) σ (zs (zs σ 61 g (zg σ 61 g - w)) 62 g (zg σ 62 g + w)) := (Fx.rf.zs rfl).zs rfl
    have M2 := M _ (bG.si hfx rfl) ((hfx 107 g rfl).trans (bP.1 g (by omega)).1) ((hfx 108 g rfl).trans (bP.1 g (by omega)).2.1)
    rw [if_neg q2] at M2
    refine ⟨_, _, _, X, M2, a, by omega, ?_⟩
    have hf : Fx ([61, 62, 107, 108], []) σ (zs (zs (zs (zs σ 61 g (zg σ 61 g - w)) 62 g (zg σ 62 g + w)) 107 g (zg σ 61 g - w)) 108 g (zg σ 62 g + w)) := (((Fx.rf.zs rfl).zs rfl).zs rfl).zs rfl
    refine ⟨n, t, r, p, kc, x, ko, pl, ql, cl, ⟨hG.fx hf rfl, hH.fx hf rfl, hT.fx hf rfl, hN.fx hf rfl, hK.fx hf rfl, hD.fx hf rfl, hX.fx hf rfl, hW.fx hf rfl⟩, ⟨(bG.al hf rfl).si hf rfl, (bH.al hf rfl).si hf rfl, (bL.al hf rfl).si hf rfl, (bT.al hf rfl).si hf rfl, (bN.al hf rfl).si hf rfl, (bK.al hf rfl).si hf rfl, bP.up ?_ (fun j => hf 64 j rfl) (fun j => hf 110 j rfl) (fun j => hf 111 j rfl) (fun j => hf 112 j rfl), (bD.al hf rfl).si hf rfl, (bX.al hf rfl).si hf rfl, (bW.al hW.or hf rfl).si hf rfl⟩, hP.fx hW.or hf rfl hf rfl⟩
    intro k hk
    have := bP.1 k hk
    by_cases hkg : k = g
    · subst hkg; simp [zg_zs, this]
    · simp [zg_zs, this, hkg]
  · refine OP.no ⟨n, t, r, p, kc, x, ko, pl, ql, cl, ⟨hG, hH, hT, hN, hK, hD, hX, hW⟩, ⟨bG, bH, bL, bT, bN, bK, bP, bD, bX, bW⟩, hP⟩ (-1) ?_ ?_
    · unfold f_X11_eats
      rw [e_knows hn hG.2.1, bnd_some, b01]
      by_cases a1 : gd n v
      · rw [if_pos a1, e_isHandful, if_neg (fun q => hc ⟨a1, q⟩), bnd_some, if_pos rfl]
      · rw [if_neg a1]
    · unfold f_X12_eats
      rw [e_isGuest hn bG.1, bnd_some, b01]
      by_cases a1 : gd n v
      · rw [if_pos a1, e_isMany, if_neg (fun q => hc ⟨a1, q⟩), bnd_some, if_pos rfl]
      · rw [if_neg a1]
