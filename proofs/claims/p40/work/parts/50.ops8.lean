/-! ===== ops: count, dies ===== -/
theorem op_count (v : Int32) : OP (f_X11_count v) (f_X12_count v) := by
  intro a σ ha ⟨n, t, r, p, kc, x, ko, pl, ql, cl, ⟨hG, hH, hT, hN, hK, hD, hX, hW⟩, ⟨bG, bH, bL, bT, bN, bK, bP, bD, bX, bW⟩, hP⟩
  have hn := hG.1
  have hlo := v.le_toInt
  have hhi := v.toInt_lt
  have t0 : (0 : Int32).toInt = 0 := rfl
  have t20 : (20 : Int32).toInt = 20 := rfl
  have t40 : (40 : Int32).toInt = 40 := rfl
  have t79 : (79 : Int32).toInt = 79 := rfl
  have tn : ((19 : Int32) + nI n).toInt = 19 + n := by
    rw [show (19 : Int32) = nI 19 from rfl, nI_add, nI_toInt (by omega)]; omega
  by_cases c0 : v = 0
  · subst c0
    exact OP.no ⟨n, t, r, p, kc, x, ko, pl, ql, cl, ⟨hG, hH, hT, hN, hK, hD, hX, hW⟩, ⟨bG, bH, bL, bT, bN, bK, bP, bD, bX, bW⟩, hP⟩ (zg σ 3 8) rfl (by rw [f_X12_count, if_pos rfl, bG.1, hG.2.1])
  by_cases c1 : v = 1
  · subst c1
    refine OP.no ⟨n, t, r, p, kc, x, ko, pl, ql, cl, ⟨hG, hH, hT, hN, hK, hD, hX, hW⟩, ⟨bG, bH, bL, bT, bN, bK, bP, bD, bX, bW⟩, hP⟩ (nI cl) ?_ ?_
    · unfold f_X11_count f_X1_inForce f_X3_number
      rw [if_pos (by decide), if_pos (by decide), if_neg (by decide), if_pos rfl, hW.2.1, nI_clamp (by rcases hW.or with h | h <;> omega), if_pos hW.zLw, bnd_some, if_pos hW.zLw, bnd_some, hW.2.2.2.2.1]
    · rw [f_X12_count, if_neg (by decide), if_pos rfl, bW.1]
  by_cases c2 : v = 2
  · subst c2
    exact OP.no ⟨n, t, r, p, kc, x, ko, pl, ql, cl, ⟨hG, hH, hT, hN, hK, hD, hX, hW⟩, ⟨bG, bH, bL, bT, bN, bK, bP, bD, bX, bW⟩, hP⟩ (zg σ 1 1) rfl (by rw [f_X12_count, if_neg (by decide), if_neg (by decide), if_pos rfl, bT.1, hT.2.1])
  by_cases c3 : v = 3
  · subst c3
    exact OP.no ⟨n, t, r, p, kc, x, ko, pl, ql, cl, ⟨hG, hH, hT, hN, hK, hD, hX, hW⟩, ⟨bG, bH, bL, bT, bN, bK, bP, bD, bX, bW⟩, hP⟩ (zg σ 33 10) rfl (by rw [f_X12_count, if_neg (by decide), if_neg (by decide), if_neg (by decide), if_pos rfl, bN.1, hN.2.2.1])
  by_cases c4 : v = 4
  · subst c4
    exact OP.no ⟨n, t, r, p, kc, x, ko, pl, ql, cl, ⟨hG, hH, hT, hN, hK, hD, hX, hW⟩, ⟨bG, bH, bL, bT, bN, bK, bP, bD, bX, bW⟩, hP⟩ (zg σ 33 11) rfl (by rw [f_X12_count, if_neg (by decide), if_neg (by decide), if_neg (by decide), if_neg (by decide), if_pos rfl, bN.2.1, hN.2.2.2.1])
  by_cases c5 : v = 5
  · subst c5
    exact OP.no ⟨n, t, r, p, kc, x, ko, pl, ql, cl, ⟨hG, hH, hT, hN, hK, hD, hX, hW⟩, ⟨bG, bH, bL, bT, bN, bK, bP, bD, bX, bW⟩, hP⟩ (zg σ 51 8) rfl (by rw [f_X12_count, if_neg (by decide), if_neg (by decide), if_neg (by decide), if_neg (by decide), if_neg (by decide), if_pos rfl, bK.1, hK.2.1])
  by_cases c6 : v = 6
  · subst c6
    exact OP.no ⟨n, t, r, p, kc, x, ko, pl, ql, cl, ⟨hG, hH, hT, hN, hK, hD, hX, hW⟩, ⟨bG, bH, bL, bT, bN, bK, bP, bD, bX, bW⟩, hP⟩ (zg σ 0 9) rfl (by rw [f_X12_count, if_neg (by decide), if_neg (by decide), if_neg (by decide), if_neg (by decide), if_neg (by decide), if_neg (by decide), if_pos rfl, show zg σ 69 1 = nI x from bD, hD.2])
  have M : f_X12_count v σ = if 20 ≤ v.toInt ∧ v.toInt ≤ 19 + n then (if zin (v - (20 : Int32)) 16 = true then some (zg σ 71 (v - (20 : Int32)).toNatClampNeg, σ) else none) else if 40 ≤ v.toInt ∧ v.toInt ≤ 79 then (if zin (v - (40 : Int32)) 40 = true then some (zg σ 100 (v - (40 : Int32)).toNatClampNeg, σ) else none) else some (-1, σ) := by
    rw [f_X12_count, if_neg c0, if_neg c1, if_neg c2, if_neg c3, if_neg c4, if_neg c5, if_neg c6, bG.1, e_in, bnd_some, b01, e_in, bnd_some, b01, t20, t40, t79, tn]
  have s40 : 40 ≤ v.toInt → (v - (40 : Int32)).toInt = v.toInt - 40 := by
    intro h
    rw [Int32.toInt_sub, t40, Int.bmod_eq_of_le (by omega) (by omega)]
  have s20 : 20 ≤ v.toInt → (v - (20 : Int32)).toInt = v.toInt - 20 := by
    intro h
    rw [Int32.toInt_sub, t20, Int.bmod_eq_of_le (by omega) (by omega)]
  by_cases h40 : v.toInt < 40
  · by_cases h20 : v.toInt < 20
    · refine OP.no ⟨n, t, r, p, kc, x, ko, pl, ql, cl, ⟨hG, hH, hT, hN, hK, hD, hX, hW⟩, ⟨bG, bH, bL, bT, bN, bK, bP, bD, bX, bW⟩, hP⟩ (-1) ?_ ?_
      · unfold f_X11_count
        rw [if_pos ((i_lt _ _).mpr (by omega)), if_pos ((i_lt _ _).mpr (by omega)), if_neg c0, if_neg c1, if_neg c2, if_neg c3, if_neg c4, if_neg c5, if_neg c6]
      · rw [M, if_neg (by omega), if_neg (by omega)]
    · obtain ⟨g, hg, eg, cg⟩ := nI_of' (v := v - 20) (n := 20) (by rw [s20 (by omega)]; omega) (by omega)
      have hgt : (g : Int) = v.toInt - 20 := by rw [← s20 (by omega), eg, nI_toInt (by omega)]
      have X : f_X11_count v σ = bnd (f_X0_knows (nI g) σ) (fun r18 s17 => if r18 = 0 then bnd (f_X0_seatOf (nI g) s17) (fun r20 s19 => some (r20, s19)) else bnd (f_X0_lives (nI g) s17) (fun r22 s21 => if r22 = 0 then some ((-2 : Int32), s21) else bnd (f_X0_seatOf (nI g) s21) (fun r24 s23 => some (r24, s23)))) := by
        unfold f_X11_count
        rw [if_pos ((i_lt _ _).mpr (by omega)), if_neg (fun q => by rw [i_lt] at q; omega), lt_eq, eg]
      by_cases hgn : g < n
      · refine OP.no ⟨n, t, r, p, kc, x, ko, pl, ql, cl, ⟨hG, hH, hT, hN, hK, hD, hX, hW⟩, ⟨bG, bH, bL, bT, bN, bK, bP, bD, bX, bW⟩, hP⟩ (zg σ 71 g) (X.trans ?_) (M.trans ?_)
        · rw [e_knows_n hn hG.2.1 hgn, bnd_some, if_neg b1n, e_lives_n hG hgn, bnd_some, (bG.2 g hgn).2, e_seatOf_n hn hG.2.1 hgn, b10]
          split
          · rfl
          · rfl
        · rw [if_pos (by omega), eg, if_pos (zin_n (by omega) (by omega)), nI_clamp (by omega)]
      · have ng : ¬ (0 ≤ (nI g).toInt ∧ (nI g).toInt < (n : Int)) := by rw [nI_toInt (by omega)]; omega
        refine OP.no ⟨n, t, r, p, kc, x, ko, pl, ql, cl, ⟨hG, hH, hT, hN, hK, hD, hX, hW⟩, ⟨bG, bH, bL, bT, bN, bK, bP, bD, bX, bW⟩, hP⟩ (-1) (X.trans ?_) (M.trans ?_)
        · rw [e_knows hn hG.2.1, if_neg ng, bnd_some, if_pos rfl, e_seatOf hn hG.2.1, if_neg ng]; rfl
        · rw [if_neg (by omega), if_neg (by omega)]
  · have X : f_X11_count v σ = bnd (f_X8_isSeat (v - (40 : Int32)) σ) (fun r26 s25 => if r26 = 0 then some ((-1 : Int32), s25) else bnd (f_X2_at (v - (40 : Int32)) s25) (fun r28 s27 => some (r28, s27))) := by
      unfold f_X11_count
      rw [if_neg (fun q => by rw [i_lt] at q; omega)]
    by_cases h80 : v.toInt ≤ 79
    · obtain ⟨s, hs, es, cs⟩ := nI_of' (v := v - 40) (n := 40) (by rw [s40 (by omega)]; omega) (by omega)
      refine OP.no ⟨n, t, r, p, kc, x, ko, pl, ql, cl, ⟨hG, hH, hT, hN, hK, hD, hX, hW⟩, ⟨bG, bH, bL, bT, bN, bK, bP, bD, bX, bW⟩, hP⟩ (zg σ 52 s) (X.trans ?_) (M.trans ?_)
      · unfold f_X2_at
        rw [es, e_isSeat_n hs, bnd_some, if_neg b1n, e_isSeat_n hs, bnd_some, if_neg b1n, if_pos (zin_n (by omega) (by omega)), nI_clamp (by omega)]; rfl
      · rw [if_neg (by omega), if_pos (by omega), es, if_pos (zin_n (by omega) (by omega)), nI_clamp (by omega), bK.2.1 s hs]
    · refine OP.no ⟨n, t, r, p, kc, x, ko, pl, ql, cl, ⟨hG, hH, hT, hN, hK, hD, hX, hW⟩, ⟨bG, bH, bL, bT, bN, bK, bP, bD, bX, bW⟩, hP⟩ (-1) (X.trans ?_) (M.trans ?_)
      · rw [e_isSeat, if_neg (by rw [s40 (by omega)]; omega), bnd_some, if_pos rfl]
      · rw [if_neg (by omega), if_neg (by omega)]
def dieS (α : zM) : Nat → Int32 → Int32
  | 0, _ => -1
  | m + 1, h => if h = -1 then -1 else if zg α 5 h.toNatClampNeg = 0 then dieS α m (zg α 7 h.toNatClampNeg) else if zg α 6 h.toNatClampNeg = -1 then h else dieS α m (zg α 7 h.toNatClampNeg)
theorem dieS_or {n : Nat} {α : zM} (hG : IG n α) (hH : IH n α) : ∀ m h, (h = -1 ∨ ∃ y, y < n ∧ h = nI y) → dieS α m h = -1 ∨ ∃ y, y < n ∧ dieS α m h = nI y ∧ zg α 5 y = 1 ∧ zg α 6 y = -1 := by
  have hn := hG.1
  intro m
  induction m with
  | zero => intro h _; exact Or.inl rfl
  | succ m ih =>
    intro h hh
    rw [dieS]
    rcases hh with rfl | ⟨y, hy, rfl⟩
    · rw [if_pos rfl]; exact Or.inl rfl
    · rw [if_neg (nI_m1 (by omega)), nI_clamp (by omega)]
      have := ih (zg α 7 y) (hH y (by omega))
      split
      · exact this
      · rename_i h5
        split
        · rename_i h6
          exact Or.inr ⟨y, hy, rfl, (hG.alive hy).resolve_left h5, h6⟩
        · exact this
theorem op_dies {F : Nat} (hF : 22 ≤ F) (v : Int32) : OP (f_X11_dies F v) (f_X12_dies F v) := by
  intro a σ ha ⟨n, t, r, p, kc, x, ko, pl, ql, cl, ⟨hG, hH, hT, hN, hK, hD, hX, hW⟩, ⟨bG, bH, bL, bT, bN, bK, bP, bD, bX, bW⟩, hP⟩
  have hn := hG.1
  by_cases hc : gd n v
  · obtain ⟨g, hg, rfl, cg⟩ := nI_of' hc (by omega)
    have z : zin (nI g) 16 = true := zin_n (by omega) (by omega)
    rcases hG.alive hg with h5 | h5
    · refine OP.no ⟨n, t, r, p, kc, x, ko, pl, ql, cl, ⟨hG, hH, hT, hN, hK, hD, hX, hW⟩, ⟨bG, bH, bL, bT, bN, bK, bP, bD, bX, bW⟩, hP⟩ (-1) ?_ ?_
      · unfold f_X11_dies
        rw [e_lives_n hG hg, if_pos h5, bnd_some, if_pos rfl]
      · unfold f_X12_dies
        have := (bG.2 g hg).2
        rw [if_pos h5] at this
        rw [isGuest_n hn bG.1 hg, bnd_some, if_neg b1n, if_pos z, cg, if_pos this]
    have n5 : ¬ zg σ 5 g = 0 := by rw [h5]; decide
    have h71 : ¬ zg σ 71 g = -2 := by
      rw [(bG.2 g hg).2, if_neg n5]
      rcases hG.seat hg with h | ⟨s, hs, h⟩
      · rw [h]; decide
      · rw [h]; exact nI_m2 (by omega)
    have e71 : zg σ 71 g = zg σ 6 g := by rw [(bG.2 g hg).2, if_neg n5]
    have hGp := hG.plc hg h5 (v := -1) (Or.inl rfl)
    have hp9 := plc_9 σ g (-1) (hG.seat hg) (Or.inl rfl)
    have hp6 := plc_6 σ g (-1)
    have fp := plc_fx σ g (-1)
    -- the buried state
    generalize hσb : zs (plc σ g (-1)) 5 g 0 = σb
    have fb : Fx ([5, 6, 9], []) σ σb := by rw [← hσb]; exact (fp.sub rfl).zs rfl
    have b5 : ∀ k, zg σb 5 k = if k = g then 0 else zg σ 5 k := by
      intro k; rw [← hσb, zg_row, fp 5 k rfl]
    have b6 : ∀ k, zg σb 6 k = if k = g then -1 else zg σ 6 k := by
      intro k; rw [← hσb, zg_ne (by decide), hp6]
    have b9 : ∀ s, s < 40 → zg σb 9 s = if zg σ 6 g = nI s then -1 else zg σ 9 s := by
      intro s hs
      rw [← hσb, zg_ne (by decide), hp9 s hs, if_neg (fun q => nI_m1 (n := s) (by omega) q.symm)]
    have hGb : IG n σb := by
      obtain ⟨-, g2, g3, g4, g5, g6⟩ := hGp
      rw [← hσb]
      refine ⟨hn, by rw [zg_ne (by decide)]; exact g2, fun k hk => by rw [zg_ne (by decide)]; exact g3 k hk, fun k hk => ?_, fun s hs => ?_, fun k h1 h2 => by rw [zg_ne (by decide)]; exact g6 k h1 h2⟩
      · rw [zg_ne (k' := 6) (by decide), zg_row]
        by_cases h : k = g
        · rw [if_pos h]; left; exact ⟨rfl, by rw [h, hp6, if_pos rfl]⟩
        · rw [if_neg h]
          rcases g4 k hk with q | ⟨q1, q | ⟨s, hs, q2, q3⟩⟩
          · exact Or.inl q
          · exact Or.inr ⟨q1, Or.inl q⟩
          · exact Or.inr ⟨q1, Or.inr ⟨s, hs, q2, by rw [zg_ne (by decide)]; exact q3⟩⟩
      · rw [zg_ne (k' := 9) (by decide)]
        rcases g5 s hs with q | ⟨k, hk, q1, q2⟩
        · exact Or.inl q
        · exact Or.inr ⟨k, hk, q1, by rw [zg_ne (by decide)]; exact q2⟩
    have hHb : IH n σb := hH.fx fb rfl
    have h7g := hH g (by omega)
    have X : f_X11_dies F (nI g) σ = f_X11_dies_L42 F (fun s19 => some ((-2 : Int32), s19)) (zg σ 6 g) F (zg σ 7 g) (nI 0) σb := by
      unfold f_X11_dies f_X0_bury
      rw [e_lives_n hG hg, if_neg n5, bnd_some, if_neg b1n, e_seatOf_n hn hG.2.1 hg, bnd_some, e_knows_n hn hG.2.1 hg, bnd_some, if_neg b1n, e_place hn hG.2.1 hg (hG.seat hg) (Or.inl rfl), bnd_some, if_pos z, cg, lt_eq, show vp_nar .boolean (0 : Int32) = 0 from rfl, hσb, bnd_some, e_heirOf hn hGb.2.1, if_pos hc, cg, bnd_some, fb 7 g rfl]; rfl
    -- what the model holds when the class has done
    have bm : ∀ τ, (∀ k j, 69 ≤ k → zg τ k j = zg σ k j) → BG n σb (zs τ 71 g (-2)) ∧ BH σb (zs τ 71 g (-2)) := by
      intro τ hτ
      refine ⟨⟨by rw [zg_ne (by decide), hτ 69 0 (by omega)]; exact bG.1, fun k hk => ⟨?_, ?_⟩⟩, fun k hk => ?_⟩
      · rw [zg_ne (by decide), hτ 70 k (by omega), fb 4 k rfl]; exact (bG.2 k hk).1
      · rw [zg_row, b5, b6, hτ 71 k (by omega)]
        by_cases h : k = g
        · rw [if_pos h, if_pos h, if_pos rfl]
        · rw [if_neg h, if_neg h, if_neg h]; exact (bG.2 k hk).2
      · rw [zg_ne (by decide), hτ 73 k (by omega), fb 7 k rfl]; exact bH k hk
    have M : ∀ τ, (∀ k j, 69 ≤ k → zg τ k j = zg σ k j) → f_X12_dies F (nI g) τ = if zg σ 6 g = -1 then some ((-2 : Int32), zs τ 71 g (-2)) else f_X12_dies_L54 F (fun s9 => some ((-2 : Int32), s9)) (zg σ 6 g) F (zg σ 7 g) (nI 0) (zs τ 71 g (-2)) := by
      intro τ hτ
      have q0 : zg τ 69 0 = nI n := (hτ 69 0 (by omega)).trans bG.1
      have q1 : zg τ 71 g = zg σ 71 g := hτ 71 g (by omega)
      unfold f_X12_dies
      rw [isGuest_n hn q0 hg, bnd_some, if_neg b1n, if_pos z, cg, q1, if_neg h71, if_pos z, lt_eq, if_pos z, lt_eq, e71]
      by_cases q : zg σ 6 g = -1
      · rw [if_pos q, if_pos q]
      · rw [if_neg q, if_neg q, if_pos z, lt_eq, zg_ne (by decide), hτ 73 g (by omega), bH g (by omega)]; rfl
    have hI : Fx ([5, 6, 9, 71], []) σ (zs σb 71 g (-2)) := (fb.sub rfl).zs rfl
    have none' : ∃ a', a' ≤ a + 1 ∧ RR a' (zs σb 71 g (-2)) := by
      have hq := bm σb (fun k j hk => fb k j (by simp [inm]; omega))
      have hf := hI
      exact ⟨a, by omega, ⟨n, t, r, p, kc, x, ko, pl, ql, cl, ⟨hGb.fx (fx1 71 g _) rfl, hH.fx hf rfl, hT.fx hf rfl, hN.fx hf rfl, hK.fx hf rfl, hD.fx hf rfl, hX.fx hf rfl, hW.fx hf rfl⟩, ⟨hq.1.al (fx1 71 g _) rfl, (bH.al hf rfl).si hf rfl, (bL.al hf rfl).si hf rfl, (bT.al hf rfl).si hf rfl, (bN.al hf rfl).si hf rfl, (bK.al hf rfl).si hf rfl, (bP.al hf rfl).si hf rfl, (bD.al hf rfl).si hf rfl, (bX.al hf rfl).si hf rfl, (bW.al hW.or hf rfl).si hf rfl⟩, hP.fx hW.or hf rfl hf rfl⟩⟩
    rcases hG.seat hg with h6 | ⟨s, hs, h6⟩
    · refine ⟨-2, σb, _, X.trans ?_, (M σb (fun k j hk => fb k j (by simp [inm]; omega))).trans (if_pos h6), none'⟩
      obtain ⟨F, rfl⟩ : ∃ f', F = f' + 1 := ⟨F - 1, by omega⟩
      rw [h6, f_X11_dies_L42, if_pos (by decide), if_pos rfl]
    have ns : ¬ nI s = -1 := nI_m1 (by omega)
    have kX : ∀ (m fu k : Nat) (h : Int32), k + m = 15 → m < fu → (h = -1 ∨ ∃ y, y < n ∧ h = nI y) → f_X11_dies_L42 F (fun s19 => some ((-2 : Int32), s19)) (nI s) fu h (nI k) σb = if dieS σb m h = -1 then some (-2, σb) else some (dieS σb m h, plc σb (dieS σb m h).toNatClampNeg (nI s)) := by
      intro m
      induction m with
      | zero =>
        intro fu k h hk hfu hh
        obtain ⟨fu, rfl⟩ : ∃ f', fu = f' + 1 := ⟨fu - 1, by omega⟩
        rw [f_X11_dies_L42, if_neg (by rw [show (15 : Int32) = nI 15 from rfl, nI_ltI (by omega) (by omega)]; omega), dieS, if_pos rfl]
      | succ m ih =>
        intro fu k h hk hfu hh
        obtain ⟨fu, rfl⟩ : ∃ f', fu = f' + 1 := ⟨fu - 1, by omega⟩
        rw [f_X11_dies_L42, if_pos (by rw [show (15 : Int32) = nI 15 from rfl, nI_ltI (by omega) (by omega)]; omega), if_neg ns]
        rcases hh with rfl | ⟨y, hy, rfl⟩
        · rw [if_pos rfl, dieS, if_pos rfl, if_pos rfl]
        · have hY : f_X0_heirOf (nI y) σb = some (zg σb 7 y, σb) := by
            rw [e_heirOf hn hGb.2.1, if_pos (by rw [nI_toInt (by omega)]; omega), nI_clamp (by omega)]
          have hrec := ih fu (k + 1) (zg σb 7 y) (by omega) (by omega) (hHb y (by omega))
          rw [if_neg (nI_m1 (by omega)), e_lives_n hGb hy, bnd_some, b10, dieS, if_neg (nI_m1 (by omega)), nI_clamp (by omega)]
          by_cases q5 : zg σb 5 y = 0
          · rw [if_pos q5, if_pos q5, hY, bnd_some, lt_eq, nI_1, hrec]
          · rw [if_neg q5, if_neg q5, e_sits_n hGb hy, bnd_some, b10]
            by_cases q6 : zg σb 6 y = -1
            · rw [if_pos q6, if_pos q6, e_place hn hGb.2.1 hy (hGb.seat hy) (Or.inr ⟨s, hs, rfl⟩), bnd_some, if_neg (nI_m1 (by omega)), nI_clamp (by omega)]
            · rw [if_neg q6, if_neg q6, hY, bnd_some, lt_eq, nI_1, hrec]
    have kM : ∀ (τ : zM), BG n σb τ → BH σb τ → ∀ (m fu k : Nat) (h : Int32), k + m = 15 → m < fu → (h = -1 ∨ ∃ y, y < n ∧ h = nI y) → f_X12_dies_L54 F (fun s9 => some ((-2 : Int32), s9)) (nI s) fu h (nI k) τ = if dieS σb m h = -1 then some (-2, τ) else some (dieS σb m h, zs τ 71 (dieS σb m h).toNatClampNeg (nI s)) := by
      intro τ bt bth m
      induction m with
      | zero =>
        intro fu k h hk hfu hh
        obtain ⟨fu, rfl⟩ : ∃ f', fu = f' + 1 := ⟨fu - 1, by omega⟩
        rw [f_X12_dies_L54, if_neg (by rw [show (15 : Int32) = nI 15 from rfl, nI_ltI (by omega) (by omega)]; omega), dieS, if_pos rfl]
      | succ m ih =>
        intro fu k h hk hfu hh
        obtain ⟨fu, rfl⟩ : ∃ f', fu = f' + 1 := ⟨fu - 1, by omega⟩
        rw [f_X12_dies_L54, if_pos (by rw [show (15 : Int32) = nI 15 from rfl, nI_ltI (by omega) (by omega)]; omega)]
        rcases hh with rfl | ⟨y, hy, rfl⟩
        · rw [if_pos rfl, dieS, if_pos rfl, if_pos rfl]
        · have zy : zin (nI y) 16 = true := zin_n (by omega) (by omega)
          have hrec := ih fu (k + 1) (zg σb 7 y) (by omega) (by omega) (hHb y (by omega))
          rw [if_neg (nI_m1 (by omega)), if_pos zy, nI_clamp (by omega), dieS, if_neg (nI_m1 (by omega)), nI_clamp (by omega)]
          rcases bt.pos hGb hy with ⟨p5, p6, p7⟩ | ⟨p5, p6, p7⟩ | ⟨p5, u, hu, p6, p7⟩
          · rw [p7, if_neg (by decide), if_pos zy, lt_eq, lt_eq, nI_1, bth y (by omega), hrec, if_pos p5]
          · rw [p7, if_pos rfl, if_pos zy, lt_eq, if_neg (show ¬ zg σb 5 y = 0 by rw [p5]; decide), if_pos p6, if_neg (nI_m1 (by omega)), nI_clamp (by omega)]
          · rw [p7, if_neg (nI_m1 (by omega)), if_pos zy, lt_eq, lt_eq, nI_1, bth y (by omega), hrec, if_neg (show ¬ zg σb 5 y = 0 by rw [p5]; decide), if_neg (show ¬ zg σb 6 y = -1 by rw [p6]; exact nI_m1 (by omega))]
    rw [h6, kX 15 F 0 _ (by omega) (by omega) h7g] at X
    have M6 : ¬ zg σ 6 g = -1 := by rw [h6]; exact ns
    rcases dieS_or hGb hHb 15 (zg σ 7 g) h7g with hd | ⟨y, hy, hd, y5, y6⟩
    · rw [if_pos hd] at X
      have bq := bm σb (fun k j hk => fb k j (by simp [inm]; omega))
      refine ⟨-2, σb, _, X, (M σb (fun k j hk => fb k j (by simp [inm]; omega))).trans ?_, none'⟩
      rw [if_neg M6, h6, kM _ bq.1 bq.2 15 F 0 _ (by omega) (by omega) h7g, if_pos hd]
    · rw [hd, if_neg (nI_m1 (by omega)), nI_clamp (by omega)] at X
      have fy : Fx ([5, 6, 9], []) σ (plc σb y (nI s)) := fb.tr ((plc_fx σb y (nI s)).sub rfl)
      have hτ : ∀ k j, 69 ≤ k → zg (plc σb y (nI s)) k j = zg σ k j := fun k j hk => fy k j (by simp [inm]; omega)
      have bq := bm _ hτ
      have Mf := M _ hτ
      rw [if_neg M6, h6, kM _ bq.1 bq.2 15 F 0 _ (by omega) (by omega) h7g, hd, if_neg (nI_m1 (by omega)), nI_clamp (by omega)] at Mf
      refine ⟨nI y, _, _, X, Mf, a, by omega, ?_⟩
      have s9 : zg σb 9 s = -1 := by rw [b9 s hs, if_pos h6]
      have hGy : IG n (plc σb y (nI s)) := hGb.plc hy y5 (Or.inr ⟨s, hs, rfl, s9⟩)
      have f2 : Fx ([71], []) (plc σb y (nI s)) (zs (zs (plc σb y (nI s)) 71 g (-2)) 71 y (nI s)) := (Fx.rf.zs rfl).zs rfl
      have hf : Fx ([5, 6, 9, 71], []) σ (zs (zs (plc σb y (nI s)) 71 g (-2)) 71 y (nI s)) := (fy.sub rfl).tr (f2.sub rfl)
      have hyg : ¬ y = g := by rintro rfl; rw [b5, if_pos rfl] at y5; exact absurd y5 (by decide)
      refine ⟨n, t, r, p, kc, x, ko, pl, ql, cl, ⟨hGy.fx f2 rfl, hH.fx hf rfl, hT.fx hf rfl, hN.fx hf rfl, hK.fx hf rfl, hD.fx hf rfl, hX.fx hf rfl, hW.fx hf rfl⟩, ⟨⟨(hf 69 0 rfl).trans bG.1, fun k hk => ⟨?_, ?_⟩⟩, (bH.al hf rfl).si hf rfl, (bL.al hf rfl).si hf rfl, (bT.al hf rfl).si hf rfl, (bN.al hf rfl).si hf rfl, (bK.al hf rfl).si hf rfl, (bP.al hf rfl).si hf rfl, (bD.al hf rfl).si hf rfl, (bX.al hf rfl).si hf rfl, (bW.al hW.or hf rfl).si hf rfl⟩, hP.fx hW.or hf rfl hf rfl⟩
      · rw [hf 70 k rfl, hf 4 k rfl]; exact (bG.2 k hk).1
      · rw [f2 5 k rfl, f2 6 k rfl, plc_fx σb y (nI s) 5 k rfl, plc_6, b5, b6, zg_row, zg_row, hτ 71 k (by omega)]
        by_cases q1 : k = y
        · subst q1
          rw [if_pos rfl, if_pos rfl, if_neg hyg]
          rw [b5, if_neg hyg] at y5
          rw [y5, if_neg (by decide)]
        · rw [if_neg q1, if_neg q1]
          by_cases q2 : k = g
          · rw [if_pos q2, if_pos q2, if_pos rfl]
          · rw [if_neg q2, if_neg q2, if_neg q2]; exact (bG.2 k hk).2
  · refine OP.no ⟨n, t, r, p, kc, x, ko, pl, ql, cl, ⟨hG, hH, hT, hN, hK, hD, hX, hW⟩, ⟨bG, bH, bL, bT, bN, bK, bP, bD, bX, bW⟩, hP⟩ (-1) ?_ ?_
    · unfold f_X11_dies
      rw [e_lives hn hG.2.1, if_neg (fun q => hc q.1), bnd_some, if_pos rfl]
    · unfold f_X12_dies
      rw [e_isGuest hn bG.1, if_neg hc, bnd_some, if_pos rfl]
