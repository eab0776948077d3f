/-! ===== ops: fed, led, likings, worths ===== -/
abbrev gd (n : Nat) (v : Int32) : Prop := 0 ≤ v.toInt ∧ v.toInt < (n : Int)
theorem e_areTwo {n : Nat} {s : zM} (hn : n ≤ 16) (h3 : zg s 3 8 = nI n) (v w : Int32) : f_X11_areTwo v w s = some (if ¬ v = w ∧ gd n v ∧ gd n w then 1 else 0, s) := by
  unfold f_X11_areTwo
  by_cases h1 : v = w
  · rw [if_pos h1, if_neg (fun q => q.1 h1)]
  · rw [if_neg h1, e_knows hn h3, bnd_some]
    by_cases h2 : gd n v
    · rw [if_pos h2, if_neg b1n, e_knows hn h3, bnd_some]
      by_cases h4 : gd n w
      · rw [if_pos h4, if_neg b1n, if_pos ⟨h1, h2, h4⟩]
      · rw [if_neg h4, if_pos rfl, if_neg (fun q => h4 q.2.2)]
    · rw [if_neg h2, if_pos rfl, if_neg (fun q => h2 q.2.1)]
theorem s_n16 {a b : Nat} : nI a * (16 : Int32) + nI b = nI (16 * a + b) := by
  rw [show (16 : Int32) = nI 16 from rfl, pk_mul, nI_add, Nat.mul_comm]
theorem e_isGuestP {g : Nat} (h : g < 16) (s : zM) : f_X7_isGuest (nI g) s = some (1, s) := by
  unfold f_X7_isGuest
  rw [if_neg (nI_pos (by omega)), if_pos (by rw [show (16 : Int32) = nI 16 from rfl, nI_ltI (by omega) (by omega)]; exact h)]
theorem e_handed {f g : Nat} (hf : f < 16) (hg : g < 16) (s : zM) : f_X7_handed (nI f) (nI g) s = some (zg s 64 (16 * f + g), s) := by
  unfold f_X7_handed
  simp only [e_isGuestP hf, e_isGuestP hg, bnd_some, if_neg b1n, s_n16]
  rw [if_pos (zin_n (by omega) (by omega)), nI_clamp (by omega)]
theorem e_had {g : Nat} (hg : g < 16) (s : zM) : f_X7_had (nI g) s = some (zg s 61 g, s) := by
  unfold f_X7_had
  rw [e_isGuestP hg, bnd_some, if_neg b1n, if_pos (zin_n (by omega) (by omega)), nI_clamp (by omega)]
theorem op_fed (v w : Int32) : OP (f_X11_fed v w) (f_X12_fed v w) := by
  intro a σ ha ⟨n, t, r, p, kc, x, ko, pl, ql, cl, ⟨hG, hH, hT, hN, hK, hD, hX, hW⟩, ⟨bG, bH, bL, bT, bN, bK, bP, bD, bX, bW⟩, hP⟩
  have hn := hG.1
  by_cases hc : ¬ v = w ∧ gd n v ∧ gd n w
  · obtain ⟨f, hf, rfl, cf⟩ := nI_of' hc.2.1 (by omega)
    obtain ⟨g, hg, rfl, cg⟩ := nI_of' hc.2.2 (by omega)
    refine OP.no ⟨n, t, r, p, kc, x, ko, pl, ql, cl, ⟨hG, hH, hT, hN, hK, hD, hX, hW⟩, ⟨bG, bH, bL, bT, bN, bK, bP, bD, bX, bW⟩, hP⟩ (zg σ 64 (16 * f + g)) ?_ ?_
    · unfold f_X11_fed
      rw [e_areTwo hn hG.2.1, if_pos hc, bnd_some, if_neg b1n, e_handed (by omega) (by omega)]; rfl
    · unfold f_X12_fed
      rw [isGuest_n hn bG.1 hf, bnd_some, if_neg b1n, isGuest_n hn bG.1 hg, bnd_some, if_neg b1n, if_neg hc.1, s_16n, if_pos (zin_n (by omega) (by omega)), nI_clamp (by omega), bP.2.1 _ (by omega)]
  · refine OP.no ⟨n, t, r, p, kc, x, ko, pl, ql, cl, ⟨hG, hH, hT, hN, hK, hD, hX, hW⟩, ⟨bG, bH, bL, bT, bN, bK, bP, bD, bX, bW⟩, hP⟩ (-1) ?_ ?_
    · unfold f_X11_fed
      rw [e_areTwo hn hG.2.1, if_neg hc, bnd_some, if_pos rfl]
    · unfold f_X12_fed
      simp only [e_isGuest hn bG.1, bnd_some, b01]
      split
      · split
        · rw [if_pos (by by_cases hh : v = w; · exact hh
                         · exact absurd ⟨hh, by assumption, by assumption⟩ hc)]
        · rfl
      · rfl
theorem e_told34 {F g : Nat} (hF : 17 ≤ F) (hg : g < 16) (w : Int32) (σ : zM) : f_X7_told_L60 F (fun y12 s11 => some (y12, s11)) (nI g) w F (0 : Int32) (0 : Int32) σ = some (if w = 3 then sumI (fun h => zg σ 64 (16 * h + g)) 16 else sumI (fun h => zg σ 64 (16 * g + h)) 16, σ) := by
  have key : ∀ (m f k : Nat), k + m = 16 → m < f → f_X7_told_L60 F (fun y12 s11 => some (y12, s11)) (nI g) w f (if w = 3 then sumI (fun h => zg σ 64 (16 * h + g)) k else sumI (fun h => zg σ 64 (16 * g + h)) k) (nI k) σ = some (if w = 3 then sumI (fun h => zg σ 64 (16 * h + g)) 16 else sumI (fun h => zg σ 64 (16 * g + h)) 16, σ) := by
    intro m
    induction m with
    | zero =>
      intro f k hk hf
      obtain ⟨f, rfl⟩ : ∃ f', f = f' + 1 := ⟨f - 1, by omega⟩
      have hk16 : k = 16 := by omega
      subst hk16
      rw [f_X7_told_L60, if_neg (by decide)]
    | succ m ih =>
      intro f k hk hf
      obtain ⟨f, rfl⟩ : ∃ f', f = f' + 1 := ⟨f - 1, by omega⟩
      have i := ih f (k + 1) (by omega) (by omega)
      rw [f_X7_told_L60, if_pos (by rw [show (16 : Int32) = nI 16 from rfl, nI_ltI (by omega) (by omega)]; omega), e_handed (by omega) hg, e_handed hg (by omega), bnd_some, bnd_some, lt_eq, lt_eq, lt_eq, lt_eq, nI_1]
      by_cases hw : w = 3
      · simp only [if_pos hw] at i ⊢; exact i
      · simp only [if_neg hw] at i ⊢; exact i
  have h := key 16 F 0 (by omega) (by omega)
  rw [show (if w = 3 then sumI (fun h => zg σ 64 (16 * h + g)) 0 else sumI (fun h => zg σ 64 (16 * g + h)) 0) = (0 : Int32) by split <;> rfl] at h
  exact h
theorem op_led {F : Nat} (hF : 17 ≤ F) (v w : Int32) : OP (f_X11_led F v w) (f_X12_led v w) := by
  intro a σ ha ⟨n, t, r, p, kc, x, ko, pl, ql, cl, ⟨hG, hH, hT, hN, hK, hD, hX, hW⟩, ⟨bG, bH, bL, bT, bN, bK, bP, bD, bX, bW⟩, hP⟩
  have hn := hG.1
  by_cases hc : gd n v
  · obtain ⟨g, hg, rfl, cg⟩ := nI_of' hc (by omega)
    have z : zin (nI g) 16 = true := zin_n (by omega) (by omega)
    obtain ⟨b1, b2, b3⟩ := bP
    obtain ⟨b4, b5, b6⟩ := b1 g (by omega)
    obtain ⟨b7, b8⟩ := b3 g (by omega)
    have bP : BP σ σ := ⟨b1, b2, b3⟩
    have X : f_X11_led F (nI g) w σ = bnd (f_X7_told F (nI g) w σ) (fun r4 s3 => some (r4, s3)) := by
      unfold f_X11_led; rw [e_knows_n hn hG.2.1 hg, bnd_some, if_neg b1n]
    have M : ∀ r, (if w = (0 : Int32) then some (zg σ 61 g, σ) else if w = (1 : Int32) then some (zg σ 62 g, σ) else if w = (2 : Int32) then some (zg σ 63 g, σ) else if w = (3 : Int32) then some (zg σ 110 g, σ) else if w = (4 : Int32) then some (zg σ 111 g, σ) else some ((-1 : Int32), σ)) = some (r, σ) → f_X12_led (nI g) w σ = some (r, σ) := by
      intro r hr
      unfold f_X12_led
      rw [isGuest_n hn bG.1 hg, bnd_some, if_neg b1n]
      simp only [if_pos z, cg, b4, b5, b6]
      exact hr
    unfold f_X7_told at X
    simp only [e_isGuestP (show g < 16 by omega), bnd_some, if_neg b1n, if_pos z, cg] at X
    by_cases h0 : w = 0
    · subst h0
      exact OP.no ⟨n, t, r, p, kc, x, ko, pl, ql, cl, ⟨hG, hH, hT, hN, hK, hD, hX, hW⟩, ⟨bG, bH, bL, bT, bN, bK, bP, bD, bX, bW⟩, hP⟩ (zg σ 61 g) X (M _ rfl)
    by_cases h1 : w = 1
    · subst h1
      exact OP.no ⟨n, t, r, p, kc, x, ko, pl, ql, cl, ⟨hG, hH, hT, hN, hK, hD, hX, hW⟩, ⟨bG, bH, bL, bT, bN, bK, bP, bD, bX, bW⟩, hP⟩ (zg σ 62 g) X (M _ rfl)
    by_cases h2 : w = 2
    · subst h2
      exact OP.no ⟨n, t, r, p, kc, x, ko, pl, ql, cl, ⟨hG, hH, hT, hN, hK, hD, hX, hW⟩, ⟨bG, bH, bL, bT, bN, bK, bP, bD, bX, bW⟩, hP⟩ (zg σ 63 g) X (M _ rfl)
    by_cases h3 : w = 3
    · subst h3
      refine OP.no ⟨n, t, r, p, kc, x, ko, pl, ql, cl, ⟨hG, hH, hT, hN, hK, hD, hX, hW⟩, ⟨bG, bH, bL, bT, bN, bK, bP, bD, bX, bW⟩, hP⟩ (zg σ 110 g) (X.trans ?_) (M _ rfl)
      rw [if_neg (by decide), if_neg (by decide), if_neg (by decide), if_pos (by decide), e_told34 hF (by omega), if_pos rfl, b7]; rfl
    by_cases h4 : w = 4
    · subst h4
      refine OP.no ⟨n, t, r, p, kc, x, ko, pl, ql, cl, ⟨hG, hH, hT, hN, hK, hD, hX, hW⟩, ⟨bG, bH, bL, bT, bN, bK, bP, bD, bX, bW⟩, hP⟩ (zg σ 111 g) (X.trans ?_) (M _ rfl)
      rw [if_neg (by decide), if_neg (by decide), if_neg (by decide), if_pos (by decide), e_told34 hF (by omega), if_neg (by decide), b8]; rfl
    · refine OP.no ⟨n, t, r, p, kc, x, ko, pl, ql, cl, ⟨hG, hH, hT, hN, hK, hD, hX, hW⟩, ⟨bG, bH, bL, bT, bN, bK, bP, bD, bX, bW⟩, hP⟩ (-1) (X.trans ?_) (M _ (by rw [if_neg h0, if_neg h1, if_neg h2, if_neg h3, if_neg h4]))
      simp only [i_lt]
      rw [i_eq] at h0 h1 h2 h3 h4
      have t0 : (0 : Int32).toInt = 0 := rfl
      have t1 : (1 : Int32).toInt = 1 := rfl
      have t2 : (2 : Int32).toInt = 2 := rfl
      have t3 : (3 : Int32).toInt = 3 := rfl
      have t4 : (4 : Int32).toInt = 4 := rfl
      by_cases hlt : w.toInt < 0
      · rw [if_pos (by omega)]; rfl
      · rw [if_neg (by omega), if_pos (by omega)]; rfl
  · refine OP.no ⟨n, t, r, p, kc, x, ko, pl, ql, cl, ⟨hG, hH, hT, hN, hK, hD, hX, hW⟩, ⟨bG, bH, bL, bT, bN, bK, bP, bD, bX, bW⟩, hP⟩ (-1) ?_ ?_
    · unfold f_X11_led
      rw [e_knows hn hG.2.1, if_neg hc, bnd_some, if_pos rfl]
    · unfold f_X12_led
      rw [e_isGuest hn bG.1, if_neg hc, bnd_some, if_pos rfl]
theorem op_liking (v w x0 : Int32) : OP (f_X11_liking v w x0) (f_X12_liking v w x0) := by
  intro a σ ha ⟨n, t, r, p, kc, x, ko, pl, ql, cl, ⟨hG, hH, hT, hN, hK, hD, hX, hW⟩, ⟨bG, bH, bL, bT, bN, bK, bP, bD, bX, bW⟩, hP⟩
  have hn := hG.1
  have t9 : (9 : Int32).toInt = 9 := rfl
  have tm : (-9 : Int32).toInt = -9 := rfl
  by_cases hc : ¬ v = w ∧ gd n v ∧ gd n w
  · by_cases hx : -9 ≤ x0.toInt ∧ x0.toInt ≤ 9
    · obtain ⟨f, hf, rfl, cf⟩ := nI_of' hc.2.1 (by omega)
      obtain ⟨g, hg, rfl, cg⟩ := nI_of' hc.2.2 (by omega)
      have hP' := hP
      obtain ⟨p1, p2, p3, p4⟩ := hP'
      have h1 : f_X11_liking (nI f) (nI g) x0 σ = some (1, zs (zs σ 8 (16 * f + g) x0) 12 5 (nI (a + 1))) := by
        unfold f_X11_liking f_X0_like f_X1_forget
        simp only [e_areTwo hn hG.2.1, if_pos hc, bnd_some, if_neg b1n, e_knows_n hn hG.2.1 hf, e_knows_n hn hG.2.1 hg, s_n16, lt_eq, i_lt]
        rw [if_neg (by omega), if_neg (by omega), if_pos (zin_n (by omega) (by omega)), nI_clamp (by omega), bnd_some, zg_ne (by decide), p1, nI_1]
      have h2 : ∀ τ, zg τ 69 0 = nI n → f_X12_liking (nI f) (nI g) x0 τ = some (1, zs τ 72 (16 * f + g) x0) := by
        intro τ hτ
        unfold f_X12_liking
        rw [isGuest_n hn hτ hf, bnd_some, if_neg b1n, isGuest_n hn hτ hg, bnd_some, if_neg b1n, if_neg hc.1, e_in, bnd_some, b01, if_pos (by omega), s_16n, if_pos (zin_n (by omega) (by omega)), nI_clamp (by omega)]; rfl
      refine ⟨1, _, _, h1, h2 _ ?_, a + 1, by omega, ?_⟩
      · rw [zg_ne (by decide), zg_ne (by decide)]; exact bG.1
      have hf : Fx ([8, 72], [(12, 5)]) σ (zs (zs (zs σ 8 (16 * f + g) x0) 12 5 (nI (a + 1))) 72 (16 * f + g) x0) := ((Fx.rf.zs rfl).zs rfl).zs rfl
      have hIW : IW pl ql cl (zs (zs (zs σ 8 (16 * f + g) x0) 12 5 (nI (a + 1))) 72 (16 * f + g) x0) := hW.fx' hf rfl
      refine ⟨n, t, r, p, kc, x, ko, pl, ql, cl, ⟨hG.fx hf rfl, hH.fx hf rfl, hT.fx hf rfl, hN.fx hf rfl, hK.fx hf rfl, hD.fx hf rfl, hX.fx hf rfl, hIW⟩, ⟨(bG.al hf rfl).si hf rfl, (bH.al hf rfl).si hf rfl, ?_, (bT.al hf rfl).si hf rfl, (bN.al hf rfl).si hf rfl, (bK.al hf rfl).si hf rfl, (bP.al hf rfl).si hf rfl, (bD.al hf rfl).si hf rfl, (bX.al hf rfl).si hf rfl, (bW.al' hW.or hf rfl).si hf rfl⟩, hP.age ha ?_ (fun j => hf 14 j rfl) (fun j => hf 15 j rfl)⟩
      · intro j hj
        rw [zg_row, zg_ne (k' := 8) (by decide), zg_ne (k' := 8) (by decide), zg_row, zg_ne (by decide), zg_ne (by decide)]
        split
        · rfl
        · exact bL j hj
      · rw [zg_ne (by decide), zg_eq]
    · refine OP.no ⟨n, t, r, p, kc, x, ko, pl, ql, cl, ⟨hG, hH, hT, hN, hK, hD, hX, hW⟩, ⟨bG, bH, bL, bT, bN, bK, bP, bD, bX, bW⟩, hP⟩ 0 ?_ ?_
      · unfold f_X11_liking
        simp only [e_areTwo hn hG.2.1, if_pos hc, bnd_some, if_neg b1n, i_lt]
        by_cases hl : x0.toInt < -9
        · rw [if_pos (by omega)]
        · rw [if_neg (by omega), if_pos (by omega)]
      · obtain ⟨f, hf, rfl, cf⟩ := nI_of' hc.2.1 (by omega)
        obtain ⟨g, hg, rfl, cg⟩ := nI_of' hc.2.2 (by omega)
        unfold f_X12_liking
        rw [isGuest_n hn bG.1 hf, bnd_some, if_neg b1n, isGuest_n hn bG.1 hg, bnd_some, if_neg b1n, if_neg hc.1, e_in, bnd_some, b01, if_neg (by omega)]
  · refine OP.no ⟨n, t, r, p, kc, x, ko, pl, ql, cl, ⟨hG, hH, hT, hN, hK, hD, hX, hW⟩, ⟨bG, bH, bL, bT, bN, bK, bP, bD, bX, bW⟩, hP⟩ 0 ?_ ?_
    · unfold f_X11_liking
      rw [e_areTwo hn hG.2.1, if_neg hc, bnd_some, if_pos rfl]
    · unfold f_X12_liking
      simp only [e_isGuest hn bG.1, bnd_some, b01]
      split
      · split
        · rw [if_pos (by by_cases hh : v = w; · exact hh
                         · exact absurd ⟨hh, by assumption, by assumption⟩ hc)]
        · rfl
      · rfl
theorem e_isSeatM_n {k : Nat} (h : k < 40) (s : zM) : f_X12_isSeat (nI k) s = some (1, s) := by
  rw [e_isSeatM, if_pos (by rw [nI_toInt (by omega)]; omega)]
theorem op_worth {F : Nat} (hF : 300 ≤ F) (v w : Int32) : OP (f_X11_worth F v w) (f_X12_worth F v w) := by
  intro a σ ha ⟨n, t, r, p, kc, x, ko, pl, ql, cl, ⟨hG, hH, hT, hN, hK, hD, hX, hW⟩, ⟨bG, bH, bL, bT, bN, bK, bP, bD, bX, bW⟩, hP⟩
  have hn := hG.1
  by_cases hc : gd n v ∧ gd 40 w
  · obtain ⟨g, hg, rfl, cg⟩ := nI_of' hc.1 (by omega)
    obtain ⟨s, hs, rfl, cs⟩ := nI_of' hc.2 (by omega)
    obtain ⟨σ1, e1, e2, e3⟩ := e_value (F := F) (σ := σ) hF hG hW Fx.rf hP hg hs
    obtain ⟨σ2, g1, g2⟩ := e_worthOf (F := F) (s := s) (σ := σ1) hF hG (bG.si e2 rfl) hW (bW.si e2 rfl) hg
    refine ⟨wrt σ pl cl g s, σ1, σ2, ?_, ?_, a, by omega, ?_⟩
    · unfold f_X11_worth
      rw [e_knows_n hn hG.2.1 hg, bnd_some, if_neg b1n, e_isSeat_n hs, bnd_some, if_neg b1n, e1]; rfl
    · unfold f_X12_worth
      rw [isGuest_n hn ((bG.si e2 rfl).1) hg, bnd_some, if_neg b1n, e_isSeatM_n hs, bnd_some, if_neg b1n, g1]; rfl
    · have hf : Fx ([13, 15, 23, 32, 86, 87], []) σ σ2 := (e2.sub rfl).tr (g2.sub rfl)
      exact ⟨n, t, r, p, kc, x, ko, pl, ql, cl, ⟨hG.fx hf rfl, hH.fx hf rfl, hT.fx hf rfl, hN.fx hf rfl, hK.fx hf rfl, hD.fx hf rfl, hX.fx hf rfl, hW.fx hf rfl⟩, ⟨(bG.al hf rfl).si hf rfl, (bH.al hf rfl).si hf rfl, (bL.al hf rfl).si hf rfl, (bT.al hf rfl).si hf rfl, (bN.al hf rfl).si hf rfl, (bK.al hf rfl).si hf rfl, (bP.al hf rfl).si hf rfl, (bD.al hf rfl).si hf rfl, (bX.al hf rfl).si hf rfl, (bW.al hW.or hf rfl).si hf rfl⟩, e3.fx hW.or hf rfl g2 rfl⟩
  · refine OP.no ⟨n, t, r, p, kc, x, ko, pl, ql, cl, ⟨hG, hH, hT, hN, hK, hD, hX, hW⟩, ⟨bG, bH, bL, bT, bN, bK, bP, bD, bX, bW⟩, hP⟩ (-1000) ?_ ?_
    · unfold f_X11_worth
      simp only [e_knows hn hG.2.1, e_isSeat, bnd_some, b01]
      split
      · rw [if_neg (show ¬ (0 ≤ w.toInt ∧ w.toInt < 40) from fun q => hc ⟨by assumption, q⟩)]
      · rfl
    · unfold f_X12_worth
      simp only [e_isGuest hn bG.1, e_isSeatM, bnd_some, b01]
      split
      · rw [if_neg (show ¬ (0 ≤ w.toInt ∧ w.toInt < 40) from fun q => hc ⟨by assumption, q⟩)]
      · rfl
