/-! ===== ops: two, rain, speeches, counts, knives ===== -/
theorem m1n : ¬ (-1 : Int32) = 0 := by decide
theorem e_sitNextM {F n f g s t : Nat} {α σ : zM} (hF : 4 ≤ F) (hG : IG n α) (hB : BG n α σ) (hf : f < n) (hg : g < n) (hs : s < 40) (ht : t < 40) (h6 : zg α 6 f = nI s) (h7 : zg α 6 g = nI t) : f_X12_sitNext F (nI f) (nI g) σ = some (if nxt s t = true then 1 else 0, σ) := by
  have hn := hG.1
  unfold f_X12_sitNext
  rw [e_sitsM hG hB hf, if_neg (by rw [h6]; exact nI_m1 (by omega)), bnd_some, if_neg b1n, e_sitsM hG hB hg, if_neg (by rw [h7]; exact nI_m1 (by omega)), bnd_some, if_neg b1n, if_pos (zin_n (by omega) (by omega)), if_pos (zin_n (by omega) (by omega)), nI_clamp (by omega), nI_clamp (by omega), (hB.s71 hG hf hs).mpr h6, (hB.s71 hG hg ht).mpr h7, e_areNextM hF hs ht, bnd_some]
  cases nxt s t <;> rfl
theorem op_two {F : Nat} (hF : 300 ≤ F) (v w k : Int32) : OP (f_X11_two F v w k) (f_X12_two F v w k) := by
  intro a σ ha ⟨n, t, r, p, kc, x, ko, pl, ql, cl, ⟨hG, hH, hT, hN, hK, hD, hX, hW⟩, ⟨bG, bH, bL, bT, bN, bK, bP, bD, bX, bW⟩, hP⟩
  have hn := hG.1
  have t0 : (0 : Int32).toInt = 0 := rfl
  have t2 : (2 : Int32).toInt = 2 := rfl
  by_cases hk : 0 ≤ k.toInt ∧ k.toInt ≤ 2
  · by_cases hc : ¬ v = w ∧ gd n v ∧ gd n w
    · obtain ⟨f, hf, rfl, cf⟩ := nI_of' hc.2.1 (by omega)
      obtain ⟨g, hg, rfl, cg⟩ := nI_of' hc.2.2 (by omega)
      have hfg : ¬ f = g := fun q => hc.1 (by rw [q])
      have M : ∀ τ, BG n σ τ → f_X12_two F (nI f) (nI g) k τ = if zg σ 6 f = -1 then some ((-2 : Int32), τ) else if zg σ 6 g = -1 then some ((-2 : Int32), τ) else if k = (1 : Int32) then f_X12_two_j65 F (nI f) (nI g) k τ else bnd (f_X12_sitNext F (nI f) (nI g) τ) (fun r18 s17 => if r18 = 0 then some ((-2 : Int32), s17) else f_X12_two_j65 F (nI f) (nI g) k s17) := by
        intro τ bt
        unfold f_X12_two
        rw [isGuest_n hn bt.1 hf, bnd_some, if_neg b1n, isGuest_n hn bt.1 hg, bnd_some, if_neg b1n, if_neg hc.1, e_in, if_pos (by omega), bnd_some, if_neg b1n, e_sitsM hG bt hf, bnd_some, b10, e_sitsM hG bt hg, bnd_some, b10]
      have X : f_X11_two F (nI f) (nI g) k σ = if zg σ 6 f = -1 then some ((-2 : Int32), σ) else if zg σ 6 g = -1 then some ((-2 : Int32), σ) else if k = (1 : Int32) then f_X11_two_j70 F (nI f) (nI g) k σ else bnd (f_X8_areNext (zg σ 6 f) (zg σ 6 g) σ) (fun r14 s13 => if r14 = 0 then some ((-2 : Int32), s13) else f_X11_two_j70 F (nI f) (nI g) k s13) := by
        unfold f_X11_two
        simp only [i_lt]
        rw [if_neg (by omega), if_neg (by omega), e_areTwo hn hG.2.1, if_pos hc, bnd_some, if_neg b1n, e_seatOf_n hn hG.2.1 hf, bnd_some, e_seatOf_n hn hG.2.1 hg, bnd_some]
      rcases hG.seat hf with h6 | ⟨s, hs, h6⟩
      · rw [if_pos h6] at X
        exact OP.no ⟨n, t, r, p, kc, x, ko, pl, ql, cl, ⟨hG, hH, hT, hN, hK, hD, hX, hW⟩, ⟨bG, bH, bL, bT, bN, bK, bP, bD, bX, bW⟩, hP⟩ (-2) X (by rw [M σ bG, if_pos h6])
      rcases hG.seat hg with h7 | ⟨t', ht', h7⟩
      · rw [if_neg (by rw [h6]; exact nI_m1 (by omega)), if_pos h7] at X
        exact OP.no ⟨n, t, r, p, kc, x, ko, pl, ql, cl, ⟨hG, hH, hT, hN, hK, hD, hX, hW⟩, ⟨bG, bH, bL, bT, bN, bK, bP, bD, bX, bW⟩, hP⟩ (-2) X (by rw [M σ bG, if_neg (by rw [h6]; exact nI_m1 (by omega)), if_pos h7])
      have n6 : ¬ zg σ 6 f = -1 := by rw [h6]; exact nI_m1 (by omega)
      have n7 : ¬ zg σ 6 g = -1 := by rw [h7]; exact nI_m1 (by omega)
      have J : ∃ r σ1 σ2, f_X11_two_j70 F (nI f) (nI g) k σ = some (r, σ1) ∧ f_X12_two_j65 F (nI f) (nI g) k σ1 = some (r, σ2) ∧ Fx scrL σ σ1 ∧ Fx ([86, 87], []) σ1 σ2 := by
        unfold f_X11_two_j70 f_X12_two_j65
        by_cases k1 : k = 1
        · obtain ⟨σ1, e1, e2⟩ := e_harm (F := F) hF hG hW hf hg hfg hs ht' h6 h7
          obtain ⟨σ2, g1, g2⟩ := e_harmOf (F := F) hF hG (bG.si e2 rfl) (bL.si e2 rfl) hW (bW.si e2 rfl) hf hg hfg hs ht' h6 h7
          exact ⟨_, σ1, σ2, by rw [if_pos k1, e1]; rfl, by rw [if_pos k1, g1]; rfl, e2, g2⟩
        by_cases k2 : k = 2
        · obtain ⟨σ1, e1, e2⟩ := e_seen (F := F) hF hG hW hf hg hs ht' h6 h7
          obtain ⟨σ2, g1, g2⟩ := e_seenBy (F := F) hF hG (bG.si e2 rfl) (bL.si e2 rfl) hW (bW.si e2 rfl) hf hg hs ht' h6 h7
          exact ⟨_, σ1, σ2, by rw [if_neg k1, if_pos k2, e1]; rfl, by rw [if_neg k1, if_pos k2, g1]; rfl, e2, g2⟩
        · obtain ⟨σ1, e1, e2⟩ := e_allows (F := F) hF hG hW hf hg hs ht' h6 h7
          obtain ⟨σ2, g1, g2⟩ := e_lets (F := F) hF hG (bG.si e2 rfl) (bL.si e2 rfl) hW (bW.si e2 rfl) hf hg hs ht' h6 h7
          refine ⟨if alw σ pl cl f s g t' = true then 1 else 0, σ1, σ2, ?_, ?_, e2, g2⟩
          · rw [if_neg k1, if_neg k2, e1, bnd_some]
            cases alw σ pl cl f s g t' <;> rfl
          · rw [if_neg k1, if_neg k2, g1, bnd_some]
            cases alw σ pl cl f s g t' <;> rfl
      obtain ⟨rr, σ1, σ2, j1, j2, j3, j4⟩ := J
      have hf' : Fx mS σ σ2 := (j3.sub rfl).tr (j4.sub rfl)
      rw [if_neg n6, if_neg n7] at X
      by_cases k1 : k = 1
      · rw [if_pos k1] at X
        exact ⟨rr, σ1, σ2, X.trans j1, by rw [M _ (bG.si j3 rfl), if_neg n6, if_neg n7, if_pos k1, j2], a, by omega, RR.scr ⟨n, t, r, p, kc, x, ko, pl, ql, cl, ⟨hG, hH, hT, hN, hK, hD, hX, hW⟩, ⟨bG, bH, bL, bT, bN, bK, bP, bD, bX, bW⟩, hP⟩ hf'⟩
      · rw [if_neg k1, h6, h7, e_areNext hs ht', bnd_some] at X
        by_cases hx : nxt s t' = true
        · rw [if_pos hx, if_neg b1n] at X
          exact ⟨rr, σ1, σ2, X.trans j1, by rw [M _ (bG.si j3 rfl), if_neg n6, if_neg n7, if_neg k1, e_sitNextM (by omega) hG (bG.si j3 rfl) hf hg hs ht' h6 h7, if_pos hx, bnd_some, if_neg b1n, j2], a, by omega, RR.scr ⟨n, t, r, p, kc, x, ko, pl, ql, cl, ⟨hG, hH, hT, hN, hK, hD, hX, hW⟩, ⟨bG, bH, bL, bT, bN, bK, bP, bD, bX, bW⟩, hP⟩ hf'⟩
        · rw [if_neg hx, if_pos rfl] at X
          exact OP.no ⟨n, t, r, p, kc, x, ko, pl, ql, cl, ⟨hG, hH, hT, hN, hK, hD, hX, hW⟩, ⟨bG, bH, bL, bT, bN, bK, bP, bD, bX, bW⟩, hP⟩ (-2) X (by rw [M σ bG, if_neg n6, if_neg n7, if_neg k1, e_sitNextM (by omega) hG bG hf hg hs ht' h6 h7, if_neg hx, bnd_some, if_pos rfl])
    · refine OP.no ⟨n, t, r, p, kc, x, ko, pl, ql, cl, ⟨hG, hH, hT, hN, hK, hD, hX, hW⟩, ⟨bG, bH, bL, bT, bN, bK, bP, bD, bX, bW⟩, hP⟩ (-1) ?_ ?_
      · unfold f_X11_two
        simp only [i_lt]
        rw [if_neg (by omega), if_neg (by omega), e_areTwo hn hG.2.1, if_neg hc, bnd_some, if_pos rfl]
      · unfold f_X12_two
        simp only [e_isGuest hn bG.1, bnd_some, b01]
        split
        · split
          · rw [if_pos (by by_cases hh : v = w; · exact hh
                           · exact absurd ⟨hh, by assumption, by assumption⟩ hc)]
          · rfl
        · rfl
  · refine OP.no ⟨n, t, r, p, kc, x, ko, pl, ql, cl, ⟨hG, hH, hT, hN, hK, hD, hX, hW⟩, ⟨bG, bH, bL, bT, bN, bK, bP, bD, bX, bW⟩, hP⟩ (-1) ?_ ?_
    · unfold f_X11_two
      simp only [i_lt]
      by_cases h0 : k.toInt < 0
      · rw [if_pos (by omega)]
      · rw [if_neg (by omega), if_pos (by omega)]
    · unfold f_X12_two
      simp only [e_isGuest hn bG.1, e_in, bnd_some, b01]
      split
      · split
        · split
          · rfl
          · rw [if_neg (by omega)]
        · rfl
      · rfl
theorem e_isMinute (v : Int32) (s : zM) : f_X5_isMinute v s = some (if gd 1000 v then 1 else 0, s) := by
  unfold f_X5_isMinute
  simp only [i_lt]
  have : (999 : Int32).toInt = 999 := rfl
  have : (0 : Int32).toInt = 0 := rfl
  repeat' split
  all_goals first | rfl | (exfalso; simp [gd] at *; omega)
theorem e_isMinuteM (v : Int32) (s : zM) : f_X12_isMinute v s = some (if gd 1000 v then 1 else 0, s) := by
  unfold f_X12_isMinute
  simp only [i_lt]
  have : (999 : Int32).toInt = 999 := rfl
  have : (0 : Int32).toInt = 0 := rfl
  repeat' split
  all_goals first | rfl | (exfalso; simp [gd] at *; omega)
theorem e_isPlaceM (v : Int32) (s : zM) : f_X12_isPlace v s = some (if 0 ≤ v.toInt ∧ v.toInt < 20 then 1 else 0, s) := by
  unfold f_X12_isPlace
  simp only [i_lt]
  have : (20 : Int32).toInt = 20 := rfl
  have : (0 : Int32).toInt = 0 := rfl
  repeat' split
  all_goals first | rfl | (exfalso; omega)
