/-! ===== ops: sit, guest, dies, count ===== -/
theorem e_lives_n {n g : Nat} {σ : zM} (hG : IG n σ) (hg : g < n) : f_X0_lives (nI g) σ = some (if zg σ 5 g = 0 then 0 else 1, σ) := by
  have hn := hG.1
  rw [e_lives hn hG.2.1, nI_clamp (by omega)]
  by_cases h : zg σ 5 g = 0
  · rw [if_neg (fun q => q.2 h), if_pos h]
  · rw [if_pos ⟨by rw [nI_toInt (by omega)]; omega, h⟩, if_neg h]
theorem e_sits_n {n g : Nat} {σ : zM} (hG : IG n σ) (hg : g < n) : f_X0_sits (nI g) σ = some (if zg σ 6 g = -1 then 0 else 1, σ) := by
  have hn := hG.1
  rw [e_sits hn hG.2.1, nI_clamp (by omega)]
  by_cases h : zg σ 6 g = -1
  · rw [if_neg (fun q => q.2 h), if_pos h]
  · rw [if_pos ⟨by rw [nI_toInt (by omega)]; omega, h⟩, if_neg h]
theorem e_at_n {s : Nat} (hs : s < 40) (σ : zM) : f_X0_at (nI s) σ = some (zg σ 9 s, σ) := by
  rw [e_at, if_pos (by rw [nI_toInt (by omega)]; omega), nI_clamp (by omega)]
theorem IG.alive {n g : Nat} {α : zM} (h : IG n α) (hg : g < n) : zg α 5 g = 0 ∨ zg α 5 g = 1 := by
  rcases h.2.2.2.1 g hg with ⟨h, -⟩ | ⟨h, -⟩
  · exact Or.inl h
  · exact Or.inr h
theorem st_plc {n g : Nat} {σ : zM} {v : Int32} (hG : IG n σ) (bG : BG n σ σ) (hg : g < n) (hal : zg σ 5 g = 1) (hv : v = -1 ∨ ∃ k, k < 40 ∧ v = nI k ∧ zg σ 9 k = -1) : Fx ([6, 9, 71], []) σ (zs (plc σ g v) 71 g v) ∧ IG n (zs (plc σ g v) 71 g v) ∧ BG n (zs (plc σ g v) 71 g v) (zs (plc σ g v) 71 g v) := by
  have f1 : Fx ([6, 9, 71], []) σ (zs (plc σ g v) 71 g v) := ((plc_fx σ g v).sub rfl).zs rfl
  refine ⟨f1, (hG.plc hg hal hv).fx (fx1 71 g v) rfl, (f1 69 0 rfl).trans bG.1, fun k hk => ⟨?_, ?_⟩⟩
  · rw [f1 70 k rfl, f1 4 k rfl]; exact (bG.2 k hk).1
  · rw [zg_row, f1 5 k rfl, zg_ne (k' := 6) (by decide), plc_6, plc_fx σ g v 71 k rfl]
    by_cases h : k = g
    · subst h; rw [if_pos rfl, if_pos rfl, hal, if_neg (by decide)]
    · rw [if_neg h, if_neg h]; exact (bG.2 k hk).2
theorem op_sit {F : Nat} (hF : 22 ≤ F) (v w : Int32) : OP (f_X11_sit v w) (f_X12_sit F v w) := by
  intro a σ ha ⟨n, t, r, p, kc, x, ko, pl, ql, cl, ⟨hG, hH, hT, hN, hK, hD, hX, hW⟩, ⟨bG, bH, bL, bT, bN, bK, bP, bD, bX, bW⟩, hP⟩
  have hn := hG.1
  by_cases hc : gd n v
  · obtain ⟨g, hg, rfl, cg⟩ := nI_of' hc (by omega)
    have z : zin (nI g) 16 = true := zin_n (by omega) (by omega)
    rcases hG.alive hg with h5 | h5
    · refine OP.no ⟨n, t, r, p, kc, x, ko, pl, ql, cl, ⟨hG, hH, hT, hN, hK, hD, hX, hW⟩, ⟨bG, bH, bL, bT, bN, bK, bP, bD, bX, bW⟩, hP⟩ 0 ?_ ?_
      · unfold f_X11_sit
        rw [e_lives_n hG hg, if_pos h5, bnd_some, if_pos rfl]
      · unfold f_X12_sit
        have := (bG.2 g hg).2
        rw [if_pos h5] at this
        rw [isGuest_n hn bG.1 hg, bnd_some, if_neg b1n, if_pos z, cg, if_pos this]
    · have n5 : ¬ zg σ 5 g = 0 := by rw [h5]; decide
      have h71 : ¬ zg σ 71 g = -2 := by
        rw [(bG.2 g hg).2, if_neg n5]
        rcases hG.seat hg with h | ⟨s, hs, h⟩
        · rw [h]; decide
        · rw [h]; exact nI_m2 (by omega)
      have go : (w = -1 ∨ ∃ k, k < 40 ∧ w = nI k ∧ zg σ 9 k = -1) → f_X11_sit (nI g) w σ = some (1, plc σ g w) → (∀ τ, BG n σ τ → f_X12_sit F (nI g) w τ = some (1, zs τ 71 g w)) → ∃ r σ1 σ2, f_X11_sit (nI g) w σ = some (r, σ1) ∧ f_X12_sit F (nI g) w σ1 = some (r, σ2) ∧ ∃ a', a' ≤ a + 1 ∧ RR a' σ2 := by
        intro hv X M
        obtain ⟨hf, q1, q2⟩ := st_plc hG bG hg h5 hv
        exact ⟨1, _, _, X, M _ (bG.si (plc_fx σ g w) rfl), a, by omega, ⟨n, t, r, p, kc, x, ko, pl, ql, cl, ⟨q1, hH.fx hf rfl, hT.fx hf rfl, hN.fx hf rfl, hK.fx hf rfl, hD.fx hf rfl, hX.fx hf rfl, hW.fx hf rfl⟩, ⟨q2, (bH.al hf rfl).si hf rfl, (bL.al hf rfl).si hf rfl, (bT.al hf rfl).si hf rfl, (bN.al hf rfl).si hf rfl, (bK.al hf rfl).si hf rfl, (bP.al hf rfl).si hf rfl, (bD.al hf rfl).si hf rfl, (bX.al hf rfl).si hf rfl, (bW.al hW.or hf rfl).si hf rfl⟩, hP.fx hW.or hf rfl hf rfl⟩⟩
      by_cases w1 : w = -1
      · subst w1
        refine go (Or.inl rfl) ?_ (fun τ bt => ?_)
        · unfold f_X11_sit
          rw [e_lives_n hG hg, if_neg n5, bnd_some, if_neg b1n, if_pos rfl, e_place hn hG.2.1 hg (hG.seat hg) (Or.inl rfl)]; rfl
        · have h71t : ¬ zg τ 71 g = -2 := by rw [(bt.2 g hg).2, ← (bG.2 g hg).2]; exact h71
          unfold f_X12_sit
          rw [isGuest_n hn bt.1 hg, bnd_some, if_neg b1n, if_pos z, cg, if_neg h71t, if_pos rfl, if_pos z]; rfl
      by_cases w2 : 0 ≤ w.toInt ∧ w.toInt < 40
      · obtain ⟨s, hs, rfl, cs⟩ := nI_of' (n := 40) w2 (by omega)
        by_cases h9 : zg σ 9 s = -1
        · refine go (Or.inr ⟨s, hs, rfl, h9⟩) ?_ (fun τ bt => ?_)
          · unfold f_X11_sit
            rw [e_lives_n hG hg, if_neg n5, bnd_some, if_neg b1n, if_neg w1, e_isSeat_n hs, bnd_some, if_neg b1n, e_at_n hs, bnd_some, if_pos h9, e_place hn hG.2.1 hg (hG.seat hg) (Or.inr ⟨s, hs, rfl⟩)]; rfl
          · have h71t : ¬ zg τ 71 g = -2 := by rw [(bt.2 g hg).2, ← (bG.2 g hg).2]; exact h71
            unfold f_X12_sit
            rw [isGuest_n hn bt.1 hg, bnd_some, if_neg b1n, if_pos z, cg, if_neg h71t, if_neg w1, e_isSeatM_n hs, bnd_some, if_neg b1n, e_guestAt (by omega) hG bt hs, bnd_some, if_pos h9, if_pos z]; rfl
        · refine OP.no ⟨n, t, r, p, kc, x, ko, pl, ql, cl, ⟨hG, hH, hT, hN, hK, hD, hX, hW⟩, ⟨bG, bH, bL, bT, bN, bK, bP, bD, bX, bW⟩, hP⟩ 0 ?_ ?_
          · unfold f_X11_sit
            rw [e_lives_n hG hg, if_neg n5, bnd_some, if_neg b1n, if_neg w1, e_isSeat_n hs, bnd_some, if_neg b1n, e_at_n hs, bnd_some, if_neg h9]
          · unfold f_X12_sit
            rw [isGuest_n hn bG.1 hg, bnd_some, if_neg b1n, if_pos z, cg, if_neg h71, if_neg w1, e_isSeatM_n hs, bnd_some, if_neg b1n, e_guestAt (by omega) hG bG hs, bnd_some, if_neg h9]
      · refine OP.no ⟨n, t, r, p, kc, x, ko, pl, ql, cl, ⟨hG, hH, hT, hN, hK, hD, hX, hW⟩, ⟨bG, bH, bL, bT, bN, bK, bP, bD, bX, bW⟩, hP⟩ 0 ?_ ?_
        · unfold f_X11_sit
          rw [e_lives_n hG hg, if_neg n5, bnd_some, if_neg b1n, if_neg w1, e_isSeat, if_neg w2, bnd_some, if_pos rfl]
        · unfold f_X12_sit
          rw [isGuest_n hn bG.1 hg, bnd_some, if_neg b1n, if_pos z, cg, if_neg h71, if_neg w1, e_isSeatM, if_neg w2, bnd_some, if_pos rfl]
  · refine OP.no ⟨n, t, r, p, kc, x, ko, pl, ql, cl, ⟨hG, hH, hT, hN, hK, hD, hX, hW⟩, ⟨bG, bH, bL, bT, bN, bK, bP, bD, bX, bW⟩, hP⟩ 0 ?_ ?_
    · unfold f_X11_sit
      rw [e_lives hn hG.2.1, if_neg (fun q => hc q.1), bnd_some, if_pos rfl]
    · unfold f_X12_sit
      rw [e_isGuest hn bG.1, if_neg hc, bnd_some, if_pos rfl]
theorem amt_lc {m : zMk} {p : Nat} {α α' : zM} (hf : Fx m α α') (hd : dis m mLC = true) (hp : p = 16 ∨ p = 25) (le : Nat → Int32) (kind lo hi : Int32) : ∀ (c k : Nat), amt α' p le kind lo hi c k = amt α p le kind lo hi c k := by
  obtain ⟨h1, h2, h3, h4, h5, h6, h7⟩ := lc_rows hf hd hp
  intro c
  induction c with
  | zero => intro k; rfl
  | succ c ih => intro k; rw [amt, amt, cnd_lw h3 h4 h5 h6, amv_lw h2 h3 h5 h6, h1, ih]
theorem PM.born {m m' : zMk} {n p c a : Nat} {α α' σ σ' : zM} (h : PM n p c a α σ) (hp : p = 16 ∨ p = 25) (hf : Fx m α α') (hd : dis m mLC = true) (h8 : ∀ j, zg α' 8 j = zg α 8 j) (h4 : ∀ g, g < n → zg α' 4 g = zg α 4 g) (hf' : Fx m' σ σ') (hd' : dis m' ([14, 15], [(12, 5)]) = true) : PM (n + 1) p c a α' σ' := by
  obtain ⟨p1, p2, p3, p4⟩ := h
  refine ⟨(hf' 12 5 (dis_fld hd' (by simp))).trans p1, p2, fun f g s e h1 h2 h3 h4' => ?_, fun g s h1 h2 => ?_⟩
  · obtain ⟨v, q1, q2, q3⟩ := p3 f g s e h1 h2 h3 h4'
    refine ⟨v, q1, (hf' 14 _ (dis_row hd' (by simp) _)).trans q2, fun hv => ⟨by have := (q3 hv).1; omega, fun t ht hd2 hn => ((q3 hv).2 t ht hd2 hn).trans ?_⟩⟩
    have hgn := (q3 hv).1
    unfold hrm
    rw [amt_lc hf hd hp]
    congr 1
    funext j; unfold lett; rw [h4 f (by omega), h4 g hgn, h8, h8]
  · obtain ⟨v, q1, q2, q3⟩ := p4 g s h1 h2
    refine ⟨v, q1, (hf' 15 _ (dis_row hd' (by simp) _)).trans q2, fun hv => ⟨by have := (q3 hv).1; omega, (q3 hv).2.trans ?_⟩⟩
    unfold wrt
    rw [amt_lc hf hd hp]
    congr 1
    funext j; unfold lett1; rw [h4 g (q3 hv).1]
theorem op_guest {F : Nat} (hF : 22 ≤ F) (v w : Int32) : OP (f_X11_guest v w) (f_X12_guest F v w) := by
  intro a σ ha ⟨n, t, r, p, kc, x, ko, pl, ql, cl, ⟨hG, hH, hT, hN, hK, hD, hX, hW⟩, ⟨bG, bH, bL, bT, bN, bK, bP, bD, bX, bW⟩, hP⟩
  have hn := hG.1
  have t0 : (0 : Int32).toInt = 0 := rfl
  have t1 : (1 : Int32).toInt = 1 := rfl
  by_cases hc : (0 ≤ v.toInt ∧ v.toInt < 2) ∧ (w = -1 ∨ (0 ≤ w.toInt ∧ w.toInt < 40))
  · have X : f_X11_guest v w σ = f_X11_guest_j21 v w σ := by
      unfold f_X11_guest
      simp only [i_lt]
      rw [if_neg (by omega), if_neg (by omega)]
      by_cases w1 : w = -1
      · rw [if_pos w1]
      · rw [if_neg w1, e_isSeat, if_pos (hc.2.resolve_left w1), bnd_some, if_neg b1n]
    have M : ∀ τ, f_X12_guest F v w τ = f_X12_guest_j21 F v w τ := by
      intro τ
      unfold f_X12_guest
      rw [e_in, if_pos (by omega), bnd_some, if_neg b1n]
      by_cases w1 : w = -1
      · rw [if_pos w1]
      · rw [if_neg w1, e_isSeatM, if_pos (hc.2.resolve_left w1), bnd_some, if_neg b1n]
    by_cases hn16 : n = 16
    · refine OP.no ⟨n, t, r, p, kc, x, ko, pl, ql, cl, ⟨hG, hH, hT, hN, hK, hD, hX, hW⟩, ⟨bG, bH, bL, bT, bN, bK, bP, bD, bX, bW⟩, hP⟩ (-1) (X.trans ?_) ((M σ).trans ?_)
      · unfold f_X11_guest_j21
        rw [e_isFull hn hG.2.1, if_neg (by omega), bnd_some, if_neg b1n]
      · unfold f_X12_guest_j21
        rw [bG.1, if_pos (by rw [hn16]; rfl)]
    have m16 : ∀ τ, zg τ 69 0 = nI n → ¬ zg τ 69 0 = 16 := fun τ h q => hn16 ((nI_eq (b := 16) (by omega) (by omega)).mp (h.symm.trans q))
    by_cases hocc : ∃ s, s < 40 ∧ w = nI s ∧ ¬ zg σ 9 s = -1
    · obtain ⟨s, hs, rfl, h9⟩ := hocc
      refine OP.no ⟨n, t, r, p, kc, x, ko, pl, ql, cl, ⟨hG, hH, hT, hN, hK, hD, hX, hW⟩, ⟨bG, bH, bL, bT, bN, bK, bP, bD, bX, bW⟩, hP⟩ (-2) (X.trans ?_) ((M σ).trans ?_)
      · unfold f_X11_guest_j21
        rw [e_isFull hn hG.2.1, if_pos (by omega), bnd_some, if_pos rfl, if_neg (nI_m1 (by omega)), e_at_n hs, bnd_some, if_neg h9]
      · unfold f_X12_guest_j21
        rw [if_neg (m16 σ bG.1), if_neg (nI_m1 (by omega)), e_guestAt (by omega) hG bG hs, bnd_some, if_neg h9]
    have hv : w = -1 ∨ ∃ k, k < 40 ∧ w = nI k ∧ zg σ 9 k = -1 := by
      rcases hc.2 with h | h
      · exact Or.inl h
      · obtain ⟨s, hs, rfl, -⟩ := nI_of' (n := 40) h (by omega)
        by_cases h9 : zg σ 9 s = -1
        · exact Or.inr ⟨s, hs, rfl, h9⟩
        · exact absurd ⟨s, hs, rfl, h9⟩ hocc
    obtain ⟨ld, hld, rfl, -⟩ := nI_of' (n := 2) hc.1 (by omega)
    have z : zin (nI n) 16 = true := zin_n (by omega) (by omega)
    -- the newcomer, not seated yet
    have f0 : Fx ([4, 5, 70], [(3, 8), (69, 0)]) σ (zs (zs (zs σ 3 8 (nI (n + 1))) 4 n (nI ld)) 5 n 1) := ((Fx.rf.zs rfl).zs rfl).zs rfl
    have hG1 : IG (n + 1) (zs (zs (zs σ 3 8 (nI (n + 1))) 4 n (nI ld)) 5 n 1) := by
      obtain ⟨-, g2, g3, g4, g5, g6⟩ := hG
      refine ⟨by omega, by simp [zg_zs], fun k hk => ?_, fun k hk => ?_, fun s hs => ?_, fun k hk hk' => ?_⟩
      · by_cases h : k = n
        · subst h
          rcases (show ld = 0 ∨ ld = 1 by omega) with rfl | rfl
          · exact Or.inl (by simp [zg_zs]; rfl)
          · exact Or.inr (by simp [zg_zs]; rfl)
        · have := g3 k (by omega)
          simpa [zg_zs, h] using this
      · rw [f0 6 k rfl]
        by_cases h : k = n
        · subst h
          exact Or.inr ⟨by simp [zg_zs], Or.inl (g6 k (Nat.le_refl _) (by omega))⟩
        · have e5 : zg (zs (zs (zs σ 3 8 (nI (n + 1))) 4 n (nI ld)) 5 n 1) 5 k = zg σ 5 k := by simp [zg_zs, h]
          rw [e5]
          rcases g4 k (by omega) with q | ⟨q1, q | ⟨s, hs, q2, q3⟩⟩
          · exact Or.inl q
          · exact Or.inr ⟨q1, Or.inl q⟩
          · exact Or.inr ⟨q1, Or.inr ⟨s, hs, q2, by rw [f0 9 s rfl]; exact q3⟩⟩
      · rw [f0 9 s rfl]
        rcases g5 s hs with q | ⟨k, hk, q1, q2⟩
        · exact Or.inl q
        · exact Or.inr ⟨k, by omega, q1, by rw [f0 6 k rfl]; exact q2⟩
      · rw [f0 6 k rfl]; exact g6 k (by omega) hk'
    have hal : zg (zs (zs (zs σ 3 8 (nI (n + 1))) 4 n (nI ld)) 5 n 1) 5 n = 1 := by simp [zg_zs]
    have hv1 : w = -1 ∨ ∃ k, k < 40 ∧ w = nI k ∧ zg (zs (zs (zs σ 3 8 (nI (n + 1))) 4 n (nI ld)) 5 n 1) 9 k = -1 := hv.imp id fun ⟨k, hk, e, q⟩ => ⟨k, hk, e, by rw [f0 9 k rfl]; exact q⟩
    have hGp := hG1.plc (g := n) (by omega) hal hv1
    generalize hσ' : plc (zs (zs (zs σ 3 8 (nI (n + 1))) 4 n (nI ld)) 5 n 1) n w = σ' at hGp
    have f1 : Fx ([4, 5, 6, 9], [(3, 8)]) σ σ' := by
      rw [← hσ']
      exact (show Fx ([4, 5, 6, 9], [(3, 8)]) σ _ from ((Fx.rf.zs rfl).zs rfl).zs rfl).tr ((plc_fx _ n w).sub rfl)
    have e4 : ∀ k, zg σ' 4 k = if k = n then nI ld else zg σ 4 k := by
      intro k; rw [← hσ', plc_fx _ n w 4 k rfl]; simp [zg_zs]
    have e5 : ∀ k, zg σ' 5 k = if k = n then 1 else zg σ 5 k := by
      intro k; rw [← hσ', plc_fx _ n w 5 k rfl]; simp [zg_zs]
    have e6 : ∀ k, zg σ' 6 k = if k = n then w else zg σ 6 k := by
      intro k; rw [← hσ', plc_6, f0 6 k rfl]
    have X2 : f_X11_guest_j21 (nI ld) w σ = some (nI n, σ') := by
      have A : f_X0_add (nI ld) w σ = some (nI n, σ') := by
        unfold f_X0_add
        rw [e_isFull hn hG.2.1, if_pos (by omega), bnd_some, if_pos rfl, hG.2.1, lt_eq, lt_eq, if_pos z, lt_eq, if_pos z, lt_eq, nI_1, nI_clamp (by omega), show vp_nar .boolean (1 : Int32) = 1 from rfl, e_place (n := n + 1) (by omega) hG1.2.1 (by omega) (hG1.seat (by omega)) (hv.imp id fun ⟨k, hk, e, _⟩ => ⟨k, hk, e⟩), bnd_some, hσ']
      unfold f_X11_guest_j21
      rw [e_isFull hn hG.2.1, if_pos (by omega), bnd_some, if_pos rfl]
      rcases hv with h | ⟨s, hs, rfl, h9⟩
      · rw [if_pos h, A, bnd_some]
      · rw [if_neg (nI_m1 (by omega)), e_at_n hs, bnd_some, if_pos h9, A, bnd_some]
    have b69 : zg σ' 69 0 = nI n := (f1 69 0 rfl).trans bG.1
    have M2 : f_X12_guest_j21 F (nI ld) w σ' = some (nI n, zs (zs (zs σ' 70 n (nI ld)) 71 n w) 69 0 (nI (n + 1))) := by
      have J : f_X12_guest_j49 F (nI ld) w σ' = some (nI n, zs (zs (zs σ' 70 n (nI ld)) 71 n w) 69 0 (nI (n + 1))) := by
        unfold f_X12_guest_j49
        have q : ∀ (k j : Nat) (x : Int32), ¬ k = 69 → zg (zs σ' k j x) 69 0 = nI n := fun k j x hk => by rw [zg_ne (fun q => hk q.symm)]; exact b69
        have q2 : ∀ (k j k' j' : Nat) (x x' : Int32), ¬ k = 69 → ¬ k' = 69 → zg (zs (zs σ' k j x) k' j' x') 69 0 = nI n := fun k j k' j' x x' hk hk' => by rw [zg_ne (fun q => hk' q.symm)]; exact q k j x hk
        rw [b69, if_pos z, lt_eq, nI_clamp (by omega), q _ _ _ (by decide), if_pos z, lt_eq, lt_eq, nI_clamp (by omega), q2 _ _ _ _ _ _ (by decide) (by decide), nI_1, zg_eq, show (1 : Int32) = nI 1 from rfl, pk_sub (by omega)]; rfl
      unfold f_X12_guest_j21
      rw [if_neg (m16 σ' b69)]
      rcases hv with h | ⟨s, hs, rfl, h9⟩
      · rw [if_pos h, J]
      · rw [if_neg (nI_m1 (by omega)), e_guestAt (by omega) hG (bG.si f1 rfl) hs, bnd_some, if_pos h9, J]
    refine ⟨nI n, σ', _, X.trans X2, (M _).trans M2, a, by omega, ?_⟩
    have f2 : Fx ([70, 71], [(69, 0)]) σ' (zs (zs (zs σ' 70 n (nI ld)) 71 n w) 69 0 (nI (n + 1))) := ((Fx.rf.zs rfl).zs rfl).zs rfl
    have hf : Fx ([4, 5, 6, 9, 70, 71], [(3, 8), (69, 0)]) σ (zs (zs (zs σ' 70 n (nI ld)) 71 n w) 69 0 (nI (n + 1))) := (f1.sub rfl).tr (f2.sub rfl)
    refine ⟨n + 1, t, r, p, kc, x, ko, pl, ql, cl, ⟨hGp.fx f2 rfl, ?_, hT.fx hf rfl, hN.fx hf rfl, hK.fx hf rfl, hD.fx hf rfl, hX.fx hf rfl, hW.fx' hf rfl⟩, ⟨⟨zg_eq, ?_⟩, (bH.al hf rfl).si hf rfl, (bL.al hf rfl).si hf rfl, (bT.al hf rfl).si hf rfl, (bN.al hf rfl).si hf rfl, (bK.al hf rfl).si hf rfl, (bP.al hf rfl).si hf rfl, (bD.al hf rfl).si hf rfl, (bX.al hf rfl).si hf rfl, (bW.al' hW.or hf rfl).si hf rfl⟩, hP.born hW.or hf rfl (fun j => hf 8 j rfl) ?_ hf rfl⟩
    · intro k hk
      rw [hf 7 k rfl]
      rcases hH k hk with q | ⟨y, hy, q⟩
      · exact Or.inl q
      · exact Or.inr ⟨y, by omega, q⟩
    · intro k hk
      rw [f2 4 k rfl, f2 5 k rfl, f2 6 k rfl, e4, e5, e6]
      by_cases h : k = n
      · subst h; simp [zg_zs]
      · have := bG.2 k (by omega)
        have r70 : zg σ' 70 k = zg σ 70 k := f1 70 k rfl
        have r71 : zg σ' 71 k = zg σ 71 k := f1 71 k rfl
        rw [← r70, ← r71] at this
        simpa [zg_zs, h] using this
    · intro k hk
      rw [f2 4 k rfl, e4, if_neg (by omega)]
  · refine OP.no ⟨n, t, r, p, kc, x, ko, pl, ql, cl, ⟨hG, hH, hT, hN, hK, hD, hX, hW⟩, ⟨bG, bH, bL, bT, bN, bK, bP, bD, bX, bW⟩, hP⟩ (-1) ?_ ?_
    · unfold f_X11_guest
      simp only [i_lt]
      by_cases a1 : v.toInt < 0
      · rw [if_pos (by omega)]
      · rw [if_neg (by omega)]
        by_cases a2 : 1 < v.toInt
        · rw [if_pos (by omega)]
        · rw [if_neg (by omega), if_neg (fun q => hc ⟨⟨by omega, by omega⟩, Or.inl q⟩), e_isSeat, if_neg (fun q => hc ⟨⟨by omega, by omega⟩, Or.inr q⟩), bnd_some, if_pos rfl]
    · unfold f_X12_guest
      rw [e_in, bnd_some, b01]
      by_cases a1 : (0 : Int32).toInt ≤ v.toInt ∧ v.toInt ≤ (1 : Int32).toInt
      · rw [if_pos a1, if_neg (fun q => hc ⟨⟨by omega, by omega⟩, Or.inl q⟩), e_isSeatM, if_neg (fun q => hc ⟨⟨by omega, by omega⟩, Or.inr q⟩), bnd_some, if_pos rfl]
      · rw [if_neg a1]
