/-! ===== undo ===== -/
theorem IG.setal {n g : Nat} {α : zM} {v : Int32} (h : IG n α) (hg : g < n) (hv : v = 0 ∨ v = 1) (h6 : zg α 6 g = -1) : IG n (zs α 5 g v) := by
  obtain ⟨g1, g2, g3, g4, g5, g6⟩ := h
  refine ⟨g1, by rw [zg_ne (by decide)]; exact g2, fun k hk => by rw [zg_ne (by decide)]; exact g3 k hk, fun k hk => ?_, fun s hs => ?_, fun k h1 h2 => by rw [zg_ne (by decide)]; exact g6 k h1 h2⟩
  · rw [zg_row, zg_ne (k' := 6) (by decide)]
    by_cases q : k = g
    · subst q
      rw [if_pos rfl]
      rcases hv with rfl | rfl
      · exact Or.inl ⟨rfl, h6⟩
      · exact Or.inr ⟨rfl, Or.inl h6⟩
    · rw [if_neg q]
      rcases g4 k hk with q | ⟨q1, q | ⟨s, hs, q2, q3⟩⟩
      · exact Or.inl q
      · exact Or.inr ⟨q1, Or.inl q⟩
      · exact Or.inr ⟨q1, Or.inr ⟨s, hs, q2, by rw [zg_ne (by decide)]; exact q3⟩⟩
  · rw [zg_ne (k' := 9) (by decide)]
    rcases g5 s hs with q | ⟨k, hk, q1, q2⟩
    · exact Or.inl q
    · exact Or.inr ⟨k, hk, q1, by rw [zg_ne (by decide)]; exact q2⟩
theorem iG_up0 {n g : Nat} {α : zM} (h : IG n α) (hg : g < n) : IG n (plc α g (-1)) := by
  rcases h.2.2.2.1 g hg with ⟨h5, h6⟩ | ⟨h5, -⟩
  · have : plc α g (-1) = zs α 6 g (-1) := by
      unfold plc
      dsimp only
      rw [if_pos h6, if_pos rfl]
    rw [this]
    refine h.fx (m := ([], [])) (fun k j _ => ?_) rfl
    rw [zg_zs]
    split
    · rename_i q; rw [q.1, q.2, h6]
    · rfl
  · exact h.plc hg h5 (Or.inl rfl)
theorem e_restore {F n : Nat} {σ : zM} (hF : 22 ≤ F) (hG : IG n σ) (h1 : ∀ g, g < n → (zg σ 10 g = 0 ∧ zg σ 11 g = -1) ∨ (zg σ 10 g = 1 ∧ (zg σ 11 g = -1 ∨ ∃ s, s < 40 ∧ zg σ 11 g = nI s))) (h2 : ∀ g h, g < n → h < n → zg σ 11 g = zg σ 11 h → zg σ 11 g ≠ -1 → g = h) : ∃ σ', f_X0_restore F σ = some ((), σ') ∧ Fx ([5, 6, 9], []) σ σ' ∧ IG n σ' ∧ ∀ g, g < n → zg σ' 5 g = zg σ 10 g ∧ zg σ' 6 g = zg σ 11 g := by
  have hn := hG.1
  have L24 : ∀ (m fu k : Nat) (τ : zM), k + m = n → m < fu → Fx ([5, 6, 9], []) σ τ → IG n τ → (∀ g, g < k → zg τ 5 g = zg σ 10 g ∧ zg τ 6 g = zg σ 11 g) → (∀ g, k ≤ g → g < n → zg τ 6 g = -1) → ∃ σ', f_X0_restore_L24 F (fun s7 => some ((), s7)) fu (nI k) τ = some ((), σ') ∧ Fx ([5, 6, 9], []) σ σ' ∧ IG n σ' ∧ ∀ g, g < n → zg σ' 5 g = zg σ 10 g ∧ zg σ' 6 g = zg σ 11 g := by
    intro m
    induction m with
    | zero =>
      intro fu k τ hk hfu hf hGt hd hr
      obtain ⟨fu, rfl⟩ : ∃ f', fu = f' + 1 := ⟨fu - 1, by omega⟩
      refine ⟨τ, ?_, hf, hGt, fun g hg => hd g (by omega)⟩
      rw [f_X0_restore_L24, hGt.2.1, if_neg (by rw [nI_ltI (by omega) (by omega)]; omega)]
    | succ m ih =>
      intro fu k τ hk hfu hf hGt hd hr
      obtain ⟨fu, rfl⟩ : ∃ f', fu = f' + 1 := ⟨fu - 1, by omega⟩
      have z : zin (nI k) 16 = true := zin_n (by omega) (by omega)
      have hkn : k < n := by omega
      have h01 : zg σ 10 k = 0 ∨ zg σ 10 k = 1 := by
        rcases h1 k hkn with q | q
        · exact Or.inl q.1
        · exact Or.inr q.1
      have h6 := hr k (Nat.le_refl _) hkn
      have hG1 : IG n (zs τ 5 k (zg σ 10 k)) := hGt.setal hkn h01 h6
      have s6 : ∀ g, zg (zs τ 5 k (zg σ 10 k)) 6 g = zg τ 6 g := fun g => zg_ne (by decide)
      have hv : zg σ 11 k = -1 ∨ ∃ s, s < 40 ∧ zg σ 11 k = nI s ∧ zg σ 10 k = 1 := by
        rcases h1 k hkn with q | ⟨q1, q | ⟨s, hs, q⟩⟩
        · exact Or.inl q.2
        · exact Or.inl q
        · exact Or.inr ⟨s, hs, q, q1⟩
      have hG2 : IG n (plc (zs τ 5 k (zg σ 10 k)) k (zg σ 11 k)) := by
        rcases hv with q | ⟨s, hs, q, q1⟩
        · rw [q]; exact iG_up0 hG1 hkn
        · refine hG1.plc hkn (by rw [zg_eq]; exact q1) (Or.inr ⟨s, hs, q, ?_⟩)
          rcases hG1.2.2.2.2.1 s hs with e | ⟨h, hh, e1, e2⟩
          · exact e
          · rw [s6] at e2
            by_cases hhk : h < k
            · have := (hd h hhk).2
              rw [e2] at this
              have hk' := h2 h k hh hkn (by rw [← this, q]) (by rw [← this]; exact nI_m1 (by omega))
              omega
            · have := hr h (by omega) hh
              rw [e2] at this; exact absurd this (nI_m1 (by omega))
      have hfx : Fx ([5, 6, 9], []) τ (plc (zs τ 5 k (zg σ 10 k)) k (zg σ 11 k)) := (Fx.rf.zs rfl).tr ((plc_fx _ _ _).sub rfl)
      have e11 : zg (zs τ 5 k (zg σ 10 k)) 11 k = zg σ 11 k := by rw [zg_ne (by decide)]; exact hf 11 k rfl
      rw [f_X0_restore_L24, hGt.2.1, if_pos (by rw [nI_ltI (by omega) (by omega)]; omega), if_pos (by rw [show (16 : Int32) = nI 16 from rfl, nI_ltI (by omega) (by omega)]; omega), if_pos z, if_pos z, lt_eq, if_pos z, nI_clamp (by omega), hf 10 k rfl, nar01 h01, e11, e_place hn hG1.2.1 hkn (hG1.seat hkn) (hv.imp id fun ⟨s, hs, q, _⟩ => ⟨s, hs, q⟩), bnd_some, lt_eq, nI_1]
      refine ih fu (k + 1) _ (by omega) (by omega) (hf.tr hfx) hG2 (fun g hg => ?_) (fun g hg hgn => ?_)
      · rw [plc_fx _ k _ 5 g rfl, plc_6, zg_row, s6]
        by_cases q : g = k
        · rw [if_pos q, if_pos q, q]; exact ⟨rfl, rfl⟩
        · rw [if_neg q, if_neg q]; exact hd g (by omega)
      · rw [plc_6, s6, if_neg (by omega)]; exact hr g (by omega) hgn
  have L2 : ∀ (m fu k : Nat) (τ : zM), k + m = n → m < fu → Fx ([6, 9], []) σ τ → IG n τ → (∀ g, g < k → zg τ 6 g = -1) → ∃ σ', f_X0_restore_L2 F (fun s3 => f_X0_restore_L24 F (fun s7 => some ((), s7)) F (0 : Int32) s3) fu (nI k) τ = some ((), σ') ∧ Fx ([5, 6, 9], []) σ σ' ∧ IG n σ' ∧ ∀ g, g < n → zg σ' 5 g = zg σ 10 g ∧ zg σ' 6 g = zg σ 11 g := by
    intro m
    induction m with
    | zero =>
      intro fu k τ hk hfu hf hGt hd
      obtain ⟨fu, rfl⟩ : ∃ f', fu = f' + 1 := ⟨fu - 1, by omega⟩
      rw [f_X0_restore_L2, hGt.2.1, if_neg (by rw [nI_ltI (by omega) (by omega)]; omega)]
      exact L24 n F 0 τ (by omega) (by omega) (hf.sub rfl) hGt (fun g hg => absurd hg (by omega)) (fun g _ hg => hd g (by omega))
    | succ m ih =>
      intro fu k τ hk hfu hf hGt hd
      obtain ⟨fu, rfl⟩ : ∃ f', fu = f' + 1 := ⟨fu - 1, by omega⟩
      rw [f_X0_restore_L2, hGt.2.1, if_pos (by rw [nI_ltI (by omega) (by omega)]; omega), e_place hn hGt.2.1 (show k < n by omega) (hGt.seat (by omega)) (Or.inl rfl), bnd_some, lt_eq, nI_1]
      refine ih fu (k + 1) _ (by omega) (by omega) (hf.tr (plc_fx τ k (-1))) (iG_up0 hGt (by omega)) (fun g hg => ?_)
      rw [plc_6]
      by_cases q : g = k
      · rw [if_pos q]
      · rw [if_neg q]; exact hd g (by omega)
  unfold f_X0_restore
  exact L2 n F 0 σ (by omega) (by omega) Fx.rf hG (fun g hg => absurd hg (by omega))
theorem op_undo {F : Nat} (hF : 300 ≤ F) : OP (f_X11_undo F) (f_X12_undo F) := by
  intro a σ ha ⟨n, t, r, p, kc, x, ko, pl, ql, cl, ⟨hG, hH, hT, hN, hK, hD, hX, hW⟩, ⟨bG, bH, bL, bT, bN, bK, bP, bD, bX, bW⟩, hP⟩
  have hn := hG.1
  have e1n : ¬ (nI n = (-1 : Int32)) := nI_m1 (by omega)
  cases ko with
  | none =>
    refine OP.no ⟨n, t, r, p, kc, x, none, pl, ql, cl, ⟨hG, hH, hT, hN, hK, hD, hX, hW⟩, ⟨bG, bH, bL, bT, bN, bK, bP, bD, bX, bW⟩, hP⟩ 0 ?_ ?_
    · unfold f_X11_undo f_X0_number
      rw [bnd_some, show zg σ 0 11 = -1 from hX, hG.2.1, if_neg (fun q => e1n q.symm)]
    · unfold f_X12_undo
      rw [if_pos (show zg σ 69 64 = 0 from bX)]
  | some k =>
    obtain ⟨x1, x2, ⟨y, hy, x3⟩, x4, x5, x6⟩ := hX
    obtain ⟨y1, y2, y3, y4, y5, y6, y7, y8⟩ := bX
    have hX : IX (some k) σ := ⟨x1, x2, ⟨y, hy, x3⟩, x4, x5, x6⟩
    have bX : BX (some k) σ σ := ⟨y1, y2, y3, y4, y5, y6, y7, y8⟩
    by_cases hkn : k = n
    · subst hkn
      have fA0 : Fx ([], [(0, 9)]) σ (zs σ 0 9 (nI y)) := Fx.rf.zs rfl
      have r10 : ∀ j, zg (zs σ 0 9 (nI y)) 10 j = zg σ 10 j := fun j => fA0 10 j rfl
      have r11 : ∀ j, zg (zs σ 0 9 (nI y)) 11 j = zg σ 11 j := fun j => fA0 11 j rfl
      obtain ⟨σ1, s1, s2, s3, s4⟩ := e_restore (F := F) (σ := zs σ 0 9 (nI y)) (by omega) (hG.fx fA0 rfl) (by simpa only [r10, r11] using x4) (by simpa only [r11] using x5)
      simp only [r10, r11] at s4
      have fA1 : Fx ([5, 6, 9], [(0, 9)]) σ σ1 := (fA0.sub rfl).tr (s2.sub rfl)
      obtain ⟨σ2, hσ2⟩ : ∃ σ2, σ2 = zcp (zcp (zcp (zcp (zcp σ1 53 52 40) 65 61 16) 66 62 16) 67 63 16) 68 64 256 := ⟨_, rfl⟩
      have fA2 : Fx ([52, 61, 62, 63, 64], []) σ1 σ2 := by
        rw [hσ2]; exact ((((Fx.rf.cp rfl).cp rfl).cp rfl).cp rfl).cp rfl
      have fA : Fx ([5, 6, 9, 52, 61, 62, 63, 64], [(0, 9)]) σ σ2 := (fA1.sub rfl).tr (fA2.sub rfl)
      have k52 : ∀ j, j < 40 → zg σ2 52 j = zg σ 53 j := by
        intro j hj; rw [hσ2]; simp only [zg_cp]; simp (config := { decide := true }) only [if_false, if_true, if_pos hj]; exact fA1 53 j rfl
      have k61 : ∀ j, j < 16 → zg σ2 61 j = zg σ 65 j ∧ zg σ2 62 j = zg σ 66 j ∧ zg σ2 63 j = zg σ 67 j := by
        intro j hj; rw [hσ2]; simp only [zg_cp]; simp (config := { decide := true }) only [if_false, if_true, if_pos hj]; exact ⟨fA1 65 j rfl, fA1 66 j rfl, fA1 67 j rfl⟩
      have k64 : ∀ j, j < 256 → zg σ2 64 j = zg σ 68 j := by
        intro j hj; rw [hσ2]; simp only [zg_cp]; simp (config := { decide := true }) only [if_false, if_true, if_pos hj]; exact fA1 68 j rfl
      have k9 : zg σ2 0 9 = nI y := by rw [fA2 0 9 rfl, s2 0 9 rfl]; exact zg_eq
      have hG2 : IG k σ2 := s3.fx fA2 rfl
      have X : f_X11_undo F σ = some (1, σ2) := by
        unfold f_X11_undo f_X0_number f_X2_restore f_X7_restore
        rw [bnd_some, x2, hG.2.1, if_pos rfl, x3, lt_eq, s1, bnd_some]
        simp only [lt_eq, bnd_some]
        rw [← hσ2]
      have fM0 : Fx ([], [(69, 1)]) σ2 (zs σ2 69 1 (nI y)) := Fx.rf.zs rfl
      obtain ⟨τ1, c1, f1, r1⟩ := e_copies (F := F) (p := 113) (q := 71) (N := 16) (w := 16) (τ := zs σ2 69 1 (nI y)) rfl (by decide) (by decide) (by decide) (by decide) (by decide) (by omega)
      obtain ⟨τ2, c2, f2, r2⟩ := e_copies (F := F) (p := 114) (q := 100) (N := 40) (w := 40) (τ := τ1) rfl (by decide) (by decide) (by decide) (by decide) (by decide) (by omega)
      obtain ⟨τ3, c3, f3, r3⟩ := e_copies (F := F) (p := 115) (q := 107) (N := 16) (w := 16) (τ := τ2) rfl (by decide) (by decide) (by decide) (by decide) (by decide) (by omega)
      obtain ⟨τ4, c4, f4, r4⟩ := e_copies (F := F) (p := 116) (q := 108) (N := 16) (w := 16) (τ := τ3) rfl (by decide) (by decide) (by decide) (by decide) (by decide) (by omega)
      obtain ⟨τ5, c5, f5, r5⟩ := e_copies (F := F) (p := 117) (q := 109) (N := 16) (w := 16) (τ := τ4) rfl (by decide) (by decide) (by decide) (by decide) (by decide) (by omega)
      obtain ⟨τ6, c6, f6, r6⟩ := e_copies (F := F) (p := 118) (q := 110) (N := 16) (w := 16) (τ := τ5) rfl (by decide) (by decide) (by decide) (by decide) (by decide) (by omega)
      obtain ⟨τ7, c7, f7, r7⟩ := e_copies (F := F) (p := 119) (q := 111) (N := 16) (w := 16) (τ := τ6) rfl (by decide) (by decide) (by decide) (by decide) (by decide) (by omega)
      obtain ⟨τ8, c8, f8, r8⟩ := e_copies (F := F) (p := 120) (q := 112) (N := 256) (w := 256) (τ := τ7) rfl (by decide) (by decide) (by decide) (by decide) (by decide) (by omega)
      have g8 := f8
      have g7 : Fx ([111, 112], []) τ6 τ8 := (f7.sub rfl).tr (f8.sub rfl)
      have g6 : Fx ([110, 111, 112], []) τ5 τ8 := (f6.sub rfl).tr (g7.sub rfl)
      have g5 : Fx ([109, 110, 111, 112], []) τ4 τ8 := (f5.sub rfl).tr (g6.sub rfl)
      have g4 : Fx ([108, 109, 110, 111, 112], []) τ3 τ8 := (f4.sub rfl).tr (g5.sub rfl)
      have g3 : Fx ([107, 108, 109, 110, 111, 112], []) τ2 τ8 := (f3.sub rfl).tr (g4.sub rfl)
      have g2 : Fx ([100, 107, 108, 109, 110, 111, 112], []) τ1 τ8 := (f2.sub rfl).tr (g3.sub rfl)
      have g1 : Fx ([71, 100, 107, 108, 109, 110, 111, 112], []) (zs σ2 69 1 (nI y)) τ8 := (f1.sub rfl).tr (g2.sub rfl)
      have fB : Fx ([71, 100, 107, 108, 109, 110, 111, 112], [(69, 1)]) σ2 τ8 := (fM0.sub rfl).tr (g1.sub rfl)
      have hf : Fx ([5, 6, 9, 52, 61, 62, 63, 64, 71, 100, 107, 108, 109, 110, 111, 112], [(0, 9), (69, 1)]) σ τ8 := (fA.sub rfl).tr (fB.sub rfl)
      have M : f_X12_undo F σ2 = some (1, τ8) := by
        have q64 : ¬ zg σ2 69 64 = 0 := by rw [fA 69 64 rfl, y1]; decide
        unfold f_X12_undo
        rw [if_neg q64, fA 69 0 rfl, fA 69 65 rfl, bG.1, y2, if_pos rfl, fA 69 66 rfl, y3, x3, lt_eq, c1, bnd_some, c2, bnd_some, c3, bnd_some, c4, bnd_some, c5, bnd_some, c6, bnd_some, c7, bnd_some, c8, bnd_some]
      have m64 : ∀ j, j < 256 → zg τ8 64 j = zg σ 68 j := fun j hj => (fB 64 j rfl).trans (k64 j hj)
      refine ⟨1, σ2, τ8, X, M, a, by omega, ?_⟩
      obtain ⟨i1, i2, i3, i4⟩ := hK
      obtain ⟨w1, w2, w3⟩ := bK
      refine ⟨k, t, r, p, kc, y, some k, pl, ql, cl, ⟨hG2.fx fB rfl, hH.fx hf rfl, hT.fx hf rfl, hN.fx hf rfl, ⟨i1, (hf 51 8 rfl).trans i2, ?_, ?_⟩, ⟨hy, (fB 0 9 rfl).trans k9⟩, hX.fx hf rfl, hW.fx hf rfl⟩, ⟨⟨(hf 69 0 rfl).trans bG.1, fun g hg => ⟨?_, ?_⟩⟩, (bH.al hf rfl).si hf rfl, (bL.al hf rfl).si hf rfl, (bT.al hf rfl).si hf rfl, (bN.al hf rfl).si hf rfl, ⟨(hf 69 50 rfl).trans w1, ?_, ?_⟩, ⟨?_, ?_, ?_⟩, ?_, (bX.al hf rfl).si hf rfl, (bW.al hW.or hf rfl).si hf rfl⟩, hP.fx hW.or hf rfl hf rfl⟩
      · intro s hs
        rw [fB 52 s rfl, k52 s hs]; exact x6 s hs
      · intro i hi
        rw [hf 54 i rfl, hf 55 i rfl, hf 56 i rfl, hf 57 i rfl]; exact i4 i hi
      · rw [hf 70 g rfl, hf 4 g rfl]; exact (bG.2 g hg).1
      · rw [g2 71 g rfl, r1, if_pos (by omega), fM0 113 g rfl, fA 113 g rfl, y4 g hg, fB 5 g rfl, fB 6 g rfl, fA2 5 g rfl, fA2 6 g rfl, (s4 g hg).1, (s4 g hg).2]
      · intro s hs
        rw [g3 100 s rfl, r2, if_pos hs, f1 114 s rfl, fM0 114 s rfl, fA 114 s rfl, fB 52 s rfl, k52 s hs]; exact y5 s hs
      · intro i hi
        rw [hf 54 i rfl, hf 55 i rfl, hf 56 i rfl, hf 57 i rfl, hf 101 i rfl, hf 102 i rfl, hf 103 i rfl, hf 104 i rfl]; exact w3 i hi
      · intro g hg
        rw [g4 107 g rfl, r3, if_pos hg, g5 108 g rfl, r4, if_pos hg, g6 109 g rfl, r5, if_pos hg, ← g3 115 g rfl, ← g4 116 g rfl, ← g5 117 g rfl, hf 115 g rfl, hf 116 g rfl, hf 117 g rfl, fB 61 g rfl, fB 62 g rfl, fB 63 g rfl, (k61 g hg).1, (k61 g hg).2.1, (k61 g hg).2.2]
        exact y6 g hg
      · intro i hi
        rw [r8, if_pos hi, ← g8 120 i rfl, hf 120 i rfl, m64 i hi]; exact y7 i hi
      · intro g hg
        rw [g7 110 g rfl, r6, if_pos hg, g8 111 g rfl, r7, if_pos hg, ← g6 118 g rfl, ← g7 119 g rfl, hf 118 g rfl, hf 119 g rfl, (y8 g hg).1, (y8 g hg).2]
        exact ⟨sumI_ext 16 (fun h hh => (m64 _ (by omega)).symm), sumI_ext 16 (fun h hh => (m64 _ (by omega)).symm)⟩
      · show zg τ8 69 1 = nI y
        rw [g1 69 1 rfl]; exact zg_eq
    · have ne : ¬ nI k = nI n := by rw [nI_eq (by omega) (by omega)]; exact hkn
      have SM : RR a σ := ⟨n, t, r, p, kc, x, some k, pl, ql, cl, ⟨hG, hH, hT, hN, hK, hD, hX, hW⟩, ⟨bG, bH, bL, bT, bN, bK, bP, bD, bX, bW⟩, hP⟩
      refine OP.no SM 0 ?_ ?_
      · unfold f_X11_undo f_X0_number
        rw [bnd_some, x2, hG.2.1, if_neg ne]
      · unfold f_X12_undo
        rw [if_neg (by rw [y1]; decide), bG.1, y2, if_neg (fun q => ne q.symm)]
