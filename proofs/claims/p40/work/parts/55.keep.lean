/-! ===== keep, undo ===== -/
theorem zg_cp (σ : zM) (k0 k1 n k j : Nat) : zg (zcp σ k0 k1 n) k j = if k = k1 then (if j < n then zg σ k0 j else zg σ k j) else zg σ k j := rfl
theorem Fx.cp {m : zMk} {σ σ' : zM} {k0 k1 n : Nat} (h : Fx m σ σ') (hin : m.1.contains k1 = true) : Fx m σ (zcp σ' k0 k1 n) := by
  intro a b hab
  rw [zg_cp]
  by_cases hk : a = k1
  · subst hk; simp only [inm, hin, Bool.true_or] at hab; cases hab
  · rw [if_neg hk]; exact h a b hab
theorem e_copies {F p q N : Nat} {w : Int32} {τ : zM} (hw : w = nI N) (hpq : ¬ p = q) (hp : N ≤ zlenS p) (hq : N ≤ zlenS q) (hp2 : zlenS p < 2 ^ 31) (hq2 : zlenS q < 2 ^ 31) (hF : N < F) : ∃ τ', f_X12_copies F p q w τ = some ((), τ') ∧ Fx ([q], []) τ τ' ∧ ∀ j, zg τ' q j = if j < N then zg τ p j else zg τ q j := by
  subst hw
  have key : ∀ (m fu k : Nat) (τ1 : zM), k + m = N → m < fu → Fx ([q], []) τ τ1 → (∀ j, zg τ1 q j = if j < k then zg τ p j else zg τ q j) → ∃ τ', f_X12_copies_L2 F p q (fun s3 => some ((), s3)) (nI N) fu (nI k) τ1 = some ((), τ') ∧ Fx ([q], []) τ τ' ∧ ∀ j, zg τ' q j = if j < N then zg τ p j else zg τ q j := by
    intro m
    induction m with
    | zero =>
      intro fu k τ1 hk hfu hf h
      obtain ⟨fu, rfl⟩ : ∃ f', fu = f' + 1 := ⟨fu - 1, by omega⟩
      refine ⟨τ1, ?_, hf, ?_⟩
      · rw [f_X12_copies_L2, if_neg (by rw [nI_ltI (by omega) (by omega)]; omega)]
      · rw [show N = k by omega]; exact h
    | succ m ih =>
      intro fu k τ1 hk hfu hf h
      obtain ⟨fu, rfl⟩ : ∃ f', fu = f' + 1 := ⟨fu - 1, by omega⟩
      rw [f_X12_copies_L2, if_pos (by rw [nI_ltI (by omega) (by omega)]; omega), if_pos (zin_n hp2 (by omega)), if_pos (zin_n hq2 (by omega)), lt_eq, lt_eq, nI_1, nI_clamp (by omega)]
      have ep : zg τ1 p k = zg τ p k := hf p k (by simp [inm, hpq])
      refine ih fu (k + 1) _ (by omega) (by omega) (hf.zs (by simp [inm])) (fun j => ?_)
      rw [zg_row, ep, h]
      by_cases hj : j = k
      · subst hj; rw [if_pos rfl, if_pos (by omega)]
      · rw [if_neg hj]
        by_cases hj2 : j < k
        · rw [if_pos hj2, if_pos (by omega)]
        · rw [if_neg hj2, if_neg (by omega)]
  exact key N F 0 τ (by omega) hF Fx.rf (fun j => by rw [if_neg (by omega)])
def cntI (α : zM) : Nat → Nat → Int32 → Int32
  | 0, _, acc => acc
  | m + 1, g, acc => cntI α m (g + 1) (if zg α 6 g = -1 then acc else acc + 1)
theorem e_cntA {F n : Nat} {α σ : zM} (hF : 22 ≤ F) (hG : IG n α) (h6 : Fx ([10, 11, 53, 65, 66, 67, 68], [(0, 10), (0, 11)]) α σ) : f_X11_keep_L44 F (fun y16 s15 => some (y16, s15)) F (0 : Int32) (0 : Int32) σ = some (cntI α n 0 0, σ) := by
  have hn := hG.1
  have hGσ : IG n σ := hG.fx h6 rfl
  have key : ∀ (m fu g : Nat) (acc : Int32), g + m = n → m < fu → f_X11_keep_L44 F (fun y16 s15 => some (y16, s15)) fu acc (nI g) σ = some (cntI α m g acc, σ) := by
    intro m
    induction m with
    | zero =>
      intro fu g acc hg hfu
      obtain ⟨fu, rfl⟩ : ∃ f', fu = f' + 1 := ⟨fu - 1, by omega⟩
      rw [f_X11_keep_L44, f_X0_number, bnd_some, hGσ.2.1, if_neg (by rw [nI_ltI (by omega) (by omega)]; omega)]; rfl
    | succ m ih =>
      intro fu g acc hg hfu
      obtain ⟨fu, rfl⟩ : ∃ f', fu = f' + 1 := ⟨fu - 1, by omega⟩
      rw [f_X11_keep_L44, f_X0_number, bnd_some, hGσ.2.1, if_pos (by rw [nI_ltI (by omega) (by omega)]; omega), e_sits_n hGσ (show g < n by omega), bnd_some, b10, h6 6 g rfl, lt_eq, lt_eq, lt_eq, nI_1, cntI]
      split <;> exact ih fu (g + 1) _ (by omega) (by omega)
  exact key n F 0 0 (by omega) (by omega)
theorem e_cntM {F n : Nat} {α σ : zM} (hF : 22 ≤ F) (hG : IG n α) (hB : BG n α σ) : f_X12_keep_L130 F (fun y16 s15 => some (y16, s15)) F (0 : Int32) (0 : Int32) σ = some (cntI α n 0 0, σ) := by
  have hn := hG.1
  have add0 : ∀ v : Int32, v + 0 = v := fun v => by simp
  have key : ∀ (m fu g : Nat) (acc : Int32), g + m = n → m < fu → f_X12_keep_L130 F (fun y16 s15 => some (y16, s15)) fu acc (nI g) σ = some (cntI α m g acc, σ) := by
    intro m
    induction m with
    | zero =>
      intro fu g acc hg hfu
      obtain ⟨fu, rfl⟩ : ∃ f', fu = f' + 1 := ⟨fu - 1, by omega⟩
      rw [f_X12_keep_L130, hB.1, if_neg (by rw [nI_ltI (by omega) (by omega)]; omega)]; rfl
    | succ m ih =>
      intro fu g acc hg hfu
      obtain ⟨fu, rfl⟩ : ∃ f', fu = f' + 1 := ⟨fu - 1, by omega⟩
      rw [f_X12_keep_L130, hB.1, if_pos (by rw [nI_ltI (by omega) (by omega)]; omega), e_sitsM hG hB (show g < n by omega), bnd_some, b10, lt_eq, lt_eq, lt_eq, lt_eq, nI_1, add0, cntI]
      split <;> exact ih fu (g + 1) _ (by omega) (by omega)
  exact key n F 0 0 (by omega) (by omega)
theorem nar01 {x : Int32} (h : x = 0 ∨ x = 1) : vp_nar .boolean x = x := by rcases h with rfl | rfl <;> rfl
theorem e_store {F n : Nat} {σ : zM} (hF : 22 ≤ F) (hG : IG n σ) : ∃ σ', f_X0_store F σ = some ((), σ') ∧ Fx ([10, 11], []) σ σ' ∧ (∀ j, j < 16 → zg σ' 11 j = zg σ 6 j) ∧ ∀ j, j < n → zg σ' 10 j = zg σ 5 j := by
  have hn := hG.1
  have key : ∀ (m fu k : Nat) (τ1 : zM), k + m = 16 → m < fu → Fx ([10, 11], []) σ τ1 → (∀ j, j < 16 → zg τ1 11 j = zg σ 6 j) → (∀ j, j < k → j < n → zg τ1 10 j = zg σ 5 j) → ∃ σ', f_X0_store_L17 F (fun s4 => some ((), s4)) fu (nI k) τ1 = some ((), σ') ∧ Fx ([10, 11], []) σ σ' ∧ (∀ j, j < 16 → zg σ' 11 j = zg σ 6 j) ∧ ∀ j, j < n → zg σ' 10 j = zg σ 5 j := by
    intro m
    induction m with
    | zero =>
      intro fu k τ1 hk hfu hf h1 h2
      obtain ⟨fu, rfl⟩ : ∃ f', fu = f' + 1 := ⟨fu - 1, by omega⟩
      refine ⟨τ1, ?_, hf, h1, fun j hj => h2 j (by omega) hj⟩
      rw [f_X0_store_L17, if_neg (by rw [show (16 : Int32) = nI 16 from rfl, nI_ltI (by omega) (by omega)]; omega)]
    | succ m ih =>
      intro fu k τ1 hk hfu hf h1 h2
      obtain ⟨fu, rfl⟩ : ∃ f', fu = f' + 1 := ⟨fu - 1, by omega⟩
      have z : zin (nI k) 16 = true := zin_n (by omega) (by omega)
      rw [f_X0_store_L17, if_pos (by rw [show (16 : Int32) = nI 16 from rfl, nI_ltI (by omega) (by omega)]; omega), if_pos z, if_pos z, lt_eq, lt_eq, nI_1, nI_clamp (by omega)]
      refine ih fu (k + 1) _ (by omega) (by omega) (hf.zs rfl) (fun j hj => by rw [zg_ne (by decide)]; exact h1 j hj) (fun j hj hjn => ?_)
      rw [zg_row]
      by_cases q : j = k
      · subst q; rw [if_pos rfl, hf 5 j rfl, nar01 (hG.alive hjn)]
      · rw [if_neg q]; exact h2 j (by omega) hjn
  unfold f_X0_store
  rw [lt_eq]
  refine key 16 F 0 _ (by omega) (by omega) (Fx.rf.cp rfl) (fun j hj => ?_) (fun j hj _ => absurd hj (by omega))
  rw [zg_cp, if_pos rfl, if_pos hj]
theorem op_keep {F : Nat} (hF : 300 ≤ F) : OP (f_X11_keep F) (f_X12_keep F) := by
  intro a σ ha ⟨n, t, r, p, kc, x, ko, pl, ql, cl, ⟨hG, hH, hT, hN, hK, hD, hX, hW⟩, ⟨bG, bH, bL, bT, bN, bK, bP, bD, bX, bW⟩, hP⟩
  have hn := hG.1
  -- the class
  have fA0 : Fx ([], [(0, 10), (0, 11)]) σ (zs (zs σ 0 11 (nI n)) 0 10 (nI x)) := (Fx.rf.zs rfl).zs rfl
  obtain ⟨σ1, s1, s2, s3, s4⟩ := e_store (F := F) (σ := zs (zs σ 0 11 (nI n)) 0 10 (nI x)) (by omega) (hG.fx fA0 rfl)
  have fA1 : Fx ([10, 11], [(0, 10), (0, 11)]) σ σ1 := (fA0.sub rfl).tr (s2.sub rfl)
  obtain ⟨σ2, hσ2⟩ : ∃ σ2, σ2 = zcp (zcp (zcp (zcp (zcp σ1 52 53 40) 61 65 16) 62 66 16) 63 67 16) 64 68 256 := ⟨_, rfl⟩
  have fA2 : Fx ([53, 65, 66, 67, 68], []) σ1 σ2 := by
    rw [hσ2]; exact ((((Fx.rf.cp rfl).cp rfl).cp rfl).cp rfl).cp rfl
  have fA : Fx ([10, 11, 53, 65, 66, 67, 68], [(0, 10), (0, 11)]) σ σ2 := (fA1.sub rfl).tr (fA2.sub rfl)
  have k53 : ∀ j, j < 40 → zg σ2 53 j = zg σ 52 j := by
    intro j hj; rw [hσ2]; simp only [zg_cp]; simp (config := { decide := true }) only [if_false, if_true, if_pos hj]; exact fA1 52 j rfl
  have k65 : ∀ j, j < 16 → zg σ2 65 j = zg σ 61 j ∧ zg σ2 66 j = zg σ 62 j ∧ zg σ2 67 j = zg σ 63 j := by
    intro j hj; rw [hσ2]; simp only [zg_cp]; simp (config := { decide := true }) only [if_false, if_true, if_pos hj]; exact ⟨fA1 61 j rfl, fA1 62 j rfl, fA1 63 j rfl⟩
  have k68 : ∀ j, j < 256 → zg σ2 68 j = zg σ 64 j := by
    intro j hj; rw [hσ2]; simp only [zg_cp]; simp (config := { decide := true }) only [if_false, if_true, if_pos hj]; exact fA1 64 j rfl
  have k11 : ∀ j, j < 16 → zg σ2 11 j = zg σ 6 j := fun j hj => (fA2 11 j rfl).trans ((s3 j hj).trans (fA0 6 j rfl))
  have k10 : ∀ j, j < n → zg σ2 10 j = zg σ 5 j := fun j hj => (fA2 10 j rfl).trans ((s4 j hj).trans (fA0 5 j rfl))
  have kx : zg σ2 0 10 = nI x := by rw [fA2 0 10 rfl, s2 0 10 rfl]; exact zg_eq
  have kn : zg σ2 0 11 = nI n := by rw [fA2 0 11 rfl, s2 0 11 rfl, zg_nj (by decide)]; exact zg_eq
  have X : f_X11_keep F σ = some (cntI σ n 0 0, σ2) := by
    unfold f_X11_keep f_X0_number f_X2_store f_X7_store
    rw [bnd_some, lt_eq, lt_eq, hG.2.1, show zg (zs σ 0 11 (nI n)) 0 9 = nI x from (zg_nj (by decide)).trans hD.2]
    rw [s1, bnd_some]
    simp only [lt_eq, bnd_some]
    rw [← hσ2]
    exact e_cntA (by omega) hG fA
  -- the model
  have fM0 : Fx ([], [(69, 64), (69, 65), (69, 66)]) σ2 (zs (zs (zs σ2 69 64 1) 69 65 (nI n)) 69 66 (nI x)) := ((Fx.rf.zs rfl).zs rfl).zs rfl
  obtain ⟨τ1, c1, f1, r1⟩ := e_copies (F := F) (p := 71) (q := 113) (N := 16) (w := 16) (τ := zs (zs (zs σ2 69 64 1) 69 65 (nI n)) 69 66 (nI x)) rfl (by decide) (by decide) (by decide) (by decide) (by decide) (by omega)
  obtain ⟨τ2, c2, f2, r2⟩ := e_copies (F := F) (p := 100) (q := 114) (N := 40) (w := 40) (τ := τ1) rfl (by decide) (by decide) (by decide) (by decide) (by decide) (by omega)
  obtain ⟨τ3, c3, f3, r3⟩ := e_copies (F := F) (p := 107) (q := 115) (N := 16) (w := 16) (τ := τ2) rfl (by decide) (by decide) (by decide) (by decide) (by decide) (by omega)
  obtain ⟨τ4, c4, f4, r4⟩ := e_copies (F := F) (p := 108) (q := 116) (N := 16) (w := 16) (τ := τ3) rfl (by decide) (by decide) (by decide) (by decide) (by decide) (by omega)
  obtain ⟨τ5, c5, f5, r5⟩ := e_copies (F := F) (p := 109) (q := 117) (N := 16) (w := 16) (τ := τ4) rfl (by decide) (by decide) (by decide) (by decide) (by decide) (by omega)
  obtain ⟨τ6, c6, f6, r6⟩ := e_copies (F := F) (p := 110) (q := 118) (N := 16) (w := 16) (τ := τ5) rfl (by decide) (by decide) (by decide) (by decide) (by decide) (by omega)
  obtain ⟨τ7, c7, f7, r7⟩ := e_copies (F := F) (p := 111) (q := 119) (N := 16) (w := 16) (τ := τ6) rfl (by decide) (by decide) (by decide) (by decide) (by decide) (by omega)
  obtain ⟨τ8, c8, f8, r8⟩ := e_copies (F := F) (p := 112) (q := 120) (N := 256) (w := 256) (τ := τ7) rfl (by decide) (by decide) (by decide) (by decide) (by decide) (by omega)
  have fB : Fx ([113, 114, 115, 116, 117, 118, 119, 120], [(69, 64), (69, 65), (69, 66)]) σ2 τ8 := (fM0.sub rfl).tr ((f1.sub rfl).tr ((f2.sub rfl).tr ((f3.sub rfl).tr ((f4.sub rfl).tr ((f5.sub rfl).tr ((f6.sub rfl).tr ((f7.sub rfl).tr (f8.sub rfl))))))))
  have g18 : Fx ([113, 114, 115, 116, 117, 118, 119, 120], []) (zs (zs (zs σ2 69 64 1) 69 65 (nI n)) 69 66 (nI x)) τ8 := (f1.sub rfl).tr ((f2.sub rfl).tr ((f3.sub rfl).tr ((f4.sub rfl).tr ((f5.sub rfl).tr ((f6.sub rfl).tr ((f7.sub rfl).tr (f8.sub rfl)))))))
  have g8 := f8
  have g7 : Fx ([119, 120], []) τ6 τ8 := (f7.sub rfl).tr (f8.sub rfl)
  have g6 : Fx ([118, 119, 120], []) τ5 τ8 := (f6.sub rfl).tr (g7.sub rfl)
  have g5 : Fx ([117, 118, 119, 120], []) τ4 τ8 := (f5.sub rfl).tr (g6.sub rfl)
  have g4 : Fx ([116, 117, 118, 119, 120], []) τ3 τ8 := (f4.sub rfl).tr (g5.sub rfl)
  have g3 : Fx ([115, 116, 117, 118, 119, 120], []) τ2 τ8 := (f3.sub rfl).tr (g4.sub rfl)
  have g2 : Fx ([114, 115, 116, 117, 118, 119, 120], []) τ1 τ8 := (f2.sub rfl).tr (g3.sub rfl)
  have hf : Fx ([10, 11, 53, 65, 66, 67, 68, 113, 114, 115, 116, 117, 118, 119, 120], [(0, 10), (0, 11), (69, 64), (69, 65), (69, 66)]) σ τ8 := (fA.sub rfl).tr (fB.sub rfl)
  have b2 : BG n σ τ8 := bG.si hf rfl
  have M : f_X12_keep F σ2 = some (cntI σ n 0 0, τ8) := by
    have q0 : zg (zs σ2 69 64 1) 69 0 = nI n := by rw [zg_nj (by decide), fA 69 0 rfl]; exact bG.1
    have q1 : zg (zs (zs σ2 69 64 1) 69 65 (nI n)) 69 1 = nI x := by rw [zg_nj (by decide), zg_nj (by decide), fA 69 1 rfl]; exact bD
    unfold f_X12_keep
    rw [lt_eq, lt_eq, lt_eq, q0, q1, c1, bnd_some, c2, bnd_some, c3, bnd_some, c4, bnd_some, c5, bnd_some, c6, bnd_some, c7, bnd_some, c8, bnd_some]
    exact e_cntM (by omega) hG b2
  refine ⟨cntI σ n 0 0, σ2, τ8, X, M, a, by omega, ?_⟩
  obtain ⟨P1, P2, P3⟩ := bP
  have bP : BP σ σ := ⟨P1, P2, P3⟩
  have e10 : ∀ g, g < n → zg τ8 10 g = zg σ 5 g := fun g hg => (fB 10 g rfl).trans (k10 g hg)
  have e11 : ∀ g, g < 16 → zg τ8 11 g = zg σ 6 g := fun g hg => (fB 11 g rfl).trans (k11 g hg)
  have e68 : ∀ j, j < 256 → zg τ8 68 j = zg σ 64 j := fun j hj => (fB 68 j rfl).trans (k68 j hj)
  have m112 : ∀ j, zg τ7 112 j = zg σ 112 j := fun j => (g8 112 j rfl).symm.trans (hf 112 j rfl)
  refine ⟨n, t, r, p, kc, x, some n, pl, ql, cl, ⟨hG.fx hf rfl, hH.fx hf rfl, hT.fx hf rfl, hN.fx hf rfl, hK.fx hf rfl, hD.fx hf rfl, ⟨hn, (fB 0 11 rfl).trans kn, ⟨x, hD.1, (fB 0 10 rfl).trans kx⟩, ?_, ?_, ?_⟩, hW.fx hf rfl⟩, ⟨(bG.al hf rfl).si hf rfl, (bH.al hf rfl).si hf rfl, (bL.al hf rfl).si hf rfl, (bT.al hf rfl).si hf rfl, (bN.al hf rfl).si hf rfl, (bK.al hf rfl).si hf rfl, (bP.al hf rfl).si hf rfl, (bD.al hf rfl).si hf rfl, ⟨?_, ?_, ?_, ?_, ?_, ?_, ?_, ?_⟩, (bW.al hW.or hf rfl).si hf rfl⟩, hP.fx hW.or hf rfl hf rfl⟩
  · intro g hg
    rw [e10 g hg, e11 g (by omega)]
    rcases hG.2.2.2.1 g hg with q | ⟨q1, q | ⟨s, hs, q2, q3⟩⟩
    · exact Or.inl q
    · exact Or.inr ⟨q1, Or.inl q⟩
    · exact Or.inr ⟨q1, Or.inr ⟨s, hs, q2⟩⟩
  · intro g h hg hh he hne
    rw [e11 g (by omega), e11 h (by omega)] at he
    rw [e11 g (by omega)] at hne
    rcases hG.seat hg with q | ⟨s, hs, q⟩
    · exact absurd q hne
    · exact hG.inj hg hh hs q (he ▸ q)
  · intro s hs
    rw [fB 53 s rfl, k53 s hs]; exact hK.2.2.1 s hs
  · rw [g18 69 64 rfl]; simp [zg_zs]
  · rw [g18 69 65 rfl]; simp [zg_zs]
  · rw [g18 69 66 rfl, fB 0 10 rfl, kx]; exact zg_eq
  · intro g hg
    rw [e10 g hg, e11 g (by omega), g2 113 g rfl, r1, if_pos (by omega), fM0 71 g rfl, fA 71 g rfl]
    exact (bG.2 g hg).2
  · intro s hs
    rw [g3 114 s rfl, r2, if_pos hs, f1 100 s rfl, fM0 100 s rfl, fA 100 s rfl, fB 53 s rfl, k53 s hs]
    exact bK.2.1 s hs
  · intro g hg
    rw [g4 115 g rfl, r3, if_pos hg, g5 116 g rfl, r4, if_pos hg, g6 117 g rfl, r5, if_pos hg, fB 65 g rfl, fB 66 g rfl, fB 67 g rfl, (k65 g hg).1, (k65 g hg).2.1, (k65 g hg).2.2, ← g3 107 g rfl, ← g4 108 g rfl, ← g5 109 g rfl, hf 107 g rfl, hf 108 g rfl, hf 109 g rfl]
    exact P1 g hg
  · intro i hi
    rw [r8, if_pos hi, m112, e68 i hi]; exact P2 i hi
  · intro g hg
    rw [g7 118 g rfl, r6, if_pos hg, g8 119 g rfl, r7, if_pos hg, ← g6 110 g rfl, ← g7 111 g rfl, hf 110 g rfl, hf 111 g rfl, (P3 g hg).1, (P3 g hg).2]
    exact ⟨sumI_ext 16 (fun h hh => (e68 _ (by omega)).symm), sumI_ext 16 (fun h hh => (e68 _ (by omega)).symm)⟩
