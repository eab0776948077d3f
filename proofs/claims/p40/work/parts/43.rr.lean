/-! ===== both sides together; what a call keeps ===== -/
theorem PM.fx {m m' : zMk} {n p c a : Nat} {α α' σ σ' : zM} (h : PM n p c a α σ) (hp : p = 16 ∨ p = 25) (hf : Fx m α α') (hd : dis m mLW = true) (hf' : Fx m' σ σ') (hd' : dis m' ([14, 15], [(12, 5)]) = true) : PM n p c a α' σ' := by
  obtain ⟨p1, p2, p3, p4⟩ := h
  refine ⟨(hf' 12 5 (dis_fld hd' (by simp))).trans p1, p2, fun f g s e h1 h2 h3 h4 => ?_, fun g s h1 h2 => ?_⟩
  · obtain ⟨v, q1, q2, q3⟩ := p3 f g s e h1 h2 h3 h4
    exact ⟨v, q1, (hf' 14 _ (dis_row hd' (by simp) _)).trans q2, fun hv => ⟨(q3 hv).1, fun t ht hd2 hn => ((q3 hv).2 t ht hd2 hn).trans (hrm_fx hf hd hp c f s g t).symm⟩⟩
  · obtain ⟨v, q1, q2, q3⟩ := p4 g s h1 h2
    exact ⟨v, q1, (hf' 15 _ (dis_row hd' (by simp) _)).trans q2, fun hv => ⟨(q3 hv).1, (q3 hv).2.trans (wrt_fx hf hd hp c g s).symm⟩⟩
theorem PM.age {n n' p p' c c' a : Nat} {α α' σ σ' : zM} (h : PM n p c a α σ) (ha : a < 1000) (h5 : zg σ' 12 5 = nI (a + 1)) (h14 : ∀ j, zg σ' 14 j = zg σ 14 j) (h15 : ∀ j, zg σ' 15 j = zg σ 15 j) : PM n' p' c' (a + 1) α' σ' := by
  obtain ⟨p1, p2, p3, p4⟩ := h
  refine ⟨h5, by omega, fun f g s e q1 q2 q3 q4 => ?_, fun g s q1 q2 => ?_⟩
  · obtain ⟨y, y1, y2, -⟩ := p3 f g s e q1 q2 q3 q4
    exact ⟨y, Nat.lt_of_lt_of_le y1 (Nat.mul_le_mul_right 256 (Nat.le_succ (a + 1))), (h14 _).trans y2, fun h => absurd h (by omega)⟩
  · obtain ⟨y, y1, y2, -⟩ := p4 g s q1 q2
    exact ⟨y, Nat.lt_of_lt_of_le y1 (Nat.mul_le_mul_right 256 (Nat.le_succ (a + 1))), (h15 _).trans y2, fun h => absurd h (by omega)⟩
def RI (n t r p kc x : Nat) (ko : Option Nat) (pl ql cl : Nat) (α : zM) : Prop := IG n α ∧ IH n α ∧ IT t α ∧ IN r p α ∧ IK kc α ∧ ID x α ∧ IX ko α ∧ IW pl ql cl α
def RB (n t r p kc x : Nat) (ko : Option Nat) (pl cl : Nat) (α σ : zM) : Prop := BG n α σ ∧ BH α σ ∧ BL α σ ∧ BT t α σ ∧ BN r p α σ ∧ BK kc α σ ∧ BP α σ ∧ BD x α σ ∧ BX ko α σ ∧ BW pl cl α σ
def RR (a : Nat) (σ : zM) : Prop := ∃ n t r p kc x ko pl ql cl, RI n t r p kc x ko pl ql cl σ ∧ RB n t r p kc x ko pl cl σ σ ∧ PM n pl cl a σ σ
def OP {β : Type} (X M : zM → Option (β × zM)) : Prop := ∀ a σ, a < 1000 → RR a σ → ∃ r σ1 σ2, X σ = some (r, σ1) ∧ M σ1 = some (r, σ2) ∧ ∃ a', a' ≤ a + 1 ∧ RR a' σ2
abbrev mS : zMk := ([13, 23, 32, 40, 41, 42, 43, 44, 45, 46, 47, 48, 49, 50, 58, 59, 86, 87, 94, 95, 96, 97, 98, 99, 105, 106], [(69, 42), (69, 43), (69, 48), (69, 49)])
theorem RR.scr {a : Nat} {σ σ' : zM} (h : RR a σ) (hf : Fx mS σ σ') : RR a σ' := by
  obtain ⟨n, t, r, p, kc, x, ko, pl, ql, cl, ⟨hG, hH, hT, hN, hK, hD, hX, hW⟩, ⟨bG, bH, bL, bT, bN, bK, bP, bD, bX, bW⟩, hP⟩ := h
  exact ⟨n, t, r, p, kc, x, ko, pl, ql, cl, ⟨hG.fx hf rfl, hH.fx hf rfl, hT.fx hf rfl, hN.fx hf rfl, hK.fx hf rfl, hD.fx hf rfl, hX.fx hf rfl, hW.fx hf rfl⟩, ⟨(bG.al hf rfl).si hf rfl, (bH.al hf rfl).si hf rfl, (bL.al hf rfl).si hf rfl, (bT.al hf rfl).si hf rfl, (bN.al hf rfl).si hf rfl, (bK.al hf rfl).si hf rfl, (bP.al hf rfl).si hf rfl, (bD.al hf rfl).si hf rfl, (bX.al hf rfl).si hf rfl, (bW.al hW.or hf rfl).si hf rfl⟩, hP.fx hW.or hf rfl hf rfl⟩
theorem OP.no {β : Type} {X M : zM → Option (β × zM)} {a : Nat} {σ : zM} (h : RR a σ) (r : β) (hX : X σ = some (r, σ)) (hM : M σ = some (r, σ)) : ∃ r σ1 σ2, X σ = some (r, σ1) ∧ M σ1 = some (r, σ2) ∧ ∃ a', a' ≤ a + 1 ∧ RR a' σ2 := ⟨r, σ, σ, hX, hM, a, by omega, h⟩
theorem fx1 {σ : zM} (k j : Nat) (v : Int32) : Fx ([k], []) σ (zs σ k j v) := Fx.rf.zs (by simp [inm])
theorem isGuest_n {n g : Nat} {s : zM} (hn : n ≤ 16) (h : zg s 69 0 = nI n) (hg : g < n) : f_X12_isGuest (nI g) s = some (1, s) := by
  rw [e_isGuest hn h, if_pos (by rw [nI_toInt (by omega)]; omega)]
/-! heirs -/
theorem op_heir (v w : Int32) : OP (f_X11_heir v w) (f_X12_heir v w) := by
  intro a σ ha ⟨n, t, r, p, kc, x, ko, pl, ql, cl, ⟨hG, hH, hT, hN, hK, hD, hX, hW⟩, ⟨bG, bH, bL, bT, bN, bK, bP, bD, bX, bW⟩, hP⟩
  have hn := hG.1
  have h1 := a_heir hn hG.2.1 v w
  by_cases hc : (0 ≤ v.toInt ∧ v.toInt < (n : Int)) ∧ ¬ v = w ∧ (w = -1 ∨ (0 ≤ w.toInt ∧ w.toInt < (n : Int)))
  · rw [if_pos hc] at h1
    have h2 := m_heir (σ := zs σ 7 v.toNatClampNeg w) hn (by rw [zg_ne (by decide)]; exact bG.1) v w
    rw [if_pos hc] at h2
    obtain ⟨g, hg, rfl, cg⟩ := nI_of' hc.1 (by omega)
    rw [cg] at h1 h2
    refine ⟨1, _, _, h1, h2, a, by omega, ?_⟩
    have hf : Fx ([7, 73], []) σ (zs (zs σ 7 g w) 73 g w) := (Fx.rf.zs rfl).zs rfl
    refine ⟨n, t, r, p, kc, x, ko, pl, ql, cl, ⟨hG.fx hf rfl, ?_, hT.fx hf rfl, hN.fx hf rfl, hK.fx hf rfl, hD.fx hf rfl, hX.fx hf rfl, hW.fx hf rfl⟩, ⟨(bG.al hf rfl).si hf rfl, ?_, (bL.al hf rfl).si hf rfl, (bT.al hf rfl).si hf rfl, (bN.al hf rfl).si hf rfl, (bK.al hf rfl).si hf rfl, (bP.al hf rfl).si hf rfl, (bD.al hf rfl).si hf rfl, (bX.al hf rfl).si hf rfl, (bW.al hW.or hf rfl).si hf rfl⟩, hP.fx hW.or hf rfl hf rfl⟩
    · intro j hj
      rw [zg_ne (by decide), zg_row]
      split
      · rcases hc.2.2 with h | h
        · exact Or.inl h
        · obtain ⟨k, hk, rfl, -⟩ := nI_of' h (by omega)
          exact Or.inr ⟨k, hk, rfl⟩
      · exact hH j hj
    · intro j hj
      rw [zg_row, zg_ne (k' := 7) (by decide), zg_row, zg_ne (by decide)]
      split
      · rfl
      · exact bH j hj
  · rw [if_neg hc] at h1
    have h2 := m_heir hn bG.1 v w
    rw [if_neg hc] at h2
    exact OP.no ⟨n, t, r, p, kc, x, ko, pl, ql, cl, ⟨hG, hH, hT, hN, hK, hD, hX, hW⟩, ⟨bG, bH, bL, bT, bN, bK, bP, bD, bX, bW⟩, hP⟩ 0 h1 h2
/-! X -/
theorem op_seed (v : Int32) : OP (f_X11_seed v) (f_X12_seed v) := by
  intro a σ ha ⟨n, t, r, p, kc, x, ko, pl, ql, cl, ⟨hG, hH, hT, hN, hK, hD, hX, hW⟩, ⟨bG, bH, bL, bT, bN, bK, bP, bD, bX, bW⟩, hP⟩
  have e1 : (0 : Int32).toInt = 0 := rfl
  have e2 : (65535 : Int32).toInt = 65535 := rfl
  by_cases hc : 0 ≤ v.toInt ∧ v.toInt < (65536 : Nat)
  · have h1 : f_X11_seed v σ = some (1, zs σ 0 9 v) := by
      unfold f_X11_seed
      simp only [i_lt]
      rw [if_neg (by omega), if_neg (by omega)]; rfl
    have h2 : f_X12_seed v (zs σ 0 9 v) = some (1, zs (zs σ 0 9 v) 69 1 v) := by
      unfold f_X12_seed
      simp only [e_in, bnd_some, b01]
      rw [if_pos (by omega)]; rfl
    obtain ⟨y, hy, rfl, -⟩ := nI_of' hc (by omega)
    refine ⟨1, _, _, h1, h2, a, by omega, ?_⟩
    have hf : Fx ([], [(0, 9), (69, 1)]) σ (zs (zs σ 0 9 (nI y)) 69 1 (nI y)) := (Fx.rf.zs rfl).zs rfl
    refine ⟨n, t, r, p, kc, y, ko, pl, ql, cl, ⟨hG.fx hf rfl, hH.fx hf rfl, hT.fx hf rfl, hN.fx hf rfl, hK.fx hf rfl, ⟨hy, ?_⟩, hX.fx hf rfl, hW.fx hf rfl⟩, ⟨(bG.al hf rfl).si hf rfl, (bH.al hf rfl).si hf rfl, (bL.al hf rfl).si hf rfl, (bT.al hf rfl).si hf rfl, (bN.al hf rfl).si hf rfl, (bK.al hf rfl).si hf rfl, (bP.al hf rfl).si hf rfl, ?_, (bX.al hf rfl).si hf rfl, (bW.al hW.or hf rfl).si hf rfl⟩, hP.fx hW.or hf rfl hf rfl⟩
    · rw [zg_ne (by decide), zg_eq]
    · exact zg_eq
  · have h1 : f_X11_seed v σ = some (0, σ) := by
      unfold f_X11_seed
      simp only [i_lt]
      split
      · rfl
      · rw [if_pos (by omega)]
    have h2 : f_X12_seed v σ = some (0, σ) := by
      unfold f_X12_seed
      simp only [e_in, bnd_some, b01]
      rw [if_neg (by omega)]
    exact OP.no ⟨n, t, r, p, kc, x, ko, pl, ql, cl, ⟨hG, hH, hT, hN, hK, hD, hX, hW⟩, ⟨bG, bH, bL, bT, bN, bK, bP, bD, bX, bW⟩, hP⟩ 0 h1 h2
/-! knives -/
theorem op_knives (v w : Int32) : OP (f_X11_knives v w) (f_X12_knives v w) := by
  intro a σ ha ⟨n, t, r, p, kc, x, ko, pl, ql, cl, ⟨hG, hH, hT, hN, hK, hD, hX, hW⟩, ⟨bG, bH, bL, bT, bN, bK, bP, bD, bX, bW⟩, hP⟩
  have e1 : (0 : Int32).toInt = 0 := rfl
  have e2 : (9 : Int32).toInt = 9 := rfl
  by_cases hc : (0 ≤ v.toInt ∧ v.toInt < (40 : Nat)) ∧ 0 ≤ w.toInt ∧ w.toInt < (10 : Nat)
  · obtain ⟨g, hg, rfl, cg⟩ := nI_of' hc.1 (by omega)
    have z : zin (nI g) 40 = true := zin_n (by omega) (by omega)
    have h1 : f_X11_knives (nI g) w σ = some (1, zs σ 52 g w) := by
      unfold f_X11_knives f_X2_lay
      simp only [i_lt, e_isSeat_n hg, bnd_some, if_neg b1n, if_pos z, cg, lt_eq]
      rw [if_neg (by omega), if_neg (by omega)]
    have h2 : ∀ τ, f_X12_knives (nI g) w τ = some (1, zs τ 100 g w) := by
      intro τ
      unfold f_X12_knives
      simp only [e_in, e_isSeatM, bnd_some, b01, if_pos z, cg, lt_eq]
      rw [if_pos (by omega), if_pos (by omega)]
    obtain ⟨y, hy, rfl, -⟩ := nI_of' hc.2 (by omega)
    refine ⟨1, _, _, h1, h2 _, a, by omega, ?_⟩
    have hf : Fx ([52, 100], []) σ (zs (zs σ 52 g (nI y)) 100 g (nI y)) := (Fx.rf.zs rfl).zs rfl
    obtain ⟨k1, k2, k3, k4⟩ := hK
    obtain ⟨c1, c2, c3⟩ := bK
    refine ⟨n, t, r, p, kc, x, ko, pl, ql, cl, ⟨hG.fx hf rfl, hH.fx hf rfl, hT.fx hf rfl, hN.fx hf rfl, ⟨k1, (hf 51 8 rfl).trans k2, ?_, ?_⟩, hD.fx hf rfl, hX.fx hf rfl, hW.fx hf rfl⟩, ⟨(bG.al hf rfl).si hf rfl, (bH.al hf rfl).si hf rfl, (bL.al hf rfl).si hf rfl, (bT.al hf rfl).si hf rfl, (bN.al hf rfl).si hf rfl, ⟨(hf 69 50 rfl).trans c1, ?_, ?_⟩, (bP.al hf rfl).si hf rfl, (bD.al hf rfl).si hf rfl, (bX.al hf rfl).si hf rfl, (bW.al hW.or hf rfl).si hf rfl⟩, hP.fx hW.or hf rfl hf rfl⟩
    · intro s hs
      rw [zg_ne (by decide), zg_row]
      split
      · exact ⟨y, by omega, rfl⟩
      · exact k3 s hs
    · intro i hi
      rw [hf 54 i rfl, hf 55 i rfl, hf 56 i rfl, hf 57 i rfl]
      exact k4 i hi
    · intro s hs
      rw [zg_row, zg_ne (k' := 52) (by decide), zg_row, zg_ne (by decide)]
      split
      · rfl
      · exact c2 s hs
    · intro i hi
      rw [hf 54 i rfl, hf 55 i rfl, hf 56 i rfl, hf 57 i rfl, hf 101 i rfl, hf 102 i rfl, hf 103 i rfl, hf 104 i rfl]
      exact c3 i hi
  · have h1 : f_X11_knives v w σ = some (0, σ) := by
      unfold f_X11_knives
      simp only [i_lt, e_isSeat, bnd_some, b01]
      split
      · split
        · rfl
        · rw [if_pos (by omega)]
      · rfl
    have h2 : f_X12_knives v w σ = some (0, σ) := by
      unfold f_X12_knives
      simp only [e_in, e_isSeatM, bnd_some, b01]
      split
      · rw [if_neg (by omega)]
      · rfl
    exact OP.no ⟨n, t, r, p, kc, x, ko, pl, ql, cl, ⟨hG, hH, hT, hN, hK, hD, hX, hW⟩, ⟨bG, bH, bL, bT, bN, bK, bP, bD, bX, bW⟩, hP⟩ 0 h1 h2
