/-! ===== the best exchange, by the model: the search ===== -/
theorem e_try {F n p q c g v s : Nat} {α τ : zM} {best t : Int32} {K : Int32 → Int32 → zM → Option (Int32 × zM)} (hF : 300 ≤ F) (hG : IG n α) (hB : BG n α τ) (hL : BL α τ) (hW : IW p q c α) (hV : BW p c α τ) (hg : g < n) (hv : v < 40) (hs : s < 40) (h6 : zg α 6 g = nI s) (ht : xcand α p c n g s v = some t) : ∃ τ3, Fx ([86, 87], []) τ τ3 ∧ f_X12_laysExchange_j76 F K (nI g) (nI s) best (nI v) τ = if t < best then K t (nI (v + 1)) (zs (zs τ3 69 48 (nI g)) 69 49 (nI v)) else K best (nI (v + 1)) τ3 := by
  have hn := hG.1
  have s71 := (hB.s71 hG hg hs).mpr h6
  have fw := swp_fx α g v
  have fin : ∀ τ1 τ2 τ3, f_X12_changes F (nI g) (nI v) τ = some ((), τ1) → f_X12_sumOf F τ1 = some (t, τ2) → f_X12_changes F (nI g) (nI s) τ2 = some ((), τ3) → f_X12_laysExchange_j76 F K (nI g) (nI s) best (nI v) τ = if t < best then K t (nI (v + 1)) (zs (zs τ3 69 48 (nI g)) 69 49 (nI v)) else K best (nI (v + 1)) τ3 := by
    intro τ1 τ2 τ3 x1 x2 x3
    unfold f_X12_laysExchange_j76
    rw [x1, bnd_some, x2, bnd_some, x3, bnd_some]
    simp only [lt_eq, nI_1]
  have sg : zg α 9 s = nI g := hG.sit9 hg hs h6
  rcases hG.2.2.2.2.1 v hv with h9 | ⟨o, ho, h9, h7⟩
  · have hvs : ¬ v = s := by
      rintro rfl
      rw [sg] at h9; exact nI_m1 (by omega) h9
    obtain ⟨hG', e6⟩ := swp_0 hG hg hv hs h6 h9
    have hte : tv (swp α g v) p c n 0 = t := by
      have := tv_swp0 hG hW hg hv hs h6 h9
      rw [ht] at this; exact (Option.some.inj this).symm
    have f1 : Fx ([71], []) τ (zs τ 71 g (nI v)) := Fx.rf.zs rfl
    have bG' := BG.swp0 hG hB hg hv hs h6 h9
    obtain ⟨τ2, x2, f2⟩ := e_sumOf (F := F) (α := swp α g v) (σ := zs τ 71 g (nI v)) hF hG' bG' ((hL.al fw rfl).si f1 rfl) (hW.fx fw rfl) ((hV.al hW.or fw rfl).si f1 rfl)
    rw [hte] at x2
    have s9 : zg (swp α g v) 9 s = -1 := by
      unfold swp
      rw [if_pos h9, plc_9 α g (nI v) (hG.seat hg) (Or.inr ⟨v, hv, rfl⟩) s hs, if_neg (fun q => hvs ((nI_eq (by omega) (by omega)).mp q)), if_pos h6]
    have x3 := e_changes0 (F := F) (α := swp α g v) (τ := τ2) (by omega) hG' (bG'.si f2 rfl) hg hs s9
    refine ⟨zs τ2 71 g (nI s), fun k j hkj => ?_, fin _ _ _ (e_changes0 (by omega) hG hB hg hv h9) x2 x3⟩
    rw [zg_zs]
    by_cases hk : k = 71 ∧ j = g
    · rw [if_pos hk, hk.1, hk.2, s71]
    · rw [if_neg hk, f2 k j hkj, zg_zs, if_neg hk]
  · have n9 : ¬ zg α 9 v = -1 := by rw [h9]; exact nI_m1 (by omega)
    have hgo : g < o := by
      unfold xcand at ht
      rw [if_neg n9, h9] at ht
      by_cases q : nI g < nI o
      · exact (nI_ltI (by omega) (by omega)).mp q
      · rw [if_neg q] at ht; cases ht
    obtain ⟨hG', e6⟩ := swp_1 hG hg hv hs h6 ho h9 (by omega)
    have hte : tv (swp α g v) p c n 0 = t := by
      have := tv_swp1 hG hW hg hv hs h6 ho h9 hgo
      rw [ht] at this; exact (Option.some.inj this).symm
    have f1 : Fx ([71], []) τ (zs (zs τ 71 g (nI v)) 71 o (nI s)) := (Fx.rf.zs rfl).zs rfl
    have bG' := BG.swp1 hG hB hg hv hs h6 ho h9 (by omega)
    obtain ⟨τ2, x2, f2⟩ := e_sumOf (F := F) (α := swp α g v) (σ := zs (zs τ 71 g (nI v)) 71 o (nI s)) hF hG' bG' ((hL.al fw rfl).si f1 rfl) (hW.fx fw rfl) ((hV.al hW.or fw rfl).si f1 rfl)
    rw [hte] at x2
    have s9 : zg (swp α g v) 9 s = nI o := hG'.sit9 ho hs (by rw [e6, if_pos rfl])
    have x3 := e_changes1 (F := F) (α := swp α g v) (τ := τ2) (by omega) hG' (bG'.si f2 rfl) hg hs hv (by rw [e6, if_neg (by omega), if_pos rfl]) ho s9
    have o71 : zg τ 71 o = nI v := (hB.s71 hG ho hv).mpr h7
    refine ⟨zs (zs τ2 71 g (nI s)) 71 o (nI v), fun k j hkj => ?_, fin _ _ _ (e_changes1 (by omega) hG hB hg hv hs h6 ho h9) x2 x3⟩
    rw [zg_zs, zg_zs]
    by_cases hk : k = 71 ∧ j = o
    · rw [if_pos hk, hk.1, hk.2, o71]
    · rw [if_neg hk]
      by_cases hk2 : k = 71 ∧ j = g
      · rw [if_pos hk2, hk2.1, hk2.2, s71]
      · rw [if_neg hk2, f2 k j hkj, zg_zs, if_neg hk, zg_zs, if_neg hk2]
abbrev mX : zMk := ([86, 87], [(69, 48), (69, 49)])
def bsm (b : zB) (τ : zM) : Prop := zg τ 69 48 = b.2.1 ∧ zg τ 69 49 = b.2.2
theorem e_rowM {F n p q c g s : Nat} {α : zM} (hF : 300 ≤ F) (hG : IG n α) (hW : IW p q c α) (hg : g < n) (hs : s < 40) (h6 : zg α 6 g = nI s) (K : Int32 → zM → Option (Int32 × zM)) : ∀ (m fu v : Nat) (b : zB) (τ : zM), v + m = 40 → m < fu → BG n α τ → BL α τ → BW p c α τ → bsm b τ → ∃ τ', f_X12_laysExchange_L46 F K (nI g) (nI s) fu b.1 (nI v) τ = K (xrow α p c n g s m v b).1 τ' ∧ Fx mX τ τ' ∧ bsm (xrow α p c n g s m v b) τ' := by
  have hn := hG.1
  intro m
  induction m with
  | zero =>
    intro fu v b τ hv hfu bG bL bW hb
    obtain ⟨fu, rfl⟩ : ∃ f', fu = f' + 1 := ⟨fu - 1, by omega⟩
    refine ⟨τ, ?_, Fx.rf, hb⟩
    rw [f_X12_laysExchange_L46, if_neg (by rw [show (40 : Int32) = nI 40 from rfl, nI_ltI (by omega) (by omega)]; omega)]; rfl
  | succ m ih =>
    intro fu v b τ hv hfu bG bL bW hb
    obtain ⟨fu, rfl⟩ : ∃ f', fu = f' + 1 := ⟨fu - 1, by omega⟩
    have hv40 : v < 40 := by omega
    have J : ∀ t, xcand α p c n g s v = some t → ∃ τ', f_X12_laysExchange_j76 F (f_X12_laysExchange_L46 F K (nI g) (nI s) fu) (nI g) (nI s) b.1 (nI v) τ = K (xrow α p c n g s (m + 1) v b).1 τ' ∧ Fx mX τ τ' ∧ bsm (xrow α p c n g s (m + 1) v b) τ' := by
      intro t ht
      obtain ⟨τ3, f3, e3⟩ := e_try (F := F) (best := b.1) (K := f_X12_laysExchange_L46 F K (nI g) (nI s) fu) hF hG bG bL hW bW hg hv40 hs h6 ht
      have hst : xstp α p c n g s v b = if t < b.1 then (t, nI g, nI v) else b := by unfold xstp; rw [ht]
      rw [e3, xrow, hst]
      by_cases hlt : t < b.1
      · rw [if_pos hlt, if_pos hlt]
        have fz : Fx mX τ (zs (zs τ3 69 48 (nI g)) 69 49 (nI v)) := ((f3.sub rfl : Fx mX τ τ3).zs rfl).zs rfl
        obtain ⟨τ', r1, r2, r3⟩ := ih fu (v + 1) (t, nI g, nI v) _ (by omega) (by omega) (bG.si fz rfl) (bL.si fz rfl) (bW.si fz rfl) ⟨by simp [zg_zs], by simp [zg_zs]⟩
        exact ⟨τ', r1, fz.tr r2, r3⟩
      · rw [if_neg hlt, if_neg hlt]
        have fz : Fx mX τ τ3 := f3.sub rfl
        obtain ⟨τ', r1, r2, r3⟩ := ih fu (v + 1) b τ3 (by omega) (by omega) (bG.si fz rfl) (bL.si fz rfl) (bW.si fz rfl) ⟨(f3 69 48 rfl).trans hb.1, (f3 69 49 rfl).trans hb.2⟩
        exact ⟨τ', r1, fz.tr r2, r3⟩
    rw [f_X12_laysExchange_L46, if_pos (by rw [show (40 : Int32) = nI 40 from rfl, nI_ltI (by omega) (by omega)]; omega), e_guestAt (by omega) hG bG hv40, bnd_some]
    rcases hG.2.2.2.2.1 v hv40 with h9 | ⟨o, ho, h9, -⟩
    · rw [if_pos h9]
      exact J _ (by unfold xcand; rw [if_pos h9])
    · have n9 : ¬ nI o = -1 := nI_m1 (by omega)
      rw [h9, if_neg n9]
      by_cases hgo : nI g < nI o
      · rw [if_pos hgo]
        exact J _ (by unfold xcand; rw [h9, if_neg n9, if_pos hgo])
      · have hno : xcand α p c n g s v = none := by unfold xcand; rw [h9, if_neg n9, if_neg hgo]
        have hst : xstp α p c n g s v b = b := by unfold xstp; rw [hno]
        rw [if_neg hgo, lt_eq, nI_1, xrow, hst]
        exact ih fu (v + 1) b τ (by omega) (by omega) bG bL bW hb
theorem e_lays {F n p q c : Nat} {α τ : zM} (hF : 300 ≤ F) (hG : IG n α) (hW : IW p q c α) (bG : BG n α τ) (bL : BL α τ) (bW : BW p c α τ) : ∃ τ', f_X12_laysExchange F τ = some ((xall α p c n n 0 (tv α p c n 0, -1, -1)).1, τ') ∧ Fx mX τ τ' ∧ bsm (xall α p c n n 0 (tv α p c n 0, -1, -1)) τ' := by
  have hn := hG.1
  have key : ∀ (m fu g : Nat) (b : zB) (τ : zM), g + m = n → m < fu → BG n α τ → BL α τ → BW p c α τ → bsm b τ → ∃ τ', f_X12_laysExchange_L17 F (fun y24 s23 => some (y24, s23)) fu b.1 (nI g) τ = some ((xall α p c n m g b).1, τ') ∧ Fx mX τ τ' ∧ bsm (xall α p c n m g b) τ' := by
    intro m
    induction m with
    | zero =>
      intro fu g b τ hg hfu bG bL bW hb
      obtain ⟨fu, rfl⟩ : ∃ f', fu = f' + 1 := ⟨fu - 1, by omega⟩
      refine ⟨τ, ?_, Fx.rf, hb⟩
      rw [f_X12_laysExchange_L17, bG.1, if_neg (by rw [nI_ltI (by omega) (by omega)]; omega)]; rfl
    | succ m ih =>
      intro fu g b τ hg hfu bG bL bW hb
      obtain ⟨fu, rfl⟩ : ∃ f', fu = f' + 1 := ⟨fu - 1, by omega⟩
      have hgn : g < n := by omega
      have z : zin (nI g) 16 = true := zin_n (by omega) (by omega)
      rw [f_X12_laysExchange_L17, bG.1, if_pos (by rw [nI_ltI (by omega) (by omega)]; omega), e_sitsM hG bG hgn, bnd_some, b10, xall]
      rcases hG.seat hgn with h6 | ⟨s, hs, h6⟩
      · rw [if_pos h6, if_pos h6, lt_eq, nI_1]
        exact ih fu (g + 1) b τ (by omega) (by omega) bG bL bW hb
      · have n6 : ¬ zg α 6 g = -1 := by rw [h6]; exact nI_m1 (by omega)
        rw [if_neg n6, if_neg n6, if_pos z, lt_eq, nI_clamp (by omega), (bG.s71 hG hgn hs).mpr h6, sN_n h6 hs]
        obtain ⟨τ1, r1, r2, r3⟩ := e_rowM (F := F) hF hG hW hgn hs h6 (fun y20 s19 => lt (nI g + (1 : Int32)) (fun y21 => f_X12_laysExchange_L17 F (fun y24 s23 => some (y24, s23)) fu y20 y21 s19)) 40 F 0 b τ (by omega) (by omega) bG bL bW hb
        obtain ⟨τ', k1, k2, k3⟩ := ih fu (g + 1) (xrow α p c n g s 40 0 b) τ1 (by omega) (by omega) (bG.si r2 rfl) (bL.si r2 rfl) (bW.si r2 rfl) r3
        refine ⟨τ', ?_, r2.tr k2, k3⟩
        refine Eq.trans r1 ?_
        rw [lt_eq, nI_1]
        exact k1
  obtain ⟨τ1, a1, b1⟩ := e_sumOf (F := F) hF hG bG bL hW bW
  have fz : Fx mX τ (zs (zs τ1 69 48 (-1)) 69 49 (-1)) := ((b1.sub rfl : Fx mX τ τ1).zs rfl).zs rfl
  obtain ⟨τ', k1, k2, k3⟩ := key n F 0 (tv α p c n 0, -1, -1) (zs (zs τ1 69 48 (-1)) 69 49 (-1)) (by omega) (by omega) (bG.si fz rfl) (bL.si fz rfl) (bW.si fz rfl) ⟨by simp [zg_zs], by simp [zg_zs]⟩
  refine ⟨τ', ?_, fz.tr k2, k3⟩
  unfold f_X12_laysExchange
  rw [a1, bnd_some, lt_eq, lt_eq]
  exact k1
theorem op_exchange {F : Nat} (hF : 300 ≤ F) (v : Int32) : OP (f_X11_exchange F v) (f_X12_exchange F v) := by
  intro a σ ha ⟨n, t, r, p, kc, x, ko, pl, ql, cl, ⟨hG, hH, hT, hN, hK, hD, hX, hW⟩, ⟨bG, bH, bL, bT, bN, bK, bP, bD, bX, bW⟩, hP⟩
  have t0 : (0 : Int32).toInt = 0 := rfl
  have t2 : (2 : Int32).toInt = 2 := rfl
  by_cases hc : 0 ≤ v.toInt ∧ v.toInt ≤ 2
  · obtain ⟨σ1, a1, b1, c1, d1⟩ := e_find (F := F) hF hG hW Fx.rf hP
    obtain ⟨σ2, a2, b2, d2⟩ := e_lays (F := F) (τ := σ1) hF hG hW (bG.si b1 rfl) (bL.si b1 rfl) (bW.si b1 rfl)
    generalize hb : xall σ pl cl n n 0 (tv σ pl cl n 0, -1, -1) = b at a1 d1 a2 d2
    have hf : Fx ([13, 14, 15, 23, 32, 86, 87], [(45, 2), (45, 3), (45, 4), (69, 48), (69, 49)]) σ σ2 := (b1.sub rfl).tr (b2.sub rfl)
    have hR : RR a σ2 := ⟨n, t, r, p, kc, x, ko, pl, ql, cl, ⟨hG.fx hf rfl, hH.fx hf rfl, hT.fx hf rfl, hN.fx hf rfl, hK.fx hf rfl, hD.fx hf rfl, hX.fx hf rfl, hW.fx hf rfl⟩, ⟨(bG.al hf rfl).si hf rfl, (bH.al hf rfl).si hf rfl, (bL.al hf rfl).si hf rfl, (bT.al hf rfl).si hf rfl, (bN.al hf rfl).si hf rfl, (bK.al hf rfl).si hf rfl, (bP.al hf rfl).si hf rfl, (bD.al hf rfl).si hf rfl, (bX.al hf rfl).si hf rfl, (bW.al hW.or hf rfl).si hf rfl⟩, c1.fx hW.or hf rfl b2 rfl⟩
    have M : f_X12_exchange F v σ1 = if v = (2 : Int32) then some (b.1, σ2) else if b.2.1 = -1 then some (-2, σ2) else if v = 0 then some (b.2.1, σ2) else some (b.2.2, σ2) := by
      unfold f_X12_exchange
      rw [e_in, if_pos (by omega), bnd_some, if_neg b1n, a2, bnd_some, d2.1, d2.2]
    have X : f_X11_exchange F v σ = if v = (2 : Int32) then some (b.1, σ1) else if b.2.1 = -1 then some (-2, σ1) else if v = 0 then some (b.2.1, σ1) else some (b.2.2, σ1) := by
      unfold f_X11_exchange f_X6_sumThen f_X6_guestToMove f_X6_seatToTake
      simp only [i_lt]
      rw [if_neg (by omega), if_neg (by omega), a1, bnd_some, b10, d1.1, d1.2.1, d1.2.2]
      rfl
    by_cases v2 : v = 2
    · rw [if_pos v2] at X M; exact ⟨_, σ1, σ2, X, M, a, by omega, hR⟩
    rw [if_neg v2] at X M
    by_cases v3 : b.2.1 = -1
    · rw [if_pos v3] at X M; exact ⟨_, σ1, σ2, X, M, a, by omega, hR⟩
    rw [if_neg v3] at X M
    by_cases v4 : v = 0
    · rw [if_pos v4] at X M; exact ⟨_, σ1, σ2, X, M, a, by omega, hR⟩
    · rw [if_neg v4] at X M; exact ⟨_, σ1, σ2, X, M, a, by omega, hR⟩
  · refine OP.no ⟨n, t, r, p, kc, x, ko, pl, ql, cl, ⟨hG, hH, hT, hN, hK, hD, hX, hW⟩, ⟨bG, bH, bL, bT, bN, bK, bP, bD, bX, bW⟩, hP⟩ (-1000000) ?_ ?_
    · unfold f_X11_exchange
      simp only [i_lt]
      by_cases h : v.toInt < 0
      · rw [if_pos (by omega)]
      · rw [if_neg (by omega), if_pos (by omega)]
    · unfold f_X12_exchange
      rw [e_in, if_neg (by omega), bnd_some, if_pos rfl]
