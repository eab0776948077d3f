/-! ===== the best exchange, by the class: all guests ===== -/
theorem e_find {F n p q c a : Nat} {α σ : zM} (hF : 300 ≤ F) (hG : IG n α) (hW : IW p q c α) (hx : Fx mQ α σ) (hP : PM n p c a α σ) : ∃ σ', f_X6_find F σ = some (if (xall α p c n n 0 (tv α p c n 0, -1, -1)).2.1 = -1 then 0 else 1, σ') ∧ Fx mF σ σ' ∧ PM n p c a α σ' ∧ bst (xall α p c n n 0 (tv α p c n 0, -1, -1)) σ' := by
  have hn := hG.1
  have key : ∀ (m fu g : Nat) (b : zB) (σ : zM), g + m = n → m < fu → Fx mQ α σ → PM n p c a α σ → bst b σ → ¬ tv α p c n 0 < b.1 → ∃ σ', f_X6_find_L23 F (fun s31 => if (zg s31 45 2) = (-1 : Int32) then some ((0 : Int32), s31) else some ((1 : Int32), s31)) (tv α p c n 0) fu (nI g) σ = some (if (xall α p c n m g b).2.1 = -1 then 0 else 1, σ') ∧ Fx mF σ σ' ∧ PM n p c a α σ' ∧ bst (xall α p c n m g b) σ' := by
    intro m
    induction m with
    | zero =>
      intro fu g b σ hg hfu hx hP hb hle
      obtain ⟨fu, rfl⟩ : ∃ f', fu = f' + 1 := ⟨fu - 1, by omega⟩
      refine ⟨σ, ?_, Fx.rf, hP, hb⟩
      rw [f_X6_find_L23, f_X0_number, bnd_some, hx 3 8 rfl, hG.2.1, if_neg (by rw [nI_ltI (by omega) (by omega)]; omega), hb.2.1, xall]
      split <;> rfl
    | succ m ih =>
      intro fu g b σ hg hfu hx hP hb hle
      obtain ⟨fu, rfl⟩ : ∃ f', fu = f' + 1 := ⟨fu - 1, by omega⟩
      have hGσ : IG n σ := hG.fx hx rfl
      have hgn : g < n := by omega
      rw [f_X6_find_L23, f_X0_number, bnd_some, hx 3 8 rfl, hG.2.1, if_pos (by rw [nI_ltI (by omega) (by omega)]; omega), e_sits_n hGσ hgn, bnd_some, hx 6 g rfl, xall]
      rcases hG.seat hgn with h6 | ⟨s, hs, h6⟩
      · rw [if_pos h6, if_pos rfl, if_pos h6]
        obtain ⟨F', rfl⟩ : ∃ f', F = f' + 1 := ⟨F - 1, by omega⟩
        rw [f_X6_find_L70, if_pos (by decide), if_pos rfl, lt_eq, nI_1]
        exact ih fu (g + 1) b σ (by omega) (by omega) hx hP hb hle
      · have n6 : ¬ zg α 6 g = -1 := by rw [h6]; exact nI_m1 (by omega)
        obtain ⟨σ1, a1, b1, c1⟩ := e_cost (F := F) (W := 0) hF hG hW hx hP hgn hs
        rw [if_neg n6, if_neg b1n, if_neg n6, e_seatOf_n hn hGσ.2.1 hgn, bnd_some, hx 6 g rfl, h6, a1, bnd_some, sN_n h6 hs]
        obtain ⟨σ2, r1, r2, r3, r4, r5⟩ := e_row (F := F) (r9 := 1) hF hG hW b1n hgn hs h6 (fun s29 => lt (nI g + (1 : Int32)) (fun y30 => f_X6_find_L23 F (fun s31 => if (zg s31 45 2) = (-1 : Int32) then some ((0 : Int32), s31) else some ((1 : Int32), s31)) (tv α p c n 0) fu y30 s29)) 40 F 0 b σ1 (by omega) (by omega) (hx.tr (b1.sub rfl)) c1 ⟨(b1 45 4 rfl).trans hb.1, (b1 45 2 rfl).trans hb.2.1, (b1 45 3 rfl).trans hb.2.2⟩ hle
        obtain ⟨σ', k1, k2, k3, k4⟩ := ih fu (g + 1) (xrow α p c n g s 40 0 b) σ2 (by omega) (by omega) ((hx.tr (b1.sub rfl)).tr (r2.sub rfl)) r3 r4 r5
        refine ⟨σ', ?_, (b1.sub rfl).tr (r2.tr k2), k3, k4⟩
        refine Eq.trans r1 ?_
        rw [lt_eq, nI_1]
        exact k1
  obtain ⟨σ1, a1, b1, c1⟩ := e_total (F := F) (W := 0) hF hG hW hx hP
  have fz : Fx ([], [(45, 2), (45, 3), (45, 4)]) σ1 (zs (zs (zs σ1 45 4 (tv α p c n 0)) 45 2 (-1)) 45 3 (-1)) := ((Fx.rf.zs rfl).zs rfl).zs rfl
  have hll : ¬ tv α p c n 0 < tv α p c n 0 := by rw [i_lt]; omega
  obtain ⟨σ', k1, k2, k3, k4⟩ := key n F 0 (tv α p c n 0, -1, -1) (zs (zs (zs σ1 45 4 (tv α p c n 0)) 45 2 (-1)) 45 3 (-1)) (by omega) (by omega) ((hx.tr (b1.sub rfl)).tr (fz.sub rfl)) (c1.fx hW.or (Fx.rf (m := ([], []))) rfl fz rfl) ⟨by simp [zg_zs], by simp [zg_zs], by simp [zg_zs]⟩ hll
  refine ⟨σ', ?_, (b1.sub rfl).tr ((fz.sub rfl).tr k2), k3, k4⟩
  unfold f_X6_find
  rw [a1, bnd_some, lt_eq, lt_eq, lt_eq]
  exact k1
/-! two change about -/
def swp (α : zM) (g v : Nat) : zM := if zg α 9 v = -1 then plc α g (nI v) else plc (plc (plc α (zg α 9 v).toNatClampNeg (-1)) g (nI v)) (zg α 9 v).toNatClampNeg (zg α 6 g)
theorem swp_fx (α : zM) (g v : Nat) : Fx ([6, 9], []) α (swp α g v) := by
  unfold swp
  split
  · exact plc_fx _ _ _
  · exact ((plc_fx _ _ _).tr (plc_fx _ _ _)).tr (plc_fx _ _ _)
theorem IG.al1 {n g s : Nat} {α : zM} (h : IG n α) (hg : g < n) (hs : s < 40) (h6 : zg α 6 g = nI s) : zg α 5 g = 1 := by
  rcases h.2.2.2.1 g hg with ⟨-, q⟩ | ⟨q, -⟩
  · rw [h6] at q; exact absurd q (nI_m1 (by omega))
  · exact q
theorem swp_0 {n g v s : Nat} {α : zM} (hG : IG n α) (hg : g < n) (hv : v < 40) (hs : s < 40) (h6 : zg α 6 g = nI s) (h9 : zg α 9 v = -1) : IG n (swp α g v) ∧ ∀ a, zg (swp α g v) 6 a = if a = g then nI v else zg α 6 a := by
  unfold swp
  rw [if_pos h9]
  exact ⟨hG.plc hg (hG.al1 hg hs h6) (Or.inr ⟨v, hv, rfl, h9⟩), plc_6 α g (nI v)⟩
theorem swp_1 {n g v s o : Nat} {α : zM} (hG : IG n α) (hg : g < n) (hv : v < 40) (hs : s < 40) (h6 : zg α 6 g = nI s) (ho : o < n) (h9 : zg α 9 v = nI o) (hgo : ¬ g = o) : IG n (swp α g v) ∧ ∀ a, zg (swp α g v) 6 a = if a = o then nI s else if a = g then nI v else zg α 6 a := by
  have hn := hG.1
  have n9 : ¬ zg α 9 v = -1 := by rw [h9]; exact nI_m1 (by omega)
  have h7 : zg α 6 o = nI v := by
    rcases hG.2.2.2.2.1 v hv with q | ⟨o', ho', q1, q2⟩
    · exact absurd q n9
    · rw [h9] at q1
      have := (nI_eq (show o < 2 ^ 31 by omega) (show o' < 2 ^ 31 by omega)).mp q1
      subst this; exact q2
  have hsv : ¬ s = v := by
    rintro rfl
    exact hgo (hG.inj hg ho hs h6 h7)
  unfold swp
  rw [if_neg n9, h9, nI_clamp (by omega), h6]
  have g1 := hG.plc ho (hG.al1 ho hv h7) (v := -1) (Or.inl rfl)
  have p6 := plc_6 α o (-1)
  have p9 := plc_9 α o (-1) (hG.seat ho) (Or.inl rfl)
  have e6g : zg (plc α o (-1)) 6 g = nI s := by rw [p6, if_neg hgo, h6]
  have e9v : zg (plc α o (-1)) 9 v = -1 := by rw [p9 v hv, if_neg (fun q => nI_m1 (n := v) (by omega) q.symm), if_pos h7]
  have g2 := g1.plc hg (g1.al1 hg hs e6g) (Or.inr ⟨v, hv, rfl, e9v⟩)
  have r6 := plc_6 (plc α o (-1)) g (nI v)
  have r9 := plc_9 (plc α o (-1)) g (nI v) (g1.seat hg) (Or.inr ⟨v, hv, rfl⟩)
  have e9s : zg (plc (plc α o (-1)) g (nI v)) 9 s = -1 := by
    rw [r9 s hs, if_neg (fun q => hsv ((nI_eq (by omega) (by omega)).mp q).symm), if_pos e6g]
  have a5 : zg (plc (plc α o (-1)) g (nI v)) 5 o = 1 := by
    rw [plc_fx _ g _ 5 o rfl, plc_fx α o _ 5 o rfl]; exact hG.al1 ho hv h7
  refine ⟨g2.plc ho a5 (Or.inr ⟨s, hs, rfl, e9s⟩), fun a => ?_⟩
  rw [plc_6, r6, p6]
  by_cases q1 : a = o
  · rw [if_pos q1, if_pos q1]
  · rw [if_neg q1, if_neg q1, if_neg q1]
