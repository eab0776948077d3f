/-! ===== the best exchange, by the class ===== -/
def xchg (α : zM) (p c n g s v o : Nat) : Int32 := ((cst α p c n g v (both g o) + cst α p c n o s (both g o)) + qrl α p c g v o s) - ((cst α p c n g s (both g o) + cst α p c n o v (both g o)) + qrl α p c g s o v)
def xcand (α : zM) (p c n g s v : Nat) : Option Int32 :=
  if zg α 9 v = -1 then some (tv α p c n 0 + (cst α p c n g v 0 - cst α p c n g s 0))
  else if nI g < zg α 9 v then some (tv α p c n 0 + xchg α p c n g s v (zg α 9 v).toNatClampNeg) else none
abbrev zB : Type := Int32 × Int32 × Int32
def xstp (α : zM) (p c n g s v : Nat) (b : zB) : zB := match xcand α p c n g s v with
  | some t => if t < b.1 then (t, nI g, nI v) else b
  | none => b
def xrow (α : zM) (p c n g s : Nat) : Nat → Nat → zB → zB
  | 0, _, b => b
  | m + 1, v, b => xrow α p c n g s m (v + 1) (xstp α p c n g s v b)
def xall (α : zM) (p c n : Nat) : Nat → Nat → zB → zB
  | 0, _, b => b
  | m + 1, g, b => xall α p c n m (g + 1) (if zg α 6 g = -1 then b else xrow α p c n g (sN α g) 40 0 b)
theorem xstp_le {α : zM} {p c n g s v : Nat} {b : zB} {now : Int32} (h : ¬ now < b.1) : ¬ now < (xstp α p c n g s v b).1 := by
  unfold xstp
  split
  · split
    · rename_i t _ ht
      rw [i_lt] at h ht ⊢
      show ¬ now.toInt < t.toInt
      omega
    · exact h
  · exact h
theorem e_change {F n p q c a g s v o : Nat} {α σ : zM} (hF : 300 ≤ F) (hG : IG n α) (hW : IW p q c α) (hx : Fx mQ α σ) (hP : PM n p c a α σ) (hg : g < n) (ho : o < n) (hs : s < 40) (hv : v < 40) (h6 : zg α 6 g = nI s) : ∃ σ', f_X6_change F (nI g) (nI v) (nI o) σ = some (xchg α p c n g s v o, σ') ∧ Fx mJ σ σ' ∧ PM n p c a α σ' := by
  have hn := hG.1
  have hGσ : IG n σ := hG.fx hx rfl
  have q : ∀ {τ}, Fx mJ σ τ → Fx mQ α τ := fun h => hx.tr (h.sub rfl)
  obtain ⟨σ1, a1, b1, c1⟩ := e_cost (F := F) (W := both g o) hF hG hW hx hP hg hs
  obtain ⟨σ2, a2, b2, c2⟩ := e_cost (F := F) (W := both g o) hF hG hW (q b1) c1 ho hv
  have f2 : Fx mJ σ σ2 := b1.tr b2
  obtain ⟨σ3, a3, b3, c3⟩ := e_quarrel (F := F) hF hG hW (q f2) c2 hg ho hs hv
  have f3 : Fx mJ σ σ3 := f2.tr (b3.sub rfl)
  obtain ⟨σ4, a4, b4, c4⟩ := e_cost (F := F) (W := both g o) hF hG hW (q f3) c3 hg hv
  have f4 : Fx mJ σ σ4 := f3.tr b4
  obtain ⟨σ5, a5, b5, c5⟩ := e_cost (F := F) (W := both g o) hF hG hW (q f4) c4 ho hs
  have f5 : Fx mJ σ σ5 := f4.tr b5
  obtain ⟨σ6, a6, b6, c6⟩ := e_quarrel (F := F) hF hG hW (q f5) c5 hg ho hv hs
  refine ⟨σ6, ?_, f5.tr (b6.sub rfl), c6⟩
  unfold f_X6_change
  rw [e_seatOf_n hn hGσ.2.1 hg, bnd_some, lt_eq, hx 6 g rfl, h6]
  show bnd (f_X6_cost F (nI g) (nI s) (both g o) σ) _ = _
  rw [a1, bnd_some]
  show bnd (f_X6_cost F (nI o) (nI v) (both g o) σ1) _ = _
  rw [a2, bnd_some, a3, bnd_some, lt_eq]
  show bnd (f_X6_cost F (nI g) (nI v) (both g o) σ3) _ = _
  rw [a4, bnd_some]
  show bnd (f_X6_cost F (nI o) (nI s) (both g o) σ4) _ = _
  rw [a5, bnd_some, a6, bnd_some, lt_eq]
  rfl
abbrev mF : zMk := ([13, 14, 15, 23, 32], [(45, 2), (45, 3), (45, 4)])
def bst (b : zB) (σ : zM) : Prop := zg σ 45 4 = b.1 ∧ zg σ 45 2 = b.2.1 ∧ zg σ 45 3 = b.2.2
theorem e_row {F n p q c a g s : Nat} {α : zM} {r9 : Int32} (hF : 300 ≤ F) (hG : IG n α) (hW : IW p q c α) (hr : ¬ r9 = 0) (hg : g < n) (hs : s < 40) (h6 : zg α 6 g = nI s) (K : zM → Option (Int32 × zM)) : ∀ (m fu v : Nat) (b : zB) (σ : zM), v + m = 40 → m < fu → Fx mQ α σ → PM n p c a α σ → bst b σ → ¬ tv α p c n 0 < b.1 → ∃ σ', f_X6_find_L70 F K (tv α p c n 0) (nI g) r9 (cst α p c n g s 0) fu (nI v) σ = K σ' ∧ Fx mF σ σ' ∧ PM n p c a α σ' ∧ bst (xrow α p c n g s m v b) σ' ∧ ¬ tv α p c n 0 < (xrow α p c n g s m v b).1 := by
  have hn := hG.1
  intro m
  induction m with
  | zero =>
    intro fu v b σ hv hfu hx hP hb hle
    obtain ⟨fu, rfl⟩ : ∃ f', fu = f' + 1 := ⟨fu - 1, by omega⟩
    refine ⟨σ, ?_, Fx.rf, hP, hb, hle⟩
    rw [f_X6_find_L70, if_neg (by rw [show (40 : Int32) = nI 40 from rfl, nI_ltI (by omega) (by omega)]; omega)]
  | succ m ih =>
    intro fu v b σ hv hfu hx hP hb hle
    obtain ⟨fu, rfl⟩ : ∃ f', fu = f' + 1 := ⟨fu - 1, by omega⟩
    have J : ∀ (t : Int32) (σ1 : zM), Fx mJ σ σ1 → PM n p c a α σ1 → xcand α p c n g s v = some t → ∃ σ', f_X6_find_j140 F (f_X6_find_L70 F K (tv α p c n 0) (nI g) r9 (cst α p c n g s 0) fu) (tv α p c n 0) (nI g) r9 (cst α p c n g s 0) (nI v) t σ1 = K σ' ∧ Fx mF σ σ' ∧ PM n p c a α σ' ∧ bst (xrow α p c n g s (m + 1) v b) σ' ∧ ¬ tv α p c n 0 < (xrow α p c n g s (m + 1) v b).1 := by
      intro t σ1 h1 h2 h3
      have hb4 : zg σ1 45 4 = b.1 := (h1 45 4 rfl).trans hb.1
      have hst : xstp α p c n g s v b = if t < b.1 then (t, nI g, nI v) else b := by unfold xstp; rw [h3]
      have hle' := xstp_le (α := α) (p := p) (c := c) (n := n) (g := g) (s := s) (v := v) hle
      rw [xrow]
      unfold f_X6_find_j140
      rw [hb4]
      by_cases ht : t < b.1
      · rw [if_pos ht] at hst
        rw [if_pos ht, lt_eq, lt_eq, lt_eq, lt_eq, nI_1]
        have fz : Fx ([], [(45, 2), (45, 3), (45, 4)]) σ1 (zs (zs (zs σ1 45 4 t) 45 2 (nI g)) 45 3 (nI v)) := ((Fx.rf.zs rfl).zs rfl).zs rfl
        obtain ⟨σ', r1, r2, r3, r4, r5⟩ := ih fu (v + 1) (xstp α p c n g s v b) (zs (zs (zs σ1 45 4 t) 45 2 (nI g)) 45 3 (nI v)) (by omega) (by omega) ((hx.tr (h1.sub rfl)).tr (fz.sub rfl)) (h2.fx hW.or (Fx.rf (m := ([], []))) rfl fz rfl) (by rw [hst]; exact ⟨by simp [zg_zs], by simp [zg_zs], by simp [zg_zs]⟩) hle'
        exact ⟨σ', r1, (h1.sub rfl).tr ((fz.sub rfl).tr r2), r3, r4, r5⟩
      · rw [if_neg ht] at hst
        rw [if_neg ht, lt_eq, nI_1]
        obtain ⟨σ', r1, r2, r3, r4, r5⟩ := ih fu (v + 1) (xstp α p c n g s v b) σ1 (by omega) (by omega) (hx.tr (h1.sub rfl)) h2 (by rw [hst]; exact ⟨hb4, (h1 45 2 rfl).trans hb.2.1, (h1 45 3 rfl).trans hb.2.2⟩) hle'
        exact ⟨σ', r1, (h1.sub rfl).tr r2, r3, r4, r5⟩
    have hv40 : v < 40 := by omega
    rw [f_X6_find_L70, if_pos (by rw [show (40 : Int32) = nI 40 from rfl, nI_ltI (by omega) (by omega)]; omega), if_neg hr, e_at_n hv40, bnd_some, hx 9 v rfl]
    rcases hG.2.2.2.2.1 v hv40 with h9 | ⟨o, ho, h9, -⟩
    · obtain ⟨σ1, a1, b1, c1⟩ := e_cost (F := F) (W := 0) hF hG hW hx hP hg hv40
      rw [if_pos h9, a1, bnd_some, lt_eq]
      exact J _ σ1 b1 c1 (by unfold xcand; rw [if_pos h9])
    · have n9 : ¬ nI o = -1 := nI_m1 (by omega)
      rw [h9, if_neg n9]
      by_cases hgo : nI g < nI o
      · obtain ⟨σ1, a1, b1, c1⟩ := e_change (F := F) hF hG hW hx hP hg ho hs hv40 h6
        rw [if_pos hgo, a1, bnd_some, lt_eq]
        exact J _ σ1 b1 c1 (by unfold xcand; rw [h9, if_neg n9, if_pos hgo, nI_clamp (by omega)])
      · have hno : xcand α p c n g s v = none := by unfold xcand; rw [h9, if_neg n9, if_neg hgo]
        have hst : xstp α p c n g s v b = b := by unfold xstp; rw [hno]
        rw [if_neg hgo]
        unfold f_X6_find_j140
        rw [hb.1, if_neg hle, lt_eq, nI_1, xrow, hst]
        exact ih fu (v + 1) b σ (by omega) (by omega) hx hP hb hle
