/-! ===== the best exchange, by the model ===== -/
theorem BG.swp0 {n g v s : Nat} {α τ : zM} (hG : IG n α) (hB : BG n α τ) (hg : g < n) (hv : v < 40) (hs : s < 40) (h6 : zg α 6 g = nI s) (h9 : zg α 9 v = -1) : BG n (swp α g v) (zs τ 71 g (nI v)) := by
  obtain ⟨-, e6⟩ := swp_0 hG hg hv hs h6 h9
  have f := swp_fx α g v
  refine ⟨by rw [zg_ne (by decide)]; exact hB.1, fun a ha => ⟨by rw [zg_ne (by decide), f 4 a rfl]; exact (hB.2 a ha).1, ?_⟩⟩
  rw [zg_row, e6, f 5 a rfl]
  by_cases q : a = g
  · subst q; rw [if_pos rfl, if_pos rfl, hG.al1 hg hs h6, if_neg (by decide)]
  · rw [if_neg q, if_neg q]; exact (hB.2 a ha).2
theorem BG.swp1 {n g v s o : Nat} {α τ : zM} (hG : IG n α) (hB : BG n α τ) (hg : g < n) (hv : v < 40) (hs : s < 40) (h6 : zg α 6 g = nI s) (ho : o < n) (h9 : zg α 9 v = nI o) (hgo : ¬ g = o) : BG n (swp α g v) (zs (zs τ 71 g (nI v)) 71 o (nI s)) := by
  obtain ⟨-, e6⟩ := swp_1 hG hg hv hs h6 ho h9 hgo
  have f := swp_fx α g v
  have n9 : ¬ zg α 9 v = -1 := by have := hG.1; rw [h9]; exact nI_m1 (by omega)
  have h7 : zg α 6 o = nI v := by
    have hn := hG.1
    rcases hG.2.2.2.2.1 v hv with q | ⟨o', ho', q1, q2⟩
    · exact absurd q n9
    · rw [h9] at q1
      have := (nI_eq (show o < 2 ^ 31 by omega) (show o' < 2 ^ 31 by omega)).mp q1
      subst this; exact q2
  refine ⟨by rw [zg_ne (by decide), zg_ne (by decide)]; exact hB.1, fun a ha => ⟨by rw [zg_ne (by decide), zg_ne (by decide), f 4 a rfl]; exact (hB.2 a ha).1, ?_⟩⟩
  rw [zg_row, zg_row, e6, f 5 a rfl]
  by_cases q : a = o
  · subst q; rw [if_pos rfl, if_pos rfl, hG.al1 ho hv h7, if_neg (by decide)]
  · rw [if_neg q, if_neg q]
    by_cases q2 : a = g
    · subst q2; rw [if_pos rfl, if_pos rfl, hG.al1 hg hs h6, if_neg (by decide)]
    · rw [if_neg q2, if_neg q2]; exact (hB.2 a ha).2
theorem e_changes0 {F n g v : Nat} {α τ : zM} (hF : 22 ≤ F) (hG : IG n α) (hB : BG n α τ) (hg : g < n) (hv : v < 40) (h9 : zg α 9 v = -1) : f_X12_changes F (nI g) (nI v) τ = some ((), zs τ 71 g (nI v)) := by
  have hn := hG.1
  have z : zin (nI g) 16 = true := zin_n (by omega) (by omega)
  unfold f_X12_changes
  rw [e_guestAt (by omega) hG hB hv, bnd_some, if_pos z, lt_eq, if_pos z, lt_eq, if_pos h9, nI_clamp (by omega)]
theorem e_changes1 {F n g v o s : Nat} {α τ : zM} (hF : 22 ≤ F) (hG : IG n α) (hB : BG n α τ) (hg : g < n) (hv : v < 40) (hs : s < 40) (h6 : zg α 6 g = nI s) (ho : o < n) (h9 : zg α 9 v = nI o) : f_X12_changes F (nI g) (nI v) τ = some ((), zs (zs τ 71 g (nI v)) 71 o (nI s)) := by
  have hn := hG.1
  have z : zin (nI g) 16 = true := zin_n (by omega) (by omega)
  have zo : zin (nI o) 16 = true := zin_n (by omega) (by omega)
  unfold f_X12_changes
  rw [e_guestAt (by omega) hG hB hv, bnd_some, if_pos z, lt_eq, if_pos z, lt_eq, h9, if_neg (nI_m1 (by omega)), if_pos zo, lt_eq, nI_clamp (by omega), nI_clamp (by omega), (hB.s71 hG hg hs).mpr h6]
theorem tv_swp0 {n p q c g v s : Nat} {α : zM} (hG : IG n α) (hW : IW p q c α) (hg : g < n) (hv : v < 40) (hs : s < 40) (h6 : zg α 6 g = nI s) (h9 : zg α 9 v = -1) : xcand α p c n g s v = some (tv (swp α g v) p c n 0) := by
  obtain ⟨-, e6⟩ := swp_0 hG hg hv hs h6 h9
  unfold xcand
  rw [if_pos h9, tv_one (sameL_fx (swp_fx α g v) rfl hW.or) hg hs hv h6 (by rw [e6, if_pos rfl]) (fun a ha => by rw [e6, if_neg ha])]
theorem tv_swp1 {n p q c g v s o : Nat} {α : zM} (hG : IG n α) (hW : IW p q c α) (hg : g < n) (hv : v < 40) (hs : s < 40) (h6 : zg α 6 g = nI s) (ho : o < n) (h9 : zg α 9 v = nI o) (hgo : g < o) : xcand α p c n g s v = some (tv (swp α g v) p c n 0) := by
  have hn := hG.1
  obtain ⟨-, e6⟩ := swp_1 hG hg hv hs h6 ho h9 (by omega)
  have hL := sameL_fx (p := p) (c := c) (swp_fx α g v) rfl hW.or
  have n9 : ¬ zg α 9 v = -1 := by rw [h9]; exact nI_m1 (by omega)
  have h7 : zg α 6 o = nI v := by
    rcases hG.2.2.2.2.1 v hv with q | ⟨o', ho', q1, q2⟩
    · exact absurd q n9
    · rw [h9] at q1
      have := (nI_eq (show o < 2 ^ 31 by omega) (show o' < 2 ^ 31 by omega)).mp q1
      subst this; exact q2
  have oth : ∀ a, ¬ a = g → ¬ a = o → zg (swp α g v) 6 a = zg α 6 a := fun a h1 h2 => by rw [e6, if_neg h2, if_neg h1]
  have e1 : rmW (rmW (wv (swp α g v) p c 0) g) o = rmW (rmW (wv α p c 0) g) o := by
    funext a
    unfold rmW
    by_cases h1 : a = o
    · rw [if_pos h1, if_pos h1]
    · rw [if_neg h1, if_neg h1]
      by_cases h2 : a = g
      · rw [if_pos h2, if_pos h2]
      · rw [if_neg h2, if_neg h2]; unfold wv; rw [prs_eq (oth a h2 h1), sN_eq (oth a h2 h1), hL.1]
  have e2 : rmQ (rmQ (qv (swp α g v) p c 0) g) o = rmQ (rmQ (qv α p c 0) g) o := by
    funext a b
    unfold rmQ
    by_cases h1 : a = o ∨ b = o
    · rw [if_pos h1, if_pos h1]
    · rw [if_neg h1, if_neg h1]
      by_cases h2 : a = g ∨ b = g
      · rw [if_pos h2, if_pos h2]
      · rw [if_neg h2, if_neg h2]
        have a1 := oth a (fun q => h2 (Or.inl q)) (fun q => h1 (Or.inl q))
        have b1 := oth b (fun q => h2 (Or.inr q)) (fun q => h1 (Or.inr q))
        unfold qv; rw [prs_eq a1, prs_eq b1, sN_eq a1, sN_eq b1, hL.2]
  have e3 : ∀ x y, cst (swp α g v) p c n x y (both g o) = cst α p c n x y (both g o) := by
    intro x y
    unfold cst
    rw [hL.1]
    congr 1
    refine rng_ext n 0 (fun k _ hk => ?_)
    unfold cq
    by_cases h1 : k = x
    · rw [if_pos h1, if_pos h1]
    · rw [if_neg h1, if_neg h1, prs_both (by omega) (by omega) (by omega), prs_both (by omega) (by omega) (by omega)]
      by_cases h2 : k = g
      · simp [h2]
      · by_cases h3 : k = o
        · simp [h3]
        · rw [prs_eq (oth k h2 h3), sN_eq (oth k h2 h3), hL.2]
  unfold xcand
  rw [if_neg n9, h9, if_pos ((nI_ltI (by omega) (by omega)).mpr hgo), nI_clamp (by omega)]
  have t1 := tv_two (p := p) (c := c) (n := n) hn hg ho (show ¬ g = o by omega) hs hv h6 h7
  have t2 := tv_two (α := swp α g v) (p := p) (c := c) (n := n) hn hg ho (show ¬ g = o by omega) hv hs (by rw [e6, if_neg (by omega), if_pos rfl]) (by rw [e6, if_pos rfl])
  rw [e1, e2, e3, e3, hL.2] at t2
  congr 1
  rw [t1, t2]
  unfold xchg
  grind
