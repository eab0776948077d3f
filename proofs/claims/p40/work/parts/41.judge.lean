/-! ===== who may pass, what is seen, what harms, what a seat is worth: by both sides ===== -/
abbrev mLW : zMk := ([4, 8, 17, 18, 19, 20, 21, 22, 26, 27, 28, 29, 30, 31], [(16, 7), (25, 7), (12, 4), (24, 1)])
theorem fx_row {m P : zMk} {k : Nat} {α α' : zM} (hf : Fx m α α') (hd : dis m P = true) (hk : k ∈ P.1) : zg α' k = zg α k := funext fun j => hf k j (dis_row hd hk j)
theorem lw_rows {m : zMk} {p : Nat} {α α' : zM} (hf : Fx m α α') (hd : dis m mLW = true) (hp : p = 16 ∨ p = 25) : zg α' (p + 1) = zg α (p + 1) ∧ zg α' (p + 2) = zg α (p + 2) ∧ zg α' (p + 3) = zg α (p + 3) ∧ zg α' (p + 4) = zg α (p + 4) ∧ zg α' (p + 5) = zg α (p + 5) ∧ zg α' (p + 6) = zg α (p + 6) ∧ zg α' p 7 = zg α p 7 := by
  rcases hp with rfl | rfl
  · exact ⟨fx_row hf hd (by simp), fx_row hf hd (by simp), fx_row hf hd (by simp), fx_row hf hd (by simp), fx_row hf hd (by simp), fx_row hf hd (by simp), hf 16 7 (dis_fld hd (by simp))⟩
  · exact ⟨fx_row hf hd (by simp), fx_row hf hd (by simp), fx_row hf hd (by simp), fx_row hf hd (by simp), fx_row hf hd (by simp), fx_row hf hd (by simp), hf 25 7 (dis_fld hd (by simp))⟩
theorem IW.or {p q c : Nat} {α : zM} (h : IW p q c α) : p = 16 ∨ p = 25 := by rcases h.1 with ⟨h, -⟩ | ⟨h, -⟩ <;> simp [h]
theorem IW.fx {m : zMk} {p q c : Nat} {α α' : zM} (h : IW p q c α) (hf : Fx m α α') (hd : dis m mLW = true) : IW p q c α' := by
  obtain ⟨h1, h2, h3, h4, h5, h6, h7⟩ := lw_rows hf hd h.or
  have g1 : zg α' 12 4 = zg α 12 4 := hf 12 4 (dis_fld hd (by simp))
  have g2 : zg α' 24 1 = zg α 24 1 := hf 24 1 (dis_fld hd (by simp))
  unfold IW at h ⊢
  simpa only [h1, h2, h3, h4, h5, h6, h7, g1, g2] using h
theorem BW.al {m : zMk} {p c : Nat} {α α' σ : zM} (h : BW p c α σ) (hp : p = 16 ∨ p = 25) (hf : Fx m α α') (hd : dis m mLW = true) : BW p c α' σ := by
  obtain ⟨h1, h2, h3, h4, h5, h6, h7⟩ := lw_rows hf hd hp
  unfold BW at h ⊢
  simpa only [h1, h2, h3, h4, h5, h6, h7] using h
theorem cnd_lw {α α' : zM} {p : Nat} {le : Nat → Int32} {k : Nat} (h3 : zg α' (p + 3) = zg α (p + 3)) (h4 : zg α' (p + 4) = zg α (p + 4)) (h5 : zg α' (p + 5) = zg α (p + 5)) (h6 : zg α' (p + 6) = zg α (p + 6)) : cnd α' p le k = cnd α p le k := by
  unfold cnd; rw [h3, h4, h5, h6]
theorem amv_lw {α α' : zM} {p : Nat} {le : Nat → Int32} {k : Nat} (h2 : zg α' (p + 2) = zg α (p + 2)) (h3 : zg α' (p + 3) = zg α (p + 3)) (h5 : zg α' (p + 5) = zg α (p + 5)) (h6 : zg α' (p + 6) = zg α (p + 6)) : amv α' p le k = amv α p le k := by
  unfold amv; rw [h2, h3, h5, h6]
theorem pmt_lw {m : zMk} {p : Nat} {α α' : zM} (hf : Fx m α α') (hd : dis m mLW = true) (hp : p = 16 ∨ p = 25) (le : Nat → Int32) : ∀ (c k : Nat) (any : Bool), pmt α' p le c k any = pmt α p le c k any := by
  obtain ⟨h1, h2, h3, h4, h5, h6, h7⟩ := lw_rows hf hd hp
  intro c
  induction c with
  | zero => intro k any; rfl
  | succ c ih => intro k any; rw [pmt, pmt, cnd_lw h3 h4 h5 h6, h1, ih, ih]
theorem amt_lw {m : zMk} {p : Nat} {α α' : zM} (hf : Fx m α α') (hd : dis m mLW = true) (hp : p = 16 ∨ p = 25) (le : Nat → Int32) (kind lo hi : Int32) : ∀ (c k : Nat), amt α' p le kind lo hi c k = amt α p le kind lo hi c k := by
  obtain ⟨h1, h2, h3, h4, h5, h6, h7⟩ := lw_rows hf hd hp
  intro c
  induction c with
  | zero => intro k; rfl
  | succ c ih => intro k; rw [amt, amt, cnd_lw h3 h4 h5 h6, amv_lw h2 h3 h5 h6, h1, ih]
def alw (α : zM) (p c f s g t : Nat) : Bool := pmt α p (lett α f s g t) c 0 false
def see (α : zM) (p c f s g t : Nat) : Int32 := amt α p (lett α f s g t) 118 0 1000 c 0
def hrm (α : zM) (p c f s g t : Nat) : Int32 := amt α p (lett α f s g t) 104 0 99 c 0
def wrt (α : zM) (p c f s : Nat) : Int32 := amt α p (lett1 α f s) 119 (-99) 99 c 0
theorem lett_fx {m : zMk} {α α' : zM} (hf : Fx m α α') (hd : dis m mLW = true) (f s g t : Nat) : lett α' f s g t = lett α f s g t := by
  have h4 : zg α' 4 = zg α 4 := fx_row hf hd (by simp)
  have h8 : zg α' 8 = zg α 8 := fx_row hf hd (by simp)
  funext j; unfold lett; rw [h4, h8]
theorem lett1_fx {m : zMk} {α α' : zM} (hf : Fx m α α') (hd : dis m mLW = true) (f s : Nat) : lett1 α' f s = lett1 α f s := by
  have h4 : zg α' 4 = zg α 4 := fx_row hf hd (by simp)
  funext j; unfold lett1; rw [h4]
theorem alw_fx {m : zMk} {p : Nat} {α α' : zM} (hf : Fx m α α') (hd : dis m mLW = true) (hp : p = 16 ∨ p = 25) (c f s g t : Nat) : alw α' p c f s g t = alw α p c f s g t := by
  unfold alw; rw [lett_fx hf hd, pmt_lw hf hd hp]
theorem see_fx {m : zMk} {p : Nat} {α α' : zM} (hf : Fx m α α') (hd : dis m mLW = true) (hp : p = 16 ∨ p = 25) (c f s g t : Nat) : see α' p c f s g t = see α p c f s g t := by
  unfold see; rw [lett_fx hf hd, amt_lw hf hd hp]
theorem hrm_fx {m : zMk} {p : Nat} {α α' : zM} (hf : Fx m α α') (hd : dis m mLW = true) (hp : p = 16 ∨ p = 25) (c f s g t : Nat) : hrm α' p c f s g t = hrm α p c f s g t := by
  unfold hrm; rw [lett_fx hf hd, amt_lw hf hd hp]
theorem wrt_fx {m : zMk} {p : Nat} {α α' : zM} (hf : Fx m α α') (hd : dis m mLW = true) (hp : p = 16 ∨ p = 25) (c f s : Nat) : wrt α' p c f s = wrt α p c f s := by
  unfold wrt; rw [lett1_fx hf hd, amt_lw hf hd hp]
/-! the class -/
theorem e_inlaw {p q c : Nat} {α σ : zM} (hW : IW p q c α) (hs : Fx scrL α σ) : zg σ 12 4 = nI p ∧ (nI p).toNatClampNeg = p ∧ zLw p = true :=
  ⟨(hs 12 4 rfl).trans hW.2.1, nI_clamp (by rcases hW.or with h | h <;> omega), hW.zLw⟩
theorem e_allows {F n p q c f g s t : Nat} {σ : zM} (hF : 300 ≤ F) (hG : IG n σ) (hW : IW p q c σ) (hf : f < n) (hg : g < n) (hs : s < 40) (ht : t < 40) (h6 : zg σ 6 f = nI s) (h7 : zg σ 6 g = nI t) : ∃ σ', f_X1_allows F (nI f) (nI g) σ = some (if alw σ p c f s g t = true then 1 else 0, σ') ∧ Fx scrL σ σ' := by
  obtain ⟨σ1, e1, e2, e3⟩ := e_spell hG.1 hG.2.1 hf hg hs ht
  have e2' : Fx scrL σ σ1 := e2.sub rfl
  obtain ⟨w1, w2, w3⟩ := e_inlaw hW e2'
  obtain ⟨σ2, g1, g2⟩ := e_permits hF hW e2' e3
  refine ⟨σ2, ?_, e2'.tr (g2.sub rfl)⟩
  unfold f_X1_allows
  rw [e_seatOf_n hG.1 hG.2.1 hf, bnd_some, e_seatOf_n hG.1 hG.2.1 hg, bnd_some, h6, h7, e1, bnd_some, w1, w2, if_pos w3, g1, bnd_some]
  unfold alw
  cases pmt σ p (lett σ f s g t) c 0 false <;> rfl
theorem e_seen {F n p q c f g s t : Nat} {σ : zM} (hF : 300 ≤ F) (hG : IG n σ) (hW : IW p q c σ) (hf : f < n) (hg : g < n) (hs : s < 40) (ht : t < 40) (h6 : zg σ 6 f = nI s) (h7 : zg σ 6 g = nI t) : ∃ σ', f_X1_seen F (nI f) (nI g) σ = some (see σ p c f s g t, σ') ∧ Fx scrL σ σ' := by
  obtain ⟨σ1, e1, e2, e3⟩ := e_spell hG.1 hG.2.1 hf hg hs ht
  have e2' : Fx scrL σ σ1 := e2.sub rfl
  obtain ⟨w1, w2, w3⟩ := e_inlaw hW e2'
  obtain ⟨σ2, g1, g2⟩ := e_amount (kind := 118) (lo := 0) (hi := 1000) (by decide) (by decide) hF hW e2' e3
  refine ⟨σ2, ?_, e2'.tr (g2.sub rfl)⟩
  unfold f_X1_seen
  rw [e_seatOf_n hG.1 hG.2.1 hf, bnd_some, e_seatOf_n hG.1 hG.2.1 hg, bnd_some, h6, h7, e1, bnd_some, w1, w2, if_pos w3, g1, bnd_some]
  rfl
theorem e_harm {F n p q c f g s t : Nat} {σ : zM} (hF : 300 ≤ F) (hG : IG n σ) (hW : IW p q c σ) (hf : f < n) (hg : g < n) (hfg : ¬ f = g) (hs : s < 40) (ht : t < 40) (h6 : zg σ 6 f = nI s) (h7 : zg σ 6 g = nI t) : ∃ σ', f_X1_harm F (nI f) (nI g) σ = some (if f < g then hrm σ p c f s g t else hrm σ p c g t f s, σ') ∧ Fx scrL σ σ' := by
  have hn := hG.1
  have key : ∀ {f g s t : Nat}, f < n → g < n → s < 40 → t < 40 → zg σ 6 f = nI s → zg σ 6 g = nI t → ∃ σ', bnd (f_X0_seatOf (nI f) σ) (fun r4 s3 => bnd (f_X0_seatOf (nI g) s3) (fun r6 s5 => bnd (f_X1_spell (nI f) r4 (nI g) r6 s5) (fun _ s7 => if zLw (zg s7 12 4).toNatClampNeg = true then bnd (f_X3_amount F ((zg s7 12 4).toNatClampNeg) (104 : Int32) (0 : Int32) (99 : Int32) s7) (fun r10 s9 => some (r10, s9)) else none))) = some (hrm σ p c f s g t, σ') ∧ Fx scrL σ σ' := by
    intro f g s t hf hg hs ht h6 h7
    obtain ⟨σ1, e1, e2, e3⟩ := e_spell hG.1 hG.2.1 hf hg hs ht
    have e2' : Fx scrL σ σ1 := e2.sub rfl
    obtain ⟨w1, w2, w3⟩ := e_inlaw hW e2'
    obtain ⟨σ2, g1, g2⟩ := e_amount (kind := 104) (lo := 0) (hi := 99) (by decide) (by decide) hF hW e2' e3
    refine ⟨σ2, ?_, e2'.tr (g2.sub rfl)⟩
    rw [e_seatOf_n hG.1 hG.2.1 hf, bnd_some, e_seatOf_n hG.1 hG.2.1 hg, bnd_some, h6, h7, e1, bnd_some, w1, w2, if_pos w3, g1, bnd_some]
    rfl
  unfold f_X1_harm
  rw [lt_eq, lt_eq]
  simp only [nI_ltI (show f < 2 ^ 31 by omega) (show g < 2 ^ 31 by omega), nI_ltI (show g < 2 ^ 31 by omega) (show f < 2 ^ 31 by omega)]
  by_cases h : f < g
  · rw [if_neg (by omega), if_pos h, if_pos h]; exact key hf hg hs ht h6 h7
  · rw [if_pos (by omega), if_neg h, if_neg h]; exact key hg hf ht hs h7 h6
/-! the model -/
theorem e_lets {F n p q c f g s t : Nat} {α σ : zM} (hF : 300 ≤ F) (hG : IG n α) (hB : BG n α σ) (hL : BL α σ) (hW : IW p q c α) (hV : BW p c α σ) (hf : f < n) (hg : g < n) (hs : s < 40) (ht : t < 40) (h6 : zg α 6 f = nI s) (h7 : zg α 6 g = nI t) : ∃ σ', f_X12_lets F (nI f) (nI g) σ = some (if alw α p c f s g t = true then 1 else 0, σ') ∧ Fx ([86, 87], []) σ σ' := by
  obtain ⟨σ1, e1, e2, e3⟩ := e_feels (F := F) (by omega) hG hB hL hf hg hs ht h6 h7
  obtain ⟨σ2, g1, g2⟩ := e_letsL hF hW (hV.si e2 rfl) e3
  refine ⟨σ2, ?_, (e2.sub rfl).tr (g2.sub rfl)⟩
  unfold f_X12_lets
  rw [e1, bnd_some, g1]; rfl
theorem e_seenBy {F n p q c f g s t : Nat} {α σ : zM} (hF : 300 ≤ F) (hG : IG n α) (hB : BG n α σ) (hL : BL α σ) (hW : IW p q c α) (hV : BW p c α σ) (hf : f < n) (hg : g < n) (hs : s < 40) (ht : t < 40) (h6 : zg α 6 f = nI s) (h7 : zg α 6 g = nI t) : ∃ σ', f_X12_seenBy F (nI f) (nI g) σ = some (see α p c f s g t, σ') ∧ Fx ([86, 87], []) σ σ' := by
  obtain ⟨σ1, e1, e2, e3⟩ := e_feels (F := F) (by omega) hG hB hL hf hg hs ht h6 h7
  obtain ⟨σ2, g1, g2⟩ := e_byLaw (kind := 118) (lo := 0) (hi := 1000) (by decide) hF hW (hV.si e2 rfl) e3
  refine ⟨σ2, ?_, (e2.sub rfl).tr (g2.sub rfl)⟩
  unfold f_X12_seenBy
  rw [e1, bnd_some, g1]; rfl
theorem e_harmOf {F n p q c f g s t : Nat} {α σ : zM} (hF : 300 ≤ F) (hG : IG n α) (hB : BG n α σ) (hL : BL α σ) (hW : IW p q c α) (hV : BW p c α σ) (hf : f < n) (hg : g < n) (hfg : ¬ f = g) (hs : s < 40) (ht : t < 40) (h6 : zg α 6 f = nI s) (h7 : zg α 6 g = nI t) : ∃ σ', f_X12_harmOf F (nI f) (nI g) σ = some (if f < g then hrm α p c f s g t else hrm α p c g t f s, σ') ∧ Fx ([86, 87], []) σ σ' := by
  have hn := hG.1
  have key : ∀ {f g s t : Nat}, f < n → g < n → s < 40 → t < 40 → zg α 6 f = nI s → zg α 6 g = nI t → ∃ σ', bnd (f_X12_feels F (nI f) (nI g) σ) (fun _ s4 => bnd (f_X12_byLaw F (104 : Int32) (0 : Int32) (99 : Int32) s4) (fun r6 s5 => some (r6, s5))) = some (hrm α p c f s g t, σ') ∧ Fx ([86, 87], []) σ σ' := by
    intro f g s t hf hg hs ht h6 h7
    obtain ⟨σ1, e1, e2, e3⟩ := e_feels (F := F) (by omega) hG hB hL hf hg hs ht h6 h7
    obtain ⟨σ2, g1, g2⟩ := e_byLaw (kind := 104) (lo := 0) (hi := 99) (by decide) hF hW (hV.si e2 rfl) e3
    refine ⟨σ2, ?_, (e2.sub rfl).tr (g2.sub rfl)⟩
    rw [e1, bnd_some, g1]; rfl
  unfold f_X12_harmOf f_X12_harmOf_j11
  simp only [nI_ltI (show f < 2 ^ 31 by omega) (show g < 2 ^ 31 by omega)]
  by_cases h : f < g
  · simp only [if_pos h]; exact key hf hg hs ht h6 h7
  · simp only [if_neg h]; exact key hg hf ht hs h7 h6
theorem e_worthOf {F n p q c f s : Nat} {α σ : zM} (hF : 300 ≤ F) (hG : IG n α) (hB : BG n α σ) (hW : IW p q c α) (hV : BW p c α σ) (hf : f < n) : ∃ σ', f_X12_worthOf F (nI f) (nI s) σ = some (wrt α p c f s, σ') ∧ Fx ([86, 87], []) σ σ' := by
  obtain ⟨σ1, e1, e2, e3⟩ := e_feelsOne (F := F) (x := nI s) (σ := σ) (by omega) hG.1 hf
  have e3' : ∀ j, j < 10 → zg σ1 87 j = lett1 α f s j := by
    intro j hj
    rw [e3 j hj, (hB.2 f hf).1]; rfl
  obtain ⟨σ2, g1, g2⟩ := e_byLaw (kind := 119) (lo := -99) (hi := 99) (by decide) hF hW (hV.si e2 rfl) e3'
  refine ⟨σ2, ?_, (e2.sub rfl).tr (g2.sub rfl)⟩
  unfold f_X12_worthOf
  rw [e1, bnd_some, g1]; rfl
abbrev mLC : zMk := ([17, 18, 19, 20, 21, 22, 26, 27, 28, 29, 30, 31], [(16, 7), (25, 7), (12, 4), (24, 1)])
theorem lc_rows {m : zMk} {p : Nat} {α α' : zM} (hf : Fx m α α') (hd : dis m mLC = true) (hp : p = 16 ∨ p = 25) : zg α' (p + 1) = zg α (p + 1) ∧ zg α' (p + 2) = zg α (p + 2) ∧ zg α' (p + 3) = zg α (p + 3) ∧ zg α' (p + 4) = zg α (p + 4) ∧ zg α' (p + 5) = zg α (p + 5) ∧ zg α' (p + 6) = zg α (p + 6) ∧ zg α' p 7 = zg α p 7 := by
  rcases hp with rfl | rfl
  · exact ⟨fx_row hf hd (by simp), fx_row hf hd (by simp), fx_row hf hd (by simp), fx_row hf hd (by simp), fx_row hf hd (by simp), fx_row hf hd (by simp), hf 16 7 (dis_fld hd (by simp))⟩
  · exact ⟨fx_row hf hd (by simp), fx_row hf hd (by simp), fx_row hf hd (by simp), fx_row hf hd (by simp), fx_row hf hd (by simp), fx_row hf hd (by simp), hf 25 7 (dis_fld hd (by simp))⟩
theorem IW.fx' {m : zMk} {p q c : Nat} {α α' : zM} (h : IW p q c α) (hf : Fx m α α') (hd : dis m mLC = true) : IW p q c α' := by
  obtain ⟨h1, h2, h3, h4, h5, h6, h7⟩ := lc_rows hf hd h.or
  have g1 : zg α' 12 4 = zg α 12 4 := hf 12 4 (dis_fld hd (by simp))
  have g2 : zg α' 24 1 = zg α 24 1 := hf 24 1 (dis_fld hd (by simp))
  unfold IW at h ⊢
  simpa only [h1, h2, h3, h4, h5, h6, h7, g1, g2] using h
theorem BW.al' {m : zMk} {p c : Nat} {α α' σ : zM} (h : BW p c α σ) (hp : p = 16 ∨ p = 25) (hf : Fx m α α') (hd : dis m mLC = true) : BW p c α' σ := by
  obtain ⟨h1, h2, h3, h4, h5, h6, h7⟩ := lc_rows hf hd hp
  unfold BW at h ⊢
  simpa only [h1, h2, h3, h4, h5, h6, h7] using h
