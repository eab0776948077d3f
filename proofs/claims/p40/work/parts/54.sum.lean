/-! ===== the sum ===== -/
def rng (f : Nat → Int32) : Nat → Nat → Int32
  | _, 0 => 0
  | h, m + 1 => f h + rng f (h + 1) m
def sN (α : zM) (g : Nat) : Nat := (zg α 6 g).toNatClampNeg
/-- who counts: seated, its bit not told -/
def prs (α : zM) (W : Int32) (g : Nat) : Bool := !(decide (zg α 6 g = -1)) && decide (((W >>> (nI g &&& 31)) &&& (1 : Int32)) = 0)
def wv (α : zM) (p c : Nat) (W : Int32) (g : Nat) : Int32 := if prs α W g = true then -(wrt α p c g (sN α g)) else 0
def qv (α : zM) (p c : Nat) (W : Int32) (g h : Nat) : Int32 := if prs α W g = true ∧ prs α W h = true then qrl α p c g (sN α g) h (sN α h) else 0
def tv (α : zM) (p c n : Nat) (W : Int32) : Int32 := rng (fun g => wv α p c W g + rng (qv α p c W g) (g + 1) (n - (g + 1))) 0 n
theorem sN_n {α : zM} {g s : Nat} (h : zg α 6 g = nI s) (hs : s < 40) : sN α g = s := by unfold sN; rw [h, nI_clamp (by omega)]
theorem prs_no {α : zM} {W : Int32} {g : Nat} (h : zg α 6 g = -1) : prs α W g = false := by unfold prs; simp [h]
theorem prs_s {α : zM} {W : Int32} {g : Nat} (h : ¬ zg α 6 g = -1) : prs α W g = decide (((W >>> (nI g &&& 31)) &&& (1 : Int32)) = 0) := by unfold prs; simp [h]
abbrev mJ : zMk := ([13, 14, 15, 23, 32], [])
theorem e_total {F n p q c a : Nat} {W : Int32} {α σ : zM} (hF : 300 ≤ F) (hG : IG n α) (hW : IW p q c α) (hx : Fx mQ α σ) (hP : PM n p c a α σ) : ∃ σ', f_X6_total F W σ = some (tv α p c n W, σ') ∧ Fx mJ σ σ' ∧ PM n p c a α σ' := by
  have hn := hG.1
  -- the inner loop
  have inner : ∀ (K : Int32 → zM → Option (Int32 × zM)) (g s : Nat), g < n → s < 40 → zg α 6 g = nI s → prs α W g = true → ∀ (m fu h : Nat) (acc : Int32) (σ : zM), h + m = n → g < h → m < fu → Fx mQ α σ → PM n p c a α σ → ∃ σ', f_X6_total_L60 F K W (nI g) (nI s) fu acc (nI h) σ = K (acc + rng (qv α p c W g) h m) σ' ∧ Fx mJ σ σ' ∧ PM n p c a α σ' := by
    intro K g s hg hs h6 hp m
    induction m with
    | zero =>
      intro fu h acc σ hh hgh hfu hx hP
      obtain ⟨fu, rfl⟩ : ∃ f', fu = f' + 1 := ⟨fu - 1, by omega⟩
      refine ⟨σ, ?_, Fx.rf, hP⟩
      rw [f_X6_total_L60, f_X0_number, bnd_some, hx 3 8 rfl, hG.2.1, if_neg (by rw [nI_ltI (by omega) (by omega)]; omega), rng]
      rw [show acc + 0 = acc by simp]
    | succ m ih =>
      intro fu h acc σ hh hgh hfu hx hP
      obtain ⟨fu, rfl⟩ : ∃ f', fu = f' + 1 := ⟨fu - 1, by omega⟩
      have hGσ : IG n σ := hG.fx hx rfl
      have e6 : zg σ 6 h = zg α 6 h := hx 6 h rfl
      rw [f_X6_total_L60, f_X0_number, bnd_some, hx 3 8 rfl, hG.2.1, if_pos (by rw [nI_ltI (by omega) (by omega)]; omega), e_seatOf_n hn hGσ.2.1 (show h < n by omega), bnd_some, e6, rng]
      rcases hG.seat (show h < n by omega) with h7 | ⟨t, ht, h7⟩
      · obtain ⟨σ', r1, r2, r3⟩ := ih fu (h + 1) acc σ (by omega) (by omega) (by omega) hx hP
        refine ⟨σ', ?_, r2, r3⟩
        have : qv α p c W g h = 0 := by unfold qv; rw [prs_no h7]; simp
        rw [if_pos h7, lt_eq, nI_1, r1, this]
        congr 1; simp
      · have n7 : ¬ zg α 6 h = -1 := by rw [h7]; exact nI_m1 (by omega)
        rw [if_neg n7]
        by_cases hb : ((W >>> (nI h &&& 31)) &&& (1 : Int32)) = 0
        · obtain ⟨σ1, k1, k2, k3⟩ := e_quarrel (F := F) hF hG hW hx hP hg (show h < n by omega) hs ht
          obtain ⟨σ', r1, r2, r3⟩ := ih fu (h + 1) (acc + qrl α p c g s h t) σ1 (by omega) (by omega) (by omega) (hx.tr (k2.sub rfl)) k3
          refine ⟨σ', ?_, (k2.sub rfl).tr r2, r3⟩
          have : qv α p c W g h = qrl α p c g s h t := by
            unfold qv
            rw [if_pos ⟨hp, by rw [prs_s n7]; simpa using hb⟩, sN_n h6 hs, sN_n h7 ht]
          rw [if_pos hb, h7, k1, bnd_some, lt_eq, lt_eq, nI_1, r1, this]
          congr 1; grind
        · obtain ⟨σ', r1, r2, r3⟩ := ih fu (h + 1) acc σ (by omega) (by omega) (by omega) hx hP
          refine ⟨σ', ?_, r2, r3⟩
          have : qv α p c W g h = 0 := by
            unfold qv
            rw [if_neg (fun q => by have := q.2; rw [prs_s n7] at this; exact hb (by simpa using this))]
          rw [if_neg hb, lt_eq, nI_1, r1, this]
          congr 1; simp
  have outer : ∀ (m fu g : Nat) (acc : Int32) (σ : zM), g + m = n → m < fu → Fx mQ α σ → PM n p c a α σ → ∃ σ', f_X6_total_L4 F (fun y25 s24 => some (y25, s24)) W fu acc (nI g) σ = some (acc + rng (fun g => wv α p c W g + rng (qv α p c W g) (g + 1) (n - (g + 1))) g m, σ') ∧ Fx mJ σ σ' ∧ PM n p c a α σ' := by
    intro m
    induction m with
    | zero =>
      intro fu g acc σ hg hfu hx hP
      obtain ⟨fu, rfl⟩ : ∃ f', fu = f' + 1 := ⟨fu - 1, by omega⟩
      refine ⟨σ, ?_, Fx.rf, hP⟩
      rw [f_X6_total_L4, f_X0_number, bnd_some, hx 3 8 rfl, hG.2.1, if_neg (by rw [nI_ltI (by omega) (by omega)]; omega), rng]
      rw [show acc + 0 = acc by simp]
    | succ m ih =>
      intro fu g acc σ hg hfu hx hP
      obtain ⟨fu, rfl⟩ : ∃ f', fu = f' + 1 := ⟨fu - 1, by omega⟩
      have hGσ : IG n σ := hG.fx hx rfl
      have e6 : zg σ 6 g = zg α 6 g := hx 6 g rfl
      have zero : prs α W g = false → wv α p c W g + rng (qv α p c W g) (g + 1) (n - (g + 1)) = 0 := by
        intro h0
        have hz : ∀ m h, rng (qv α p c W g) h m = 0 := by
          intro m
          induction m with
          | zero => intro h; rfl
          | succ m ih => intro h; rw [rng, ih]; unfold qv; rw [h0]; simp
        unfold wv
        rw [hz, h0]; rfl
      rw [f_X6_total_L4, f_X0_number, bnd_some, hx 3 8 rfl, hG.2.1, if_pos (by rw [nI_ltI (by omega) (by omega)]; omega), e_seatOf_n hn hGσ.2.1 (show g < n by omega), bnd_some, e6, rng]
      rcases hG.seat (show g < n by omega) with h6 | ⟨s, hs, h6⟩
      · obtain ⟨σ', r1, r2, r3⟩ := ih fu (g + 1) acc σ (by omega) (by omega) hx hP
        refine ⟨σ', ?_, r2, r3⟩
        rw [if_pos h6, lt_eq, nI_1, r1, zero (prs_no h6)]
        congr 2; simp
      · have n6 : ¬ zg α 6 g = -1 := by rw [h6]; exact nI_m1 (by omega)
        rw [if_neg n6]
        by_cases hb : ((W >>> (nI g &&& 31)) &&& (1 : Int32)) = 0
        · have hp : prs α W g = true := by rw [prs_s n6]; simpa using hb
          obtain ⟨σ1, k1, k2, k3⟩ := e_value (F := F) hF hG hW hx hP (show g < n by omega) hs
          have hx1 : Fx mQ α σ1 := hx.tr (k2.sub rfl)
          obtain ⟨σ2, j1, j2, j3⟩ := inner (fun y21 s20 => lt (nI (g + 1)) (fun y22 => f_X6_total_L4 F (fun y25 s24 => some (y25, s24)) W fu y21 y22 s20)) g s (by omega) hs h6 hp (n - (g + 1)) F (g + 1) (acc - wrt α p c g s) σ1 (by omega) (by omega) (by omega) hx1 k3
          obtain ⟨σ', r1, r2, r3⟩ := ih fu (g + 1) (acc - wrt α p c g s + rng (qv α p c W g) (g + 1) (n - (g + 1))) σ2 (by omega) (by omega) (hx1.tr (j2.sub rfl)) j3
          refine ⟨σ', ?_, (k2.sub rfl).tr (j2.tr r2), r3⟩
          have hw : wv α p c W g = -(wrt α p c g s) := by unfold wv; rw [if_pos hp, sN_n h6 hs]
          rw [if_pos hb, h6, k1, bnd_some, lt_eq, lt_eq, nI_1, j1, lt_eq, r1, hw]
          congr 2; grind
        · have hp : prs α W g = false := by rw [prs_s n6]; simpa using hb
          obtain ⟨σ', r1, r2, r3⟩ := ih fu (g + 1) acc σ (by omega) (by omega) hx hP
          refine ⟨σ', ?_, r2, r3⟩
          rw [if_neg hb, lt_eq, nI_1, r1, zero hp]
          congr 2; simp
  obtain ⟨σ', r1, r2, r3⟩ := outer n F 0 0 σ (by omega) (by omega) hx hP
  refine ⟨σ', ?_, r2, r3⟩
  unfold f_X6_total tv
  refine r1.trans ?_
  congr 2; simp
theorem bit0 (g : Nat) : (((0 : Int32) >>> (nI g &&& 31)) &&& (1 : Int32)) = 0 := by simp
theorem prs0 {α : zM} {g : Nat} : prs α 0 g = !(decide (zg α 6 g = -1)) := by unfold prs; rw [decide_eq_true (bit0 g), Bool.and_true]
theorem e_sumOf {F n p q c : Nat} {α σ : zM} (hF : 300 ≤ F) (hG : IG n α) (hB : BG n α σ) (hL : BL α σ) (hW : IW p q c α) (hV : BW p c α σ) : ∃ σ', f_X12_sumOf F σ = some (tv α p c n 0, σ') ∧ Fx ([86, 87], []) σ σ' := by
  have hn := hG.1
  have inner : ∀ (K : Int32 → zM → Option (Int32 × zM)) (g s : Nat), g < n → s < 40 → zg α 6 g = nI s → ∀ (m fu h : Nat) (acc : Int32) (τ : zM), h + m = n → g < h → m < fu → Fx ([86, 87], []) σ τ → ∃ τ', f_X12_sumOf_L41 F K (nI g) fu acc (nI h) τ = K (acc + rng (qv α p c 0 g) h m) τ' ∧ Fx ([86, 87], []) τ τ' := by
    intro K g s hg hs h6 m
    induction m with
    | zero =>
      intro fu h acc τ hh hgh hfu hx
      obtain ⟨fu, rfl⟩ : ∃ f', fu = f' + 1 := ⟨fu - 1, by omega⟩
      refine ⟨τ, ?_, Fx.rf⟩
      rw [f_X12_sumOf_L41, hx 69 0 rfl, hB.1, if_neg (by rw [nI_ltI (by omega) (by omega)]; omega), rng]
      rw [show acc + 0 = acc by simp]
    | succ m ih =>
      intro fu h acc τ hh hgh hfu hx
      obtain ⟨fu, rfl⟩ : ∃ f', fu = f' + 1 := ⟨fu - 1, by omega⟩
      have bt : BG n α τ := hB.si hx rfl
      have zG : zin (nI g) 16 = true := zin_n (by omega) (by omega)
      have zH : zin (nI h) 16 = true := zin_n (by omega) (by omega)
      have n6 : ¬ zg α 6 g = -1 := by rw [h6]; exact nI_m1 (by omega)
      rw [f_X12_sumOf_L41, hx 69 0 rfl, hB.1, if_pos (by rw [nI_ltI (by omega) (by omega)]; omega), e_sitsM hG bt (show h < n by omega), bnd_some, b10, rng]
      rcases hG.seat (show h < n by omega) with h7 | ⟨t, ht, h7⟩
      · obtain ⟨τ', r1, r2⟩ := ih fu (h + 1) acc τ (by omega) (by omega) (by omega) hx
        refine ⟨τ', ?_, r2⟩
        have : qv α p c 0 g h = 0 := by unfold qv; rw [prs_no h7]; simp
        rw [if_pos h7, lt_eq, nI_1, r1, this]
        congr 1; simp
      · have n7 : ¬ zg α 6 h = -1 := by rw [h7]; exact nI_m1 (by omega)
        have hq : qv α p c 0 g h = qrl α p c g s h t := by
          unfold qv
          rw [if_pos ⟨by rw [prs0]; simp [n6], by rw [prs0]; simp [n7]⟩, sN_n h6 hs, sN_n h7 ht]
        have hd40 : dst s t < 20 := by unfold dst; split <;> omega
        have h3 : (nI (dst s t) < (3 : Int32)) ↔ dst s t < 3 := nI_ltI (b := 3) (by omega) (by omega)
        rw [if_neg n7, if_pos zG, if_pos zH, nI_clamp (by omega), nI_clamp (by omega), (bt.s71 hG hg hs).mpr h6, (bt.s71 hG (by omega) ht).mpr h7, e_size, v_sizeM s hs t ht, bnd_some]
        by_cases hd : dst s t < 3
        · obtain ⟨τ1, k1, k2⟩ := e_harmOf (F := F) hF hG bt (hL.si hx rfl) hW (hV.si hx rfl) hg (show h < n by omega) (by omega) hs ht h6 h7
          obtain ⟨τ', r1, r2⟩ := ih fu (h + 1) (acc + qrl α p c g s h t) τ1 (by omega) (by omega) (by omega) (hx.tr k2)
          refine ⟨τ', ?_, k2.tr r2⟩
          have hq2 : qrl α p c g s h t = hrm α p c g s h t := by unfold qrl; rw [if_neg (by omega), if_neg (by omega), if_pos hgh]
          rw [if_pos hgh] at k1
          rw [if_pos (h3.mpr hd), k1, bnd_some, lt_eq, lt_eq, nI_1, ← hq2, r1, hq]
          congr 1; grind
        · obtain ⟨τ', r1, r2⟩ := ih fu (h + 1) acc τ (by omega) (by omega) (by omega) hx
          refine ⟨τ', ?_, r2⟩
          have hq2 : qrl α p c g s h t = 0 := by unfold qrl; rw [if_neg (by omega), if_pos (by omega)]
          rw [if_neg (fun q => hd (h3.mp q)), lt_eq, nI_1, r1, hq, hq2]
          congr 1; simp
  have outer : ∀ (m fu g : Nat) (acc : Int32) (τ : zM), g + m = n → m < fu → Fx ([86, 87], []) σ τ → ∃ τ', f_X12_sumOf_L4 F (fun y22 s21 => some (y22, s21)) fu acc (nI g) τ = some (acc + rng (fun g => wv α p c 0 g + rng (qv α p c 0 g) (g + 1) (n - (g + 1))) g m, τ') ∧ Fx ([86, 87], []) τ τ' := by
    intro m
    induction m with
    | zero =>
      intro fu g acc τ hg hfu hx
      obtain ⟨fu, rfl⟩ : ∃ f', fu = f' + 1 := ⟨fu - 1, by omega⟩
      refine ⟨τ, ?_, Fx.rf⟩
      rw [f_X12_sumOf_L4, hx 69 0 rfl, hB.1, if_neg (by rw [nI_ltI (by omega) (by omega)]; omega), rng]
      rw [show acc + 0 = acc by simp]
    | succ m ih =>
      intro fu g acc τ hg hfu hx
      obtain ⟨fu, rfl⟩ : ∃ f', fu = f' + 1 := ⟨fu - 1, by omega⟩
      have bt : BG n α τ := hB.si hx rfl
      have zG : zin (nI g) 16 = true := zin_n (by omega) (by omega)
      rw [f_X12_sumOf_L4, hx 69 0 rfl, hB.1, if_pos (by rw [nI_ltI (by omega) (by omega)]; omega), e_sitsM hG bt (show g < n by omega), bnd_some, b10, rng]
      rcases hG.seat (show g < n by omega) with h6 | ⟨s, hs, h6⟩
      · obtain ⟨τ', r1, r2⟩ := ih fu (g + 1) acc τ (by omega) (by omega) hx
        refine ⟨τ', ?_, r2⟩
        have hp : prs α 0 g = false := prs_no h6
        have hz : ∀ m h, rng (qv α p c 0 g) h m = 0 := by
          intro m
          induction m with
          | zero => intro h; rfl
          | succ m ih => intro h; rw [rng, ih]; unfold qv; rw [hp]; simp
        have hw : wv α p c 0 g = 0 := by unfold wv; rw [hp]; rfl
        rw [if_pos h6, lt_eq, nI_1, r1, hz, hw]
        congr 2; simp
      · have n6 : ¬ zg α 6 g = -1 := by rw [h6]; exact nI_m1 (by omega)
        have hp : prs α 0 g = true := by rw [prs0]; simp [n6]
        obtain ⟨τ1, k1, k2⟩ := e_worthOf (F := F) (s := s) hF hG bt hW (hV.si hx rfl) (show g < n by omega)
        obtain ⟨τ2, j1, j2⟩ := inner (fun y18 s17 => lt (nI (g + 1)) (fun y19 => f_X12_sumOf_L4 F (fun y22 s21 => some (y22, s21)) fu y18 y19 s17)) g s (by omega) hs h6 (n - (g + 1)) F (g + 1) (acc - wrt α p c g s) τ1 (by omega) (by omega) (by omega) (hx.tr k2)
        obtain ⟨τ', r1, r2⟩ := ih fu (g + 1) (acc - wrt α p c g s + rng (qv α p c 0 g) (g + 1) (n - (g + 1))) τ2 (by omega) (by omega) ((hx.tr k2).tr j2)
        refine ⟨τ', ?_, k2.tr (j2.tr r2)⟩
        have hw : wv α p c 0 g = -(wrt α p c g s) := by unfold wv; rw [if_pos hp, sN_n h6 hs]
        rw [if_neg n6, if_pos zG, nI_clamp (by omega), (bt.s71 hG (by omega) hs).mpr h6, k1, bnd_some, lt_eq, lt_eq, nI_1, j1, lt_eq, r1, hw]
        congr 2; grind
  obtain ⟨τ', r1, r2⟩ := outer n F 0 0 σ (by omega) (by omega) Fx.rf
  refine ⟨τ', ?_, r2⟩
  unfold f_X12_sumOf tv
  refine r1.trans ?_
  congr 2; simp
theorem op_sum {F : Nat} (hF : 300 ≤ F) : OP (f_X11_sum F) (f_X12_sum F) := by
  intro a σ ha ⟨n, t, r, p, kc, x, ko, pl, ql, cl, ⟨hG, hH, hT, hN, hK, hD, hX, hW⟩, ⟨bG, bH, bL, bT, bN, bK, bP, bD, bX, bW⟩, hP⟩
  obtain ⟨σ1, e1, e2, e3⟩ := e_total (F := F) (W := 0) hF hG hW Fx.rf hP
  obtain ⟨σ2, g1, g2⟩ := e_sumOf (F := F) (σ := σ1) hF hG (bG.si e2 rfl) (bL.si e2 rfl) hW (bW.si e2 rfl)
  refine ⟨tv σ pl cl n 0, σ1, σ2, ?_, ?_, a, by omega, ?_⟩
  · unfold f_X11_sum; rw [e1]; rfl
  · unfold f_X12_sum; rw [g1]; rfl
  · have hf : Fx ([13, 14, 15, 23, 32, 86, 87], []) σ σ2 := (e2.sub rfl).tr (g2.sub rfl)
    exact ⟨n, t, r, p, kc, x, ko, pl, ql, cl, ⟨hG.fx hf rfl, hH.fx hf rfl, hT.fx hf rfl, hN.fx hf rfl, hK.fx hf rfl, hD.fx hf rfl, hX.fx hf rfl, hW.fx hf rfl⟩, ⟨(bG.al hf rfl).si hf rfl, (bH.al hf rfl).si hf rfl, (bL.al hf rfl).si hf rfl, (bT.al hf rfl).si hf rfl, (bN.al hf rfl).si hf rfl, (bK.al hf rfl).si hf rfl, (bP.al hf rfl).si hf rfl, (bD.al hf rfl).si hf rfl, (bX.al hf rfl).si hf rfl, (bW.al hW.or hf rfl).si hf rfl⟩, e3.fx hW.or hf rfl g2 rfl⟩
