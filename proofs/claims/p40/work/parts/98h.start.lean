/-! ===== at the start ===== -/
theorem zg_clr (σ : zM) (n k j : Nat) (xl : List Nat) : zg (zclr σ n xl) k j = if k = n then 0 else zg σ k j := rfl
theorem zg_clr_ne {σ : zM} {n k j : Nat} {xl : List Nat} (h : k ≠ n) : zg (zclr σ n xl) k j = zg σ k j := by rw [zg_clr, if_neg h]
/-- nought but at these places -/
def Zr (m : zMk) (σ : zM) : Prop := ∀ k j, inm m k j = false → zg σ k j = 0
theorem Zr.clr {m : zMk} {σ : zM} {n : Nat} {xl : List Nat} (h : Zr m σ) : Zr m (zclr σ n xl) := by
  intro k j hk
  rw [zg_clr]
  split
  · rfl
  · exact h k j hk
theorem Zr.zs {m : zMk} {σ : zM} {k j : Nat} {v : Int32} (h : Zr m σ) (hin : inm m k j = true) : Zr m (zs σ k j v) := by
  intro a b hab
  have : ¬ (a = k ∧ b = j) := by rintro ⟨rfl, rfl⟩; rw [hin] at hab; cases hab
  rw [zg_zs, if_neg this]
  exact h a b hab
theorem Zr.fx {m m' : zMk} {σ σ' : zM} (h : Zr m σ) (hf : Fx m' σ σ') (hs : msub m' m = true) : Zr m σ' := by
  intro k j hk
  have hf' : Fx m σ σ' := hf.sub hs
  rw [hf' k j hk]; exact h k j hk
abbrev mZa : zMk := ([6, 7, 9, 73], [(12, 4), (12, 5), (24, 1), (45, 2), (45, 3), (0, 9), (0, 10), (0, 11), (69, 1)])
theorem init_row {v : Int32} {N : Nat} {k : Nat} {L : Nat → Int32 → zM → Option (Unit × zM)} {K : zM → Option (Unit × zM)} (hstep : ∀ fu i τ, i < N → L (fu + 1) (nI i) τ = L fu (nI (i + 1)) (zs τ k i v)) (hend : ∀ fu τ, L (fu + 1) (nI N) τ = K τ) : ∀ (d fu i : Nat) (τ : zM), i + d = N → d < fu → (∀ j, j < i → zg τ k j = v) → ∃ τ', L fu (nI i) τ = K τ' ∧ Fx ([k], []) τ τ' ∧ ∀ j, j < N → zg τ' k j = v := by
  intro d
  induction d with
  | zero =>
    intro fu i τ hi hfu h
    obtain ⟨fu, rfl⟩ : ∃ f', fu = f' + 1 := ⟨fu - 1, by omega⟩
    have : i = N := by omega
    subst this
    exact ⟨τ, hend fu τ, Fx.rf, h⟩
  | succ d ih =>
    intro fu i τ hi hfu h
    obtain ⟨fu, rfl⟩ : ∃ f', fu = f' + 1 := ⟨fu - 1, by omega⟩
    obtain ⟨τ', a1, a2, a3⟩ := ih fu (i + 1) (zs τ k i v) (by omega) (by omega) (fun j hj => by
      rw [zg_row]
      by_cases q : j = i
      · rw [if_pos q]
      · rw [if_neg q]; exact h j (by omega))
    exact ⟨τ', by rw [hstep fu i τ (by omega)]; exact a1, (fx1 k i v).tr a2, a3⟩
theorem init_X0 {F : Nat} {σ : zM} (hF : 50 ≤ F) (hz : Zr mZa σ) : ∃ τ, f_X0_init F σ = some ((), τ) ∧ Zr mZa τ ∧ Fx ([4, 5, 6, 7, 8, 9, 10, 11], []) σ τ ∧ (∀ j, j < 16 → zg τ 6 j = -1 ∧ zg τ 7 j = -1) ∧ ∀ j, j < 40 → zg τ 9 j = -1 := by
  have l16 : ∀ i, i < 16 → nI i < (16 : Int32) := fun i hi => by rw [show (16 : Int32) = nI 16 from rfl, nI_ltI (by omega) (by omega)]; exact hi
  have l40 : ∀ i, i < 40 → nI i < (40 : Int32) := fun i hi => by rw [show (40 : Int32) = nI 40 from rfl, nI_ltI (by omega) (by omega)]; exact hi
  unfold f_X0_init
  simp only [lt_eq]
  have f0 : Fx ([4, 5, 6, 7, 8, 9, 10, 11], []) σ (zclr (zclr (zclr (zclr (zclr (zclr (zclr (zclr σ 4 []) 5 []) 6 []) 7 []) 8 []) 9 []) 10 []) 11 []) := by
    intro k j hk
    simp only [inm, List.contains_cons, List.contains_nil, Bool.or_false, Bool.or_eq_false_iff, beq_eq_false_iff_ne] at hk
    obtain ⟨h4, h5, h6, h7, h8, h9, h10, h11⟩ := hk
    rw [zg_clr_ne h11, zg_clr_ne h10, zg_clr_ne h9, zg_clr_ne h8, zg_clr_ne h7, zg_clr_ne h6, zg_clr_ne h5, zg_clr_ne h4]
  have z0 : Zr mZa (zclr (zclr (zclr (zclr (zclr (zclr (zclr (zclr σ 4 []) 5 []) 6 []) 7 []) 8 []) 9 []) 10 []) 11 []) := hz.clr.clr.clr.clr.clr.clr.clr.clr
  generalize zclr (zclr (zclr (zclr (zclr (zclr (zclr (zclr σ 4 []) 5 []) 6 []) 7 []) 8 []) 9 []) 10 []) 11 [] = σ0 at f0 z0 ⊢
  have key : ∀ (K : zM → Option (Unit × zM)) (d fu i : Nat) (τ : zM), i + d = 16 → d < fu → (∀ j, j < i → zg τ 6 j = -1 ∧ zg τ 7 j = -1) → ∃ τ', f_X0_init_L71 F K fu (nI i) τ = K τ' ∧ Fx ([6, 7], []) τ τ' ∧ ∀ j, j < 16 → zg τ' 6 j = -1 ∧ zg τ' 7 j = -1 := by
    intro K d
    induction d with
    | zero =>
      intro fu i τ hi hfu h
      obtain ⟨fu, rfl⟩ : ∃ f', fu = f' + 1 := ⟨fu - 1, by omega⟩
      have : i = 16 := by omega
      subst this
      exact ⟨τ, by rw [f_X0_init_L71, if_neg (by decide)], Fx.rf, h⟩
    | succ d ih =>
      intro fu i τ hi hfu h
      obtain ⟨fu, rfl⟩ : ∃ f', fu = f' + 1 := ⟨fu - 1, by omega⟩
      have z := zin_n (show (16 : Nat) < 2 ^ 31 by omega) (show i < 16 by omega)
      obtain ⟨τ', a1, a2, a3⟩ := ih fu (i + 1) (zs (zs τ 6 i (-1)) 7 i (-1)) (by omega) (by omega) (fun j hj => by
        rw [zg_ne (by decide), zg_row, zg_row, zg_ne (by decide)]
        by_cases q : j = i
        · rw [if_pos q, if_pos q]; exact ⟨rfl, rfl⟩
        · rw [if_neg q, if_neg q]; exact h j (by omega))
      refine ⟨τ', ?_, ((Fx.rf.zs rfl).zs rfl).tr a2, a3⟩
      rw [f_X0_init_L71, if_pos (l16 i (by omega)), if_pos z, lt_eq, if_pos z, lt_eq, lt_eq, nI_1, nI_clamp (by omega)]
      exact a1
  obtain ⟨τ1, a1, a2, a3⟩ := key (fun s12 => f_X0_init_L99 F (fun s15 => some ((), s15)) F (0 : Int32) s12) 16 F 0 σ0 (by omega) (by omega) (fun j hj => by omega)
  obtain ⟨τ2, b1, b2, b3⟩ := init_row (v := -1) (N := 40) (k := 9) (L := f_X0_init_L99 F (fun s15 => some ((), s15))) (K := fun s15 => some ((), s15)) (fun fu i τ hi => by
    rw [f_X0_init_L99, if_pos (l40 i hi), if_pos (zin_n (by omega) hi), lt_eq, lt_eq, nI_1, nI_clamp (by omega)]) (fun fu τ => by rw [f_X0_init_L99, if_neg (by decide)]) 40 F 0 τ1 (by omega) (by omega) (fun j hj => by omega)
  refine ⟨τ2, a1.trans b1, (z0.fx a2 rfl).fx b2 rfl, f0.tr ((a2.sub rfl).tr (b2.sub rfl)), fun j hj => ?_, b3⟩
  rw [b2 6 j rfl, b2 7 j rfl]
  exact a3 j hj
theorem sumI_0 {f : Nat → Int32} : ∀ n, (∀ i, f i = 0) → sumI f n = 0 := by
  intro n h
  induction n with
  | zero => rfl
  | succ n ih => rw [sumI, ih, h]; rfl
/-- the class as it is made -/
theorem init_A {F : Nat} {σ : zM} (hF : 50 ≤ F) (hz : Zr mZa σ) : ∃ τ, f_X11_init F σ = some ((), τ) ∧ Zr mZa τ ∧ (∀ j, j < 16 → zg τ 6 j = -1 ∧ zg τ 7 j = -1) ∧ (∀ j, j < 40 → zg τ 9 j = -1) ∧ zg τ 12 4 = nI 16 ∧ zg τ 12 5 = nI 1 ∧ zg τ 24 1 = nI 25 ∧ zg τ 0 9 = nI 1 ∧ zg τ 0 11 = -1 := by
  unfold f_X11_init f_X10_init f_X1_init f_X4_init f_X5_init f_X9_init f_X6_init f_X2_init f_X7_init f_X3_init
  simp only [lt_eq, bnd_some]
  obtain ⟨τ, a1, a2, a3, a4, a5⟩ := init_X0 (F := F) (σ := zclr (zclr (zclr σ 1 []) 2 []) 3 []) hF hz.clr.clr.clr
  rw [a1, bnd_some]
  refine ⟨_, rfl, ?_, fun j hj => ?_, fun j hj => ?_, ?_, ?_, ?_, ?_, ?_⟩
  · repeat first | exact a2 | refine Zr.clr ?_ | refine Zr.zs ?_ rfl
  · simp (config := { decide := true }) only [zg_zs, zg_clr, false_and, if_false, if_true]
    exact a4 j hj
  · simp (config := { decide := true }) only [zg_zs, zg_clr, false_and, if_false, if_true]
    exact a5 j hj
  · simp (config := { decide := true }) only [zg_zs, zg_clr, false_and, and_false, and_self, if_false, if_true]
  · simp (config := { decide := true }) only [zg_zs, zg_clr, false_and, and_false, and_self, if_false, if_true]
    try rfl
  · simp (config := { decide := true }) only [zg_zs, zg_clr, false_and, and_false, and_self, if_false, if_true]
  · simp (config := { decide := true }) only [zg_zs, zg_clr, false_and, and_false, and_self, if_false, if_true]
    try rfl
  · simp (config := { decide := true }) only [zg_zs, zg_clr, false_and, and_false, and_self, if_false, if_true]
/-- the model as it is made -/
theorem init_B {F : Nat} {σ : zM} (hF : 50 ≤ F) (hz : Zr mZa σ) : ∃ τ, f_X12_init F σ = some ((), τ) ∧ Zr mZa τ ∧ (∀ k j, k < 69 → zg τ k j = zg σ k j) ∧ (∀ j, j < 16 → zg τ 73 j = -1) ∧ zg τ 69 1 = nI 1 := by
  have l16 : ∀ i, i < 16 → nI i < (16 : Int32) := fun i hi => by rw [show (16 : Int32) = nI 16 from rfl, nI_ltI (by omega) (by omega)]; exact hi
  unfold f_X12_init
  simp only [lt_eq]
  have hlow : ∀ (τ : zM) (k j : Nat), k < 69 → ∀ n, 69 < n → zg (zclr τ n []) k j = zg τ k j := fun τ k j hk n hn => zg_clr_ne (by omega)
  obtain ⟨τ2, b1, b2, b3⟩ := init_row (v := -1) (N := 16) (k := 73) (L := f_X12_init_L427 F (fun s55 => some ((), s55))) (K := fun s15 => some ((), s15)) (fun fu i τ hi => by
    rw [f_X12_init_L427, if_pos (l16 i hi), if_pos (zin_n (by omega) hi), lt_eq, lt_eq, nI_1, nI_clamp (by omega)]) (fun fu τ => by rw [f_X12_init_L427, if_neg (by decide)]) 16 F 0 _ (by omega) (by omega) (fun j hj => by omega)
  refine ⟨τ2, b1, Zr.fx ?_ b2 rfl, fun k j hk => ?_, b3, ?_⟩
  · refine Zr.zs ?_ rfl
    repeat first | exact hz | refine Zr.clr ?_
  · rw [b2 k j (by simp [inm]; omega), zg_ne (by omega)]
    repeat rw [hlow _ k j hk _ (by omega)]
  · rw [b2 69 1 rfl, zg_eq]; rfl
/-- both tables and the shadow as they are made -/
theorem RR_00 {F : Nat} (hF : 50 ≤ F) : ∃ τ1 τ2, f_X11_init F z0 = some ((), τ1) ∧ f_X12_init F τ1 = some ((), τ2) ∧ RR 1 (zmx τ1 τ2) ∧ zg τ1 3 8 = nI 0 ∧ zg τ1 1 1 = 0 ∧ ∀ k, 61 ≤ k → k ≤ 68 → ∀ j, zg τ1 k j = 0 := by
  have z0' : Zr mZa z0 := fun k j _ => rfl
  obtain ⟨τ1, a1, a2, a3, a4, a5, a6, a7, a8, a9⟩ := init_A (F := F) (σ := z0) hF z0'
  obtain ⟨τ2, b1, b2, b3, b4, b5⟩ := init_B (F := F) (σ := τ1) hF a2
  have lo : ∀ k j, k < 69 → zg τ2 k j = zg τ1 k j := b3
  have zz : ∀ k j, inm mZa k j = false → zg τ2 k j = 0 := b2
  have n0 : nI 0 = 0 := rfl
  have hR : RR 1 τ2 := by
    refine ⟨0, 0, 0, 0, 0, 1, none, 16, 25, 0, ⟨?_, ?_, ?_, ?_, ?_, ?_, ?_, ?_⟩, ⟨?_, ?_, ?_, ?_, ?_, ?_, ?_, ?_, ?_, ?_⟩, ?_⟩
    · exact ⟨by omega, zz 3 8 rfl, fun g hg => by omega, fun g hg => by omega, fun s hs => Or.inl ((lo 9 s (by omega)).trans (a4 s hs)), fun g _ hg => (lo 6 g (by omega)).trans (a3 g hg).1⟩
    · exact fun g hg => Or.inl ((lo 7 g (by omega)).trans (a3 g hg).2)
    · exact ⟨by omega, zz 1 1 rfl, fun i hi => by omega⟩
    · exact ⟨by omega, by omega, zz 33 10 rfl, zz 33 11 rfl, fun k hk => by omega, fun k hk => by omega⟩
    · exact ⟨by omega, zz 51 8 rfl, fun s hs => ⟨0, by omega, zz 52 s rfl⟩, fun i hi => by omega⟩
    · exact ⟨by omega, (lo 0 9 (by omega)).trans a8⟩
    · exact (lo 0 11 (by omega)).trans a9
    · exact ⟨Or.inl ⟨rfl, rfl⟩, (lo 12 4 (by omega)).trans a5, (lo 24 1 (by omega)).trans a7, by omega, zz 16 7 rfl, fun k hk => by omega⟩
    · exact ⟨zz 69 0 rfl, fun g hg => by omega⟩
    · intro g hg
      rw [b4 g hg, lo 7 g (by omega), (a3 g hg).2]
    · intro i hi
      rw [zz 72 i rfl, zz 8 i rfl]
    · exact ⟨zz 69 7 rfl, fun i hi => by omega⟩
    · exact ⟨zz 69 30 rfl, zz 69 31 rfl, fun k hk => by omega, fun k hk => by omega⟩
    · exact ⟨zz 69 50 rfl, fun s hs => by rw [zz 100 s rfl, zz 52 s rfl], fun i hi => by omega⟩
    · refine ⟨fun g hg => ?_, fun i hi => ?_, fun g hg => ?_⟩
      · rw [zz 107 g rfl, zz 61 g rfl, zz 108 g rfl, zz 62 g rfl, zz 109 g rfl, zz 63 g rfl]; exact ⟨rfl, rfl, rfl⟩
      · rw [zz 112 i rfl, zz 64 i rfl]
      · rw [zz 110 g rfl, zz 111 g rfl, sumI_0 16 (fun i => zz 64 _ rfl), sumI_0 16 (fun i => zz 64 _ rfl)]; exact ⟨rfl, rfl⟩
    · exact b5
    · exact zz 69 64 rfl
    · exact ⟨zz 69 16 rfl, fun k hk => by omega⟩
    · refine ⟨(lo 12 5 (by omega)).trans a6, by omega, fun f g s e _ _ _ _ => ⟨0, by omega, zz 14 _ rfl, fun h => by omega⟩, fun g s _ _ => ⟨0, by omega, zz 15 _ rfl, fun h => by omega⟩⟩
  refine ⟨τ1, τ2, a1, b1, hR.scr (fun k j _ => ?_), a2 3 8 rfl, a2 1 1 rfl, fun k h1 h2 j => ?_⟩
  · by_cases hk : k < 69
    · rw [zg_mlo hk, lo k j hk]
    · exact if_neg hk
  · have : k = 61 ∨ k = 62 ∨ k = 63 ∨ k = 64 ∨ k = 65 ∨ k = 66 ∨ k = 67 ∨ k = 68 := by omega
    rcases this with rfl | rfl | rfl | rfl | rfl | rfl | rfl | rfl <;> exact a2 _ j rfl
/-! ===== the tables laid ===== -/
theorem TC.zx {t : Nat} {f : Nat → Int32} {s m : zM} (h : TC t f s) : TC t f (zmx s m) := by
  obtain ⟨⟨h1, h2, h3⟩, h4⟩ := h
  exact ⟨⟨h1, (zg_mlo (by decide)).trans h2, fun i hi => by rw [zg_mlo (by decide)]; exact h3 i hi⟩, fun j hj => by rw [zg_mlo (by decide)]; exact h4 j hj⟩
theorem RR.iw {a : Nat} {s : zM} (h : RR a s) : ∃ p q c, IW p q c s := by
  obtain ⟨n, t, r, p, kc, x, ko, pl, ql, cl, ⟨hG, hH, hT, hN, hK, hD, hX, hW⟩, -, -⟩ := h
  exact ⟨pl, ql, cl, hW⟩
section ZLE
variable {xs : Nat → Int32} {L : Nat}
def tlF (F : Nat) (m : zM) : zM := gs (f_X12_feed F (824785782 : Int32) (959457903 : Int32) (729032753 : Int32) (1026631936 : Int32) (0 : Int32)) (gs (f_X12_feed F (808008552 : Int32) (959278125 : Int32) (1831363644 : Int32) (841562984 : Int32) (1680355645 : Int32)) (gs (f_X12_feed F (1881697342 : Int32) (1831679100 : Int32) (1866281257 : Int32) (997668141 : Int32) (1713922365 : Int32)) m))
def mL (F : Nat) (xs : Nat → Int32) (L : Nat) (x : Int32) (m : zM) : zM := gs (f_X12_law F (55 : Int32)) (tlF F (GK xs L (GG F xs L x m 8) 64))
def tlT (F D t : Nat) (s33 : zM) : Option (Int32 × zM) :=
  bnd (inT t (cal (f_X11_feed F (1881697342 : Int32) (1831679100 : Int32) (1866281257 : Int32) (997668141 : Int32) (1713922365 : Int32)) (f_X12_feed F (1881697342 : Int32) (1831679100 : Int32) (1866281257 : Int32) (997668141 : Int32) (1713922365 : Int32))) s33) (fun r35 s34 =>
  bnd (inT t (cal (f_X11_feed F (808008552 : Int32) (959278125 : Int32) (1831363644 : Int32) (841562984 : Int32) (1680355645 : Int32)) (f_X12_feed F (808008552 : Int32) (959278125 : Int32) (1831363644 : Int32) (841562984 : Int32) (1680355645 : Int32))) s34) (fun r37 s36 =>
  bnd (inT t (cal (f_X11_feed F (824785782 : Int32) (959457903 : Int32) (729032753 : Int32) (1026631936 : Int32) (0 : Int32)) (f_X12_feed F (824785782 : Int32) (959457903 : Int32) (729032753 : Int32) (1026631936 : Int32) (0 : Int32))) s36) (fun r39 s38 =>
  bnd (inT t (cal (f_X11_law F D (55 : Int32)) (f_X12_law F (55 : Int32))) s38) (fun r41 s40 =>
  if r41 = (5 : Int32) then
    some ((1 : Int32), s40)
  else
    some ((0 : Int32), s40)))))
theorem bytes1 : ∀ i, i < 4 → conc (0 + i) = byt 1881697342 i ∧ conc (0 + 4 + i) = byt 1831679100 i ∧ conc (0 + 4 + 4 + i) = byt 1866281257 i ∧ conc (0 + 4 + 4 + 4 + i) = byt 997668141 i ∧ conc (0 + 4 + 4 + 4 + 4 + i) = byt 1713922365 i := by decide +kernel
theorem bytes2 : ∀ i, i < 4 → conc (20 + i) = byt 808008552 i ∧ conc (20 + 4 + i) = byt 959278125 i ∧ conc (20 + 4 + 4 + i) = byt 1831363644 i ∧ conc (20 + 4 + 4 + 4 + i) = byt 841562984 i ∧ conc (20 + 4 + 4 + 4 + 4 + i) = byt 1680355645 i := by decide +kernel
theorem bytes3 : ∀ i, i < 4 → conc (40 + i) = byt 824785782 i ∧ conc (40 + 4 + i) = byt 959457903 i ∧ conc (40 + 4 + 4 + i) = byt 729032753 i ∧ conc (40 + 4 + 4 + 4 + i) = byt 1026631936 i ∧ conc (40 + 4 + 4 + 4 + 4 + i) = byt 0 i := by decide +kernel
theorem ly_feed {F t tp A : Nat} {σ0 c m σ : zM} (v1 v2 v3 v4 v5 : Int32) (hF : 6000 ≤ F) (ht : t < 2) (hA : A < 999) (h : LY t 8 A σ0 c m σ) (hc : TC tp conc (zmx c m)) (htp : tp + 20 ≤ 220) (hb : ∀ i, i < 4 → conc (tp + i) = byt v1 i ∧ conc (tp + 4 + i) = byt v2 i ∧ conc (tp + 4 + 4 + i) = byt v3 i ∧ conc (tp + 4 + 4 + 4 + i) = byt v4 i ∧ conc (tp + 4 + 4 + 4 + 4 + i) = byt v5 i) : ∃ c' σ' r, inT t (cal (f_X11_feed F v1 v2 v3 v4 v5) (f_X12_feed F v1 v2 v3 v4 v5)) σ = some (r, σ') ∧ LY t 8 (A + 1) σ0 c' (gs (f_X12_feed F v1 v2 v3 v4 v5) m) σ' ∧ TC (tp + 20) conc (zmx c' (gs (f_X12_feed F v1 v2 v3 v4 v5) m)) := by
  obtain ⟨r, s1, e1, e2, e3, e4⟩ := LY.call ([2], [(1, 1)]) (op_feed (F := F) (by omega) v1 v2 v3 v4 v5) (fun s => fx_f_X11_feed F _ _ _ _ _ (by decide +kernel) s) (fun c c' m => cg_f_X12_feed c c' F _ _ _ _ _ m) (by decide +kernel) (by decide +kernel) ht hA h
  obtain ⟨s2, g1, g2⟩ := v_feed (F := F) (v1 := v1) (v2 := v2) (v3 := v3) (v4 := v4) (v5 := v5) (by omega) hc htp hb
  rw [g1] at e1
  cases e1
  exact ⟨s1, _, _, e2, e4 8 ((e3 3 8 rfl).trans ((zg_mlo (by decide)).trans h.2.2.1)), g2.zx⟩
theorem ly_tail {F D t A : Nat} {σ0 c m σ : zM} (hF : 6000 ≤ F) (hD : 40 ≤ D) (ht : t < 2) (hA : A < 990) (h : LY t 8 A σ0 c m σ) (h11 : zg c 1 1 = 0) : ∃ c' σ', tlT F D t σ = some (1, σ') ∧ LY t 8 (A + 4) σ0 c' (gs (f_X12_law F (55 : Int32)) (tlF F m)) σ' := by
  have t0 : TC 0 conc (zmx c m) := ⟨⟨by omega, (zg_mlo (by decide)).trans h11, fun i hi => by omega⟩, fun j hj => by omega⟩
  obtain ⟨c1, σ1, r1, a1, l1, t1⟩ := ly_feed 1881697342 1831679100 1866281257 997668141 1713922365 hF ht (by omega) h t0 (by omega) bytes1
  obtain ⟨c2, σ2, r2, a2, l2, t2⟩ := ly_feed 808008552 959278125 1831363644 841562984 1680355645 hF ht (by omega) l1 t1 (by omega) bytes2
  obtain ⟨c3, σ3, r3, a3, l3, t3⟩ := ly_feed 824785782 959457903 729032753 1026631936 0 hF ht (by omega) l2 t2 (by omega) bytes3
  obtain ⟨r, s1, e1, e2, e3, e4⟩ := LY.call ([17, 18, 19, 20, 21, 22, 26, 27, 28, 29, 30, 31], [(1, 1), (12, 4), (12, 5), (16, 7), (16, 8), (24, 1), (24, 2), (24, 3), (24, 4), (25, 7), (25, 8)]) (op_law (F := F) (D := D) (by omega) (by omega) 55) (fun s => fx_f_X11_law F D _ (by decide +kernel) s) (fun c c' m => cg_f_X12_law c c' F _ m) (by decide +kernel) (by decide +kernel) ht (by omega) l3
  have l8 := l3.2.2.1
  obtain ⟨-, ⟨a, -, hr⟩, -⟩ := l3
  obtain ⟨p, q, cc, hW⟩ := hr.iw
  have h5 : r = 5 := v_law (F := F) (D := D) (by omega) (by omega) hW t3 _ _ e1
  subst h5
  refine ⟨s1, _, ?_, e4 8 ((e3 3 8 rfl).trans ((zg_mlo (by decide)).trans l8))⟩
  unfold tlT
  rw [a1, bnd_some, a2, bnd_some, a3, bnd_some, e2, bnd_some, if_pos rfl]
def x0q (xs : Nat → Int32) (L : Nat) : Int32 := if nI L = 0 then 0 else xs 0
theorem lay_ok {F D t : Nat} {σ0 c m σ : zM} (hF : 6000 ≤ F) (hD : 40 ≤ D) (ht : t < 2) (hL : L ≤ 260) (h : LY t 0 1 σ0 c m σ) (h11 : zg c 1 1 = 0) : ∃ c' σ', f_L_lay F D t xs L σ = some (1, σ') ∧ LY t 8 77 σ0 c' (mL F xs L (x0q xs L) m) σ' := by
  obtain ⟨c1, σ1, a1, l1, g1⟩ := ly_23 (F := F) (D := D) (xs := xs) (L := L) (x := x0q xs L) (K := fun s32 => f_L_lay_L177 F D t xs L (tlT F D t) F (0 : Int32) s32) hF ht (by omega) 8 F 0 1 c σ (by omega) (by omega) (by omega) h (fun k hk => by omega)
  obtain ⟨c2, σ2, a2, l2, g2⟩ := ly_177 (F := F) (D := D) (xs := xs) (L := L) (m := GG F xs L (x0q xs L) m 8) (K := tlT F D t) hF ht (by omega) 64 F 0 9 c1 σ1 (by omega) (by omega) (by omega) l1
  obtain ⟨c3, σ3, a3, l3⟩ := ly_tail (F := F) (D := D) hF hD ht (by omega) l2 (g2.trans (g1.trans h11))
  refine ⟨c3, σ3, ?_, l3⟩
  have e : f_L_lay_L23 F D t xs L (fun s32 => f_L_lay_L177 F D t xs L (tlT F D t) F (0 : Int32) s32) (x0q xs L) (x0q xs L &&& (3 : Int32)) F (0 : Int32) σ = some (1, σ3) := a1.trans (a2.trans a3)
  unfold f_L_lay
  by_cases q : nI L = 0
  · have hx : x0q xs L = 0 := if_pos q
    rw [hx] at e
    rw [if_pos q, lt_eq]
    exact e
  · have hx : x0q xs L = xs 0 := if_neg q
    rw [hx] at e
    have hL0 : 0 < L := by
      rcases Nat.eq_zero_or_pos L with w | w
      · exact absurd (by rw [w]; rfl) q
      · exact w
    have z : zin (0 : Int32) L = true := by
      show zin (nI 0) L = true
      exact zin_n (by omega) hL0
    rw [if_neg q, if_pos z, lt_eq, lt_eq]
    exact e
end ZLE
