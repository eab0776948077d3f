/-! ===== a new law ===== -/
theorem v_bb : ∀ b, b < 256 → nI b &&& (255 : Int32) = nI b := by decide +kernel
theorem pAll_1 {tx : Nat → Int32} {n : Nat} : ∀ (f k : Nat) (st : zLs) (R : zCl) (x : Nat × zLs × zCl), pAll tx n f k st R = .inl x → k + 1 ≤ x.1 := by
  intro f
  induction f with
  | zero => intro k st R x h; cases h
  | succ f ih =>
    intro k st R x h
    rw [pAll] at h
    split at h
    · cases h
    · split at h
      · split at h
        · have := ih (k + 1) _ _ x h; omega
        · cases h
      · cases h; exact Nat.le_refl _
theorem e_L110 {F ln : Nat} {K : zM → Option (Int32 × zM)} (hln : ln ≤ 220) : ∀ (d fu i : Nat) (τ : zM), i + d = ln → d < fu → zg τ 69 12 = nI ln → (∀ j, j < i → zg τ 81 j = zg τ 75 j) → ∃ τ', f_X12_law_L110 F K fu (nI i) τ = K τ' ∧ Fx ([81], []) τ τ' ∧ ∀ j, j < ln → zg τ' 81 j = zg τ 75 j := by
  intro d
  induction d with
  | zero =>
    intro fu i τ hi hfu h12 h
    obtain ⟨fu, rfl⟩ : ∃ f', fu = f' + 1 := ⟨fu - 1, by omega⟩
    have : i = ln := by omega
    subst this
    exact ⟨τ, by rw [f_X12_law_L110, h12, if_neg (by rw [nI_ltI (by omega) (by omega)]; omega)], Fx.rf, h⟩
  | succ d ih =>
    intro fu i τ hi hfu h12 h
    obtain ⟨fu, rfl⟩ : ∃ f', fu = f' + 1 := ⟨fu - 1, by omega⟩
    have z := zin_n (show (220 : Nat) < 2 ^ 31 by omega) (show i < 220 by omega)
    obtain ⟨τ', a1, a2, a3⟩ := ih fu (i + 1) (zs τ 81 i (zg τ 75 i)) (by omega) (by omega) (by rw [zg_ne (by decide)]; exact h12) (fun j hj => by
      rw [zg_row, zg_ne (show (75 : Nat) ≠ 81 by decide)]
      by_cases q : j = i
      · subst q; rw [if_pos rfl]
      · rw [if_neg q]; exact h j (by omega))
    refine ⟨τ', ?_, (Fx.rf.zs rfl).tr a2, fun j hj => (a3 j hj).trans (zg_ne (by decide))⟩
    rw [f_X12_law_L110, h12, if_pos (by rw [nI_ltI (by omega) (by omega)]; omega), if_pos z, if_pos z, nI_clamp (by omega), lt_eq, lt_eq, nI_1]
    exact a1
theorem e_L138 {F c : Nat} {K : zM → Option (Int32 × zM)} (hc : c ≤ 14) : ∀ (d fu i : Nat) (τ : zM), i + d = c → d < fu → zg τ 69 14 = nI c → (∀ j, j < i → zg τ 82 j = zg τ 77 j ∧ zg τ 83 j = zg τ 78 j ∧ zg τ 84 j = zg τ 79 j ∧ zg τ 85 j = zg τ 80 j) → ∃ τ', f_X12_law_L138 F K fu (nI i) τ = K τ' ∧ Fx ([82, 83, 84, 85], []) τ τ' ∧ ∀ j, j < c → zg τ' 82 j = zg τ 77 j ∧ zg τ' 83 j = zg τ 78 j ∧ zg τ' 84 j = zg τ 79 j ∧ zg τ' 85 j = zg τ 80 j := by
  intro d
  induction d with
  | zero =>
    intro fu i τ hi hfu h14 h
    obtain ⟨fu, rfl⟩ : ∃ f', fu = f' + 1 := ⟨fu - 1, by omega⟩
    have : i = c := by omega
    subst this
    exact ⟨τ, by rw [f_X12_law_L138, h14, if_neg (by rw [nI_ltI (by omega) (by omega)]; omega)], Fx.rf, h⟩
  | succ d ih =>
    intro fu i τ hi hfu h14 h
    obtain ⟨fu, rfl⟩ : ∃ f', fu = f' + 1 := ⟨fu - 1, by omega⟩
    have z := zin_n (show (14 : Nat) < 2 ^ 31 by omega) (show i < 14 by omega)
    have r : ∀ (x1 x2 x3 x4 : Int32) (k j : Nat), k < 82 → zg (zs (zs (zs (zs τ 82 i x1) 83 i x2) 84 i x3) 85 i x4) k j = zg τ k j := fun x1 x2 x3 x4 k j hk => by rw [zg_ne (by omega), zg_ne (by omega), zg_ne (by omega), zg_ne (by omega)]
    obtain ⟨τ', a1, a2, a3⟩ := ih fu (i + 1) (zs (zs (zs (zs τ 82 i (zg τ 77 i)) 83 i (zg τ 78 i)) 84 i (zg τ 79 i)) 85 i (zg τ 80 i)) (by omega) (by omega) (by rw [r _ _ _ _ _ _ (by omega)]; exact h14) (fun j hj => by
      rw [r _ _ _ _ 77 j (by omega), r _ _ _ _ 78 j (by omega), r _ _ _ _ 79 j (by omega), r _ _ _ _ 80 j (by omega), zg_ne (show (82 : Nat) ≠ 85 by decide), zg_ne (show (82 : Nat) ≠ 84 by decide), zg_ne (show (82 : Nat) ≠ 83 by decide), zg_row, zg_ne (show (83 : Nat) ≠ 85 by decide), zg_ne (show (83 : Nat) ≠ 84 by decide), zg_row, zg_ne (show (83 : Nat) ≠ 82 by decide), zg_ne (show (84 : Nat) ≠ 85 by decide), zg_row, zg_ne (show (84 : Nat) ≠ 83 by decide), zg_ne (show (84 : Nat) ≠ 82 by decide), zg_row, zg_ne (show (85 : Nat) ≠ 84 by decide), zg_ne (show (85 : Nat) ≠ 83 by decide), zg_ne (show (85 : Nat) ≠ 82 by decide)]
      by_cases q : j = i
      · subst q; rw [if_pos rfl, if_pos rfl, if_pos rfl, if_pos rfl]; exact ⟨rfl, rfl, rfl, rfl⟩
      · rw [if_neg q, if_neg q, if_neg q, if_neg q]; exact h j (by omega))
    refine ⟨τ', ?_, ((((Fx.rf.zs rfl).zs rfl).zs rfl).zs rfl).tr a2, fun j hj => ?_⟩
    · rw [f_X12_law_L138, h14, if_pos (by rw [nI_ltI (by omega) (by omega)]; omega), if_pos z, if_pos z, nI_clamp (by omega), lt_eq, if_pos z, if_pos z, zg_ne (show (78 : Nat) ≠ 82 by decide), lt_eq, if_pos z, if_pos z, zg_ne (show (79 : Nat) ≠ 83 by decide), zg_ne (show (79 : Nat) ≠ 82 by decide), lt_eq, if_pos z, if_pos z, zg_ne (show (80 : Nat) ≠ 84 by decide), zg_ne (show (80 : Nat) ≠ 83 by decide), zg_ne (show (80 : Nat) ≠ 82 by decide), lt_eq, lt_eq, nI_1]
      exact a1
    · have w := a3 j hj
      rw [r _ _ _ _ 77 j (by omega), r _ _ _ _ 78 j (by omega), r _ _ _ _ 79 j (by omega), r _ _ _ _ 80 j (by omega)] at w
      exact w
/-! the law that stays -/
def sameLaw (p : Nat) (α α' : zM) : Prop := (∀ i, 1 ≤ i → i ≤ 6 → zg α' (p + i) = zg α (p + i)) ∧ zg α' p 7 = zg α p 7
theorem amt_r {p : Nat} {α α' : zM} (h : sameLaw p α α') (le : Nat → Int32) (kind lo hi : Int32) : ∀ (c k : Nat), amt α' p le kind lo hi c k = amt α p le kind lo hi c k := by
  intro c
  induction c with
  | zero => intro k; rfl
  | succ c ih =>
    intro k
    rw [amt, amt, cnd_lw (h.1 3 (by omega) (by omega)) (h.1 4 (by omega) (by omega)) (h.1 5 (by omega) (by omega)) (h.1 6 (by omega) (by omega)), amv_lw (h.1 2 (by omega) (by omega)) (h.1 3 (by omega) (by omega)) (h.1 5 (by omega) (by omega)) (h.1 6 (by omega) (by omega)), h.1 1 (by omega) (by omega), ih]
theorem IW.keep {p q c : Nat} {α α' : zM} (h : IW p q c α) (hs : sameLaw p α α') (h1 : zg α' 12 4 = zg α 12 4) (h2 : zg α' 24 1 = zg α 24 1) : IW p q c α' := by
  have e1 := hs.1 1 (by omega) (by omega)
  have e2 := hs.1 2 (by omega) (by omega)
  have e3 := hs.1 3 (by omega) (by omega)
  have e4 := hs.1 4 (by omega) (by omega)
  have e5 := hs.1 5 (by omega) (by omega)
  have e6 := hs.1 6 (by omega) (by omega)
  have e7 := hs.2
  unfold IW at h ⊢
  simpa only [e1, e2, e3, e4, e5, e6, e7, h1, h2] using h
theorem BW.keep {p c : Nat} {α α' σ : zM} (h : BW p c α σ) (hs : sameLaw p α α') : BW p c α' σ := by
  have e1 := hs.1 1 (by omega) (by omega)
  have e2 := hs.1 2 (by omega) (by omega)
  have e3 := hs.1 3 (by omega) (by omega)
  have e4 := hs.1 4 (by omega) (by omega)
  have e5 := hs.1 5 (by omega) (by omega)
  have e6 := hs.1 6 (by omega) (by omega)
  unfold BW at h ⊢
  simpa only [e1, e2, e3, e4, e5, e6] using h
theorem PM.keep {n p c a : Nat} {α α' σ σ' : zM} (h : PM n p c a α σ) (hs : sameLaw p α α') (h4 : zg α' 4 = zg α 4) (h8 : zg α' 8 = zg α 8) (h5 : zg σ' 12 5 = zg σ 12 5) (h14 : ∀ j, zg σ' 14 j = zg σ 14 j) (h15 : ∀ j, zg σ' 15 j = zg σ 15 j) : PM n p c a α' σ' := by
  have lt : ∀ f s g t, lett α' f s g t = lett α f s g t := fun f s g t => by funext j; unfold lett; rw [h4, h8]
  have lt1 : ∀ f s, lett1 α' f s = lett1 α f s := fun f s => by funext j; unfold lett1; rw [h4]
  obtain ⟨p1, p2, p3, p4⟩ := h
  refine ⟨h5.trans p1, p2, fun f g s e q1 q2 q3 q4 => ?_, fun g s q1 q2 => ?_⟩
  · obtain ⟨v, r1, r2, r3⟩ := p3 f g s e q1 q2 q3 q4
    refine ⟨v, r1, (h14 _).trans r2, fun hv => ⟨(r3 hv).1, fun t ht hd2 hn => ?_⟩⟩
    rw [(r3 hv).2 t ht hd2 hn]
    unfold hrm
    rw [lt, amt_r hs]
  · obtain ⟨v, r1, r2, r3⟩ := p4 g s q1 q2
    refine ⟨v, r1, (h15 _).trans r2, fun hv => ⟨(r3 hv).1, ?_⟩⟩
    rw [(r3 hv).2]
    unfold wrt
    rw [lt1, amt_r hs]
theorem okStep_cg {st st' pt pt' : Nat → Int32} {τ : Nat → List Bool} {e k : Nat} (h : okStep st pt τ e k) (h1 : st' k = st k) (h2 : pt' k = pt k) : okStep st' pt' τ e k := by
  unfold okStep at h ⊢
  rw [h1, h2]; exact h
theorem Seg.typ {C : Nat → Int32 × Nat} {a e K : Nat} {b : Bool} {sr pr : Nat → Int32} (h : Seg C a e b K) (hK : K ≤ 39) (hr : ∀ j, j < e → sr j = (C j).1 ∧ pr j = nI (C j).2) : ∃ τ, τ a = [] ∧ Typ sr pr a e b τ := by
  obtain ⟨h1, h2, h3⟩ := h
  obtain ⟨τ, t1, t2, t3, t4⟩ := h2 []
  exact ⟨τ, t1, t2, fun k ha he => okStep_cg (t3 k ha he) (hr k he).1 (hr k he).2, fun k ha he => by have := t4 k ha he; simp at this; omega⟩
abbrev mLF (q : Nat) : zMk := ([q + 1, q + 2, q + 3, q + 4, q + 5, q + 6, 75, 76, 77, 78, 79, 80], [(24, 2), (24, 3), (24, 4), (q, 7), (q, 8), (1, 1), (69, 7), (69, 8), (69, 9), (69, 10), (69, 11), (69, 12), (69, 13), (69, 14), (69, 15)])
abbrev mLG (q : Nat) : zMk := ([q + 1, q + 2, q + 3, q + 4, q + 5, q + 6, 75, 76, 77, 78, 79, 80, 81, 82, 83, 84, 85], [(24, 1), (24, 2), (24, 3), (24, 4), (q, 7), (q, 8), (1, 1), (12, 4), (12, 5), (69, 7), (69, 8), (69, 9), (69, 10), (69, 11), (69, 12), (69, 13), (69, 14), (69, 15), (69, 16)])
theorem op_law {F D : Nat} (hF : 300 ≤ F) (hDD : 21 ≤ D) (v : Int32) : OP (f_X11_law F D v) (f_X12_law F v) := by
  intro a σ ha ⟨n, t, r, p, kc, x, ko, pl, ql, cl, ⟨hG, hH, hT, hN, hK, hD, hX, hW⟩, ⟨bG, bH, bL, bT, bN, bK, bP, bD, bX, bW⟩, hP⟩
  have hn := hG.1
  have t1 := hT.1
  have t2 := hT.2.1
  have e1 : (1 : Int32).toInt = 1 := rfl
  have e200 : (200 : Int32).toInt = 200 := rfl
  have hq : ql = 16 ∨ ql = 25 := by rcases hW.1 with ⟨-, h⟩ | ⟨-, h⟩ <;> simp [h]
  have hp := hW.or
  by_cases hc : 1 ≤ v.toInt ∧ v.toInt ≤ 200 ∧ v.toInt ≤ t
  · obtain ⟨m, hm, rfl, -⟩ := nI_of' (v := v) (n := 201) ⟨by omega, by omega⟩ (by omega)
    rw [nI_toInt (by omega)] at hc
    have w := e_read (F := F) (D := D) (n := m) (by omega) hDD hT hW (by omega) (by omega) (by omega)
    -- the model's bytes
    have tape : ∀ i, i < m → (zg σ 74 i &&& (255 : Int32)) = txc σ m i := by
      intro i hi
      obtain ⟨b, hb, e⟩ := hT.2.2 i (by omega)
      unfold txc
      rw [if_pos hi, bT.2 i (by omega), e, v_b8 b hb, v_bb b hb]
    have mod : ∀ σ1 : zM, (∀ i, zg σ1 74 i = zg σ 74 i) → zg σ1 69 7 = nI t → ∀ o : Option (Int32 × zM), (bnd (f_X12_readsClause F (zs (zs (zs (zs σ1 69 8 (0 : Int32)) 69 9 (nI m)) 69 12 (0 : Int32)) 69 14 (0 : Int32))) (fun r8 s7 => f_X12_law_L46 F (fun y14 s13 => f_X12_law_j86 F y14 s13) F r8 s7)) = o → f_X12_law F (nI m) σ1 = o := by
      intro σ1 _ h7 o ho
      unfold f_X12_law
      rw [e_in, bnd_some, b01, if_pos (by rw [e1, e200, nI_toInt (by omega)]; omega), h7, if_neg (by rw [nI_ltI (by omega) (by omega)]; omega), lt_eq, lt_eq, lt_eq, lt_eq]
      exact ho
    have start : ∀ σ1 : zM, (∀ i, zg σ1 74 i = zg σ 74 i) → mAl m (txc σ m) (zs (zs (zs (zs σ1 69 8 (0 : Int32)) 69 9 (nI m)) 69 12 (0 : Int32)) 69 14 (0 : Int32)) 0 st0 R0c (zs (zs (zs (zs σ1 69 8 (0 : Int32)) 69 9 (nI m)) 69 12 (0 : Int32)) 69 14 (0 : Int32)) := by
      intro σ1 h74
      refine ⟨Fx.rf, ⟨by omega, ?_, fun i hi => ?_, txc_out⟩, ⟨?_, ?_, fun j hj => ?_⟩, ?_, fun i hi => ?_⟩
      · rw [zg_nj (by decide), zg_nj (by decide), zg_eq]
      · rw [zg_ne (by decide), zg_ne (by decide), zg_ne (by decide), zg_ne (by decide), h74]; exact tape i hi
      · rw [zg_nj (by decide), zg_nj (by decide), zg_nj (by decide), zg_eq]; rfl
      · rw [zg_nj (by decide), zg_eq]; rfl
      · have : j < 0 := hj
        omega
      · rw [zg_eq]; rfl
      · omega
    have ga0 : GA m 0 st0 R0c := ⟨by omega, Nat.le_refl _, by show 0 ≤ m; omega, fun j hj => by have : j < 0 := hj; omega, fun i hi => by omega⟩
    have c1 : ¬ nI m < (1 : Int32) := by rw [show (1 : Int32) = nI 1 from rfl, nI_ltI (by omega) (by omega)]; omega
    have c2 : ¬ (200 : Int32) < nI m := by rw [show (200 : Int32) = nI 200 from rfl, nI_ltI (by omega) (by omega)]; omega
    have c3 : ¬ nI t < nI m := by rw [nI_ltI (by omega) (by omega)]; omega
    cases hr : pAll (txc σ m) m 15 0 st0 R0c with
    | inr e =>
      rw [hr] at w
      obtain ⟨σ1, w1, w2, w3⟩ := w
      have f1 : Fx (mLF ql) σ (zs σ1 1 1 (0 : Int32)) := (w2.sub (by rcases hq with rfl | rfl <;> rfl)).zs (by simp [inm])
      have g74 : ∀ i, zg (zs σ1 1 1 (0 : Int32)) 74 i = zg σ 74 i := fun i => f1 74 i (by rcases hq with rfl | rfl <;> rfl)
      have g7 : zg (zs σ1 1 1 (0 : Int32)) 69 7 = nI t := by
        rw [zg_ne (by decide), w2 69 7 (by rcases hq with rfl | rfl <;> rfl)]; exact bT.1
      have x1 : f_X11_law F D (nI m) σ = some (e, zs σ1 1 1 (0 : Int32)) := by
        unfold f_X11_law f_X10_length f_X10_clear
        rw [if_neg c1, if_neg c2, bnd_some, t2, if_neg c3, w1, bnd_some, lt_eq, bnd_some, if_neg (by rw [i_lt]; have : (0 : Int32).toInt = 0 := rfl; omega)]
      generalize zs σ1 1 1 (0 : Int32) = σ2 at f1 g74 g7 x1
      have u := m_all (F := F) (K := fun y14 s13 => f_X12_law_j86 F y14 s13) hF 15 0 st0 R0c _ F (by omega) (by omega) ga0 (start σ2 g74)
      rw [hr] at u
      obtain ⟨σ3, u1, u2, u3⟩ := u
      have f2 : Fx (mLF ql) σ2 (zs σ3 69 7 (0 : Int32)) := by
        refine Fx.zs ?_ (by simp [inm])
        exact ((((Fx.rf.zs (by simp [inm])).zs (by simp [inm])).zs (by simp [inm])).zs (by simp [inm])).tr (u2.sub (by rcases hq with rfl | rfl <;> rfl))
      have hf := f1.tr f2
      have y1 : f_X12_law F (nI m) σ2 = some (e, zs σ3 69 7 (0 : Int32)) := by
        refine mod σ2 g74 g7 _ ?_
        rw [u1]
        show f_X12_law_j86 F 0 σ3 = _
        unfold f_X12_law_j86
        rw [lt_eq, if_pos rfl, zg_nj (by decide), u3]
      have z11 : zg (zs σ3 69 7 (0 : Int32)) 1 1 = nI 0 := by
        have : zg σ2 1 1 = 0 := by
          have q := x1
          unfold f_X11_law f_X10_length f_X10_clear at q
          rw [if_neg c1, if_neg c2, bnd_some, t2, if_neg c3, w1, bnd_some, lt_eq, bnd_some, if_neg (by rw [i_lt]; have : (0 : Int32).toInt = 0 := rfl; omega)] at q
          have q2 : zs σ1 1 1 (0 : Int32) = σ2 := by injection q with q; exact congrArg Prod.snd q
          rw [← q2, zg_eq]
        have q3 : zg (zs σ3 69 7 (0 : Int32)) 1 1 = zg σ2 1 1 := by
          rw [zg_ne (by decide), u2 1 1 rfl, zg_ne (by decide), zg_ne (by decide), zg_ne (by decide), zg_ne (by decide)]
        rw [q3, this]; rfl
      have z77 : zg (zs σ3 69 7 (0 : Int32)) 69 7 = nI 0 := by rw [zg_eq]; rfl
      generalize zs σ3 69 7 (0 : Int32) = σ4 at hf y1 z11 z77
      have sl : sameLaw pl σ σ4 := by
        rcases hW.1 with ⟨h1, h2⟩ | ⟨h1, h2⟩
        · subst h1; subst h2
          refine ⟨fun i a b => funext fun j => hf (16 + i) j ?_, hf 16 7 rfl⟩
          have : i = 1 ∨ i = 2 ∨ i = 3 ∨ i = 4 ∨ i = 5 ∨ i = 6 := by omega
          rcases this with rfl | rfl | rfl | rfl | rfl | rfl <;> rfl
        · subst h1; subst h2
          refine ⟨fun i a b => funext fun j => hf (25 + i) j ?_, hf 25 7 rfl⟩
          have : i = 1 ∨ i = 2 ∨ i = 3 ∨ i = 4 ∨ i = 5 ∨ i = 6 := by omega
          rcases this with rfl | rfl | rfl | rfl | rfl | rfl <;> rfl
      refine ⟨e, σ2, σ4, x1, y1, a, by omega, ?_⟩
      have nT : IT 0 σ4 := ⟨by omega, z11, fun i hi => by omega⟩
      have nbT : BT 0 σ4 σ4 := ⟨z77, fun i hi => by omega⟩
      have nW : IW pl ql cl σ4 := hW.keep sl (hf 12 4 (by rcases hq with rfl | rfl <;> rfl)) (hf 24 1 (by rcases hq with rfl | rfl <;> rfl))
      have nbW : BW pl cl σ4 σ4 := (bW.keep sl).si hf (by rcases hq with rfl | rfl <;> rfl)
      have nP : PM n pl cl a σ4 σ4 := hP.keep sl (funext fun j => hf 4 j (by rcases hq with rfl | rfl <;> rfl)) (funext fun j => hf 8 j (by rcases hq with rfl | rfl <;> rfl)) (hf 12 5 (by rcases hq with rfl | rfl <;> rfl)) (fun j => hf 14 j (by rcases hq with rfl | rfl <;> rfl)) (fun j => hf 15 j (by rcases hq with rfl | rfl <;> rfl))
      rcases hq with rfl | rfl
      · exact ⟨n, 0, r, p, kc, x, ko, pl, _, cl, ⟨hG.fx hf rfl, hH.fx hf rfl, nT, hN.fx hf rfl, hK.fx hf rfl, hD.fx hf rfl, hX.fx hf rfl, nW⟩, ⟨(bG.al hf rfl).si hf rfl, (bH.al hf rfl).si hf rfl, (bL.al hf rfl).si hf rfl, nbT, (bN.al hf rfl).si hf rfl, (bK.al hf rfl).si hf rfl, (bP.al hf rfl).si hf rfl, (bD.al hf rfl).si hf rfl, (bX.al hf rfl).si hf rfl, nbW⟩, nP⟩
      · exact ⟨n, 0, r, p, kc, x, ko, pl, _, cl, ⟨hG.fx hf rfl, hH.fx hf rfl, nT, hN.fx hf rfl, hK.fx hf rfl, hD.fx hf rfl, hX.fx hf rfl, nW⟩, ⟨(bG.al hf rfl).si hf rfl, (bH.al hf rfl).si hf rfl, (bL.al hf rfl).si hf rfl, nbT, (bN.al hf rfl).si hf rfl, (bK.al hf rfl).si hf rfl, (bP.al hf rfl).si hf rfl, (bD.al hf rfl).si hf rfl, (bX.al hf rfl).si hf rfl, nbW⟩, nP⟩
    | inl x =>
      rw [hr] at w
      obtain ⟨σ1, w1, w2, ⟨-, uR0, utx, uS, u7, uR⟩, uG⟩ := w
      have hk1 := pAll_1 15 0 st0 R0c x hr
      obtain ⟨k1, k2, k3, k4, k5⟩ := uG
      obtain ⟨kd, s, R⟩ := x
      have zp : zLw (nI pl).toNatClampNeg = true ∧ (nI pl).toNatClampNeg = pl ∧ zLw pl = true := by rcases hp with rfl | rfl <;> exact ⟨rfl, rfl, rfl⟩
      have zq : zLw (nI ql).toNatClampNeg = true ∧ (nI ql).toNatClampNeg = ql ∧ zLw ql = true := by rcases hq with rfl | rfl <;> exact ⟨rfl, rfl, rfl⟩
      have k1' : kd ≤ 14 := k1
      have hk1' : 1 ≤ kd := hk1
      have k2' : s.2.1 ≤ s.1 := k2
      have k3' : s.1 ≤ m := k3
      have k5' : ∀ i, i < kd → (R i).2.1 ≤ (R i).2.2.1 ∧ (R i).2.2.1 ≤ (R i).2.2.2 ∧ (R i).2.2.2 ≤ s.2.1 ∧ Seg s.2.2 (R i).2.2.1 (R i).2.2.2 true 16 ∧ ((R i).1 = 112 ∨ Seg s.2.2 (R i).2.1 (R i).2.2.1 false 15) := k5
      have a124 : zg σ1 12 4 = nI pl := (w2 12 4 (by rcases hq with rfl | rfl <;> rfl)).trans hW.2.1
      have a241 : zg σ1 24 1 = nI ql := (w2 24 1 (by rcases hq with rfl | rfl <;> rfl)).trans hW.2.2.1
      have a125 : zg σ1 12 5 = nI a := (w2 12 5 (by rcases hq with rfl | rfl <;> rfl)).trans hP.1
      have x1 : f_X11_law F D (nI m) σ = some (nI kd, zs (zs (zs (zs σ1 1 1 (0 : Int32)) 24 1 (nI pl)) 12 4 (nI ql)) 12 5 (nI (a + 1))) := by
        unfold f_X11_law f_X10_length f_X10_clear f_X1_inForce f_X4_handOut f_X1_take f_X1_forget
        rw [if_neg c1, if_neg c2, bnd_some, t2, if_neg c3, w1, bnd_some, lt_eq, bnd_some, if_pos (show (0 : Int32) < nI kd by rw [show (0 : Int32) = nI 0 from rfl, nI_ltI (by omega) (by omega)]; omega), zg_ne (show (12 : Nat) ≠ 1 by decide), a124, if_pos zp.1, bnd_some, zp.2.1, if_pos zp.2.2, zg_ne (show (24 : Nat) ≠ 1 by decide), a241, if_pos zq.1, lt_eq, bnd_some, zq.2.1, if_pos zq.2.2, lt_eq, zg_nj (show (5 : Nat) ≠ 4 by decide), zg_ne (show (12 : Nat) ≠ 24 by decide), zg_ne (show (12 : Nat) ≠ 1 by decide), a125, nI_1, lt_eq, bnd_some, bnd_some]
      have f1 : Fx (mLG ql) σ (zs (zs (zs (zs σ1 1 1 (0 : Int32)) 24 1 (nI pl)) 12 4 (nI ql)) 12 5 (nI (a + 1))) := ((((w2.sub (by rcases hq with rfl | rfl <;> rfl)).zs (by simp [inm])).zs (by simp [inm])).zs (by simp [inm])).zs (by simp [inm])
      have r2 : ∀ i j, 1 ≤ i → i ≤ 6 → zg (zs (zs (zs (zs σ1 1 1 (0 : Int32)) 24 1 (nI pl)) 12 4 (nI ql)) 12 5 (nI (a + 1))) (ql + i) j = zg σ1 (ql + i) j := by
        intro i j h1 h6
        rw [zg_ne (by omega), zg_ne (by omega), zg_ne (by omega), zg_ne (by omega)]
      have b11 : zg (zs (zs (zs (zs σ1 1 1 (0 : Int32)) 24 1 (nI pl)) 12 4 (nI ql)) 12 5 (nI (a + 1))) 1 1 = nI 0 := by rw [zg_ne (by decide), zg_ne (by decide), zg_ne (by decide), zg_eq]; rfl
      have b124 : zg (zs (zs (zs (zs σ1 1 1 (0 : Int32)) 24 1 (nI pl)) 12 4 (nI ql)) 12 5 (nI (a + 1))) 12 4 = nI ql := by rw [zg_nj (by decide), zg_eq]
      have b125 : zg (zs (zs (zs (zs σ1 1 1 (0 : Int32)) 24 1 (nI pl)) 12 4 (nI ql)) 12 5 (nI (a + 1))) 12 5 = nI (a + 1) := zg_eq
      have b241 : zg (zs (zs (zs (zs σ1 1 1 (0 : Int32)) 24 1 (nI pl)) 12 4 (nI ql)) 12 5 (nI (a + 1))) 24 1 = nI pl := by rw [zg_ne (by decide), zg_ne (by decide), zg_eq]
      have bq7 : zg (zs (zs (zs (zs σ1 1 1 (0 : Int32)) 24 1 (nI pl)) 12 4 (nI ql)) 12 5 (nI (a + 1))) ql 7 = nI kd := by
        rw [zg_ne (by rcases hq with rfl | rfl <;> decide), zg_ne (by rcases hq with rfl | rfl <;> decide), zg_ne (by rcases hq with rfl | rfl <;> decide), zg_ne (by rcases hq with rfl | rfl <;> decide)]; exact u7
      have g7 : zg (zs (zs (zs (zs σ1 1 1 (0 : Int32)) 24 1 (nI pl)) 12 4 (nI ql)) 12 5 (nI (a + 1))) 69 7 = nI t := by
        rw [zg_ne (by decide), zg_ne (by decide), zg_ne (by decide), zg_ne (by decide), w2 69 7 (by rcases hq with rfl | rfl <;> rfl)]; exact bT.1
      have g74 : ∀ i, zg (zs (zs (zs (zs σ1 1 1 (0 : Int32)) 24 1 (nI pl)) 12 4 (nI ql)) 12 5 (nI (a + 1))) 74 i = zg σ 74 i := fun i => f1 74 i (by rcases hq with rfl | rfl <;> rfl)
      generalize zs (zs (zs (zs σ1 1 1 (0 : Int32)) 24 1 (nI pl)) 12 4 (nI ql)) 12 5 (nI (a + 1)) = σ2 at f1 r2 b11 b124 b125 b241 bq7 g7 g74 x1
      have u := m_all (F := F) (K := fun y14 s13 => f_X12_law_j86 F y14 s13) hF 15 0 st0 R0c _ F (by omega) (by omega) ga0 (start σ2 g74)
      rw [hr] at u
      obtain ⟨σ3, u1, u2, u3, u4, u5, u6⟩ := u
      have v14 : zg (zs (zs σ3 69 7 (0 : Int32)) 69 16 (nI kd)) 69 14 = nI kd := by rw [zg_nj (by decide), zg_nj (by decide)]; exact u5
      have v12 : zg (zs (zs σ3 69 7 (0 : Int32)) 69 16 (nI kd)) 69 12 = nI s.2.1 := by rw [zg_nj (by decide), zg_nj (by decide)]; exact u4.2.1
      obtain ⟨σ5, p1, p2, p3⟩ := e_L110 (F := F) (ln := s.2.1) (K := fun s19 => f_X12_law_L138 F (fun s25 => some ((zg s25 69 14), s25)) F (0 : Int32) s19) (by omega) s.2.1 F 0 (zs (zs σ3 69 7 (0 : Int32)) 69 16 (nI kd)) (by omega) (by omega) v12 (fun j hj => by omega)
      obtain ⟨σ6, q1, q2, q3⟩ := e_L138 (F := F) (c := kd) (K := fun s25 => some ((zg s25 69 14), s25)) k1' kd F 0 σ5 (by omega) (by omega) ((p2 69 14 rfl).trans v14) (fun j hj => by omega)
      have y1 : f_X12_law F (nI m) σ2 = some (nI kd, σ6) := by
        refine mod σ2 g74 g7 _ ?_
        rw [u1]
        show f_X12_law_j86 F 1 σ3 = _
        unfold f_X12_law_j86
        have e14 : zg (zs σ3 69 7 (0 : Int32)) 69 14 = nI kd := by rw [zg_nj (by decide)]; exact u5
        rw [lt_eq, if_neg b1n, e14, lt_eq]
        refine p1.trans (q1.trans ?_)
        rw [q2 69 14 rfl, p2 69 14 rfl, v14]
      have f2 : Fx ([75, 76, 77, 78, 79, 80, 81, 82, 83, 84, 85], [(69, 7), (69, 8), (69, 9), (69, 10), (69, 11), (69, 12), (69, 13), (69, 14), (69, 15), (69, 16)]) σ2 σ6 := by
        have fa : Fx ([75, 76, 77, 78, 79, 80, 81, 82, 83, 84, 85], [(69, 7), (69, 8), (69, 9), (69, 10), (69, 11), (69, 12), (69, 13), (69, 14), (69, 15), (69, 16)]) σ2 (zs (zs σ3 69 7 (0 : Int32)) 69 16 (nI kd)) := Fx.zs (Fx.zs (((((Fx.rf.zs rfl).zs rfl).zs rfl).zs rfl).tr (u2.sub rfl)) rfl) rfl
        exact fa.tr ((p2.sub rfl).tr (q2.sub rfl))
      have hf : Fx (mLG ql) σ σ6 := f1.tr (f2.sub (by rcases hq with rfl | rfl <;> rfl))
      -- what stands in the rows now
      have rows : ∀ i j, 1 ≤ i → i ≤ 6 → zg σ6 (ql + i) j = zg σ1 (ql + i) j := by
        intro i j h1 h6
        refine (f2 (ql + i) j ?_).trans (r2 i j h1 h6)
        have : i = 1 ∨ i = 2 ∨ i = 3 ∨ i = 4 ∨ i = 5 ∨ i = 6 := by omega
        rcases this with rfl | rfl | rfl | rfl | rfl | rfl <;> rcases hq with rfl | rfl <;> rfl
      have c5 : ∀ j, j < s.2.1 → zg σ6 (ql + 5) j = (s.2.2 j).1 ∧ zg σ6 (ql + 6) j = nI (s.2.2 j).2 := fun j hj => by rw [rows 5 j (by omega) (by omega), rows 6 j (by omega) (by omega)]; exact uS.2.2.2 j hj
      have c1' : ∀ i, i < kd → zg σ6 (ql + 1) i = (R i).1 ∧ zg σ6 (ql + 2) i = nI (R i).2.1 ∧ zg σ6 (ql + 3) i = nI (R i).2.2.1 ∧ zg σ6 (ql + 4) i = nI (R i).2.2.2 := fun i hi => by rw [rows 1 i (by omega) (by omega), rows 2 i (by omega) (by omega), rows 3 i (by omega) (by omega), rows 4 i (by omega) (by omega)]; exact uR i hi
      have m81 : ∀ j, j < s.2.1 → zg σ6 81 j = nI (opN (s.2.2 j).1 * 1048576 + (s.2.2 j).2) := fun j hj => by
        rw [q2 81 j rfl, p3 j hj, zg_ne (by decide), zg_ne (by decide)]; exact u4.2.2 j hj
      have m82 : ∀ i, i < kd → zg σ6 82 i = (R i).1 ∧ zg σ6 83 i = nI (R i).2.1 ∧ zg σ6 84 i = nI (R i).2.2.1 ∧ zg σ6 85 i = nI (R i).2.2.2 := fun i hi => by
        obtain ⟨z1, z2, z3, z4⟩ := q3 i hi
        rw [z1, z2, z3, z4, p2 77 i rfl, p2 78 i rfl, p2 79 i rfl, p2 80 i rfl, zg_ne (show (77 : Nat) ≠ 69 by decide), zg_ne (show (77 : Nat) ≠ 69 by decide), zg_ne (show (78 : Nat) ≠ 69 by decide), zg_ne (show (78 : Nat) ≠ 69 by decide), zg_ne (show (79 : Nat) ≠ 69 by decide), zg_ne (show (79 : Nat) ≠ 69 by decide), zg_ne (show (80 : Nat) ≠ 69 by decide), zg_ne (show (80 : Nat) ≠ 69 by decide)]
        exact u6 i hi
      refine ⟨nI kd, σ2, σ6, x1, y1, a + 1, Nat.le_refl _, ?_⟩
      have nT : IT 0 σ6 := ⟨by omega, (f2 1 1 rfl).trans b11, fun i hi => by omega⟩
      have nbT : BT 0 σ6 σ6 := ⟨by rw [q2 69 7 rfl, p2 69 7 rfl, zg_nj (by decide), zg_eq]; rfl, fun i hi => by omega⟩
      have nW : IW ql pl kd σ6 := by
        refine ⟨by rcases hW.1 with ⟨h1, h2⟩ | ⟨h1, h2⟩ <;> simp [h1, h2], (f2 12 4 rfl).trans b124, (f2 24 1 rfl).trans b241, k1', (f2 ql 7 (by rcases hq with rfl | rfl <;> rfl)).trans bq7, fun k hk => ?_⟩
        obtain ⟨d1, d2, d3, d4, d5⟩ := k5' k hk
        obtain ⟨r1, r2', r3, r4⟩ := c1' k hk
        have d3' : (R k).2.2.2 ≤ s.2.1 := d3
        refine ⟨(R k).2.1, (R k).2.2.1, (R k).2.2.2, d1, d2, by omega, r2', r3, r4, fun j hj => ⟨(s.2.2 j).2, k4 j (show j < s.2.1 by omega), (c5 j (by omega)).2⟩, d4.typ (by omega) (fun j hj => c5 j (by omega)), ?_⟩
        rcases d5 with h | h
        · exact Or.inl (r1.trans h)
        · exact Or.inr (h.typ (by omega) (fun j hj => c5 j (by omega)))
      have nbW : BW ql kd σ6 σ6 := by
        refine ⟨?_, fun k hk => ?_⟩
        · rw [q2 69 16 rfl, p2 69 16 rfl, zg_eq]
        · obtain ⟨d1, d2, d3, d4, d5⟩ := k5' k hk
          obtain ⟨r1, r2', r3, r4⟩ := c1' k hk
          obtain ⟨s1, s2, s3, s4⟩ := m82 k hk
          have d3' : (R k).2.2.2 ≤ s.2.1 := d3
          rw [r1, r2', r3, r4, s1, s2, s3, s4]
          refine ⟨rfl, rfl, rfl, rfl, fun e he hre j w hj hw hpw => ?_⟩
          have ee : (R k).2.2.2 = e := (nI_eq (by omega) (by omega)).mp hre
          have hjl : j < s.2.1 := by omega
          have hv : (s.2.2 j).2 < 1048576 := k4 j hjl
          obtain ⟨t5, t6⟩ := c5 j hjl
          rw [t6] at hpw
          have ev : (s.2.2 j).2 = w := (nI_eq (by omega) (by omega)).mp hpw
          rw [m81 j hjl, t5, ev]
      have nP : PM n ql kd (a + 1) σ6 σ6 := hP.age ha ((f2 12 5 rfl).trans b125) (fun j => hf 14 j (by rcases hq with rfl | rfl <;> rfl)) (fun j => hf 15 j (by rcases hq with rfl | rfl <;> rfl))
      rcases hq with rfl | rfl
      · exact ⟨n, 0, r, p, kc, x, ko, _, pl, kd, ⟨hG.fx hf rfl, hH.fx hf rfl, nT, hN.fx hf rfl, hK.fx hf rfl, hD.fx hf rfl, hX.fx hf rfl, nW⟩, ⟨(bG.al hf rfl).si hf rfl, (bH.al hf rfl).si hf rfl, (bL.al hf rfl).si hf rfl, nbT, (bN.al hf rfl).si hf rfl, (bK.al hf rfl).si hf rfl, (bP.al hf rfl).si hf rfl, (bD.al hf rfl).si hf rfl, (bX.al hf rfl).si hf rfl, nbW⟩, nP⟩
      · exact ⟨n, 0, r, p, kc, x, ko, _, pl, kd, ⟨hG.fx hf rfl, hH.fx hf rfl, nT, hN.fx hf rfl, hK.fx hf rfl, hD.fx hf rfl, hX.fx hf rfl, nW⟩, ⟨(bG.al hf rfl).si hf rfl, (bH.al hf rfl).si hf rfl, (bL.al hf rfl).si hf rfl, nbT, (bN.al hf rfl).si hf rfl, (bK.al hf rfl).si hf rfl, (bP.al hf rfl).si hf rfl, (bD.al hf rfl).si hf rfl, (bX.al hf rfl).si hf rfl, nbW⟩, nP⟩
  · refine OP.no ⟨n, t, r, p, kc, x, ko, pl, ql, cl, ⟨hG, hH, hT, hN, hK, hD, hX, hW⟩, ⟨bG, bH, bL, bT, bN, bK, bP, bD, bX, bW⟩, hP⟩ (-1) ?_ ?_
    · unfold f_X11_law f_X10_length
      by_cases q1 : v < 1
      · rw [if_pos q1]
      · by_cases q2 : 200 < v
        · rw [if_neg q1, if_pos q2]
        · rw [if_neg q1, if_neg q2, bnd_some, t2, if_pos ?_]
          rw [i_lt] at q1 q2 ⊢
          rw [nI_toInt (by omega)]
          omega
    · unfold f_X12_law
      rw [e_in, bnd_some, b01, e1, e200, bT.1]
      by_cases q1 : 1 ≤ v.toInt ∧ v.toInt ≤ 200
      · rw [if_pos q1, if_pos ?_]
        rw [i_lt, nI_toInt (by omega)]
        omega
      · rw [if_neg q1]
