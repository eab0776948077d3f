/-! ===== the model reads a text ===== -/
abbrev mMA : zMk := ([75, 76, 77, 78, 79, 80], [(69, 8), (69, 10), (69, 11), (69, 12), (69, 13), (69, 14), (69, 15)])
def mC (st : zLs) (σ : zM) : Prop := zg σ 69 8 = nI st.1 ∧ zg σ 69 12 = nI st.2.1 ∧ ∀ j, j < st.2.1 → zg σ 75 j = nI (opN (st.2.2 j).1 * 1048576 + (st.2.2 j).2)
def rmS (k : Nat) (R : zCl) (σ : zM) : Prop := ∀ i, i < k → zg σ 77 i = (R i).1 ∧ zg σ 78 i = nI (R i).2.1 ∧ zg σ 79 i = nI (R i).2.2.1 ∧ zg σ 80 i = nI (R i).2.2.2
def mAl (n : Nat) (tx : Nat → Int32) (σ0 : zM) (k : Nat) (st : zLs) (R : zCl) (σ : zM) : Prop := Fx mMA σ0 σ ∧ MR0 n tx σ ∧ mC st σ ∧ zg σ 69 14 = nI k ∧ rmS k R σ
def mFl (σ0 : zM) (e : Int32) (σ : zM) : Prop := Fx mMA σ0 σ ∧ zg σ 69 10 = e
theorem MR0.fx {n : Nat} {tx : Nat → Int32} {σ σ' : zM} (h : MR0 n tx σ) (hf : Fx mMA σ σ') : MR0 n tx σ' := by
  obtain ⟨h1, h2, h3, h4⟩ := h
  exact ⟨h1, (hf 69 9 rfl).trans h2, fun i hi => by rw [hf 74 i rfl]; exact h3 i hi, h4⟩
theorem mC.mW {st : zLs} {σ : zM} (h : mC st σ) (h11 : zg σ 69 11 = nI 0) (h13 : zg σ 69 13 = nI 0) : mW σ 0 [] st σ := ⟨Fx.rf, h.1, h11, h.2.1, h13, trivial, h.2.2, Nat.zero_le _⟩
theorem mW.mC {σ0 σ : zM} {op : Nat} {W : List Nat} {st : zLs} (h : mW σ0 op W st σ) : mC st σ := ⟨h.2.1, h.2.2.2.1, h.2.2.2.2.2.2.1⟩
theorem mC.fx {st : zLs} {σ σ' : zM} {m : zMk} (h : mC st σ) (hf : Fx m σ σ') (hd : dis m ([75], [(69, 8), (69, 12)]) = true) : mC st σ' := ⟨(hf 69 8 (dis_fld hd (by simp))).trans h.1, (hf 69 12 (dis_fld hd (by simp))).trans h.2.1, fun j hj => (hf 75 j (dis_row hd (by simp) j)).trans (h.2.2 j hj)⟩
theorem m_here0 {n : Nat} {tx : Nat → Int32} {σ : zM} {st : zLs} (h0 : MR0 n tx σ) (h : mC st σ) (hp : st.1 ≤ n) : f_X12_here σ = some (tx st.1, σ) := by
  obtain ⟨hn, h9, h74, hout⟩ := h0
  unfold f_X12_here
  rw [h.1, h9]
  by_cases c : st.1 < n
  · rw [if_pos ((nI_ltI (by omega) (by omega)).mpr c), if_pos (zin_n (by omega) (by omega)), nI_clamp (by omega), h74 _ c]
  · rw [if_neg (fun w => c ((nI_ltI (by omega) (by omega)).mp w)), hout _ (by omega)]
theorem m_wrong0 {σ : zM} {k : Nat} {st : zLs} (h : mC st σ) : ∃ σ', (bnd (f_X12_wrongAt (nI k) (zg σ 69 8) σ) (fun r15 s14 => if r15 = 0 then some ((0 : Int32), s14) else if r15 = 1 then some ((1 : Int32), s14) else none)) = some (0, σ') ∧ Fx mMA σ σ' ∧ zg σ' 69 10 = fltP k st.1 := by
  unfold f_X12_wrongAt
  rw [lt_eq, h.1, bnd_some, if_pos rfl]
  exact ⟨_, rfl, Fx.rf.zs rfl, zg_eq⟩
theorem rm4 {σ σ' : zM} (hf : Fx mMR σ σ') : (∀ j, zg σ' 77 j = zg σ 77 j) ∧ (∀ j, zg σ' 78 j = zg σ 78 j) ∧ (∀ j, zg σ' 79 j = zg σ 79 j) ∧ ∀ j, zg σ' 80 j = zg σ 80 j := ⟨fun j => hf 77 j rfl, fun j => hf 78 j rfl, fun j => hf 79 j rfl, fun j => hf 80 j rfl⟩
theorem m_readsCond {n0 F : Nat} {tx : Nat → Int32} {σ : zM} {st : zLs} (hF : 300 ≤ F) (h0 : MR0 n0 tx σ) (h : mC st σ) (h1 : st.2.1 ≤ st.1) (h2 : st.1 ≤ n0) : match pCo tx st with
    | .inl s => ∃ σ', f_X12_readsCondition F σ = some (1, σ') ∧ Fx mMR σ σ' ∧ mC s σ'
    | .inr e => ∃ σ', f_X12_readsCondition F σ = some (0, σ') ∧ Fx mMR σ σ' ∧ zg σ' 69 10 = e := by
  have hn := h0.1
  have htx := h0.2.2.2
  unfold f_X12_readsCondition pCo
  rw [m_here0 h0 h h2, bnd_some]
  by_cases c40 : tx st.1 = 40
  · have hlt := tx_lt htx (i := st.1) (by rw [c40]; decide)
    rw [if_pos c40, if_pos (α := Option (Int32 × zM)) c40, lt_eq, lt_eq]
    have f0 : Fx mMR σ (zs (zs σ 69 11 (0 : Int32)) 69 13 (0 : Int32)) := (Fx.rf.zs rfl).zs rfl
    have hm0 : mC st (zs (zs σ 69 11 (0 : Int32)) 69 13 (0 : Int32)) := h.fx ((Fx.rf.zs rfl).zs rfl : Fx ([], [(69, 11), (69, 13)]) σ _) rfl
    have hw0 := hm0.mW (by rw [zg_nj (by decide), zg_eq]; rfl) (by rw [zg_eq]; rfl)
    have h0' := h0.fx (f0.sub rfl)
    generalize zs (zs σ 69 11 (0 : Int32)) 69 13 (0 : Int32) = σm at f0 hw0 h0' ⊢
    have hop := m_opens (k := 13) h0' hw0 h2 (by omega) (by omega)
    rw [if_pos (by omega)] at hop
    obtain ⟨σ2, e1, e2⟩ := hop
    rw [show (13 : Int32) = nI 13 from rfl, e1, bnd_some, if_neg b1n]
    have gp := gd_pP htx hn 6 1 rfl
    have h1a : (adv st).2.1 ≤ (adv st).1 := by show st.2.1 ≤ st.1 + 1; omega
    have w := m_cond (n := F) hF h0' gp (m_pP hF h0' 6 1 rfl (by omega)) (by omega) h1a hlt (by omega) e2
    cases hr : pCn tx (pP tx 6 1) (adv st) with
    | inr e =>
      rw [hr] at w
      obtain ⟨σ3, w1, w2, w3⟩ := w
      exact ⟨σ3, w1, f0.tr w2, w3⟩
    | inl s =>
      rw [hr] at w
      obtain ⟨n', fu', σ3, w1, w2, w3, w4, w5, w6⟩ := w
      obtain ⟨g1, g2, g3, -⟩ := gd_pCn htx hn gp (adv st) s h1a hlt hr
      have g1' : s.2.1 + (st.1 + 1 - st.2.1) ≤ s.1 := g1
      obtain ⟨fu', rfl⟩ : ∃ f', fu' = f' + 1 := ⟨fu' - 1, by omega⟩
      show match (if tx s.1 = 41 then (.inl (adv s) : zPR) else flP 1 s.1) with
        | .inl s => _
        | .inr e => _
      by_cases c41 : tx s.1 = 41
      · obtain ⟨τ, t1, t2⟩ := ap_close (F := F) (n := n') (fu := fu') (by omega) h0' w4 (by omega) g2 (by omega) c41
        rw [if_pos c41]
        exact ⟨τ, by rw [w1, t2]; exact if_pos rfl, f0.tr t1.1, t1.mC⟩
      · obtain ⟨τ, t1, t2, t3⟩ := ap_no (F := F) (n := n') (fu := fu') h0' w4 g2 w5 w6 c41
        rw [if_neg c41]
        exact ⟨τ, by rw [w1, t1], f0.tr t2, t3⟩
  · rw [if_neg c40, if_neg (α := Option (Int32 × zM)) c40]
    unfold f_X12_wrongAt
    rw [lt_eq, h.1, bnd_some, if_pos rfl]
    exact ⟨_, rfl, Fx.rf.zs rfl, zg_eq⟩
theorem m_clause {F n k : Nat} {tx : Nat → Int32} {σ0 σ : zM} {st : zLs} {R : zCl} (hF : 300 ≤ F) (h1 : st.2.1 ≤ st.1) (h2 : st.1 ≤ n) (hk : k ≤ 14) (h : mAl n tx σ0 k st R σ) : match pCl tx k st R with
    | .inl x => ∃ σ', f_X12_readsClause F σ = some (1, σ') ∧ mAl n tx σ0 (k + 1) x.1 x.2 σ'
    | .inr e => ∃ σ', f_X12_readsClause F σ = some (0, σ') ∧ mFl σ0 e σ' := by
  obtain ⟨hf, h0, hC, h14, hR⟩ := h
  have hn := h0.1
  have htx := h0.2.2.2
  have four : f_X12_readsClause F σ = if isK (tx st.1) = true then f_X12_readsClause_j39 F (tx st.1) σ else bnd (f_X12_wrongAt (1 : Int32) (zg σ 69 8) σ) (fun r24 s23 => if r24 = 0 then some ((0 : Int32), s23) else if r24 = 1 then some (1, s23) else none) := by
    unfold f_X12_readsClause
    rw [m_here0 h0 hC h2, bnd_some]
    unfold isK
    by_cases c1 : tx st.1 = 112
    · rw [if_pos c1, if_pos (by rw [decide_eq_true_eq]; exact Or.inl c1)]
    · by_cases c2 : tx st.1 = 119
      · rw [if_neg c1, if_pos c2, if_pos (by rw [decide_eq_true_eq]; exact Or.inr (Or.inl c2))]
      · by_cases c3 : tx st.1 = 104
        · rw [if_neg c1, if_neg c2, if_pos c3, if_pos (by rw [decide_eq_true_eq]; exact Or.inr (Or.inr (Or.inl c3)))]
        · by_cases c4 : tx st.1 = 118
          · rw [if_neg c1, if_neg c2, if_neg c3, if_pos c4, if_pos (by rw [decide_eq_true_eq]; exact Or.inr (Or.inr (Or.inr c4)))]
          · rw [if_neg c1, if_neg c2, if_neg c3, if_neg c4, if_neg (by rw [decide_eq_true_eq]; rintro (w | w | w | w); exact c1 w; exact c2 w; exact c3 w; exact c4 w)]
  rw [four]
  unfold pCl
  by_cases hK : isK (tx st.1) = true
  · have hlt := tx_lt htx (isK_m hK)
    rw [if_pos hK, if_pos hK]
    unfold f_X12_readsClause_j39
    rw [h14]
    by_cases hk14 : k < 14
    · have z14 := zin_n (show (14 : Nat) < 2 ^ 31 by omega) hk14
      have h1' : (adv st).2.1 ≤ (adv st).1 := by show st.2.1 ≤ st.1 + 1; omega
      rw [if_pos hk14, if_neg (show ¬ nI k = (14 : Int32) by rw [show (14 : Int32) = nI 14 from rfl, nI_eq (by omega) (by omega)]; omega), if_pos z14, nI_clamp (by omega), lt_eq, lt_eq]
      have e14 : zg (zs (zs σ 77 k (tx st.1)) 69 8 (zg (zs σ 77 k (tx st.1)) 69 8 + 1)) 69 14 = nI k := by rw [zg_nj (by decide), zg_ne (by decide)]; exact h14
      rw [e14, if_pos z14, nI_clamp (by omega), lt_eq, lt_eq, lt_eq]
      have fb : Fx mMA σ (zs (zs (zs (zs (zs σ 77 k (tx st.1)) 69 8 (zg (zs σ 77 k (tx st.1)) 69 8 + 1)) 78 k (zg (zs (zs σ 77 k (tx st.1)) 69 8 (zg (zs σ 77 k (tx st.1)) 69 8 + 1)) 69 12)) 69 11 (0 : Int32)) 69 13 (0 : Int32)) := ((((Fx.rf.zs rfl).zs rfl).zs rfl).zs rfl).zs rfl
      have cb : mC (adv st) (zs (zs (zs (zs (zs σ 77 k (tx st.1)) 69 8 (zg (zs σ 77 k (tx st.1)) 69 8 + 1)) 78 k (zg (zs (zs σ 77 k (tx st.1)) 69 8 (zg (zs σ 77 k (tx st.1)) 69 8 + 1)) 69 12)) 69 11 (0 : Int32)) 69 13 (0 : Int32)) := by
        refine ⟨?_, ?_, fun j hj => ?_⟩
        · rw [zg_nj (by decide), zg_nj (by decide), zg_ne (by decide), zg_eq, zg_ne (by decide), hC.1, nI_1]; rfl
        · rw [zg_nj (by decide), zg_nj (by decide), zg_ne (by decide), zg_nj (by decide), zg_ne (by decide)]; exact hC.2.1
        · rw [zg_ne (by decide), zg_ne (by decide), zg_ne (by decide), zg_ne (by decide), zg_ne (by decide)]; exact hC.2.2 j hj
      have e11 : zg (zs (zs (zs (zs (zs σ 77 k (tx st.1)) 69 8 (zg (zs σ 77 k (tx st.1)) 69 8 + 1)) 78 k (zg (zs (zs σ 77 k (tx st.1)) 69 8 (zg (zs σ 77 k (tx st.1)) 69 8 + 1)) 69 12)) 69 11 (0 : Int32)) 69 13 (0 : Int32)) 69 11 = nI 0 := by rw [zg_nj (by decide), zg_eq]; rfl
      have e13 : zg (zs (zs (zs (zs (zs σ 77 k (tx st.1)) 69 8 (zg (zs σ 77 k (tx st.1)) 69 8 + 1)) 78 k (zg (zs (zs σ 77 k (tx st.1)) 69 8 (zg (zs σ 77 k (tx st.1)) 69 8 + 1)) 69 12)) 69 11 (0 : Int32)) 69 13 (0 : Int32)) 69 13 = nI 0 := by rw [zg_eq]; rfl
      have b14 : zg (zs (zs (zs (zs (zs σ 77 k (tx st.1)) 69 8 (zg (zs σ 77 k (tx st.1)) 69 8 + 1)) 78 k (zg (zs (zs σ 77 k (tx st.1)) 69 8 (zg (zs σ 77 k (tx st.1)) 69 8 + 1)) 69 12)) 69 11 (0 : Int32)) 69 13 (0 : Int32)) 69 14 = nI k := by
        rw [zg_nj (by decide), zg_nj (by decide), zg_ne (by decide)]; exact e14
      have k77 : zg (zs (zs (zs (zs (zs σ 77 k (tx st.1)) 69 8 (zg (zs σ 77 k (tx st.1)) 69 8 + 1)) 78 k (zg (zs (zs σ 77 k (tx st.1)) 69 8 (zg (zs σ 77 k (tx st.1)) 69 8 + 1)) 69 12)) 69 11 (0 : Int32)) 69 13 (0 : Int32)) 77 k = tx st.1 := by
        rw [zg_ne (by decide), zg_ne (by decide), zg_ne (by decide), zg_ne (by decide), zg_eq]
      have k78 : zg (zs (zs (zs (zs (zs σ 77 k (tx st.1)) 69 8 (zg (zs σ 77 k (tx st.1)) 69 8 + 1)) 78 k (zg (zs (zs σ 77 k (tx st.1)) 69 8 (zg (zs σ 77 k (tx st.1)) 69 8 + 1)) 69 12)) 69 11 (0 : Int32)) 69 13 (0 : Int32)) 78 k = nI st.2.1 := by
        rw [zg_ne (by decide), zg_ne (by decide), zg_eq, zg_nj (by decide), zg_ne (by decide)]; exact hC.2.1
      have rb : rmS k R (zs (zs (zs (zs (zs σ 77 k (tx st.1)) 69 8 (zg (zs σ 77 k (tx st.1)) 69 8 + 1)) 78 k (zg (zs (zs σ 77 k (tx st.1)) 69 8 (zg (zs σ 77 k (tx st.1)) 69 8 + 1)) 69 12)) 69 11 (0 : Int32)) 69 13 (0 : Int32)) := by
        intro i hi
        have q1 : ∀ (x : zM) (v w : Int32), zg (zs (zs x 69 11 v) 69 13 w) 77 i = zg x 77 i ∧ zg (zs (zs x 69 11 v) 69 13 w) 78 i = zg x 78 i ∧ zg (zs (zs x 69 11 v) 69 13 w) 79 i = zg x 79 i ∧ zg (zs (zs x 69 11 v) 69 13 w) 80 i = zg x 80 i := fun x v w => ⟨by rw [zg_ne (by decide), zg_ne (by decide)], by rw [zg_ne (by decide), zg_ne (by decide)], by rw [zg_ne (by decide), zg_ne (by decide)], by rw [zg_ne (by decide), zg_ne (by decide)]⟩
        obtain ⟨a1, a2, a3, a4⟩ := q1 (zs (zs (zs σ 77 k (tx st.1)) 69 8 (zg (zs σ 77 k (tx st.1)) 69 8 + 1)) 78 k (zg (zs (zs σ 77 k (tx st.1)) 69 8 (zg (zs σ 77 k (tx st.1)) 69 8 + 1)) 69 12)) 0 0
        rw [a1, a2, a3, a4, zg_ne (show (77 : Nat) ≠ 78 by decide), zg_ne (show (77 : Nat) ≠ 69 by decide), zg_nj (show i ≠ k by omega), zg_nj (show i ≠ k by omega), zg_ne (show (78 : Nat) ≠ 69 by decide), zg_ne (show (78 : Nat) ≠ 77 by decide), zg_ne (show (79 : Nat) ≠ 78 by decide), zg_ne (show (79 : Nat) ≠ 69 by decide), zg_ne (show (79 : Nat) ≠ 77 by decide), zg_ne (show (80 : Nat) ≠ 78 by decide), zg_ne (show (80 : Nat) ≠ 69 by decide), zg_ne (show (80 : Nat) ≠ 77 by decide)]
        exact hR i hi
      generalize zs (zs (zs (zs (zs σ 77 k (tx st.1)) 69 8 (zg (zs σ 77 k (tx st.1)) 69 8 + 1)) 78 k (zg (zs (zs σ 77 k (tx st.1)) 69 8 (zg (zs σ 77 k (tx st.1)) 69 8 + 1)) 69 12)) 69 11 (0 : Int32)) 69 13 (0 : Int32) = σb at fb cb e11 e13 b14 k77 k78 rb ⊢
      have hw := cb.mW e11 e13
      have hb0 := h0.fx fb
      -- the condition, from any state behind
      have cond : ∀ (s1 : zLs) (σ1 : zM), s1.2.1 ≤ s1.1 → s1.1 ≤ n → mC s1 σ1 → Fx mMR σb σ1 → match (match pCo tx s1 with
            | .inr e => (.inr e : (zLs × zCl) ⊕ Int32)
            | .inl s2 => .inl (s2, rcd R k (tx st.1, st.2.1, s1.2.1, s2.2.1))) with
          | .inl x => ∃ σ', f_X12_readsClause_j116 F σ1 = some (1, σ') ∧ mAl n tx σ0 (k + 1) x.1 x.2 σ'
          | .inr e => ∃ σ', f_X12_readsClause_j116 F σ1 = some (0, σ') ∧ mFl σ0 e σ' := by
        intro s1 σ1 g1 g2 hS1 f1
        have d14 : zg σ1 69 14 = nI k := (f1 69 14 rfl).trans b14
        obtain ⟨r77, r78, r79, r80⟩ := rm4 f1
        unfold f_X12_readsClause_j116
        rw [d14, if_pos z14, nI_clamp (by omega), hS1.2.1, lt_eq]
        have fm : Fx mMA σ0 (zs σ1 79 k (nI s1.2.1)) := (hf.tr (fb.tr (f1.sub rfl))).zs rfl
        have m0 : MR0 n tx (zs σ1 79 k (nI s1.2.1)) := hb0.fx ((f1.sub rfl).zs rfl)
        have mc : mC s1 (zs σ1 79 k (nI s1.2.1)) := hS1.fx (fx1 79 k _) rfl
        have m14 : zg (zs σ1 79 k (nI s1.2.1)) 69 14 = nI k := by rw [zg_ne (by decide)]; exact d14
        have m77 : ∀ j, zg (zs σ1 79 k (nI s1.2.1)) 77 j = zg σb 77 j := fun j => (zg_ne (by decide)).trans (r77 j)
        have m78 : ∀ j, zg (zs σ1 79 k (nI s1.2.1)) 78 j = zg σb 78 j := fun j => (zg_ne (by decide)).trans (r78 j)
        have m79 : ∀ j, zg (zs σ1 79 k (nI s1.2.1)) 79 j = if j = k then nI s1.2.1 else zg σb 79 j := fun j => by rw [zg_row, r79]
        have m80 : ∀ j, zg (zs σ1 79 k (nI s1.2.1)) 80 j = zg σb 80 j := fun j => (zg_ne (by decide)).trans (r80 j)
        generalize zs σ1 79 k (nI s1.2.1) = σm at fm m0 mc m14 m77 m78 m79 m80 ⊢
        have w := m_readsCond hF m0 mc g1 g2
        cases hr : pCo tx s1 with
        | inr e =>
          rw [hr] at w
          obtain ⟨σ2, w1, w2, w3⟩ := w
          exact ⟨σ2, by rw [w1, bnd_some, if_pos rfl], fm.tr (w2.sub rfl), w3⟩
        | inl s2 =>
          rw [hr] at w
          obtain ⟨σ2, w1, w2, w3⟩ := w
          obtain ⟨q77, q78, q79, q80⟩ := rm4 w2
          have n14 : zg σ2 69 14 = nI k := (w2 69 14 rfl).trans m14
          have e14' : zg (zs σ2 80 k (nI s2.2.1)) 69 14 = nI k := by rw [zg_ne (by decide)]; exact n14
          have fe : Fx mMA σm (zs (zs σ2 80 k (nI s2.2.1)) 69 14 (nI (k + 1))) := ((w2.sub rfl).zs rfl).zs rfl
          refine ⟨zs (zs σ2 80 k (nI s2.2.1)) 69 14 (nI (k + 1)), ?_, fm.tr fe, m0.fx fe, w3.fx ((Fx.rf.zs rfl).zs rfl : Fx ([80], [(69, 14)]) σ2 _) rfl, zg_eq, fun i hi => ?_⟩
          · rw [w1, bnd_some, if_neg b1n, n14, if_pos z14, nI_clamp (by omega), w3.2.1, lt_eq, e14', nI_1, lt_eq]
          · rw [zg_ne (show (77 : Nat) ≠ 69 by decide), zg_ne (show (77 : Nat) ≠ 80 by decide), zg_ne (show (78 : Nat) ≠ 69 by decide), zg_ne (show (78 : Nat) ≠ 80 by decide), zg_ne (show (79 : Nat) ≠ 69 by decide), zg_ne (show (79 : Nat) ≠ 80 by decide), zg_ne (show (80 : Nat) ≠ 69 by decide), zg_row, q77, q78, q79, q80, m77, m78, m79, m80]
            show _ = (rcd R k (tx st.1, st.2.1, s1.2.1, s2.2.1) i).1 ∧ _ = nI (rcd R k (tx st.1, st.2.1, s1.2.1, s2.2.1) i).2.1 ∧ _ = nI (rcd R k (tx st.1, st.2.1, s1.2.1, s2.2.1) i).2.2.1 ∧ _ = nI (rcd R k (tx st.1, st.2.1, s1.2.1, s2.2.1) i).2.2.2
            unfold rcd
            by_cases hik : i = k
            · subst hik
              simp only [if_true]
              exact ⟨k77, k78, by trivial, by trivial⟩
            · simp only [if_neg hik]
              exact rb i (by omega)
      unfold pE
      by_cases c112 : tx st.1 = 112
      · rw [if_pos c112, if_pos (α := Option (Int32 × zM)) c112]
        exact cond (adv st) σb h1' hlt cb Fx.rf
      · rw [if_neg c112, if_neg (α := Option (Int32 × zM)) c112]
        have w := m_readsSum (d := 7) (o := 0) (W := []) hF hb0 rfl (by omega) (Or.inl rfl) h1' hlt hw
        cases hr : pS tx 7 0 (adv st) with
        | inr e =>
          rw [hr] at w
          obtain ⟨σ1, w1, w2, w3⟩ := w
          exact ⟨σ1, by rw [w1]; unfold b0R; rw [bnd_some, if_pos rfl], hf.tr (fb.tr (w2.sub rfl)), w3⟩
        | inl s1 =>
          rw [hr] at w
          obtain ⟨σ1, w1, w2⟩ := w
          obtain ⟨g1, g2, g3, -⟩ := gd_pS htx 7 0 rfl (adv st) s1 h1' hlt hr
          have wc := cond s1 σ1 (by omega) g2 w2.mC w2.1
          rw [w1, bnd_some, if_neg b1n]
          exact wc
    · have hk' : k = 14 := by omega
      rw [if_neg hk14, if_pos (show nI k = (14 : Int32) by rw [hk']; rfl)]
      obtain ⟨σ', e1, e2, e3⟩ := m_wrong0 (k := 4) hC
      exact ⟨σ', e1, hf.tr e2, e3⟩
  · rw [if_neg hK, if_neg hK]
    obtain ⟨σ', e1, e2, e3⟩ := m_wrong0 (k := 1) hC
    exact ⟨σ', e1, hf.tr e2, e3⟩
theorem m_all {F n : Nat} {tx : Nat → Int32} {σ0 : zM} {K : Int32 → zM → Option (Int32 × zM)} (hF : 300 ≤ F) : ∀ (f k : Nat) (st : zLs) (R : zCl) (σ : zM) (fu : Nat), f + k = 15 → f < fu → GA n k st R → mAl n tx σ0 k st R σ → match pAll tx n f k st R with
    | .inl x => ∃ σ', bnd (f_X12_readsClause F σ) (fun r8 s7 => f_X12_law_L46 F K fu r8 s7) = K 1 σ' ∧ mAl n tx σ0 x.1 x.2.1 x.2.2 σ'
    | .inr e => ∃ σ', bnd (f_X12_readsClause F σ) (fun r8 s7 => f_X12_law_L46 F K fu r8 s7) = K 0 σ' ∧ mFl σ0 e σ' := by
  have stop : ∀ fu s, f_X12_law_L46 F K (fu + 1) 0 s = K 0 s := by
    intro fu s
    rw [f_X12_law_L46, if_pos rfl]
  intro f
  induction f with
  | zero => intro k st R σ fu hk hfu hG; have := hG.1; omega
  | succ f ih =>
    intro k st R σ fu hk hfu hG h
    obtain ⟨fu, rfl⟩ : ∃ f', fu = f' + 1 + 1 := ⟨fu - 2, by omega⟩
    have hk14 := hG.1
    have h' := h
    obtain ⟨hf, h0, hC, h14, hR⟩ := h'
    have hn := h0.1
    have htx := h0.2.2.2
    have w := m_clause (F := F) hF hG.2.1 hG.2.2.1 hk14 h
    rw [pAll]
    cases hr : pCl tx k st R with
    | inr e =>
      rw [hr] at w
      obtain ⟨σ1, w1, w2⟩ := w
      exact ⟨σ1, by rw [w1, bnd_some, stop], w2⟩
    | inl x =>
      rw [hr] at w
      obtain ⟨σ1, w1, w2⟩ := w
      obtain ⟨g1, g2, g3⟩ := ga_pCl htx hn hG hr
      obtain ⟨uf, u0, uC, u14, uR⟩ := w2
      have gp := g1.2.2.1
      have e8 := uC.1
      have e9 := u0.2.1
      rw [w1, bnd_some, f_X12_law_L46, if_neg b1n, e8, e9]
      show match (if x.1.1 < n then (if tx x.1.1 = 59 then pAll tx n f (k + 1) (adv x.1) x.2 else .inr (fltP 1 x.1.1)) else .inl (k + 1, x.1, x.2) : zPA) with
        | .inl x => _
        | .inr e => _
      by_cases hlt : x.1.1 < n
      · rw [if_pos hlt, if_pos (α := Option (Int32 × zM)) ((nI_ltI (by omega) (by omega)).mpr hlt)]
        unfold f_X12_takes
        rw [m_here0 u0 uC gp, bnd_some]
        by_cases h59 : tx x.1.1 = 59
        · rw [if_pos h59, if_pos (α := Option (Int32 × zM)) h59, lt_eq, bnd_some, if_neg b1n]
          have ff : Fx mMA σ1 (zs σ1 69 8 (zg σ1 69 8 + 1)) := Fx.rf.zs rfl
          have ca : mC (adv x.1) (zs σ1 69 8 (zg σ1 69 8 + 1)) := ⟨by rw [zg_eq, e8, nI_1]; rfl, by rw [zg_nj (by decide)]; exact uC.2.1, fun j hj => by rw [zg_ne (by decide)]; exact uC.2.2 j hj⟩
          have ra : rmS (k + 1) x.2 (zs σ1 69 8 (zg σ1 69 8 + 1)) := fun i hi => by
            rw [zg_ne (by decide), zg_ne (by decide), zg_ne (by decide), zg_ne (by decide)]; exact uR i hi
          have wi := ih (k + 1) (adv x.1) x.2 (zs σ1 69 8 (zg σ1 69 8 + 1)) (fu + 1) (by omega) (by omega) ⟨g1.1, by show x.1.2.1 ≤ x.1.1 + 1; have := g1.2.1; omega, hlt, g1.2.2.2.1, g1.2.2.2.2⟩ ⟨uf.tr ff, u0.fx ff, ca, by rw [zg_nj (by decide)]; exact u14, ra⟩
          have same : bnd (f_X12_readsClause F (zs σ1 69 8 (zg σ1 69 8 + 1))) (fun r12 s11 => if r12 = 0 then f_X12_law_L46 F K (fu + 1) (0 : Int32) s11 else f_X12_law_L46 F K (fu + 1) (1 : Int32) s11) = bnd (f_X12_readsClause F (zs σ1 69 8 (zg σ1 69 8 + 1))) (fun r8 s7 => f_X12_law_L46 F K (fu + 1) r8 s7) := by
            have wc := m_clause (F := F) (n := n) (k := k + 1) (st := adv x.1) (R := x.2) (σ0 := σ0) (σ := zs σ1 69 8 (zg σ1 69 8 + 1)) (tx := tx) hF (by show x.1.2.1 ≤ x.1.1 + 1; have := g1.2.1; omega) hlt g1.1 ⟨uf.tr ff, u0.fx ff, ca, by rw [zg_nj (by decide)]; exact u14, ra⟩
            cases hr2 : pCl tx (k + 1) (adv x.1) x.2 with
            | inl y =>
              rw [hr2] at wc
              obtain ⟨σ2, v1, -⟩ := wc
              rw [v1, bnd_some, bnd_some, if_neg b1n]
            | inr e =>
              rw [hr2] at wc
              obtain ⟨σ2, v1, -⟩ := wc
              rw [v1, bnd_some, bnd_some, if_pos rfl]
          rw [same]
          exact wi
        · rw [if_neg h59, if_neg (α := Option (Int32 × zM)) h59]
          obtain ⟨σ2, e1, e2, e3⟩ := m_wrong0 (k := 1) uC
          refine ⟨σ2, ?_, uf.tr e2, e3⟩
          rw [show (1 : Int32) = nI 1 from rfl] at e1 ⊢
          rw [e1, bnd_some, if_pos rfl, stop]
      · rw [if_neg hlt, if_neg (α := Option (Int32 × zM)) (fun z => hlt ((nI_ltI (by omega) (by omega)).mp z))]
        exact ⟨σ1, rfl, uf, u0, uC, u14, uR⟩
