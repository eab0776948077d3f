/-! ===== the model reads sums ===== -/
def MF (F m n : Nat) (v1 : Int32) (σ : zM) : Option (Int32 × zM) := bnd (f_X12_readsFactor_L0 F (fun s18 => some ((0 : Int32), s18)) m σ) (fun r s => if r = 0 then some ((0 : Int32), s) else f_X12_readsSum_L14 F v1 n s)
def MFo (n0 F : Nat) (σ0 : zM) (op : Nat) (p : zLs → zPR) (okW : List Nat → Prop) (G : List Nat → zLs → zM → Prop) : Prop := ∀ (W : List Nat) (st : zLs) (m n b : Nat) (σ : zM), okW W → b ≤ W.length → st.2.1 ≤ st.1 → st.1 ≤ n0 → 200 < m + st.1 → 200 < n + st.1 → mW σ0 op W st σ → mTo σ0 (p st) (MF F m n (nI b) σ) b0R (fun st1 X => ∃ n' σ', X = f_X12_readsSum_L14 F (nI b) n' σ' ∧ 200 < n' + st1.1 ∧ G W st1 σ')
theorem mW_num {σ0 σ : zM} {op : Nat} {v : Int32} {W : List Nat} {st : zLs} (h : mW σ0 op W st σ) : mW σ0 op W st (zs σ 69 15 v) := by
  obtain ⟨a1, a2, a3, a4, a5, a6, a7, a8⟩ := h
  exact ⟨a1.zs rfl, by rw [zg_nj (by decide)]; exact a2, by rw [zg_nj (by decide)]; exact a3, by rw [zg_nj (by decide)]; exact a4, by rw [zg_nj (by decide)]; exact a5, stkN_fx (fun j => zg_ne (by decide)) a6, fun j hj => by rw [zg_ne (by decide)]; exact a7 j hj, a8⟩
theorem m_wrong' {σ0 σ : zM} {op k : Nat} {W : List Nat} {st : zLs} (h : mW σ0 op W st σ) : ∃ σ', (bnd (f_X12_wrongAt (nI k) (zg σ 69 8) σ) (fun r15 s14 => if r15 = 0 then some ((0 : Int32), s14) else if r15 = 1 then some ((1 : Int32), s14) else none)) = some (0, σ') ∧ Fx mMR σ0 σ' ∧ zg σ' 69 10 = (-1000 : Int32) * nI k - nI st.1 := by
  obtain ⟨σ', e1, e2, e3⟩ := m_wrong (k := k) h
  exact ⟨σ', by rw [e1, bnd_some, if_pos rfl], e2, e3⟩
theorem m_number {n0 F p0 : Nat} {tx : Nat → Int32} {σ0 : zM} {op : Nat} {W : List Nat} (h0 : MR0 n0 tx σ0) (hp0 : p0 ≤ 200) : ∀ (k fu num : Nat) (st : zLs) (σ : zM), st.1 + k = p0 + 5 → k < fu → st.1 ≤ n0 → mW σ0 op W st σ → zg σ 69 15 = nI num → mTo σ0 (pNum tx k num st) (f_X12_readsNumber_L10 F (fun s11 => some ((1 : Int32), s11)) (nI p0) fu σ) b0R (fun st1 X => ∃ σ' su v, X = some (1, σ') ∧ st1 = emi su 1 v ∧ mW σ0 op W su σ' ∧ zg σ' 69 15 = nI v) := by
  have hn := h0.1
  intro k
  induction k with
  | zero =>
    intro fu num st σ hk hfu hp h h15
    obtain ⟨fu, rfl⟩ : ∃ f', fu = f' + 1 := ⟨fu - 1, by omega⟩
    rw [f_X12_readsNumber_L10, m_isDigit h0 h hp, bnd_some, b01, pNum]
    by_cases hd : dg (tx st.1) = true
    · rw [if_pos hd, if_pos hd, h.2.1, if_pos (show nI st.1 = nI p0 + (5 : Int32) by rw [show (5 : Int32) = nI 5 from rfl, nI_add]; congr 1), ← h.2.1]
      exact m_wrong' (k := 2) h
    · rw [if_neg hd, if_neg hd]
      exact ⟨σ, st, num, rfl, rfl, h, h15⟩
  | succ k ih =>
    intro fu num st σ hk hfu hp h h15
    obtain ⟨fu, rfl⟩ : ∃ f', fu = f' + 1 := ⟨fu - 1, by omega⟩
    rw [f_X12_readsNumber_L10, m_isDigit h0 h hp, bnd_some, b01, pNum]
    by_cases hd : dg (tx st.1) = true
    · obtain ⟨d1, d2, d3⟩ := dg_n hd
      have hlt := tx_lt h0.2.2.2 (dg_m hd)
      have hne : ¬ zg σ 69 8 = nI p0 + (5 : Int32) := by
        rw [h.2.1, show (5 : Int32) = nI 5 from rfl, nI_add, nI_eq (by omega) (by omega)]; omega
      have ev : (10 : Int32) * nI num + tx st.1 - 48 = nI (10 * num + ((tx st.1).toNatClampNeg - 48)) := by
        rw [d3, show (10 : Int32) = nI 10 from rfl, pk_mul, nI_add, show (48 : Int32) = nI 48 from rfl, pk_sub (by omega), nI_clamp (by omega)]
        congr 1
        omega
      rw [if_pos hd, if_pos hd, if_neg hne, m_here h0 h hp, bnd_some, h15, ev, lt_eq, lt_eq]
      have h2 := mW_adv (mW_num (v := nI (10 * num + ((tx st.1).toNatClampNeg - 48))) h)
      exact ih fu _ (adv st) _ (by show st.1 + 1 + k = p0 + 5; omega) (by omega) hlt h2 (by rw [zg_nj (by decide), zg_eq])
    · rw [if_neg hd, if_neg hd]
      exact ⟨σ, st, num, rfl, rfl, h, h15⟩
/-- what lies above is sums' signs alone -/
theorem PSu.mw {σ0 σ : zM} {op : Nat} {W : List Nat} {st : zLs} (h : PSu σ0 op W st σ) : ∃ W' su, mW σ0 op (W' ++ W) su σ ∧ su.1 = st.1 ∧ ∀ x, x ∈ W' → ∃ k, k ≤ 6 ∧ x = 1048576 * k := by
  have hT : ∀ W st, PT σ0 op W st σ → ∃ W' su, mW σ0 op (W' ++ W) su σ ∧ su.1 = st.1 ∧ ∀ x, x ∈ W' → ∃ k, k ≤ 6 ∧ x = 1048576 * k := by
    intro W st h
    rcases h with h | ⟨su, s, hs, rfl, h⟩
    · exact ⟨[], st, h, rfl, fun x hx => by simp at hx⟩
    · exact ⟨[1048576 * opN s], su, h, rfl, fun x hx => by
        simp only [List.mem_singleton] at hx
        exact ⟨opN s, (opN_ti hs).2, hx⟩⟩
  rcases h with h | ⟨su, s, hs, rfl, h⟩
  · exact hT W st h
  · obtain ⟨W', sv, g1, g2, g3⟩ := hT _ _ h
    refine ⟨W' ++ [1048576 * opN s], sv, by rw [List.append_assoc]; exact g1, g2, fun x hx => ?_⟩
    rw [List.mem_append, List.mem_singleton] at hx
    rcases hx with hx | hx
    · exact g3 x hx
    · exact ⟨opN s, by have := (opN_pl hs).2; omega, hx⟩
theorem stk_hi {σ : zM} {W : List Nat} : ∀ {W' : List Nat}, stkN σ (W' ++ W) → ∀ k, W.length ≤ k → k < (W' ++ W).length → ∃ x, x ∈ W' ∧ zg σ 76 k = nI x := by
  intro W'
  induction W' with
  | nil =>
    intro _ k h1 h2
    rw [List.nil_append] at h2
    omega
  | cons x r ih =>
    intro h k h1 h2
    by_cases c : k = (r ++ W).length
    · subst c; exact ⟨x, List.mem_cons_self, h.1⟩
    · obtain ⟨y, y1, y2⟩ := ih h.2.2 k h1 (by rw [List.cons_append, List.length_cons] at h2; omega)
      exact ⟨y, List.mem_cons_of_mem _ y1, y2⟩
theorem stk_lo {σ : zM} {x : Nat} {W : List Nat} : ∀ {W' : List Nat}, stkN σ (W' ++ x :: W) → zg σ 76 W.length = nI x := by
  intro W'
  induction W' with
  | nil => intro h; exact h.1
  | cons y r ih => intro h; exact ih h.2.2
theorem has_no {F : Nat} {σ0 σ : zM} {op : Nat} {W : List Nat} {st : zLs} (hF : 230 ≤ F) (h : PSu σ0 op W st σ) (hp : st.1 ≤ 200) : f_X12_hasOpenSum F (nI W.length) σ = some (0, σ) := by
  obtain ⟨W', su, g1, g2, g3⟩ := h.mw
  refine m_hasNo hF g1 (by omega) (fun k h1 h2 => ?_) (by rw [List.length_append]; omega)
  obtain ⟨x, x1, x2⟩ := stk_hi g1.2.2.2.2.2.1 k h1 h2
  obtain ⟨y, y1, rfl⟩ := g3 x x1
  rw [x2, show (1048576 : Int32) = nI 1048576 from rfl, pk_div (by omega) (by omega) (by omega), show (14 : Int32) = nI 14 from rfl, nI_eq (by omega) (by omega)]
  omega
theorem has_yes {F b : Nat} {σ0 σ : zM} {op : Nat} {W : List Nat} {st : zLs} (hF : 230 ≤ F) (h : PSu σ0 op ((1048576 * 14) :: W) st σ) (hp : st.1 ≤ 200) (hb : b ≤ W.length) : f_X12_hasOpenSum F (nI b) σ = some (1, σ) := by
  obtain ⟨W', su, g1, g2, g3⟩ := h.mw
  refine m_hasYes (i := W.length) hF g1 (by omega) hb (by rw [List.length_append, List.length_cons]; omega) ?_
  rw [stk_lo g1.2.2.2.2.2.1, show (1048576 : Int32) = nI 1048576 from rfl, pk_div (by omega) (by omega) (by omega)]; rfl
theorem m_fac {n0 F d o : Nat} {tx : Nat → Int32} {σ0 : zM} (hF : 300 ≤ F) (h0 : MR0 n0 tx σ0) (hdo : d + o = 6) (hS : o < 6 → MFo n0 F σ0 (o + 1) (pS tx d (o + 1)) noS (fun W st1 σ' => PSu σ0 (o + 1) W st1 σ' ∧ isTi (tx st1.1) = false ∧ isPl (tx st1.1) = false)) : MFo n0 F σ0 o (pFac tx (pS tx d) o) (fun _ => True) (mW σ0 o) := by
  have hn := h0.1
  have htx := h0.2.2.2
  intro W st m n b σ _ hb h1 h2 hm hnn h
  obtain ⟨m, rfl⟩ : ∃ f', m = f' + 1 := ⟨m - 1, by omega⟩
  unfold pFac MF
  rw [f_X12_readsFactor_L0, m_here h0 h h2, bnd_some]
  by_cases h91 : tx st.1 = 91
  · have hd : ¬ dg (tx st.1) = true := by rw [h91]; decide
    rw [if_neg hd, if_pos h91, if_pos (α := Option (Int32 × zM)) h91]
    have hlt := tx_lt htx (i := st.1) (by rw [h91]; decide)
    have hop := m_opens (k := 14) h0 h h2 (by omega) (by omega)
    by_cases ho6 : o < 6
    · rw [if_pos ho6] at hop ⊢
      obtain ⟨σ1, e1, e2⟩ := hop
      rw [show (14 : Int32) = nI 14 from rfl, e1, bnd_some, if_neg b1n]
      have h1' : (adv st).2.1 ≤ (adv st).1 := by show st.2.1 ≤ st.1 + 1; omega
      have w := hS ho6 _ (adv st) m n b σ1 (Or.inr ⟨_, _, rfl, by omega, by omega⟩) (by rw [List.length_cons]; omega) h1' hlt (by show 200 < m + (st.1 + 1); omega) (by show 200 < n + (st.1 + 1); omega) e2
      unfold MF at w
      cases hr : pS tx d (o + 1) (adv st) with
      | inr e => rw [hr] at w; exact w
      | inl s1 =>
        rw [hr] at w
        obtain ⟨n', σ2, w1, w2, w3, w4, w5⟩ := w
        obtain ⟨g1, g2, g3, -⟩ := gd_pS htx d (o + 1) (by omega) (adv st) s1 h1' hlt hr
        have g1' : s1.2.1 + (st.1 + 1 - st.2.1) ≤ s1.1 := g1
        show mTo σ0 (if tx s1.1 = 93 then _ else _) _ _ _
        rw [w1]
        obtain ⟨n', rfl⟩ : ∃ f', n' = f' + 1 := ⟨n' - 1, by omega⟩
        obtain ⟨W', su, k1, k2, k3⟩ := w3.mw
        have hsu : su.1 ≤ n0 := by omega
        have hh := m_here h0 k1 hsu
        rw [k2] at hh
        have hy := has_yes (F := F) (by omega) w3 (by omega) hb
        have nosign : ¬ (isPl (tx s1.1) = true ∨ isTi (tx s1.1) = true) := by rw [w4, w5]; simp
        rw [f_X12_readsSum_L14, hh, bnd_some, e_sumSign, bnd_some, if_neg nosign, if_pos rfl, hh, bnd_some]
        by_cases h93 : tx s1.1 = 93
        · have hlt1 := tx_lt htx (i := s1.1) (by rw [h93]; decide)
          obtain ⟨σ3, c1, c2⟩ := m_closeS (F := F) (by omega) w3 (Or.inr ⟨_, _, rfl, by omega, by omega⟩) (by omega) (by omega)
          rw [if_pos h93, if_pos (α := Option (Int32 × zM)) h93, hy, bnd_some, if_neg b1n, c1, bnd_some, lt_eq, lt_eq, lt_eq]
          exact ⟨n', _, rfl, by show 200 < n' + (s1.1 + 1); omega, mW_adv (mW_op (mW_pop c2))⟩
        · rw [if_neg h93, if_neg (α := Option (Int32 × zM)) h93]
          unfold f_X12_readsSum_j138
          rw [hy, bnd_some, if_neg b1n]
          have ww := m_wrong' (k := 1) k1
          rw [k2] at ww
          exact ww
    · rw [if_neg ho6] at hop ⊢
      obtain ⟨σ1, e1, e2, e3⟩ := hop
      rw [show (14 : Int32) = nI 14 from rfl, e1, bnd_some, if_pos rfl, bnd_some, if_pos rfl]
      exact ⟨σ1, rfl, e2, e3⟩
  · rw [if_neg (α := Option (Int32 × zM)) h91, m_isDigit h0 h h2, bnd_some, b01]
    by_cases hd : dg (tx st.1) = true
    · rw [if_pos (α := Option (Int32 × zM)) hd, if_pos hd]
      have w := m_number (F := F) (p0 := st.1) h0 (by omega) 5 F 0 st (zs σ 69 15 (0 : Int32)) rfl (by omega) h2 (mW_num h) zg_eq
      unfold f_X12_readsNumber
      rw [lt_eq, lt_eq, h.2.1]
      cases hr : pNum tx 5 0 st with
      | inr e =>
        rw [hr] at w
        obtain ⟨σ', w1, w2, w3⟩ := w
        exact ⟨σ', by rw [w1]; unfold b0R; rw [bnd_some, if_pos rfl, bnd_some, if_pos rfl], w2, w3⟩
      | inl s1 =>
        rw [hr] at w
        obtain ⟨σ', su, v, w1, w2, w3, w4⟩ := w
        have hlt := tx_lt htx (dg_m hd)
        rw [pNum, if_pos hd] at hr
        obtain ⟨d1, d2, -⟩ := dg_n hd
        obtain ⟨g1, g2, v', g3, g4⟩ := pNum_in htx 4 _ (adv st) s1 (by omega) (by simp; omega) hlt hr
        have g1' : st.1 + 1 ≤ s1.1 := g1
        have es1 : s1.1 = su.1 := by rw [w2]; rfl
        have es2 : s1.2.1 = su.2.1 + 1 := by rw [w2]; rfl
        have es3 : s1.2.1 = st.2.1 + 1 := by rw [g4]; rfl
        obtain ⟨σ3, c1, c2⟩ := m_notes (s := 1) (v := v) w3 (by omega)
        rw [show nI (opN 1) = (0 : Int32) from rfl] at c1
        rw [← w2] at c2
        refine ⟨n, σ3, ?_, by omega, c2⟩
        rw [w1, bnd_some, if_neg b1n, w4, c1, bnd_some, bnd_some, if_neg b1n]
    · rw [if_neg (α := Option (Int32 × zM)) hd, if_neg hd, if_neg h91, m_here h0 h h2, bnd_some, e_factOf, bnd_some]
      by_cases hl : letP (tx st.1) = -1
      · rw [if_pos hl, if_pos (α := Option (Int32 × zM)) hl]
        obtain ⟨σ', c1, c2, c3⟩ := m_wrong' (k := 1) h
        refine ⟨σ', ?_, c2, c3⟩
        rw [show (1 : Int32) = nI 1 from rfl] at c1 ⊢
        rw [c1, bnd_some]; rfl
      · have hlt := tx_lt htx (i := st.1) (by
          intro q
          apply hl
          rw [q]; decide)
        rw [if_neg hl, if_neg (α := Option (Int32 × zM)) hl]
        rcases letP_n (tx st.1) with q | ⟨-, q⟩
        · exact absurd q hl
        · obtain ⟨σ3, c1, c2⟩ := m_notes (s := 2) (v := (letP (tx st.1)).toNatClampNeg) h (by omega)
          rw [← q, show nI (opN 2) = (1 : Int32) from rfl] at c1
          refine ⟨n, _, ?_, by show 200 < n + (st.1 + 1); omega, mW_adv c2⟩
          rw [c1, bnd_some, lt_eq, bnd_some, if_neg b1n]
theorem L14_sign {F n b : Nat} {σ0 σ τ : zM} {n0 : Nat} {tx : Nat → Int32} {op : Nat} {W W1 : List Nat} {st su : zLs} (h0 : MR0 n0 tx σ0) (h2 : st.1 ≤ n0) (h : mW σ0 op W1 su σ) (hsu : su.1 = st.1) (ho : isPl (tx st.1) = true ∨ isTi (tx st.1) = true) (hlen : st.1 < n0) (hc : f_X12_closesSums F (if isTi (tx st.1) = true then 0 else 1) σ = some ((), τ)) (ht : mW σ0 op W st τ) (hb : b ≤ W.length) : ∃ σ', f_X12_readsSum_L14 F (nI b) (n + 1) σ = MF F F n (nI b) σ' ∧ mW σ0 op ((1048576 * opN (tx st.1)) :: W) (adv st) σ' := by
  have hn := h0.1
  have hh := m_here h0 h (by omega)
  rw [hsu] at hh
  have hlo : 2 ≤ opN (tx st.1) ∧ opN (tx st.1) ≤ 6 := by
    rcases ho with q | q
    · have := opN_pl q; omega
    · have := opN_ti q; omega
  have hl := ht.2.2.2.2.2.2.2
  have e13 := ht.2.2.2.2.1
  have e8 := ht.2.1
  refine ⟨_, ?_, mW_push (x := 1048576 * opN (tx st.1)) ht (by omega)⟩
  have j38 : ∀ w0, f_X12_closesSums F w0 σ = some ((), τ) → f_X12_readsSum_j38 F (f_X12_readsSum_L14 F (nI b) n) (nI b) (nI (opN (tx st.1))) w0 σ = MF F F n (nI b) (zs (zs (zs τ 76 W.length (nI (1048576 * opN (tx st.1)))) 69 13 (nI (W.length + 1))) 69 8 (nI (st.1 + 1))) := by
    intro w0 hw
    unfold f_X12_readsSum_j38
    rw [hw, bnd_some, e13, if_pos (zin_n (by omega) (by omega)), lt_eq, nI_clamp (by omega), lt_eq, lt_eq, show (1048576 : Int32) * nI (opN (tx st.1)) = nI (1048576 * opN (tx st.1)) by rw [show (1048576 : Int32) = nI 1048576 from rfl, pk_mul], zg_ne (show (69 : Nat) ≠ 76 by decide), e13, nI_1, zg_nj (show (8 : Nat) ≠ 13 by decide), zg_ne (show (69 : Nat) ≠ 76 by decide), e8, nI_1]
    rfl
  rw [f_X12_readsSum_L14, hh, bnd_some, e_sumSign, bnd_some, if_pos ho, if_neg (nI_m1 (by omega))]
  by_cases c : isTi (tx st.1) = true
  · have := opN_ti c
    rw [if_pos c] at hc
    rw [if_neg (show ¬ nI (opN (tx st.1)) < (4 : Int32) by rw [show (4 : Int32) = nI 4 from rfl, nI_ltI (by omega) (by omega)]; omega)]
    exact j38 0 hc
  · have q : isPl (tx st.1) = true := by rcases ho with q | q; exact q; exact absurd q c
    have := opN_pl q
    rw [if_neg c] at hc
    rw [if_pos (show nI (opN (tx st.1)) < (4 : Int32) by rw [show (4 : Int32) = nI 4 from rfl, nI_ltI (by omega) (by omega)]; omega)]
    exact j38 1 hc
theorem m_term {n0 F op K : Nat} {tx : Nat → Int32} {σ0 : zM} {p : zLs → zPR} (hF : 300 ≤ F) (h0 : MR0 n0 tx σ0) (hg : Gd n0 p false K) (hp : MFo n0 F σ0 op p (fun _ => True) (mW σ0 op)) : MFo n0 F σ0 op (chn tx isTi p) noT (fun W st1 σ' => PT σ0 op W st1 σ' ∧ isTi (tx st1.1) = false) := by
  have hn := h0.1
  have htx := h0.2.2.2
  have key : ∀ (k : Nat) (W : List Nat) (st : zLs) (n b : Nat) (σ : zM), noT W → b ≤ W.length → st.2.1 ≤ st.1 → st.1 ≤ n0 → 200 ≤ k + st.1 → 200 < n + st.1 → PT σ0 op W st σ → mTo σ0 (chL tx isTi p k st) (f_X12_readsSum_L14 F (nI b) n σ) b0R (fun st1 X => ∃ n' σ', X = f_X12_readsSum_L14 F (nI b) n' σ' ∧ 200 < n' + st1.1 ∧ PT σ0 op W st1 σ' ∧ isTi (tx st1.1) = false) := by
    intro k
    induction k with
    | zero =>
      intro W st n b σ hW hb h1 h2 hk hnn h
      rw [chL]
      exact ⟨n, σ, rfl, hnn, h, by rw [htx st.1 (by omega)]; decide⟩
    | succ k ih =>
      intro W st n b σ hW hb h1 h2 hk hnn h
      rw [chL]
      by_cases ho : isTi (tx st.1) = true
      · have hlt := tx_lt htx (ti_op _ ho).2
        rw [if_pos ho]
        obtain ⟨n, rfl⟩ : ∃ f', n = f' + 1 := ⟨n - 1, by omega⟩
        obtain ⟨τ, c1, c2⟩ := m_close0 (F := F) (by omega) h hW (by omega) (by omega)
        obtain ⟨W1, su, k1, k2, -⟩ := PSu.mw (σ0 := σ0) (op := op) (W := W) (st := st) (Or.inl h)
        obtain ⟨σ', d1, d2⟩ := L14_sign (F := F) (n := n) (b := b) h0 h2 k1 k2 (Or.inr ho) hlt (by rw [if_pos ho]; exact c1) c2 hb
        have h1' : (adv st).2.1 ≤ (adv st).1 := by show st.2.1 ≤ st.1 + 1; omega
        have w := hp _ (adv st) F n b σ' trivial (by rw [List.length_cons]; omega) h1' hlt (by omega) (by show 200 < n + (st.1 + 1); omega) d2
        rw [d1]
        cases hr : p (adv st) with
        | inr e => rw [hr] at w; exact w
        | inl s1 =>
          rw [hr] at w
          obtain ⟨n', σ2, w1, w2, w3⟩ := w
          obtain ⟨g1, g2, g3, -⟩ := hg (adv st) s1 h1' hlt hr
          have g1' : s1.2.1 + (st.1 + 1 - st.2.1) ≤ s1.1 := g1
          have g3' : st.1 + 1 < s1.1 := g3
          rw [w1]
          exact ih W (emi s1 (tx st.1) 0) n' b σ2 hW hb (by show s1.2.1 + 1 ≤ s1.1; omega) g2 (by show 200 ≤ k + s1.1; omega) w2 (Or.inr ⟨s1, tx st.1, ho, rfl, w3⟩)
      · rw [if_neg ho]
        exact ⟨n, σ, rfl, hnn, h, by simpa using ho⟩
  intro W st m n b σ hW hb h1 h2 hm hnn h
  have w := hp W st m n b σ trivial hb h1 h2 hm hnn h
  unfold chn
  cases hr : p st with
  | inr e => rw [hr] at w; exact w
  | inl s1 =>
    rw [hr] at w
    obtain ⟨n', σ2, w1, w2, w3⟩ := w
    obtain ⟨g1, g2, g3, -⟩ := hg st s1 h1 h2 hr
    rw [w1]
    exact key 200 W s1 n' b σ2 hW hb (by omega) g2 (by omega) w2 (Or.inl w3)
theorem m_sum {n0 F op K : Nat} {tx : Nat → Int32} {σ0 : zM} {p : zLs → zPR} (hF : 300 ≤ F) (h0 : MR0 n0 tx σ0) (hg : Gd n0 p false K) (hp : MFo n0 F σ0 op p noT (fun W st1 σ' => PT σ0 op W st1 σ' ∧ isTi (tx st1.1) = false)) : MFo n0 F σ0 op (chn tx isPl p) noS (fun W st1 σ' => PSu σ0 op W st1 σ' ∧ isTi (tx st1.1) = false ∧ isPl (tx st1.1) = false) := by
  have hn := h0.1
  have htx := h0.2.2.2
  have key : ∀ (k : Nat) (W : List Nat) (st : zLs) (n b : Nat) (σ : zM), noS W → b ≤ W.length → st.2.1 ≤ st.1 → st.1 ≤ n0 → 200 ≤ k + st.1 → 200 < n + st.1 → PSu σ0 op W st σ → isTi (tx st.1) = false → mTo σ0 (chL tx isPl p k st) (f_X12_readsSum_L14 F (nI b) n σ) b0R (fun st1 X => ∃ n' σ', X = f_X12_readsSum_L14 F (nI b) n' σ' ∧ 200 < n' + st1.1 ∧ PSu σ0 op W st1 σ' ∧ isTi (tx st1.1) = false ∧ isPl (tx st1.1) = false) := by
    intro k
    induction k with
    | zero =>
      intro W st n b σ hW hb h1 h2 hk hnn h hti
      rw [chL]
      exact ⟨n, σ, rfl, hnn, h, hti, by rw [htx st.1 (by omega)]; decide⟩
    | succ k ih =>
      intro W st n b σ hW hb h1 h2 hk hnn h hti
      rw [chL]
      by_cases ho : isPl (tx st.1) = true
      · have hlt := tx_lt htx (pl_op _ ho).2
        rw [if_pos ho]
        obtain ⟨n, rfl⟩ : ∃ f', n = f' + 1 := ⟨n - 1, by omega⟩
        obtain ⟨τ, c1, c2⟩ := m_closeS (F := F) (by omega) h hW (by omega) (by omega)
        obtain ⟨W1, su, k1, k2, -⟩ := h.mw
        obtain ⟨σ', d1, d2⟩ := L14_sign (F := F) (n := n) (b := b) h0 h2 k1 k2 (Or.inl ho) hlt (by rw [if_neg (by rw [hti]; simp)]; exact c1) c2 hb
        have hpl := opN_pl ho
        have h1' : (adv st).2.1 ≤ (adv st).1 := by show st.2.1 ≤ st.1 + 1; omega
        have w := hp _ (adv st) F n b σ' (Or.inr ⟨_, _, rfl, Or.inl (by omega)⟩) (by rw [List.length_cons]; omega) h1' hlt (by omega) (by show 200 < n + (st.1 + 1); omega) d2
        rw [d1]
        cases hr : p (adv st) with
        | inr e => rw [hr] at w; exact w
        | inl s1 =>
          rw [hr] at w
          obtain ⟨n', σ2, w1, w2, w3, w4⟩ := w
          obtain ⟨g1, g2, g3, -⟩ := hg (adv st) s1 h1' hlt hr
          have g1' : s1.2.1 + (st.1 + 1 - st.2.1) ≤ s1.1 := g1
          have g3' : st.1 + 1 < s1.1 := g3
          rw [w1]
          exact ih W (emi s1 (tx st.1) 0) n' b σ2 hW hb (by show s1.2.1 + 1 ≤ s1.1; omega) g2 (by show 200 ≤ k + s1.1; omega) w2 (Or.inr ⟨s1, tx st.1, ho, rfl, w3⟩) w4
      · rw [if_neg ho]
        exact ⟨n, σ, rfl, hnn, h, hti, by simpa using ho⟩
  intro W st m n b σ hW hb h1 h2 hm hnn h
  have w := hp W st m n b σ hW.T hb h1 h2 hm hnn h
  unfold chn
  cases hr : p st with
  | inr e => rw [hr] at w; exact w
  | inl s1 =>
    rw [hr] at w
    obtain ⟨n', σ2, w1, w2, w3, w4⟩ := w
    obtain ⟨g1, g2, g3, -⟩ := hg st s1 h1 h2 hr
    rw [w1]
    exact key 200 W s1 n' b σ2 hW hb (by omega) g2 (by omega) w2 (Or.inl w3) w4
theorem m_pS {n0 F : Nat} {tx : Nat → Int32} {σ0 : zM} (hF : 300 ≤ F) (h0 : MR0 n0 tx σ0) : ∀ d o, d + o = 7 → o ≤ 6 → MFo n0 F σ0 o (pS tx d o) noS (fun W st1 σ' => PSu σ0 o W st1 σ' ∧ isTi (tx st1.1) = false ∧ isPl (tx st1.1) = false) := by
  have htx := h0.2.2.2
  intro d
  induction d with
  | zero => intro o ho ho6; omega
  | succ d ih =>
    intro o ho ho6
    have gf : Gd n0 (pFac tx (pS tx d) o) false (2 * d + 1) := gd_fac htx (fun _ => gd_pS htx d (o + 1) (by omega)) (by omega)
    exact m_sum hF h0 (gd_chn htx ti_op gf (Nat.le_refl _)) (m_term hF h0 gf (m_fac hF h0 (by omega) (fun h6 => ih (o + 1) (by omega) (by omega))))
/-- a whole sum -/
theorem m_readsSum {n0 F d o : Nat} {tx : Nat → Int32} {σ0 σ : zM} {W : List Nat} {st : zLs} (hF : 300 ≤ F) (h0 : MR0 n0 tx σ0) (hdo : d + o = 7) (ho6 : o ≤ 6) (hW : noS W) (h1 : st.2.1 ≤ st.1) (h2 : st.1 ≤ n0) (h : mW σ0 o W st σ) : mTo σ0 (pS tx d o st) (f_X12_readsSum F σ) b0R (fun st1 X => ∃ σ', X = some (1, σ') ∧ mW σ0 o W st1 σ') := by
  have hn := h0.1
  have htx := h0.2.2.2
  have w := m_pS hF h0 d o hdo ho6 W st F F W.length σ hW (Nat.le_refl _) h1 h2 (by omega) (by omega) h
  unfold f_X12_readsSum f_X12_readsFactor
  rw [lt_eq, h.2.2.2.2.1]
  unfold MF at w
  cases hr : pS tx d o st with
  | inr e => rw [hr] at w; exact w
  | inl s1 =>
    rw [hr] at w
    obtain ⟨n', σ2, w1, w2, w3, w4, w5⟩ := w
    obtain ⟨g1, g2, g3, -⟩ := gd_pS htx d o hdo st s1 h1 h2 hr
    obtain ⟨n', rfl⟩ : ∃ f', n' = f' + 1 := ⟨n' - 1, by omega⟩
    obtain ⟨W', su, k1, k2, k3⟩ := w3.mw
    have hh := m_here h0 k1 (by omega)
    rw [k2] at hh
    have hno := has_no (F := F) (by omega) w3 (by omega)
    obtain ⟨σ3, c1, c2⟩ := m_closeS (F := F) (by omega) w3 hW (by omega) (by omega)
    have nosign : ¬ (isPl (tx s1.1) = true ∨ isTi (tx s1.1) = true) := by rw [w4, w5]; simp
    have j138 : f_X12_readsSum_j138 F (nI W.length) σ2 = some (1, σ3) := by
      unfold f_X12_readsSum_j138
      rw [hno, bnd_some, if_pos rfl, c1, bnd_some]
    refine ⟨σ3, ?_, c2⟩
    rw [w1, f_X12_readsSum_L14, hh, bnd_some, e_sumSign, bnd_some, if_neg nosign, if_pos rfl, hh, bnd_some]
    by_cases h93 : tx s1.1 = 93
    · rw [if_pos h93, hno, bnd_some, if_pos rfl, j138]
    · rw [if_neg h93, j138]
