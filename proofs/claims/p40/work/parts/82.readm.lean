/-! ===== the model reads so: its stack of what waits ===== -/
abbrev mMR : zMk := ([75, 76], [(69, 8), (69, 10), (69, 11), (69, 12), (69, 13), (69, 15)])
def MR0 (n : Nat) (tx : Nat → Int32) (σ0 : zM) : Prop := n ≤ 200 ∧ zg σ0 69 9 = nI n ∧ (∀ i, i < n → (zg σ0 74 i &&& (255 : Int32)) = tx i) ∧ ∀ i, n ≤ i → tx i = -1
def stkN (σ : zM) : List Nat → Prop
  | [] => True
  | x :: r => zg σ 76 r.length = nI x ∧ x < 1073741824 ∧ stkN σ r
def mW (σ0 : zM) (op : Nat) (W : List Nat) (st : zLs) (σ : zM) : Prop := Fx mMR σ0 σ ∧ zg σ 69 8 = nI st.1 ∧ zg σ 69 11 = nI op ∧ zg σ 69 12 = nI st.2.1 ∧ zg σ 69 13 = nI W.length ∧ stkN σ W ∧ (∀ j, j < st.2.1 → zg σ 75 j = nI (opN (st.2.2 j).1 * 1048576 + (st.2.2 j).2)) ∧ W.length ≤ st.1
def mTo {β : Type} (σ0 : zM) (r : zPR) (X : β) (B : zM → β) (G : zLs → β → Prop) : Prop := match r with
  | .inl st => G st X
  | .inr e => ∃ σ', X = B σ' ∧ Fx mMR σ0 σ' ∧ zg σ' 69 10 = e
def b0R (σ : zM) : Option (Int32 × zM) := some (0, σ)
theorem stkN_up {σ : zM} {j : Nat} {v : Int32} : ∀ {W : List Nat}, stkN σ W → W.length ≤ j → stkN (zs σ 76 j v) W
  | [], _, _ => trivial
  | x :: r, h, hl => by
    simp only [List.length_cons] at hl
    exact ⟨by rw [zg_nj (by omega)]; exact h.1, h.2.1, stkN_up h.2.2 (by omega)⟩
theorem stkN_fx {σ σ' : zM} (hf : ∀ j, zg σ' 76 j = zg σ 76 j) : ∀ {W : List Nat}, stkN σ W → stkN σ' W
  | [], _ => trivial
  | x :: r, h => ⟨(hf _).trans h.1, h.2.1, stkN_fx hf h.2.2⟩
theorem m_here {n : Nat} {tx : Nat → Int32} {σ0 σ : zM} {op : Nat} {W : List Nat} {st : zLs} (h0 : MR0 n tx σ0) (h : mW σ0 op W st σ) (hp : st.1 ≤ n) : f_X12_here σ = some (tx st.1, σ) := by
  obtain ⟨hn, h9, h74, hout⟩ := h0
  have f9 : zg σ 69 9 = nI n := (h.1 69 9 rfl).trans h9
  unfold f_X12_here
  rw [h.2.1, f9]
  by_cases c : st.1 < n
  · rw [if_pos ((nI_ltI (by omega) (by omega)).mpr c), if_pos (zin_n (by omega) (by omega)), nI_clamp (by omega), h.1 74 st.1 rfl, h74 _ c]
  · rw [if_neg (fun w => c ((nI_ltI (by omega) (by omega)).mp w)), hout _ (by omega)]
theorem m_isDigit {n : Nat} {tx : Nat → Int32} {σ0 σ : zM} {op : Nat} {W : List Nat} {st : zLs} (h0 : MR0 n tx σ0) (h : mW σ0 op W st σ) (hp : st.1 ≤ n) : f_X12_isDigit σ = some (if dg (tx st.1) = true then 1 else 0, σ) := by
  unfold f_X12_isDigit
  rw [m_here h0 h hp, bnd_some, m_here h0 h hp, bnd_some]
  have h48 : (48 : Int32).toInt = 48 := rfl
  have h57 : (57 : Int32).toInt = 57 := rfl
  unfold dg
  simp only [i_lt, decide_eq_true_eq]
  repeat' split
  all_goals first | rfl | (exfalso; omega)
theorem m_wrong {σ0 σ : zM} {op k : Nat} {W : List Nat} {st : zLs} (h : mW σ0 op W st σ) : ∃ σ', f_X12_wrongAt (nI k) (zg σ 69 8) σ = some (0, σ') ∧ Fx mMR σ0 σ' ∧ zg σ' 69 10 = (-1000 : Int32) * nI k - nI st.1 := by
  unfold f_X12_wrongAt
  rw [lt_eq, h.2.1]
  exact ⟨_, rfl, h.1.zs rfl, zg_eq⟩
theorem mW_adv {σ0 σ : zM} {op : Nat} {W : List Nat} {st : zLs} (h : mW σ0 op W st σ) : mW σ0 op W (adv st) (zs σ 69 8 (zg σ 69 8 + 1)) := by
  obtain ⟨a1, a2, a3, a4, a5, a6, a7, a8⟩ := h
  refine ⟨a1.zs rfl, by rw [zg_eq, a2, nI_1]; rfl, by rw [zg_nj (by decide)]; exact a3, by rw [zg_nj (by decide)]; exact a4, by rw [zg_nj (by decide)]; exact a5, stkN_fx (fun j => zg_ne (by decide)) a6, fun j hj => by rw [zg_ne (by decide)]; exact a7 j hj, by show W.length ≤ st.1 + 1; omega⟩
theorem m_notes {σ0 σ : zM} {op v : Nat} {s : Int32} {W : List Nat} {st : zLs} (h : mW σ0 op W st σ) (hl : st.2.1 < 220) : ∃ σ', f_X12_notes (nI (opN s)) (nI v) σ = some ((), σ') ∧ mW σ0 op W (emi st s v) σ' := by
  obtain ⟨a1, a2, a3, a4, a5, a6, a7, a8⟩ := h
  unfold f_X12_notes
  rw [a4, if_pos (zin_n (by omega) hl), lt_eq, nI_clamp (by omega), show (1048576 : Int32) * nI (opN s) + nI v = nI (opN s * 1048576 + v) by rw [show (1048576 : Int32) = nI 1048576 from rfl, pk_mul, nI_add, Nat.mul_comm], zg_ne (show (69 : Nat) ≠ 75 by decide), a4, nI_1, lt_eq]
  refine ⟨_, rfl, (a1.zs rfl).zs rfl, ?_, ?_, zg_eq, ?_, stkN_fx (fun j => by rw [zg_ne (by decide), zg_ne (by decide)]) a6, fun j hj => ?_, a8⟩
  · rw [zg_nj (by decide), zg_ne (by decide)]; exact a2
  · rw [zg_nj (by decide), zg_ne (by decide)]; exact a3
  · rw [zg_nj (by decide), zg_ne (by decide)]; exact a5
  · rw [zg_ne (by decide), zg_row]
    show _ = nI (opN (if j = st.2.1 then (s, v) else st.2.2 j).1 * 1048576 + (if j = st.2.1 then (s, v) else st.2.2 j).2)
    by_cases c : j = st.2.1
    · rw [if_pos c, if_pos c]
    · rw [if_neg c, if_neg c]
      exact a7 j (by have : j < st.2.1 + 1 := hj; omega)
theorem m_top {σ0 σ : zM} {op x : Nat} {W : List Nat} {st : zLs} (h : mW σ0 op (x :: W) st σ) (hp : st.1 ≤ 200) : f_X12_top σ = some (nI (x / 1048576), σ) := by
  obtain ⟨a1, a2, a3, a4, a5, ⟨s1, s2, s3⟩, a7, a8⟩ := h
  rw [List.length_cons] at a5 a8
  unfold f_X12_top
  rw [a5, if_neg (nI_ne0 (by omega) (by omega)), nI_pred, if_pos (zin_n (by omega) (by omega)), nI_clamp (by omega), s1, show (1048576 : Int32) = nI 1048576 from rfl, pk_div (by omega) (by omega) (by omega)]
theorem m_top0 {σ0 σ : zM} {op : Nat} {st : zLs} (h : mW σ0 op [] st σ) : f_X12_top σ = some (-1, σ) := by
  unfold f_X12_top
  rw [h.2.2.2.2.1, if_pos (show nI ([] : List Nat).length = 0 from rfl)]
theorem mW_pop {σ0 σ : zM} {op x : Nat} {W : List Nat} {st : zLs} (h : mW σ0 op (x :: W) st σ) : mW σ0 op W st (zs σ 69 13 (zg σ 69 13 - 1)) := by
  obtain ⟨a1, a2, a3, a4, a5, ⟨s1, s2, s3⟩, a7, a8⟩ := h
  rw [List.length_cons] at a5 a8
  refine ⟨a1.zs rfl, by rw [zg_nj (by decide)]; exact a2, by rw [zg_nj (by decide)]; exact a3, by rw [zg_nj (by decide)]; exact a4, by rw [zg_eq, a5, nI_pred], stkN_fx (fun j => zg_ne (by decide)) s3, fun j hj => by rw [zg_ne (by decide)]; exact a7 j hj, by omega⟩
theorem mW_op {σ0 σ : zM} {op : Nat} {W : List Nat} {st : zLs} (h : mW σ0 (op + 1) W st σ) : mW σ0 op W st (zs σ 69 11 (zg σ 69 11 - 1)) := by
  obtain ⟨a1, a2, a3, a4, a5, a6, a7, a8⟩ := h
  exact ⟨a1.zs rfl, by rw [zg_nj (by decide)]; exact a2, by rw [zg_eq, a3, nI_pred], by rw [zg_nj (by decide)]; exact a4, by rw [zg_nj (by decide)]; exact a5, stkN_fx (fun j => zg_ne (by decide)) a6, fun j hj => by rw [zg_ne (by decide)]; exact a7 j hj, a8⟩
/-- put on the stack, one byte on -/
theorem mW_push {σ0 σ : zM} {op x : Nat} {W : List Nat} {st : zLs} (h : mW σ0 op W st σ) (hx : x < 1073741824) : mW σ0 op (x :: W) (adv st) (zs (zs (zs σ 76 W.length (nI x)) 69 13 (nI (W.length + 1))) 69 8 (nI (st.1 + 1))) := by
  obtain ⟨a1, a2, a3, a4, a5, a6, a7, a8⟩ := h
  refine ⟨((a1.zs rfl).zs rfl).zs rfl, zg_eq, ?_, ?_, ?_, ⟨?_, hx, ?_⟩, fun j hj => ?_, ?_⟩
  · rw [zg_nj (by decide), zg_nj (by decide), zg_ne (by decide)]; exact a3
  · rw [zg_nj (by decide), zg_nj (by decide), zg_ne (by decide)]; exact a4
  · rw [zg_nj (by decide), zg_eq]; rfl
  · rw [zg_ne (by decide), zg_ne (by decide), zg_eq]
  · exact stkN_fx (fun j => by rw [zg_ne (by decide), zg_ne (by decide)]) (stkN_up a6 (Nat.le_refl _))
  · rw [zg_ne (by decide), zg_ne (by decide), zg_ne (by decide)]; exact a7 j hj
  · show W.length + 1 ≤ st.1 + 1; omega
theorem m_opens {n k : Nat} {tx : Nat → Int32} {σ0 σ : zM} {op : Nat} {W : List Nat} {st : zLs} (h0 : MR0 n tx σ0) (h : mW σ0 op W st σ) (hp : st.1 ≤ n) (hk : k ≤ 14) (ho : op ≤ 6) : if op < 6 then ∃ σ', f_X12_opens (nI k) σ = some (1, σ') ∧ mW σ0 (op + 1) ((1048576 * k) :: W) (adv st) σ' else ∃ σ', f_X12_opens (nI k) σ = some (0, σ') ∧ Fx mMR σ0 σ' ∧ zg σ' 69 10 = (-1000 : Int32) * nI 5 - nI st.1 := by
  have hn := h0.1
  unfold f_X12_opens
  rw [h.2.2.1]
  by_cases c : op < 6
  · rw [if_pos c, if_neg (show ¬ nI op = (6 : Int32) by rw [show (6 : Int32) = nI 6 from rfl, nI_eq (by omega) (by omega)]; omega), nI_1, lt_eq]
    have h1 : mW σ0 (op + 1) W st (zs σ 69 11 (nI (op + 1))) := by
      obtain ⟨a1, a2, a3, a4, a5, a6, a7, a8⟩ := h
      exact ⟨a1.zs rfl, by rw [zg_nj (by decide)]; exact a2, zg_eq, by rw [zg_nj (by decide)]; exact a4, by rw [zg_nj (by decide)]; exact a5, stkN_fx (fun j => zg_ne (by decide)) a6, fun j hj => by rw [zg_ne (by decide)]; exact a7 j hj, a8⟩
    have hl := h1.2.2.2.2.2.2.2
    have e13 := h1.2.2.2.2.1
    have e8 := h1.2.1
    have hpu := mW_push (x := 1048576 * k) h1 (by omega)
    generalize zs σ 69 11 (nI (op + 1)) = τ at h1 e13 e8 hpu ⊢
    rw [e13, if_pos (zin_n (by omega) (by omega)), lt_eq, nI_clamp (by omega), lt_eq, lt_eq, show (1048576 : Int32) * nI k = nI (1048576 * k) by rw [show (1048576 : Int32) = nI 1048576 from rfl, pk_mul], zg_ne (show (69 : Nat) ≠ 76 by decide), e13, nI_1, zg_nj (show (8 : Nat) ≠ 13 by decide), zg_ne (show (69 : Nat) ≠ 76 by decide), e8, nI_1]
    exact ⟨_, rfl, hpu⟩
  · rw [if_neg c, if_pos (show nI op = (6 : Int32) by rw [show op = 6 by omega]; rfl)]
    obtain ⟨σ', e1, e2, e3⟩ := m_wrong (k := 5) h
    refine ⟨σ', ?_, e2, e3⟩
    rw [show (5 : Int32) = nI 5 from rfl, e1, bnd_some]; rfl
/-! sums that wait -/
def PT (σ0 : zM) (op : Nat) (W : List Nat) (st : zLs) (σ : zM) : Prop := mW σ0 op W st σ ∨ ∃ su s, isTi s = true ∧ st = emi su s 0 ∧ mW σ0 op ((1048576 * opN s) :: W) su σ
def PSu (σ0 : zM) (op : Nat) (W : List Nat) (st : zLs) (σ : zM) : Prop := PT σ0 op W st σ ∨ ∃ su s, isPl s = true ∧ st = emi su s 0 ∧ PT σ0 op ((1048576 * opN s) :: W) su σ
theorem opN_ti {s : Int32} (h : isTi s = true) : 4 ≤ opN s ∧ opN s ≤ 6 := by
  unfold isTi at h
  rw [decide_eq_true_eq] at h
  rcases h with rfl | rfl | rfl <;> decide
theorem opN_pl {s : Int32} (h : isPl s = true) : 2 ≤ opN s ∧ opN s ≤ 3 := by
  unfold isPl at h
  rw [decide_eq_true_eq] at h
  rcases h with rfl | rfl <;> decide
/-- what lies below is no sum's sign -/
def noT (W : List Nat) : Prop := W = [] ∨ ∃ x r, W = x :: r ∧ (x / 1048576 < 4 ∨ 6 < x / 1048576)
def noS (W : List Nat) : Prop := W = [] ∨ ∃ x r, W = x :: r ∧ 6 < x / 1048576 ∧ x / 1048576 ≤ 14
theorem noS.T {W : List Nat} (h : noS W) : noT W := by
  rcases h with h | ⟨x, r, h, h1, -⟩
  · exact Or.inl h
  · exact Or.inr ⟨x, r, h, Or.inr h1⟩
/-- one is noted and gone -/
theorem m_close1 {F : Nat} {K : zM → Option (Unit × zM)} {σ0 σ : zM} {op : Nat} {v1 s : Int32} {W : List Nat} {su : zLs} (h : mW σ0 op ((1048576 * opN s) :: W) su σ) (hp : su.1 ≤ 200) (hl : su.2.1 < 220) : ∃ σ', f_X12_closesSums_j37 F K v1 σ = K σ' ∧ mW σ0 op W (emi su s 0) σ' := by
  have e : 1048576 * opN s / 1048576 = opN s := by omega
  obtain ⟨τ, t1, t2⟩ := m_notes (s := s) (v := 0) h hl
  unfold f_X12_closesSums_j37
  rw [m_top h hp, bnd_some, e, show (0 : Int32) = nI 0 from rfl, t1, bnd_some, lt_eq]
  exact ⟨_, rfl, mW_pop t2⟩
theorem m_stop0 {F fu : Nat} {K : zM → Option (Unit × zM)} {σ0 σ : zM} {op : Nat} {W : List Nat} {st : zLs} (h : mW σ0 op W st σ) (hW : noT W) (hp : st.1 ≤ 200) : f_X12_closesSums_L0 F K 0 (fu + 1) σ = K σ := by
  have j17 : ∀ k0, f_X12_closesSums_j17 F K k0 0 σ = K σ := fun k0 => by unfold f_X12_closesSums_j17; rw [if_pos rfl]
  rw [f_X12_closesSums_L0]
  rcases hW with rfl | ⟨x, r, rfl, hx⟩
  · rw [m_top0 h, bnd_some, if_pos (by decide), j17]
  · have hx2 := h.2.2.2.2.2.1.2.1
    rw [m_top h hp, bnd_some]
    rcases hx with hx | hx
    · rw [if_pos (show nI (x / 1048576) < (4 : Int32) by rw [show (4 : Int32) = nI 4 from rfl, nI_ltI (by omega) (by omega)]; exact hx), j17]
    · rw [if_neg (show ¬ nI (x / 1048576) < (4 : Int32) by rw [show (4 : Int32) = nI 4 from rfl, nI_ltI (by omega) (by omega)]; omega), m_top h hp, bnd_some, if_pos (show (6 : Int32) < nI (x / 1048576) by rw [show (6 : Int32) = nI 6 from rfl, nI_ltI (by omega) (by omega)]; exact hx), j17]
theorem m_stop1 {F fu : Nat} {K : zM → Option (Unit × zM)} {σ0 σ : zM} {op : Nat} {W : List Nat} {st : zLs} (h : mW σ0 op W st σ) (hW : noS W) (hp : st.1 ≤ 200) : f_X12_closesSums_L0 F K 1 (fu + 1) σ = K σ := by
  rw [f_X12_closesSums_L0]
  rcases hW with rfl | ⟨x, r, rfl, hx, -⟩
  · have j17 : ∀ k0, f_X12_closesSums_j17 F K k0 1 σ = K σ := fun k0 => by
      unfold f_X12_closesSums_j17
      rw [if_neg b1n, m_top0 h, bnd_some, if_neg (by decide), m_top0 h, bnd_some, if_neg (by decide)]
    rw [m_top0 h, bnd_some, if_pos (by decide), j17]
  · have hx2 := h.2.2.2.2.2.1.2.1
    have j17 : ∀ k0, f_X12_closesSums_j17 F K k0 1 σ = K σ := fun k0 => by
      unfold f_X12_closesSums_j17
      rw [if_neg b1n, m_top h hp, bnd_some, if_neg (show ¬ nI (x / 1048576) = (2 : Int32) by rw [show (2 : Int32) = nI 2 from rfl, nI_eq (by omega) (by omega)]; omega), m_top h hp, bnd_some, if_neg (show ¬ nI (x / 1048576) = (3 : Int32) by rw [show (3 : Int32) = nI 3 from rfl, nI_eq (by omega) (by omega)]; omega)]
    rw [m_top h hp, bnd_some, if_neg (show ¬ nI (x / 1048576) < (4 : Int32) by rw [show (4 : Int32) = nI 4 from rfl, nI_ltI (by omega) (by omega)]; omega), m_top h hp, bnd_some, if_pos (show (6 : Int32) < nI (x / 1048576) by rw [show (6 : Int32) = nI 6 from rfl, nI_ltI (by omega) (by omega)]; exact hx), j17]
theorem m_popT {F fu : Nat} {K : zM → Option (Unit × zM)} {v1 : Int32} {σ0 σ : zM} {op : Nat} {W : List Nat} {su : zLs} {s : Int32} (hs : isTi s = true) (h : mW σ0 op ((1048576 * opN s) :: W) su σ) (hp : su.1 ≤ 200) (hl : su.2.1 < 220) : ∃ σ', f_X12_closesSums_L0 F K v1 (fu + 1) σ = f_X12_closesSums_L0 F K v1 fu σ' ∧ mW σ0 op W (emi su s 0) σ' := by
  have ho := opN_ti hs
  obtain ⟨σ', e1, e2⟩ := m_close1 (F := F) (K := f_X12_closesSums_L0 F K v1 fu) (v1 := v1) h hp hl
  refine ⟨σ', ?_, e2⟩
  rw [f_X12_closesSums_L0, m_top h hp, bnd_some, show 1048576 * opN s / 1048576 = opN s by omega, if_neg (show ¬ nI (opN s) < (4 : Int32) by rw [show (4 : Int32) = nI 4 from rfl, nI_ltI (by omega) (by omega)]; omega), m_top h hp, bnd_some, show 1048576 * opN s / 1048576 = opN s by omega, if_neg (show ¬ (6 : Int32) < nI (opN s) by rw [show (6 : Int32) = nI 6 from rfl, nI_ltI (by omega) (by omega)]; omega)]
  exact e1
theorem m_popS {F fu : Nat} {K : zM → Option (Unit × zM)} {σ0 σ : zM} {op : Nat} {W : List Nat} {su : zLs} {s : Int32} (hs : isPl s = true) (h : mW σ0 op ((1048576 * opN s) :: W) su σ) (hp : su.1 ≤ 200) (hl : su.2.1 < 220) : ∃ σ', f_X12_closesSums_L0 F K 1 (fu + 1) σ = f_X12_closesSums_L0 F K 1 fu σ' ∧ mW σ0 op W (emi su s 0) σ' := by
  have ho := opN_pl hs
  have e : 1048576 * opN s / 1048576 = opN s := by omega
  obtain ⟨σ', e1, e2⟩ := m_close1 (F := F) (K := f_X12_closesSums_L0 F K 1 fu) (v1 := 1) h hp hl
  refine ⟨σ', ?_, e2⟩
  have j17 : f_X12_closesSums_j17 F K (f_X12_closesSums_L0 F K 1 fu) 1 σ = f_X12_closesSums_L0 F K 1 fu σ' := by
    unfold f_X12_closesSums_j17
    rw [if_neg b1n, m_top h hp, bnd_some, e]
    by_cases c : opN s = 2
    · rw [if_pos (show nI (opN s) = (2 : Int32) by rw [c]; rfl)]; exact e1
    · rw [if_neg (show ¬ nI (opN s) = (2 : Int32) by rw [show (2 : Int32) = nI 2 from rfl, nI_eq (by omega) (by omega)]; exact c), m_top h hp, bnd_some, e, if_pos (show nI (opN s) = (3 : Int32) by rw [show opN s = 3 by omega]; rfl)]; exact e1
  rw [f_X12_closesSums_L0, m_top h hp, bnd_some, e, if_pos (show nI (opN s) < (4 : Int32) by rw [show (4 : Int32) = nI 4 from rfl, nI_ltI (by omega) (by omega)]; omega), j17]
theorem m_close0 {F : Nat} {σ0 σ : zM} {op : Nat} {W : List Nat} {st : zLs} (hF : 4 ≤ F) (h : PT σ0 op W st σ) (hW : noT W) (hp : st.1 ≤ 200) (hl : st.2.1 ≤ 220) : ∃ σ', f_X12_closesSums F 0 σ = some ((), σ') ∧ mW σ0 op W st σ' := by
  obtain ⟨fu, hfu⟩ : ∃ f', F = f' + 1 + 1 + 1 + 1 := ⟨F - 4, by omega⟩
  unfold f_X12_closesSums
  have e : ∀ K, f_X12_closesSums_L0 F K 0 F σ = f_X12_closesSums_L0 F K 0 (fu + 1 + 1 + 1 + 1) σ := fun K => by rw [← hfu]
  rw [e]
  rcases h with h | ⟨su, s, hs, rfl, h⟩
  · exact ⟨σ, m_stop0 h hW hp, h⟩
  · have hl' : su.2.1 + 1 ≤ 220 := hl
    obtain ⟨σ', e1, e2⟩ := m_popT (F := F) (fu := fu + 1 + 1 + 1) (K := fun s13 => some ((), s13)) (v1 := 0) hs h hp (by omega)
    exact ⟨σ', by rw [e1, m_stop0 e2 hW hp], e2⟩
theorem m_closeS {F : Nat} {σ0 σ : zM} {op : Nat} {W : List Nat} {st : zLs} (hF : 4 ≤ F) (h : PSu σ0 op W st σ) (hW : noS W) (hp : st.1 ≤ 200) (hl : st.2.1 ≤ 220) : ∃ σ', f_X12_closesSums F 1 σ = some ((), σ') ∧ mW σ0 op W st σ' := by
  obtain ⟨fu, hfu⟩ : ∃ f', F = f' + 1 + 1 + 1 + 1 := ⟨F - 4, by omega⟩
  unfold f_X12_closesSums
  have e : ∀ K, f_X12_closesSums_L0 F K 1 F σ = f_X12_closesSums_L0 F K 1 (fu + 1 + 1 + 1 + 1) σ := fun K => by rw [← hfu]
  rw [e]
  -- the times' sign first
  have tim : ∀ (W' : List Nat) (su : zLs) (f : Nat), PT σ0 op W' su σ → su.1 ≤ 200 → su.2.1 ≤ 220 → ∃ f' σ', f ≤ f' ∧ f_X12_closesSums_L0 F (fun s13 => some ((), s13)) 1 (f + 1) σ = f_X12_closesSums_L0 F (fun s13 => some ((), s13)) 1 f' σ' ∧ mW σ0 op W' su σ' := by
    intro W' su f hh hp' hl'
    rcases hh with hh | ⟨sv, s, hs, rfl, hh⟩
    · exact ⟨f + 1, σ, by omega, rfl, hh⟩
    · have hl2 : sv.2.1 + 1 ≤ 220 := hl'
      obtain ⟨σ', e1, e2⟩ := m_popT (F := F) (fu := f) (K := fun s13 => some ((), s13)) (v1 := 1) hs hh hp' (by omega)
      exact ⟨f, σ', Nat.le_refl f, e1, e2⟩
  rcases h with h | ⟨su, s, hs, rfl, h⟩
  · obtain ⟨f', σ', g1, g2, g3⟩ := tim W st (fu + 1 + 1 + 1) h hp hl
    obtain ⟨f2, rfl⟩ : ∃ x, f' = x + 1 := ⟨f' - 1, by omega⟩
    exact ⟨σ', by rw [g2, m_stop1 g3 hW hp], g3⟩
  · have hl' : su.2.1 + 1 ≤ 220 := hl
    have hp' : su.1 ≤ 200 := hp
    obtain ⟨f', σ', g1, g2, g3⟩ := tim _ su (fu + 1 + 1 + 1) h hp' (by omega)
    obtain ⟨f2, rfl⟩ : ∃ x, f' = x + 1 + 1 := ⟨f' - 2, by omega⟩
    obtain ⟨σ2, e1, e2⟩ := m_popS (F := F) (fu := f2 + 1) (K := fun s13 => some ((), s13)) hs g3 hp' (by omega)
    exact ⟨σ2, by rw [g2, e1, m_stop1 e2 hW hp], e2⟩
/-! the signs -/
theorem e_sumSign (c : Int32) (σ : zM) : f_X12_sumSign c σ = some (if isPl c = true ∨ isTi c = true then nI (opN c) else -1, σ) := by
  unfold f_X12_sumSign isPl isTi
  simp only [decide_eq_true_eq]
  by_cases h1 : c = 43
  · subst h1; rfl
  by_cases h2 : c = 45
  · subst h2; rfl
  by_cases h3 : c = 42
  · subst h3; rfl
  by_cases h4 : c = 47
  · subst h4; rfl
  by_cases h5 : c = 37
  · subst h5; rfl
  simp [h1, h2, h3, h4, h5]
theorem m_hasNo {F b : Nat} {σ0 σ : zM} {op : Nat} {W : List Nat} {st : zLs} (hF : 230 ≤ F) (h : mW σ0 op W st σ) (hp : st.1 ≤ 200) (hno : ∀ k, b ≤ k → k < W.length → ¬ zg σ 76 k / (1048576 : Int32) = 14) (hb : b ≤ W.length) : f_X12_hasOpenSum F (nI b) σ = some (0, σ) := by
  have h13 := h.2.2.2.2.1
  have hl := h.2.2.2.2.2.2.2
  have key : ∀ d fu k, k + d = W.length → d < fu → b ≤ k → f_X12_hasOpenSum_L2 F (fun s2 => some ((0 : Int32), s2)) fu (nI k) σ = some (0, σ) := by
    intro d
    induction d with
    | zero =>
      intro fu k hk hfu hbk
      obtain ⟨fu, rfl⟩ : ∃ f', fu = f' + 1 := ⟨fu - 1, by omega⟩
      rw [f_X12_hasOpenSum_L2, h13, if_neg (by rw [nI_ltI (by omega) (by omega)]; omega)]
    | succ d ih =>
      intro fu k hk hfu hbk
      obtain ⟨fu, rfl⟩ : ∃ f', fu = f' + 1 := ⟨fu - 1, by omega⟩
      rw [f_X12_hasOpenSum_L2, h13, if_pos (by rw [nI_ltI (by omega) (by omega)]; omega), if_pos (zin_n (by omega) (by omega)), nI_clamp (by omega), if_neg (hno k hbk (by omega)), lt_eq, nI_1]
      exact ih fu (k + 1) (by omega) (by omega) (by omega)
  unfold f_X12_hasOpenSum
  exact key (W.length - b) F b (by omega) (by omega) (Nat.le_refl b)
theorem m_hasYes {F b i : Nat} {σ0 σ : zM} {op : Nat} {W : List Nat} {st : zLs} (hF : 230 ≤ F) (h : mW σ0 op W st σ) (hp : st.1 ≤ 200) (hb : b ≤ i) (hi : i < W.length) (hy : zg σ 76 i / (1048576 : Int32) = 14) : f_X12_hasOpenSum F (nI b) σ = some (1, σ) := by
  have h13 := h.2.2.2.2.1
  have hl := h.2.2.2.2.2.2.2
  have key : ∀ d fu k, k + d = i → d < fu → f_X12_hasOpenSum_L2 F (fun s2 => some ((0 : Int32), s2)) fu (nI k) σ = some (1, σ) := by
    intro d
    induction d with
    | zero =>
      intro fu k hk hfu
      obtain ⟨fu, rfl⟩ : ∃ f', fu = f' + 1 := ⟨fu - 1, by omega⟩
      rw [f_X12_hasOpenSum_L2, h13, if_pos (by rw [nI_ltI (by omega) (by omega)]; omega), if_pos (zin_n (by omega) (by omega)), nI_clamp (by omega), if_pos (by rw [show k = i by omega]; exact hy)]
    | succ d ih =>
      intro fu k hk hfu
      obtain ⟨fu, rfl⟩ : ∃ f', fu = f' + 1 := ⟨fu - 1, by omega⟩
      rw [f_X12_hasOpenSum_L2, h13, if_pos (by rw [nI_ltI (by omega) (by omega)]; omega), if_pos (zin_n (by omega) (by omega)), nI_clamp (by omega)]
      split
      · rfl
      · rw [lt_eq, nI_1]; exact ih fu (k + 1) (by omega) (by omega)
  unfold f_X12_hasOpenSum
  exact key (i - b) F b (by omega) (by omega)
