/-! ===== the model reads conditions ===== -/
def Kc (F n : Nat) (s26 : zM) : Option (Int32 × zM) :=
  bnd (f_X12_here s26) (fun r28 s27 =>
  if r28 = (38 : Int32) then
    f_X12_readsCondition_j180 F (f_X12_readsCondition_L40 F n) s27
  else
    bnd (f_X12_here s27) (fun r37 s36 =>
    if r37 = (124 : Int32) then
      f_X12_readsCondition_j180 F (f_X12_readsCondition_L40 F n) s36
    else
      bnd (f_X12_wrongAt (1 : Int32) (zg s36 69 8) s36) (fun r39 s38 =>
      if r39 = 0 then some (0, s38) else if r39 = 1 then some (1, s38) else none)))
def APf (F n fu : Nat) (σ : zM) : Option (Int32 × zM) := f_X12_readsCondition_L92 F (Kc F n) fu σ
def nots (j : Nat) (W : List Nat) : List Nat := List.replicate j (1048576 * 10) ++ W
def emN : Nat → zLs → zLs
  | 0, st => st
  | j + 1, st => emN j (emi st 33 0)
def noN (W : List Nat) : Prop := ∃ x r, W = x :: r ∧ ¬ x / 1048576 = 10 ∧ 6 < x / 1048576 ∧ x / 1048576 ≤ 14
theorem nots_S {j : Nat} {W : List Nat} (h : noN W) : noS (nots j W) := by
  cases j with
  | zero => obtain ⟨x, r, rfl, -, h1, h2⟩ := h; exact Or.inr ⟨x, r, rfl, h1, h2⟩
  | succ j => exact Or.inr ⟨1048576 * 10, nots j W, rfl, by omega, by omega⟩
theorem m_land {F a k : Nat} {K : zM → Option (Unit × zM)} {v1 : Int32} {σ0 σ : zM} {op : Nat} {W : List Nat} {st : zLs} (h : mW σ0 op ((1048576 * k + a) :: W) st σ) (hk : k ≤ 14) (hp : st.1 ≤ 200) (ha : a < st.2.1) (hl : st.2.1 ≤ 200) (hv : (st.2.2 a).2 < 1048576) : ∃ σ', f_X12_lands_j22 F K v1 σ = K σ' ∧ mW σ0 op W (lnd st a) σ' := by
  obtain ⟨a1, a2, a3, a4, a5, ⟨s1, s2, s3⟩, a7, a8⟩ := h
  rw [List.length_cons] at a5 a8
  have e1 : nI (1048576 * k + a) - nI (1048576 * k + a) / (1048576 : Int32) * (1048576 : Int32) = nI a := by
    rw [show (1048576 : Int32) = nI 1048576 from rfl, pk_rem (by omega) (by omega) (by omega)]
    congr 1; omega
  have e2 := (v_op (opN_le (st.2.2 a).1) hv).1
  unfold f_X12_lands_j22
  rw [a5, nI_pred, if_pos (zin_n (by omega) (by omega)), nI_clamp (by omega), s1, e1, lt_eq, if_pos (zin_n (by omega) (by omega)), if_pos (zin_n (by omega) (by omega)), nI_clamp (by omega), a7 a ha, e2, a4, show (1048576 : Int32) * nI (opN (st.2.2 a).1) + nI st.2.1 = nI (opN (st.2.2 a).1 * 1048576 + st.2.1) by rw [show (1048576 : Int32) = nI 1048576 from rfl, pk_mul, nI_add, Nat.mul_comm], lt_eq, lt_eq]
  refine ⟨_, rfl, (a1.zs rfl).zs rfl, ?_, ?_, ?_, ?_, ?_, fun j hj => ?_, by show W.length ≤ st.1; omega⟩
  · rw [zg_nj (by decide), zg_ne (by decide)]; exact a2
  · rw [zg_nj (by decide), zg_ne (by decide)]; exact a3
  · rw [zg_nj (by decide), zg_ne (by decide)]; exact a4
  · rw [zg_eq, zg_ne (by decide), a5, nI_pred]
  · exact stkN_fx (fun j => by rw [zg_ne (by decide), zg_ne (by decide)]) s3
  · rw [zg_ne (by decide), zg_row]
    show _ = nI (opN (if j = a then ((st.2.2 a).1, st.2.1) else st.2.2 j).1 * 1048576 + (if j = a then ((st.2.2 a).1, st.2.1) else st.2.2 j).2)
    by_cases c : j = a
    · rw [if_pos c, if_pos c]
    · rw [if_neg c, if_neg c]; exact a7 j hj
def PJ (σ0 : zM) (op : Nat) (W : List Nat) (st : zLs) (σ : zM) : Prop := mW σ0 op W st σ ∨ ∃ su a, st = lnd su a ∧ a < su.2.1 ∧ (su.2.2 a).2 < 1048576 ∧ mW σ0 op ((1048576 * 11 + a) :: W) su σ
def PK (σ0 : zM) (op : Nat) (W : List Nat) (st : zLs) (σ : zM) : Prop := PJ σ0 op W st σ ∨ ∃ su a, st = lnd su a ∧ a < su.2.1 ∧ (su.2.2 a).2 < 1048576 ∧ PJ σ0 op ((1048576 * 12 + a) :: W) su σ
theorem PJ.mw {σ0 σ : zM} {op : Nat} {W : List Nat} {st : zLs} (h : PJ σ0 op W st σ) : ∃ W' su, mW σ0 op W' su σ ∧ su.1 = st.1 := by
  rcases h with h | ⟨su, a, rfl, -, -, h⟩
  · exact ⟨W, st, h, rfl⟩
  · exact ⟨_, su, h, rfl⟩
theorem PK.mw {σ0 σ : zM} {op : Nat} {W : List Nat} {st : zLs} (h : PK σ0 op W st σ) : ∃ W' su, mW σ0 op W' su σ ∧ su.1 = st.1 := by
  rcases h with h | ⟨su, a, rfl, -, -, h⟩
  · exact h.mw
  · obtain ⟨W', sv, g1, g2⟩ := h.mw
    exact ⟨W', sv, g1, g2⟩
theorem m_top_k {σ0 σ : zM} {op k a : Nat} {W : List Nat} {st : zLs} (h : mW σ0 op ((1048576 * k + a) :: W) st σ) (hp : st.1 ≤ 200) (ha : a < 1048576) : f_X12_top σ = some (nI k, σ) := by
  rw [m_top h hp]
  congr 2; congr 1; omega
theorem land_stop {F fu : Nat} {K : zM → Option (Unit × zM)} {v1 : Int32} {σ0 σ : zM} {op x : Nat} {W : List Nat} {st : zLs} (h : mW σ0 op (x :: W) st σ) (hp : st.1 ≤ 200) (hx : ¬ x / 1048576 = 11) (hx2 : v1 = 0 ∨ ¬ x / 1048576 = 12) : f_X12_lands_L0 F K v1 (fu + 1) σ = K σ := by
  have hb := h.2.2.2.2.2.1.2.1
  have n11 : ¬ nI (x / 1048576) = (11 : Int32) := by rw [show (11 : Int32) = nI 11 from rfl, nI_eq (by omega) (by omega)]; exact hx
  rw [f_X12_lands_L0, m_top h hp, bnd_some, if_neg n11]
  by_cases c : v1 = 0
  · rw [if_pos c]
  · have n12 : ¬ nI (x / 1048576) = (12 : Int32) := by
      rw [show (12 : Int32) = nI 12 from rfl, nI_eq (by omega) (by omega)]
      rcases hx2 with q | q
      · exact absurd q c
      · exact q
    rw [if_neg c, m_top h hp, bnd_some, if_neg n12]
theorem land_11 {F fu a : Nat} {K : zM → Option (Unit × zM)} {v1 : Int32} {σ0 σ : zM} {op : Nat} {W : List Nat} {st : zLs} (h : mW σ0 op ((1048576 * 11 + a) :: W) st σ) (hp : st.1 ≤ 200) (ha : a < st.2.1) (hl : st.2.1 ≤ 200) (hv : (st.2.2 a).2 < 1048576) : ∃ σ', f_X12_lands_L0 F K v1 (fu + 1) σ = f_X12_lands_L0 F K v1 fu σ' ∧ mW σ0 op W (lnd st a) σ' := by
  obtain ⟨σ', e1, e2⟩ := m_land (F := F) (K := f_X12_lands_L0 F K v1 fu) (v1 := v1) h (by omega) hp ha hl hv
  refine ⟨σ', ?_, e2⟩
  rw [f_X12_lands_L0, m_top_k h hp (by omega), bnd_some, if_pos (show nI 11 = (11 : Int32) from rfl)]
  exact e1
theorem land_12 {F fu a : Nat} {K : zM → Option (Unit × zM)} {σ0 σ : zM} {op : Nat} {W : List Nat} {st : zLs} (h : mW σ0 op ((1048576 * 12 + a) :: W) st σ) (hp : st.1 ≤ 200) (ha : a < st.2.1) (hl : st.2.1 ≤ 200) (hv : (st.2.2 a).2 < 1048576) : ∃ σ', f_X12_lands_L0 F K 1 (fu + 1) σ = f_X12_lands_L0 F K 1 fu σ' ∧ mW σ0 op W (lnd st a) σ' := by
  obtain ⟨σ', e1, e2⟩ := m_land (F := F) (K := f_X12_lands_L0 F K 1 fu) (v1 := 1) h (by omega) hp ha hl hv
  refine ⟨σ', ?_, e2⟩
  rw [f_X12_lands_L0, m_top_k h hp (by omega), bnd_some, if_neg (show ¬ nI 12 = (11 : Int32) by decide), if_neg b1n, m_top_k h hp (by omega), bnd_some, if_pos (show nI 12 = (12 : Int32) from rfl)]
  exact e1
theorem lands0 {F : Nat} {σ0 σ : zM} {op x : Nat} {W : List Nat} {st : zLs} (hF : 4 ≤ F) (h : PJ σ0 op (x :: W) st σ) (hp : st.1 ≤ 200) (hl : st.2.1 ≤ 200) (hx : ¬ x / 1048576 = 11) : ∃ σ', f_X12_lands F 0 σ = some ((), σ') ∧ mW σ0 op (x :: W) st σ' := by
  obtain ⟨fu, hfu⟩ : ∃ f', F = f' + 1 + 1 + 1 + 1 := ⟨F - 4, by omega⟩
  unfold f_X12_lands
  have e : ∀ K, f_X12_lands_L0 F K 0 F σ = f_X12_lands_L0 F K 0 (fu + 1 + 1 + 1 + 1) σ := fun K => by rw [← hfu]
  rw [e]
  rcases h with h | ⟨su, a, rfl, h1, h2, h⟩
  · exact ⟨σ, land_stop h hp hx (Or.inl rfl), h⟩
  · obtain ⟨σ', e1, e2⟩ := land_11 (F := F) (fu := fu + 1 + 1 + 1) (K := fun s8 => some ((), s8)) (v1 := 0) h hp h1 hl h2
    exact ⟨σ', by rw [e1, land_stop e2 hp hx (Or.inl rfl)], e2⟩
theorem lands1 {F : Nat} {σ0 σ : zM} {op x : Nat} {W : List Nat} {st : zLs} (hF : 4 ≤ F) (h : PK σ0 op (x :: W) st σ) (hp : st.1 ≤ 200) (hl : st.2.1 ≤ 200) (hx : ¬ x / 1048576 = 11) (hx2 : ¬ x / 1048576 = 12) : ∃ σ', f_X12_lands F 1 σ = some ((), σ') ∧ mW σ0 op (x :: W) st σ' := by
  obtain ⟨fu, hfu⟩ : ∃ f', F = f' + 1 + 1 + 1 + 1 := ⟨F - 4, by omega⟩
  unfold f_X12_lands
  have e : ∀ K, f_X12_lands_L0 F K 1 F σ = f_X12_lands_L0 F K 1 (fu + 1 + 1 + 1 + 1) σ := fun K => by rw [← hfu]
  rw [e]
  have one : ∀ (W' : List Nat) (su : zLs) (f : Nat), PJ σ0 op W' su σ → su.1 ≤ 200 → su.2.1 ≤ 200 → ∃ f' σ', f ≤ f' ∧ f_X12_lands_L0 F (fun s8 => some ((), s8)) 1 (f + 1) σ = f_X12_lands_L0 F (fun s8 => some ((), s8)) 1 f' σ' ∧ mW σ0 op W' su σ' := by
    intro W' su f hh hp' hl'
    rcases hh with hh | ⟨sv, a, rfl, h1, h2, hh⟩
    · exact ⟨f + 1, σ, by omega, rfl, hh⟩
    · obtain ⟨σ', e1, e2⟩ := land_11 (F := F) (fu := f) (K := fun s8 => some ((), s8)) (v1 := 1) hh hp' h1 hl' h2
      exact ⟨f, σ', Nat.le_refl f, e1, e2⟩
  rcases h with h | ⟨su, a, rfl, h1, h2, h⟩
  · obtain ⟨f', σ', g1, g2, g3⟩ := one _ st (fu + 1 + 1 + 1) h hp hl
    obtain ⟨f2, rfl⟩ : ∃ x, f' = x + 1 := ⟨f' - 1, by omega⟩
    exact ⟨σ', by rw [g2, land_stop g3 hp hx (Or.inr hx2)], g3⟩
  · obtain ⟨f', σ', g1, g2, g3⟩ := one _ su (fu + 1 + 1 + 1) h hp hl
    obtain ⟨f2, rfl⟩ : ∃ x, f' = x + 1 + 1 := ⟨f' - 2, by omega⟩
    obtain ⟨σ2, e1, e2⟩ := land_12 (F := F) (fu := f2 + 1) (K := fun s8 => some ((), s8)) g3 hp h1 hl h2
    exact ⟨σ2, by rw [g2, e1, land_stop e2 hp hx (Or.inr hx2)], e2⟩
theorem m_jumps {σ0 σ : zM} {op : Nat} {c : Int32} {W : List Nat} {st : zLs} (h : mW σ0 op W st σ) (hp : st.1 ≤ 200) (hl : st.2.1 ≤ 200) : ∃ σ', f_X12_jumps (nI (opN c)) σ = some ((), σ') ∧ mW σ0 op ((1048576 * opN c + st.2.1) :: W) (emi (adv st) c 0) σ' := by
  have ho := opN_le c
  obtain ⟨a1, a2, a3, a4, a5, a6, a7, a8⟩ := h
  unfold f_X12_jumps f_X12_notes
  rw [a5, if_pos (zin_n (by omega) (by omega)), lt_eq, nI_clamp (by omega), a4, show (1048576 : Int32) * nI (opN c) + nI st.2.1 = nI (1048576 * opN c + st.2.1) by rw [show (1048576 : Int32) = nI 1048576 from rfl, pk_mul, nI_add], show (1048576 : Int32) * nI (opN c) + 0 = nI (opN c * 1048576 + 0) by rw [show (1048576 : Int32) = nI 1048576 from rfl, pk_mul, Nat.mul_comm]; simp, zg_ne (show (69 : Nat) ≠ 76 by decide), a5, nI_1, lt_eq]
  have e12 : zg (zs (zs σ 76 W.length (nI (1048576 * opN c + st.2.1))) 69 13 (nI (W.length + 1))) 69 12 = nI st.2.1 := by rw [zg_nj (by decide), zg_ne (by decide)]; exact a4
  rw [e12, if_pos (zin_n (by omega) (by omega)), nI_clamp (by omega), lt_eq]
  have e12' : ∀ v, zg (zs (zs (zs σ 76 W.length (nI (1048576 * opN c + st.2.1))) 69 13 (nI (W.length + 1))) 75 st.2.1 v) 69 12 = nI st.2.1 := fun v => by rw [zg_ne (by decide)]; exact e12
  rw [e12', nI_1, lt_eq, bnd_some]
  have e8 : ∀ v, zg (zs (zs (zs (zs σ 76 W.length (nI (1048576 * opN c + st.2.1))) 69 13 (nI (W.length + 1))) 75 st.2.1 v) 69 12 (nI (st.2.1 + 1))) 69 8 = nI st.1 := fun v => by rw [zg_nj (by decide), zg_ne (by decide), zg_nj (by decide), zg_ne (by decide)]; exact a2
  rw [e8, nI_1, lt_eq]
  refine ⟨_, rfl, ((((a1.zs rfl).zs rfl).zs rfl).zs rfl).zs rfl, zg_eq, ?_, ?_, ?_, ⟨?_, by omega, ?_⟩, fun j hj => ?_, ?_⟩
  · rw [zg_nj (by decide), zg_nj (by decide), zg_ne (by decide), zg_nj (by decide), zg_ne (by decide)]; exact a3
  · rw [zg_nj (by decide), zg_eq]; rfl
  · rw [zg_nj (by decide), zg_nj (by decide), zg_ne (by decide), zg_eq]; rfl
  · rw [zg_ne (by decide), zg_ne (by decide), zg_ne (by decide), zg_ne (by decide), zg_eq]
  · exact stkN_fx (fun j => by rw [zg_ne (by decide), zg_ne (by decide), zg_ne (by decide), zg_ne (by decide)]) (stkN_up a6 (Nat.le_refl _))
  · rw [zg_ne (by decide), zg_ne (by decide), zg_row, zg_ne (by decide), zg_ne (by decide)]
    show _ = nI (opN (if j = st.2.1 then (c, 0) else st.2.2 j).1 * 1048576 + (if j = st.2.1 then (c, 0) else st.2.2 j).2)
    by_cases cc : j = st.2.1
    · rw [if_pos cc, if_pos cc]
    · rw [if_neg cc, if_neg cc]
      exact a7 j (by have : j < st.2.1 + 1 := hj; omega)
  · show W.length + 1 ≤ st.1 + 1; omega
theorem m_ends {F : Nat} {K : zM → Option (Unit × zM)} {σ0 : zM} {op : Nat} {W : List Nat} (hW : noN W) : ∀ (j fu : Nat) (st : zLs) (σ : zM), j < fu → st.1 ≤ 200 → st.2.1 + j ≤ 220 → mW σ0 (op + j) (nots j W) st σ → ∃ σ', f_X12_endsPiece_L0 F K fu σ = K σ' ∧ mW σ0 op W (emN j st) σ' := by
  intro j
  induction j with
  | zero =>
    intro fu st σ hfu hp hl h
    obtain ⟨fu, rfl⟩ : ∃ f', fu = f' + 1 := ⟨fu - 1, by omega⟩
    obtain ⟨x, r, rfl, hx, -, hx2⟩ := hW
    have h' : mW σ0 op (x :: r) st σ := h
    have hb := h'.2.2.2.2.2.1.2.1
    refine ⟨σ, ?_, h'⟩
    rw [f_X12_endsPiece_L0, m_top h' hp, bnd_some, if_neg (show ¬ nI (x / 1048576) = (10 : Int32) by rw [show (10 : Int32) = nI 10 from rfl, nI_eq (by omega) (by omega)]; exact hx)]
  | succ j ih =>
    intro fu st σ hfu hp hl h
    obtain ⟨fu, rfl⟩ : ∃ f', fu = f' + 1 := ⟨fu - 1, by omega⟩
    have h' : mW σ0 (op + j + 1) ((1048576 * 10) :: nots j W) st σ := h
    obtain ⟨τ, t1, t2⟩ := m_notes (s := 33) (v := 0) h' (by omega)
    rw [show nI (opN 33) = (10 : Int32) from rfl] at t1
    obtain ⟨σ', e1, e2⟩ := ih fu (emi st 33 0) _ (by omega) hp (by show st.2.1 + 1 + j ≤ 220; omega) (mW_op (mW_pop t2))
    refine ⟨σ', ?_, e2⟩
    rw [f_X12_endsPiece_L0, m_top h' hp, bnd_some, if_pos (show nI (1048576 * 10 / 1048576) = (10 : Int32) from rfl), show (0 : Int32) = nI 0 from rfl, t1, bnd_some, lt_eq, lt_eq]
    exact e1
theorem m_endsPiece {F j : Nat} {σ0 σ : zM} {op : Nat} {W : List Nat} {st : zLs} (hF : 10 ≤ F) (hj : j ≤ 6) (hW : noN W) (hp : st.1 ≤ 200) (hl : st.2.1 ≤ 200) (h : mW σ0 (op + j) (nots j W) st σ) : ∃ σ', f_X12_endsPiece F σ = some ((), σ') ∧ mW σ0 op W (emN j st) σ' := m_ends (F := F) (K := fun s6 => some ((), s6)) hW j F st σ (by omega) hp (by omega) h
/-! after a piece -/
theorem ap_no {n0 F n fu : Nat} {tx : Nat → Int32} {σ0 σ : zM} {op : Nat} {W : List Nat} {st : zLs} (h0 : MR0 n0 tx σ0) (h : PK σ0 op W st σ) (h2 : st.1 ≤ n0) (c1 : ¬ tx st.1 = 38) (c2 : ¬ tx st.1 = 124) (c3 : ¬ tx st.1 = 41) : ∃ σ', APf F n (fu + 1) σ = some (0, σ') ∧ Fx mMR σ0 σ' ∧ zg σ' 69 10 = (-1000 : Int32) * nI 1 - nI st.1 := by
  obtain ⟨W', su, k1, k2⟩ := h.mw
  have hh := m_here h0 k1 (by omega)
  rw [k2] at hh
  unfold APf
  rw [f_X12_readsCondition_L92, hh, bnd_some, if_neg c3]
  unfold Kc
  rw [hh, bnd_some, if_neg c1, hh, bnd_some, if_neg c2]
  have w := m_wrong' (k := 1) k1
  rw [k2] at w
  exact w
theorem ap_and {n0 F n fu : Nat} {tx : Nat → Int32} {σ0 σ : zM} {op x : Nat} {W : List Nat} {st : zLs} (hF : 10 ≤ F) (h0 : MR0 n0 tx σ0) (h : PJ σ0 op (x :: W) st σ) (h1 : st.2.1 ≤ st.1) (h2 : st.1 ≤ n0) (hx : ¬ x / 1048576 = 11) (hc : tx st.1 = 38) : ∃ σ', APf F n (fu + 1) σ = f_X12_readsCondition_L40 F n σ' ∧ mW σ0 op ((1048576 * 11 + st.2.1) :: x :: W) (emi (adv st) 38 0) σ' := by
  have hn := h0.1
  obtain ⟨W', su, k1, k2⟩ := h.mw
  have hh := m_here h0 k1 (by omega)
  rw [k2, hc] at hh
  obtain ⟨τ, t1, t2⟩ := lands0 (F := F) (by omega) h (by omega) (by omega) hx
  have hh2 := m_here h0 t2 h2
  rw [hc] at hh2
  obtain ⟨σ', d1, d2⟩ := m_jumps (c := 38) t2 (by omega) (by omega)
  rw [show nI (opN 38) = (11 : Int32) from rfl] at d1
  refine ⟨σ', ?_, d2⟩
  unfold APf
  rw [f_X12_readsCondition_L92, hh, bnd_some, if_neg (by decide)]
  unfold Kc
  rw [hh, bnd_some, if_pos rfl]
  unfold f_X12_readsCondition_j180 f_X12_readsCondition_j195
  rw [hh, bnd_some, if_neg (by decide), t1, bnd_some, hh2, bnd_some, if_pos rfl, d1, bnd_some]
theorem ap_or {n0 F n fu : Nat} {tx : Nat → Int32} {σ0 σ : zM} {op x : Nat} {W : List Nat} {st : zLs} (hF : 10 ≤ F) (h0 : MR0 n0 tx σ0) (h : PK σ0 op (x :: W) st σ) (h1 : st.2.1 ≤ st.1) (h2 : st.1 ≤ n0) (hx : ¬ x / 1048576 = 11) (hx2 : ¬ x / 1048576 = 12) (hc : tx st.1 = 124) : ∃ σ', APf F n (fu + 1) σ = f_X12_readsCondition_L40 F n σ' ∧ mW σ0 op ((1048576 * 12 + st.2.1) :: x :: W) (emi (adv st) 124 0) σ' := by
  have hn := h0.1
  obtain ⟨W', su, k1, k2⟩ := h.mw
  have hh := m_here h0 k1 (by omega)
  rw [k2, hc] at hh
  obtain ⟨τ, t1, t2⟩ := lands1 (F := F) (by omega) h (by omega) (by omega) hx hx2
  have hh2 := m_here h0 t2 h2
  rw [hc] at hh2
  obtain ⟨σ', d1, d2⟩ := m_jumps (c := 124) t2 (by omega) (by omega)
  rw [show nI (opN 124) = (12 : Int32) from rfl] at d1
  refine ⟨σ', ?_, d2⟩
  unfold APf
  rw [f_X12_readsCondition_L92, hh, bnd_some, if_neg (by decide)]
  unfold Kc
  rw [hh, bnd_some, if_neg (by decide), hh, bnd_some, if_pos rfl]
  unfold f_X12_readsCondition_j180 f_X12_readsCondition_j195
  rw [hh, bnd_some, if_pos rfl, t1, bnd_some, hh2, bnd_some, if_neg (by decide), d1, bnd_some]
def PcM (n0 F : Nat) (σ0 : zM) (p : zLs → zPR) (o : Nat) : Prop := ∀ (j : Nat) (W : List Nat) (st : zLs) (n : Nat) (σ : zM), j ≤ o → noN W → st.2.1 + j ≤ st.1 → st.1 ≤ n0 → 200 < n + st.1 → mW σ0 o (nots j W) st σ → mTo σ0 (p st) (f_X12_readsCondition_L40 F n σ) b0R (fun st1 X => ∃ n' fu' σ', X = APf F n' fu' σ' ∧ 200 < n' + st1.1 ∧ 200 < fu' + st1.1 ∧ mW σ0 (o - j) W (emN j st1) σ')
theorem m_part {n0 F o K x : Nat} {tx : Nat → Int32} {σ0 σ : zM} {p : zLs → zPR} {W : List Nat} {st : zLs} {n : Nat} (hF : 300 ≤ F) (h0 : MR0 n0 tx σ0) (hg : Gd n0 p true K) (hp : PcM n0 F σ0 p o) (hx : x / 1048576 = 12 ∨ x / 1048576 = 13) (h1 : st.2.1 ≤ st.1) (h2 : st.1 ≤ n0) (hnn : 200 < n + st.1) (h : mW σ0 o (x :: W) st σ) : mTo σ0 (jch tx 38 p st) (f_X12_readsCondition_L40 F n σ) b0R (fun st1 X => ∃ n' fu' σ', X = APf F n' fu' σ' ∧ 200 < n' + st1.1 ∧ 200 < fu' + st1.1 ∧ PJ σ0 o (x :: W) st1 σ' ∧ ¬ tx st1.1 = 38) := by
  have hn := h0.1
  have htx := h0.2.2.2
  have key : ∀ (k : Nat) (st : zLs) (n fu : Nat) (σ : zM), st.2.1 ≤ st.1 → st.1 ≤ n0 → 200 ≤ k + st.1 → 200 < n + st.1 → 200 < fu + st.1 → PJ σ0 o (x :: W) st σ → mTo σ0 (jL tx 38 p k st) (APf F n fu σ) b0R (fun st1 X => ∃ n' fu' σ', X = APf F n' fu' σ' ∧ 200 < n' + st1.1 ∧ 200 < fu' + st1.1 ∧ PJ σ0 o (x :: W) st1 σ' ∧ ¬ tx st1.1 = 38) := by
    intro k
    induction k with
    | zero =>
      intro st n fu σ h1 h2 hk hnn hfu h
      rw [jL]
      exact ⟨n, fu, σ, rfl, hnn, hfu, h, by rw [htx st.1 (by omega)]; decide⟩
    | succ k ih =>
      intro st n fu σ h1 h2 hk hnn hfu h
      rw [jL]
      by_cases hc : tx st.1 = 38
      · have hlt := tx_lt htx (i := st.1) (by rw [hc]; decide)
        obtain ⟨fu, rfl⟩ : ∃ f', fu = f' + 1 := ⟨fu - 1, by omega⟩
        obtain ⟨σ', d1, d2⟩ := ap_and (F := F) (n := n) (fu := fu) (by omega) h0 h h1 h2 (by omega) hc
        have h1' : (emi (adv st) 38 0).2.1 ≤ (emi (adv st) 38 0).1 := by show st.2.1 + 1 ≤ st.1 + 1; omega
        have w := hp 0 ((1048576 * 11 + st.2.1) :: x :: W) (emi (adv st) 38 0) n σ' (Nat.zero_le _) ⟨_, _, rfl, by omega, by omega, by omega⟩ h1' hlt (by show 200 < n + (st.1 + 1); omega) d2
        rw [if_pos hc, d1]
        cases hr : p (emi (adv st) 38 0) with
        | inr e => rw [hr] at w; exact w
        | inl s1 =>
          rw [hr] at w
          obtain ⟨n', fu', σ2, w1, w2, w3, w4⟩ := w
          obtain ⟨g1, g2, g3, g4, g5⟩ := hg (emi (adv st) 38 0) s1 h1' hlt hr
          have g1' : s1.2.1 + (st.1 + 1 - (st.2.1 + 1)) ≤ s1.1 := g1
          have g3' : st.1 + 1 < s1.1 := g3
          have g5' : st.2.1 + 1 < s1.2.1 := g5.1
          have g4' : s1.2.2 st.2.1 = if st.2.1 = st.2.1 then ((38 : Int32), 0) else st.2.2 st.2.1 := g4 st.2.1 (by show st.2.1 < st.2.1 + 1; omega)
          rw [w1]
          exact ih (lnd s1 st.2.1) n' fu' σ2 (by show s1.2.1 ≤ s1.1; omega) g2 (by show 200 ≤ k + s1.1; omega) w2 w3 (Or.inr ⟨s1, st.2.1, rfl, by omega, by rw [g4', if_pos rfl]; show 0 < 1048576; omega, w4⟩)
      · rw [if_neg hc]
        exact ⟨n, fu, σ, rfl, hnn, hfu, h, hc⟩
  have w := hp 0 (x :: W) st n σ (Nat.zero_le _) ⟨_, _, rfl, by omega, by omega, by omega⟩ h1 h2 hnn h
  unfold jch
  cases hr : p st with
  | inr e => rw [hr] at w; exact w
  | inl s1 =>
    rw [hr] at w
    obtain ⟨n', fu', σ2, w1, w2, w3, w4⟩ := w
    obtain ⟨g1, g2, g3, -⟩ := hg st s1 h1 h2 hr
    rw [w1]
    exact key 200 s1 n' fu' σ2 (by omega) g2 (by omega) w2 w3 (Or.inl w4)
theorem m_cond {n0 F o K x : Nat} {tx : Nat → Int32} {σ0 σ : zM} {p : zLs → zPR} {W : List Nat} {st : zLs} {n : Nat} (hF : 300 ≤ F) (h0 : MR0 n0 tx σ0) (hg : Gd n0 p true K) (hp : PcM n0 F σ0 p o) (hx : x / 1048576 = 13) (h1 : st.2.1 ≤ st.1) (h2 : st.1 ≤ n0) (hnn : 200 < n + st.1) (h : mW σ0 o (x :: W) st σ) : mTo σ0 (pCn tx p st) (f_X12_readsCondition_L40 F n σ) b0R (fun st1 X => ∃ n' fu' σ', X = APf F n' fu' σ' ∧ 200 < n' + st1.1 ∧ 200 < fu' + st1.1 ∧ PK σ0 o (x :: W) st1 σ' ∧ ¬ tx st1.1 = 38 ∧ ¬ tx st1.1 = 124) := by
  have hn := h0.1
  have htx := h0.2.2.2
  have hgp := gd_jch htx hn (Or.inl rfl) hg
  have key : ∀ (k : Nat) (st : zLs) (n fu : Nat) (σ : zM), st.2.1 ≤ st.1 → st.1 ≤ n0 → 200 ≤ k + st.1 → 200 < n + st.1 → 200 < fu + st.1 → PK σ0 o (x :: W) st σ → ¬ tx st.1 = 38 → mTo σ0 (jL tx 124 (jch tx 38 p) k st) (APf F n fu σ) b0R (fun st1 X => ∃ n' fu' σ', X = APf F n' fu' σ' ∧ 200 < n' + st1.1 ∧ 200 < fu' + st1.1 ∧ PK σ0 o (x :: W) st1 σ' ∧ ¬ tx st1.1 = 38 ∧ ¬ tx st1.1 = 124) := by
    intro k
    induction k with
    | zero =>
      intro st n fu σ h1 h2 hk hnn hfu h h38
      rw [jL]
      exact ⟨n, fu, σ, rfl, hnn, hfu, h, h38, by rw [htx st.1 (by omega)]; decide⟩
    | succ k ih =>
      intro st n fu σ h1 h2 hk hnn hfu h h38
      rw [jL]
      by_cases hc : tx st.1 = 124
      · have hlt := tx_lt htx (i := st.1) (by rw [hc]; decide)
        obtain ⟨fu, rfl⟩ : ∃ f', fu = f' + 1 := ⟨fu - 1, by omega⟩
        obtain ⟨σ', d1, d2⟩ := ap_or (F := F) (n := n) (fu := fu) (by omega) h0 h h1 h2 (by omega) (by omega) hc
        have h1' : (emi (adv st) 124 0).2.1 ≤ (emi (adv st) 124 0).1 := by show st.2.1 + 1 ≤ st.1 + 1; omega
        have w := m_part hF h0 hg hp (x := 1048576 * 12 + st.2.1) (W := x :: W) (st := emi (adv st) 124 0) (n := n) (Or.inl (by omega)) h1' hlt (by show 200 < n + (st.1 + 1); omega) d2
        rw [if_pos hc, d1]
        cases hr : jch tx 38 p (emi (adv st) 124 0) with
        | inr e => rw [hr] at w; exact w
        | inl s1 =>
          rw [hr] at w
          obtain ⟨n', fu', σ2, w1, w2, w3, w4, w5⟩ := w
          obtain ⟨g1, g2, g3, g4, g5⟩ := hgp (emi (adv st) 124 0) s1 h1' hlt hr
          have g1' : s1.2.1 + (st.1 + 1 - (st.2.1 + 1)) ≤ s1.1 := g1
          have g3' : st.1 + 1 < s1.1 := g3
          have g5' : st.2.1 + 1 < s1.2.1 := g5.1
          have g4' : s1.2.2 st.2.1 = if st.2.1 = st.2.1 then ((124 : Int32), 0) else st.2.2 st.2.1 := g4 st.2.1 (by show st.2.1 < st.2.1 + 1; omega)
          rw [w1]
          exact ih (lnd s1 st.2.1) n' fu' σ2 (by show s1.2.1 ≤ s1.1; omega) g2 (by show 200 ≤ k + s1.1; omega) w2 w3 (Or.inr ⟨s1, st.2.1, rfl, by omega, by rw [g4', if_pos rfl]; show 0 < 1048576; omega, w4⟩) w5
      · rw [if_neg hc]
        exact ⟨n, fu, σ, rfl, hnn, hfu, h, h38, hc⟩
  have w := m_part hF h0 hg hp (W := W) (n := n) (Or.inr hx) h1 h2 hnn h
  show mTo σ0 (bndP (jch tx 38 p st) (jL tx 124 (jch tx 38 p) 200)) _ _ _
  cases hr : jch tx 38 p st with
  | inr e => rw [hr] at w; exact w
  | inl s1 =>
    rw [hr] at w
    obtain ⟨n', fu', σ2, w1, w2, w3, w4, w5⟩ := w
    obtain ⟨g1, g2, g3, -⟩ := hgp st s1 h1 h2 hr
    rw [w1]
    exact key 200 s1 n' fu' σ2 (by omega) g2 (by omega) w2 w3 (Or.inl w4) w5
/-- the ) -/
theorem ap_close {n0 F n fu : Nat} {tx : Nat → Int32} {σ0 σ : zM} {op x : Nat} {W : List Nat} {st : zLs} (hF : 10 ≤ F) (h0 : MR0 n0 tx σ0) (h : PK σ0 (op + 1) (x :: W) st σ) (h1 : st.2.1 ≤ st.1) (h2 : st.1 ≤ n0) (hx : x / 1048576 = 13) (hc : tx st.1 = 41) : ∃ τ, mW σ0 op W (adv st) τ ∧ APf F n (fu + 1) σ = if W.length = 0 then some (1, τ) else bnd (f_X12_endsPiece F τ) (fun _ s25 => APf F n fu s25) := by
  have hn := h0.1
  have hlt := tx_lt h0.2.2.2 (i := st.1) (by rw [hc]; decide)
  obtain ⟨W', su, k1, k2⟩ := h.mw
  have hh := m_here h0 k1 (by omega)
  rw [k2, hc] at hh
  obtain ⟨τ, t1, t2⟩ := lands1 (F := F) (by omega) h (by omega) (by omega) (by omega) (by omega)
  have t3 := mW_adv (mW_op (mW_pop t2))
  refine ⟨_, t3, ?_⟩
  have e13 := t3.2.2.2.2.1
  have hl := t3.2.2.2.2.2.2.2
  have hl' : W.length ≤ st.1 + 1 := hl
  unfold APf
  rw [f_X12_readsCondition_L92, hh, bnd_some, if_pos rfl, t1, bnd_some, lt_eq, lt_eq, lt_eq, e13]
  by_cases c : W.length = 0
  · rw [if_pos c, if_pos (by rw [c]; rfl)]
  · rw [if_neg c, if_neg (nI_ne0 (by omega) (by omega))]
theorem m_compared {n0 F o j : Nat} {tx : Nat → Int32} {σ0 σ : zM} {W : List Nat} {st : zLs} (hF : 300 ≤ F) (h0 : MR0 n0 tx σ0) (ho6 : o ≤ 6) (hj : j ≤ o) (hW : noN W) (h1 : st.2.1 + j ≤ st.1) (h2 : st.1 ≤ n0) (h : mW σ0 o (nots j W) st σ) : mTo σ0 (bndP (pS tx (7 - o) o st) (fun st1 => if tx st1.1 = 60 ∨ tx st1.1 = 62 ∨ tx st1.1 = 61 then bndP (pS tx (7 - o) o (adv st1)) (fun st2 => .inl (emi st2 (tx st1.1) 0)) else flP 1 st1.1)) (f_X12_readsCompared F σ) b0R (fun st1 X => ∃ σ', X = some (1, σ') ∧ mW σ0 (o - j) W (emN j st1) σ') := by
  have hn := h0.1
  have htx := h0.2.2.2
  have w := m_readsSum (d := 7 - o) hF h0 (by omega) ho6 (nots_S (j := j) hW) (by omega) h2 h
  unfold f_X12_readsCompared
  cases hr : pS tx (7 - o) o st with
  | inr e =>
    rw [hr] at w
    obtain ⟨σ', w1, w2, w3⟩ := w
    exact ⟨σ', by rw [w1]; unfold b0R; rw [bnd_some, if_pos rfl], w2, w3⟩
  | inl s1 =>
    rw [hr] at w
    obtain ⟨σ1, w1, w2⟩ := w
    obtain ⟨g1, g2, g3, -⟩ := gd_pS htx (7 - o) o (by omega) st s1 (by omega) h2 hr
    have hh := m_here h0 w2 g2
    show mTo σ0 (if tx s1.1 = 60 ∨ tx s1.1 = 62 ∨ tx s1.1 = 61 then _ else _) _ _ _
    rw [w1, bnd_some, if_neg b1n, hh, bnd_some, hh, bnd_some, hh, bnd_some]
    -- one of the three
    have cmp : (tx s1.1 = 60 ∨ tx s1.1 = 62 ∨ tx s1.1 = 61) → mTo σ0 (bndP (pS tx (7 - o) o (adv s1)) (fun st2 => .inl (emi st2 (tx s1.1) 0))) (f_X12_readsCompared_j52 F (nI (opN (tx s1.1))) σ1) b0R (fun st1 X => ∃ σ', X = some (1, σ') ∧ mW σ0 (o - j) W (emN j st1) σ') := by
      intro hc
      have hlt := tx_lt htx (i := s1.1) (by rcases hc with q | q | q <;> rw [q] <;> decide)
      have ho := opN_le (tx s1.1)
      unfold f_X12_readsCompared_j52
      rw [if_neg (nI_m1 (by omega)), lt_eq]
      have h1' : (adv s1).2.1 ≤ (adv s1).1 := by show s1.2.1 ≤ s1.1 + 1; omega
      have u := m_readsSum (d := 7 - o) hF h0 (by omega) ho6 (nots_S (j := j) hW) h1' hlt (mW_adv w2)
      cases hr2 : pS tx (7 - o) o (adv s1) with
      | inr e =>
        rw [hr2] at u
        obtain ⟨σ', u1, u2, u3⟩ := u
        exact ⟨σ', by rw [u1]; unfold b0R; rw [bnd_some, if_pos rfl], u2, u3⟩
      | inl s2 =>
        rw [hr2] at u
        obtain ⟨σ2, u1, u2⟩ := u
        obtain ⟨q1, q2, q3, -⟩ := gd_pS htx (7 - o) o (by omega) (adv s1) s2 h1' hlt hr2
        have q1' : s2.2.1 + (s1.1 + 1 - s1.2.1) ≤ s2.1 := q1
        obtain ⟨σ3, c1, c2⟩ := m_notes (s := tx s1.1) (v := 0) u2 (by omega)
        rw [show o = (o - j) + j by omega] at c2
        obtain ⟨σ4, d1, d2⟩ := m_endsPiece (F := F) (by omega) (by omega) hW (by show s2.1 ≤ 200; omega) (by show s2.2.1 + 1 ≤ 200; omega) c2
        refine ⟨σ4, ?_, d2⟩
        rw [u1, bnd_some, if_neg b1n, show (0 : Int32) = nI 0 from rfl, c1, bnd_some, d1, bnd_some]
    by_cases c1 : tx s1.1 = 60
    · have := cmp (Or.inl c1)
      rw [if_pos (Or.inl c1), if_pos (α := Option (Int32 × zM)) c1]
      rw [show nI (opN (tx s1.1)) = (7 : Int32) by rw [c1]; rfl] at this
      exact this
    · by_cases c2 : tx s1.1 = 62
      · have := cmp (Or.inr (Or.inl c2))
        rw [if_pos (Or.inr (Or.inl c2)), if_neg (α := Option (Int32 × zM)) c1, if_pos (α := Option (Int32 × zM)) c2]
        rw [show nI (opN (tx s1.1)) = (8 : Int32) by rw [c2]; rfl] at this
        exact this
      · by_cases c3 : tx s1.1 = 61
        · have := cmp (Or.inr (Or.inr c3))
          rw [if_pos (Or.inr (Or.inr c3)), if_neg (α := Option (Int32 × zM)) c1, if_neg (α := Option (Int32 × zM)) c2, if_pos (α := Option (Int32 × zM)) c3]
          rw [show nI (opN (tx s1.1)) = (9 : Int32) by rw [c3]; rfl] at this
          exact this
        · rw [if_neg (by rintro (q | q | q); exact c1 q; exact c2 q; exact c3 q), if_neg (α := Option (Int32 × zM)) c1, if_neg (α := Option (Int32 × zM)) c2, if_neg (α := Option (Int32 × zM)) c3]
          unfold f_X12_readsCompared_j52
          rw [if_pos rfl]
          exact m_wrong' (k := 1) w2
theorem L40_other {n0 F n : Nat} {tx : Nat → Int32} {σ0 σ : zM} {op : Nat} {W : List Nat} {st : zLs} (h0 : MR0 n0 tx σ0) (h : mW σ0 op W st σ) (h2 : st.1 ≤ n0) (c1 : ¬ tx st.1 = 33) (c2 : ¬ tx st.1 = 40) : f_X12_readsCondition_L40 F (n + 1) σ = bnd (f_X12_readsCompared F σ) (fun r18 s17 => if r18 = 0 then some ((0 : Int32), s17) else APf F n F s17) := by
  have hh := m_here h0 h h2
  rw [f_X12_readsCondition_L40, hh, bnd_some, if_neg c1, hh, bnd_some, if_neg c2]
  rfl
theorem m_pP {n0 F : Nat} {tx : Nat → Int32} {σ0 : zM} (hF : 300 ≤ F) (h0 : MR0 n0 tx σ0) : ∀ d o, d + o = 7 → o ≤ 6 → PcM n0 F σ0 (pP tx d o) o := by
  have hn := h0.1
  have htx := h0.2.2.2
  intro d
  induction d with
  | zero => intro o ho ho6; omega
  | succ d ih =>
    intro o ho ho6 j W st n σ hj hW h1 h2 hnn h
    obtain ⟨n, rfl⟩ : ∃ f', n = f' + 1 := ⟨n - 1, by omega⟩
    have hh := m_here h0 h h2
    rw [pP]
    unfold pPi
    have h1' : (adv st).2.1 ≤ (adv st).1 := by show st.2.1 ≤ st.1 + 1; omega
    by_cases c33 : tx st.1 = 33
    · have hlt := tx_lt htx (i := st.1) (by rw [c33]; decide)
      have hop := m_opens (k := 10) h0 h h2 (by omega) ho6
      rw [if_pos (Or.inl c33), f_X12_readsCondition_L40, hh, bnd_some, if_pos (α := Option (Int32 × zM)) c33]
      unfold f_X12_readsCondition_j58
      rw [hh, bnd_some, if_pos (α := Option (Int32 × zM)) c33, if_neg (α := zPR) (show ¬ tx st.1 = 40 by rw [c33]; decide)]
      by_cases h6 : o < 6
      · rw [if_pos h6] at hop ⊢
        obtain ⟨σ1, e1, e2⟩ := hop
        rw [show (10 : Int32) = nI 10 from rfl, e1, bnd_some, if_neg b1n]
        have w := ih (o + 1) (by omega) (by omega) (j + 1) W (adv st) n σ1 (by omega) hW (by show st.2.1 + (j + 1) ≤ st.1 + 1; omega) hlt (by show 200 < n + (st.1 + 1); omega) e2
        cases hr : pP tx d (o + 1) (adv st) with
        | inr e => rw [hr] at w; exact w
        | inl s1 =>
          rw [hr] at w
          obtain ⟨n', fu', σ2, w1, w2, w3, w4⟩ := w
          rw [show o + 1 - (j + 1) = o - j by omega] at w4
          exact ⟨n', fu', σ2, w1, w2, w3, w4⟩
      · rw [if_neg h6] at hop ⊢
        obtain ⟨σ1, e1, e2, e3⟩ := hop
        rw [show (10 : Int32) = nI 10 from rfl, e1, bnd_some, if_pos rfl]
        exact ⟨σ1, rfl, e2, e3⟩
    · by_cases c40 : tx st.1 = 40
      · have hlt := tx_lt htx (i := st.1) (by rw [c40]; decide)
        have hop := m_opens (k := 13) h0 h h2 (by omega) ho6
        rw [if_pos (Or.inr c40), f_X12_readsCondition_L40, hh, bnd_some, if_neg (α := Option (Int32 × zM)) c33, hh, bnd_some, if_pos (α := Option (Int32 × zM)) c40]
        unfold f_X12_readsCondition_j58
        rw [hh, bnd_some, if_neg (α := Option (Int32 × zM)) c33, if_pos (α := zPR) c40]
        by_cases h6 : o < 6
        · rw [if_pos h6] at hop ⊢
          obtain ⟨σ1, e1, e2⟩ := hop
          rw [show (13 : Int32) = nI 13 from rfl, e1, bnd_some, if_neg b1n]
          have gp := gd_pP htx hn d (o + 1) (by omega)
          have w := m_cond (n := n) hF h0 gp (ih (o + 1) (by omega) (by omega)) (by omega) h1' hlt (by show 200 < n + (st.1 + 1); omega) e2
          cases hr : pCn tx (pP tx d (o + 1)) (adv st) with
          | inr e => rw [hr] at w; exact w
          | inl s1 =>
            rw [hr] at w
            obtain ⟨n', fu', σ2, w1, w2, w3, w4, w5, w6⟩ := w
            obtain ⟨g1, g2, g3, -⟩ := gd_pCn htx hn gp (adv st) s1 h1' hlt hr
            have g1' : s1.2.1 + (st.1 + 1 - st.2.1) ≤ s1.1 := g1
            obtain ⟨fu', rfl⟩ : ∃ f', fu' = f' + 1 := ⟨fu' - 1, by omega⟩
            show mTo σ0 (if tx s1.1 = 41 then _ else _) _ _ _
            rw [w1]
            by_cases c41 : tx s1.1 = 41
            · obtain ⟨τ, t1, t2⟩ := ap_close (F := F) (n := n') (fu := fu') (by omega) h0 w4 (by omega) g2 (by omega) c41
              have hlt1 := tx_lt htx (i := s1.1) (by rw [c41]; decide)
              have hwl : ¬ (nots j W).length = 0 := by
                obtain ⟨x, r, rfl, -⟩ := hW
                unfold nots
                rw [List.length_append, List.length_cons]; omega
              rw [show o = (o - j) + j by omega] at t1
              obtain ⟨σ3, d1, d2⟩ := m_endsPiece (F := F) (by omega) (by omega) hW (by show s1.1 + 1 ≤ 200; omega) (by show s1.2.1 ≤ 200; omega) t1
              rw [if_pos c41, t2, if_neg hwl, d1, bnd_some]
              exact ⟨n', fu', σ3, rfl, by show 200 < n' + (s1.1 + 1); omega, by show 200 < fu' + (s1.1 + 1); omega, d2⟩
            · rw [if_neg c41]
              exact ap_no h0 w4 g2 w5 w6 c41
        · rw [if_neg h6] at hop ⊢
          obtain ⟨σ1, e1, e2, e3⟩ := hop
          rw [show (13 : Int32) = nI 13 from rfl, e1, bnd_some, if_pos rfl]
          exact ⟨σ1, rfl, e2, e3⟩
      · rw [if_neg (by rintro (q | q); exact c33 q; exact c40 q), L40_other h0 h h2 c33 c40]
        have w := m_compared hF h0 ho6 hj hW h1 h2 h
        have gd := gd_pP htx hn (d + 1) o (by omega) st
        rw [pP] at gd
        unfold pPi at gd
        rw [if_neg (by rintro (q | q); exact c33 q; exact c40 q)] at gd
        generalize hr : bndP (pS tx (7 - o) o st) (fun st1 => if tx st1.1 = 60 ∨ tx st1.1 = 62 ∨ tx st1.1 = 61 then bndP (pS tx (7 - o) o (adv st1)) (fun st2 => .inl (emi st2 (tx st1.1) 0)) else flP 1 st1.1) = pr at w gd ⊢
        cases pr with
        | inr e =>
          obtain ⟨σ', w1, w2, w3⟩ := w
          exact ⟨σ', by rw [w1]; unfold b0R; rw [bnd_some, if_pos rfl], w2, w3⟩
        | inl s1 =>
          obtain ⟨σ', w1, w2⟩ := w
          obtain ⟨g1, g2, g3, -⟩ := gd s1 (by omega) h2 rfl
          rw [w1, bnd_some, if_neg b1n]
          exact ⟨n, F, σ', rfl, by omega, by omega, w2⟩
