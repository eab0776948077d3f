/-! ===== the best seats: the table ahead, who sits where, all move ===== -/
abbrev mAlo : zMk := ([13, 14, 15, 23, 32, 48], [])
def Dn (n m p c : Nat) (W : Int32) (tg fs : Nat → Nat) (α : zM) (k i : Nat) (σ : zM) : Prop := ∀ k' i', k' < m → i' < m → (k' < k ∨ k' = k ∧ i' < i) → zg σ 48 (k' * 7 + i') = cst α p c n (tg k') (fs i') W
theorem e_alone {F D n m p q c a : Nat} {W : Int32} {tg fs : Nat → Nat} {α σ0 : zM} {K : zM → Option (Int32 × zM)} (hF : 300 ≤ F) (hS : SC n m p q c W tg fs α) (h10 : zg σ0 45 10 = nI m) (h11 : zg σ0 45 11 = W) (h46 : ∀ j, j < m → zg σ0 46 j = nI (tg j)) (h47 : ∀ j, j < m → zg σ0 47 j = nI (fs j)) (hx : Fx mQ α σ0) : ∀ (d fu k : Nat) (σ : zM), k + d = m → d < fu → Fx mAlo σ0 σ → PM n p c a α σ → Dn n m p c W tg fs α k 0 σ → ∃ σ', f_X6_seatBest_L2 F D K fu (nI k) σ = K σ' ∧ Fx mAlo σ0 σ' ∧ PM n p c a α σ' ∧ Dn n m p c W tg fs α m 0 σ' := by
  have h7 := hS.2.2.1.1
  have hn := hS.1.1
  have inner : ∀ (K : zM → Option (Int32 × zM)) (k : Nat), k < m → ∀ (d fu i : Nat) (σ : zM), i + d = m → d < fu → Fx mAlo σ0 σ → PM n p c a α σ → Dn n m p c W tg fs α k i σ → ∃ σ', f_X6_seatBest_L18 F D K (nI k) fu (nI i) σ = K σ' ∧ Fx mAlo σ0 σ' ∧ PM n p c a α σ' ∧ Dn n m p c W tg fs α k m σ' := by
    intro K k hk d
    induction d with
    | zero =>
      intro fu i σ hi hfu hf hP hD
      obtain ⟨fu, rfl⟩ : ∃ f', fu = f' + 1 := ⟨fu - 1, by omega⟩
      have : i = m := by omega
      subst this
      refine ⟨σ, ?_, hf, hP, hD⟩
      rw [f_X6_seatBest_L18, hf 45 10 rfl, h10, if_neg (by rw [nI_ltI (by omega) (by omega)]; omega)]
    | succ d ih =>
      intro fu i σ hi hfu hf hP hD
      obtain ⟨fu, rfl⟩ : ∃ f', fu = f' + 1 := ⟨fu - 1, by omega⟩
      have him : i < m := by omega
      have c1 : nI i < nI m := (nI_ltI (by omega) (by omega)).mpr him
      have c2 : nI i < (7 : Int32) := (nI_ltI (b := 7) (by omega) (by omega)).mpr (by omega)
      obtain ⟨σ1, a1, a2, a3⟩ := e_cost (F := F) (W := W) hF hS.1 hS.2.1 (hx.tr (hf.sub rfl)) hP (hS.2.2.1.2.1 k hk).1 (hS.s40 him)
      obtain ⟨σ2, hσ2⟩ : ∃ σ2, σ2 = zs σ1 48 (k * 7 + i) (cst α p c n (tg k) (fs i) W) := ⟨_, rfl⟩
      have f2 : Fx ([48], []) σ1 σ2 := by rw [hσ2]; exact Fx.rf.zs rfl
      have fa : Fx mAlo σ σ2 := (a2.sub rfl).tr (f2.sub rfl)
      obtain ⟨σ3, b1, b2, b3, b4⟩ := ih fu (i + 1) σ2 (by omega) (by omega) (hf.tr fa) (a3.fx hS.2.1.or (Fx.rf (m := ([], []))) rfl f2 rfl) (fun k' i' hk' hi' hd => by
        rw [hσ2, zg_row]
        by_cases q : k' * 7 + i' = k * 7 + i
        · have e1 : k' = k := by omega
          have e2 : i' = i := by omega
          rw [if_pos q, e1, e2]
        · rw [if_neg q, a2 48 _ rfl]
          exact hD k' i' hk' hi' (by
            rcases hd with h | ⟨h, h'⟩
            · exact Or.inl h
            · refine Or.inr ⟨h, ?_⟩
              subst h
              omega))
      refine ⟨σ3, ?_, b2, b3, b4⟩
      rw [f_X6_seatBest_L18, hf 45 10 rfl, h10, if_pos c1, if_pos c2, if_pos (zin_n (by omega) (by omega)), if_pos (zin_n (by omega) (by omega)), nI_clamp (by omega), nI_clamp (by omega), hf 46 k rfl, hf 47 i rfl, hf 45 11 rfl, h46 k hk, h47 i him, h11, a1, bnd_some, s_n7, if_pos (zin_n (by omega) (by omega)), nI_clamp (by omega), lt_eq, lt_eq, nI_1, ← hσ2]
      exact b1
  intro d
  induction d with
  | zero =>
    intro fu k σ hk hfu hf hP hD
    obtain ⟨fu, rfl⟩ : ∃ f', fu = f' + 1 := ⟨fu - 1, by omega⟩
    have : k = m := by omega
    subst this
    refine ⟨σ, ?_, hf, hP, hD⟩
    rw [f_X6_seatBest_L2, hf 45 10 rfl, h10, if_neg (by rw [nI_ltI (by omega) (by omega)]; omega)]
  | succ d ih =>
    intro fu k σ hk hfu hf hP hD
    obtain ⟨fu, rfl⟩ : ∃ f', fu = f' + 1 := ⟨fu - 1, by omega⟩
    have hkm : k < m := by omega
    have c1 : nI k < nI m := (nI_ltI (by omega) (by omega)).mpr hkm
    have c2 : nI k < (7 : Int32) := (nI_ltI (b := 7) (by omega) (by omega)).mpr (by omega)
    obtain ⟨σ1, a1, a2, a3, a4⟩ := inner (fun s5 => lt (nI k + (1 : Int32)) (fun y6 => f_X6_seatBest_L2 F D K fu y6 s5)) k hkm m F 0 σ (by omega) (by omega) hf hP hD
    obtain ⟨σ2, b1, b2, b3, b4⟩ := ih fu (k + 1) σ1 (by omega) (by omega) a2 a3 (fun k' i' hk' hi' hd => a4 k' i' hk' hi' (by
      rcases hd with h | ⟨h, h'⟩
      · by_cases q : k' = k
        · exact Or.inr ⟨q, hi'⟩
        · exact Or.inl (by omega)
      · omega))
    refine ⟨σ2, ?_, b2, b3, b4⟩
    rw [f_X6_seatBest_L2, hf 45 10 rfl, h10, if_pos c1, if_pos c2, show (0 : Int32) = nI 0 from rfl, a1, lt_eq, nI_1]
    exact b1
theorem e_seatBest {F D n m p q c a : Nat} {W : Int32} {tg fs : Nat → Nat} {α σ0 : zM} (hF : 300 ≤ F) (hD : 10 ≤ D) (hS : SC n m p q c W tg fs α) (h10 : zg σ0 45 10 = nI m) (h11 : zg σ0 45 11 = W) (h46 : ∀ j, j < m → zg σ0 46 j = nI (tg j)) (h47 : ∀ j, j < m → zg σ0 47 j = nI (fs j)) (hx : Fx mQ α σ0) (hP : PM n p c a α σ0) : ∃ σ', f_X6_seatBest F D σ0 = some (tv α p c n W + zg σ' 45 12, σ') ∧ Fx ([13, 14, 15, 23, 32, 48, 49, 50], [(45, 12), (45, 13)]) σ0 σ' ∧ PM n p c a α σ' ∧ CB m fs (dfs m (stpS (lifA tg m α) p c n m tg fs) m 0 (fun _ => false) (fun _ => 0) none) σ' := by
  have h7 := hS.2.2.1.1
  have hn := hS.1.1
  obtain ⟨σ1, a1, a2, a3, a4⟩ := e_alone (F := F) (D := D) (K := fun s7 => f_X6_seatBest_j75 F D s7) hF hS h10 h11 h46 h47 hx m F 0 σ0 (by omega) (by omega) Fx.rf hP (fun k' i' _ _ hd => by omega)
  obtain ⟨σ2, hσ2⟩ : ∃ σ2, σ2 = zs (zs σ1 45 13 0) 45 12 0 := ⟨_, rfl⟩
  have f2 : Fx ([], [(45, 12), (45, 13)]) σ1 σ2 := by rw [hσ2]; exact (Fx.rf.zs rfl).zs rfl
  have P2 : PM n p c a α σ2 := a3.fx hS.2.1.or (Fx.rf (m := ([], []))) rfl f2 rfl
  have f02 : Fx ([13, 14, 15, 23, 32, 48], [(45, 12), (45, 13)]) σ0 σ2 := (a2.sub rfl).tr (f2.sub rfl)
  have St : StC n m p c a W tg fs α σ2 := ⟨(f02 45 10 rfl).trans h10, fun k hk => (f02 46 k rfl).trans (h46 k hk), fun k hk => (f02 47 k rfl).trans (h47 k hk), fun k i hk hi => (f2 48 _ rfl).trans (a4 k i hk hi (Or.inl hk)), hx.tr (f02.sub rfl), P2⟩
  have B2 : CB m fs none σ2 := by
    show zg σ2 45 13 = 0
    rw [hσ2, zg_nj (by decide), zg_eq]
  obtain ⟨σ3, b1, b2, b3, b4, -⟩ := e_choose (F := F) hF hS m 0 D (fun _ => 0) 0 (fun _ => false) none σ2 (by omega) (by omega) St B2 (fun j hj => by omega) (fun i hi => b_0 i)
  have c0 : cK (lifA tg m α) p c n tg fs 0 (fun _ => 0) = 0 := by
    unfold cK
    rw [seaA]; simp
  rw [c0] at b1
  obtain ⟨σ4, d1, d2, d3⟩ := e_total (F := F) (W := W) hF hS.1 hS.2.1 (mQ_ch St.2.2.2.2.1 b2) b3
  have f24 : Fx mCh σ2 σ4 := b2.tr (d2.sub rfl)
  refine ⟨σ4, ?_, (f02.sub rfl).tr (f24.sub rfl), d3, b4.fx d2 rfl rfl (fun _ => rfl)⟩
  unfold f_X6_seatBest
  rw [show (0 : Int32) = nI 0 from rfl, a1]
  unfold f_X6_seatBest_j75
  rw [lt_eq, lt_eq, ← hσ2, show (0 : Int32) = nI 0 from rfl]
  rw [show f_X6_choose F D (nI 0) (nI 0) (nI 0) σ2 = some ((), σ3) from b1, bnd_some, b2 45 11 rfl, f02 45 11 rfl, h11, d1, bnd_some]
theorem e_seatFor {F n m k : Nat} {W : Int32} {tg : Nat → Nat} {v : Int32} {σ : zM} (hF : 20 ≤ F) (hn : n ≤ 16) (hT : Told W n m tg) (h10 : zg σ 45 10 = nI m) (h46 : ∀ j, j < m → zg σ 46 j = nI (tg j)) (hk : k < m) (hv : zg σ 50 k = v) : f_X6_seatFor F (nI (tg k)) σ = some (v, σ) := by
  have h7 := hT.1
  have tb : ∀ j, j < m → tg j < 16 := fun j hj => by have := (hT.2.1 j hj).1; omega
  have key : ∀ (d fu j : Nat), j + d = k → d < fu → f_X6_seatFor_L2 F (fun s2 => some ((-1 : Int32), s2)) (nI (tg k)) fu (nI j) σ = some (v, σ) := by
    intro d
    induction d with
    | zero =>
      intro fu j hj hfu
      obtain ⟨fu, rfl⟩ : ∃ f', fu = f' + 1 := ⟨fu - 1, by omega⟩
      have : j = k := by omega
      subst this
      rw [f_X6_seatFor_L2, h10, if_pos (show nI j < nI m from (nI_ltI (by omega) (by omega)).mpr hk), if_pos (show nI j < (7 : Int32) from (nI_ltI (b := 7) (by omega) (by omega)).mpr (by omega)), if_pos (zin_n (by omega) (by omega)), nI_clamp (by omega), h46 j hk, if_pos rfl, if_pos (zin_n (by omega) (by omega)), hv]
    | succ d ih =>
      intro fu j hj hfu
      obtain ⟨fu, rfl⟩ : ∃ f', fu = f' + 1 := ⟨fu - 1, by omega⟩
      have hjm : j < m := by omega
      have ne : ¬ nI (tg j) = nI (tg k) := fun e => hT.inj j k (by omega) hk ((nI_eq (by have := tb j hjm; omega) (by have := tb k hk; omega)).mp e)
      rw [f_X6_seatFor_L2, h10, if_pos (show nI j < nI m from (nI_ltI (by omega) (by omega)).mpr hjm), if_pos (show nI j < (7 : Int32) from (nI_ltI (b := 7) (by omega) (by omega)).mpr (by omega)), if_pos (zin_n (by omega) (by omega)), nI_clamp (by omega), h46 j hjm, if_neg ne, lt_eq, nI_1]
      exact ih fu (j + 1) (by omega) (by omega)
  exact key k F 0 (by omega) (by omega)
