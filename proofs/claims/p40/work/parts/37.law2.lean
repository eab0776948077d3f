/-! ===== the model's machine comes to the same ===== -/
def opN (s : Int32) : Nat := if s = 1 then 0 else if s = 2 then 1 else if s = 43 then 2 else if s = 45 then 3 else if s = 42 then 4 else if s = 47 then 5 else if s = 37 then 6 else if s = 60 then 7 else if s = 62 then 8 else if s = 61 then 9 else if s = 33 then 10 else if s = 38 then 11 else if s = 124 then 12 else 13
theorem opN_le (s : Int32) : opN s ≤ 13 := by
  unfold opN
  repeat' split
  all_goals omega
theorem v_op {o v : Nat} (ho : o ≤ 13) (hv : v < 1048576) : nI (o * 1048576 + v) / (1048576 : Int32) = nI o ∧ nI (o * 1048576 + v) - nI (o * 1048576 + v) / (1048576 : Int32) * (1048576 : Int32) = nI v := by
  have e : (1048576 : Int32) = nI 1048576 := rfl
  rw [e, pk_rem (by omega) (by omega) (by omega), pk_div (by omega) (by omega) (by omega)]
  refine ⟨by congr 1; omega, by congr 1; omega⟩
theorem e_reckonM {s x y : Int32} (σ : zM) (h : isAr s ∨ isCm s) (hz : ¬ (y = 0 ∧ (s = 47 ∨ s = 37))) : f_X12_reckon (nI (opN s)) x y σ = some (comb s x y, σ) := by
  have o1 : opN 43 = 2 := by decide
  have o2 : opN 45 = 3 := by decide
  have o3 : opN 42 = 4 := by decide
  have o4 : opN 47 = 5 := by decide
  have o5 : opN 37 = 6 := by decide
  have o6 : opN 60 = 7 := by decide
  have o7 : opN 62 = 8 := by decide
  have o8 : opN 61 = 9 := by decide
  have k2 : nI 2 = 2 := rfl
  have k3 : nI 3 = 3 := rfl
  have k4 : nI 4 = 4 := rfl
  have k5 : nI 5 = 5 := rfl
  have k6 : nI 6 = 6 := rfl
  have k7 : nI 7 = 7 := rfl
  have k8 : nI 8 = 8 := rfl
  have k9 : nI 9 = 9 := rfl
  unfold f_X12_reckon comb
  rcases h with (rfl | rfl | rfl | rfl | rfl) | (rfl | rfl | rfl)
  · simp [o1, k2]
  · simp [o2, k3]
  · simp [o3, k4]
  · have hy : ¬ y = 0 := fun q => hz ⟨q, Or.inl rfl⟩
    simp [o4, k5, hy]
  · have hy : ¬ y = 0 := fun q => hz ⟨q, Or.inr rfl⟩
    simp [o5, k6, hy]
  · by_cases h : x < y <;> simp [o6, k7, h]
  · by_cases h : y < x <;> simp [o7, k8, h]
  · by_cases h : x = y <;> simp [o8, k9, h]
theorem e_comesToL {F e : Nat} {st pt le : Nat → Int32} {τ : Nat → List Bool} {b : Bool} {a0 : Nat} (he : e ≤ 200) (hT : Typ st pt a0 e b τ) (hC : ∀ j, j < e → ∃ v, v < 1048576 ∧ pt j = nI v) : ∀ (m f f0 k : Nat) (S : List Int32) (σ : zM), k + m = e → m < f → m < f0 → a0 ≤ k → tyS S (τ k) → stk 86 σ S →
    (∀ j v, j < e → v < 1048576 → pt j = nI v → zg σ 81 j = nI (opN (st j) * 1048576 + v)) → (∀ j, j < 10 → zg σ 87 j = le j) →
    ∃ σ', f_X12_comesTo_L16 F (fun s16 => if zin (0 : Int32) 220 = true then some ((zg s16 86 ((0 : Int32)).toNatClampNeg), s16) else none) (nI e) (nI 0) f (nI S.length) (nI k) σ = some (ev st pt le e f0 k S, σ') ∧ Fx ([86], []) σ σ' := by
  intro m
  induction m using Nat.strongRecOn with
  | _ m ih =>
  intro f f0 k S σ hk hf hf0 hak hty hst h81 h87
  obtain ⟨f, rfl⟩ : ∃ f', f = f' + 1 := ⟨f - 1, by omega⟩
  obtain ⟨f0, rfl⟩ : ∃ f', f0 = f' + 1 := ⟨f0 - 1, by omega⟩
  have hfr : ∀ (j : Nat) (v : Int32), Fx ([86], []) σ (zs σ 86 j v) := fun j v => Fx.rf.zs rfl
  have r81 : ∀ (q : Nat) (x : Int32) (j v : Nat), j < e → v < 1048576 → pt j = nI v → zg (zs σ 86 q x) 81 j = nI (opN (st j) * 1048576 + v) := fun q x j v hj hv hp => by rw [zg_ne (by decide)]; exact h81 j v hj hv hp
  have r87 : ∀ (q : Nat) (x : Int32) (j : Nat), j < 10 → zg (zs σ 86 q x) 87 j = le j := fun q x j hj => by rw [zg_ne (by decide)]; exact h87 j hj
  have hl := tyS_len S _ hty
  have hl39 := hT.2.2 k hak (by omega)
  by_cases hke : k < e
  · have hok := hT.2.1 k hak hke
    obtain ⟨v, hv, hpv⟩ := hC k hke
    obtain ⟨d1, d2⟩ := v_op (opN_le (st k)) hv
    have q3 : nI k < nI e := by rw [nI_ltI (by omega) (by omega)]; exact hke
    have q5 : zin (nI k) 220 = true := zin_n (by omega) (by omega)
    have q6 : (nI k).toNatClampNeg = k := nI_clamp (by omega)
    have q7 : nI k + 1 = nI (k + 1) := nI_1 k
    have q9 := h81 k v hke hv hpv
    have z0 : zin (nI S.length) 220 = true := zin_n (by omega) (by omega)
    have cl0 : (nI S.length).toNatClampNeg = S.length := nI_clamp (by omega)
    have p0 : nI S.length + 1 = nI (S.length + 1) := nI_1 _
    have hbase : nI 0 + nI v = nI v := by rw [nI_add, Nat.zero_add]
    rcases hok with ⟨h1, ht⟩ | ⟨h1, ⟨x, hx, hpx⟩, ht⟩ | ⟨h1, r, ht1, ht2⟩ | ⟨h1, r, w, hpw, hkv, hve, ht1, ht2, ht3⟩ | ⟨h1, x, y, r, ht1, ht2⟩ | ⟨h1, x, y, r, ht1, ht2⟩
    · have hev : ev st pt le e (f0 + 1) k S = ev st pt le e f0 (k + 1) (pt k :: S) := by simp [ev, hke, h1]
      have o : nI (opN (st k)) = 0 := by rw [h1]; decide
      have d3 : nI (opN (st k) * 1048576 + v) - (0 : Int32) * 1048576 = nI v := by rw [← o, ← d1]; exact d2
      rw [hev, f_X12_comesTo_L16]
      simp only [if_pos q3, if_pos q5, q6, q7, q9, d1, d2, lt_eq, o, d3, if_true, f_X12_comesTo_j63, if_pos z0, cl0, p0]
      rw [hpv]
      obtain ⟨σ', g1, g2⟩ := ih (m - 1) (by omega) f f0 (k + 1) (nI v :: S) (zs σ 86 S.length (nI v)) (by omega) (by omega) (by omega) (by omega) (by rw [ht]; exact ⟨fun h => (by cases h), hty⟩) (stk_push hst) (r81 _ _) (r87 _ _)
      exact ⟨σ', g1, (hfr _ _).tr g2⟩
    · have hvx : v = x := (nI_eq (by omega) (by omega)).mp (hpv.symm.trans hpx)
      subst hvx
      have hx2 : zin (nI v) 10 = true := zin_n (by omega) hx
      have hx3 : (nI v).toNatClampNeg = v := nI_clamp (by omega)
      have hev : ev st pt le e (f0 + 1) k S = ev st pt le e f0 (k + 1) (le v :: S) := by simp [ev, hke, h1, hpv, hx3]
      have o : nI (opN (st k)) = 1 := by rw [h1]; decide
      have d3 : nI (opN (st k) * 1048576 + v) - (1 : Int32) * 1048576 = nI v := by rw [← o, ← d1]; exact d2
      have n10 : ¬ (1 : Int32) = 0 := by decide
      rw [hev, f_X12_comesTo_L16]
      simp only [if_pos q3, if_pos q5, q6, q7, q9, d1, d2, lt_eq, o, d3, if_neg n10, if_true, f_X12_comesTo_j63, if_pos z0, cl0, p0, if_pos hx2, hx3, h87 v hx]
      obtain ⟨σ', g1, g2⟩ := ih (m - 1) (by omega) f f0 (k + 1) (le v :: S) (zs σ 86 S.length (le v)) (by omega) (by omega) (by omega) (by omega) (by rw [ht]; exact ⟨fun h => (by cases h), hty⟩) (stk_push hst) (r81 _ _) (r87 _ _)
      exact ⟨σ', g1, (hfr _ _).tr g2⟩
    · rw [ht1] at hty
      obtain ⟨x, S', rfl, hx, hty'⟩ := tyS_cons hty
      simp only [List.length_cons] at hl hl39 ⊢
      have m1 : nI (S'.length + 1) - 1 = nI S'.length := nI_pred _
      have z1 : zin (nI S'.length) 220 = true := zin_n (by omega) (by omega)
      have cl1 : (nI S'.length).toNatClampNeg = S'.length := nI_clamp (by omega)
      have hs1 := hst.1
      have hev : ev st pt le e (f0 + 1) k (x :: S') = ev st pt le e f0 (k + 1) ((1 - x) :: S') := by simp [ev, hke, h1]
      have o : nI (opN (st k)) = 10 := by rw [h1]; decide
      have n0 : ¬ (10 : Int32) = 0 := by decide
      have n1 : ¬ (10 : Int32) = 1 := by decide
      rw [hev, f_X12_comesTo_L16]
      simp only [if_pos q3, if_pos q5, q6, q7, q9, d1, d2, lt_eq, o, if_neg n0, if_neg n1, if_true, m1, if_pos z1, cl1, hs1]
      obtain ⟨σ', g1, g2⟩ := ih (m - 1) (by omega) f f0 (k + 1) ((1 - x) :: S') (zs σ 86 S'.length (1 - x)) (by omega) (by omega) (by omega) (by omega) (by rw [ht2]; exact ⟨fun _ => by rcases hx rfl with rfl | rfl <;> decide, hty'⟩) (stk_push hst.2) (r81 _ _) (r87 _ _)
      exact ⟨σ', g1, (hfr _ _).tr g2⟩
    · have hvw : v = w := (nI_eq (by omega) (by omega)).mp (hpv.symm.trans hpw)
      subst hvw
      rw [ht1] at hty
      obtain ⟨x, S', rfl, hx, hty'⟩ := tyS_cons hty
      simp only [List.length_cons] at hl hl39 ⊢
      have m1 : nI (S'.length + 1) - 1 = nI S'.length := nI_pred _
      have z1 : zin (nI S'.length) 220 = true := zin_n (by omega) (by omega)
      have cl1 : (nI S'.length).toNatClampNeg = S'.length := nI_clamp (by omega)
      have hs1 := hst.1
      have hv3 : (nI v).toNatClampNeg = v := nI_clamp (by omega)
      have go0 := ih (e - v) (by omega) f f0 v (x :: S') σ (by omega) (by omega) (by omega) (by omega) (by rw [ht3]; exact hty) hst h81 h87
      have go1 := ih (m - 1) (by omega) f f0 (k + 1) S' σ (by omega) (by omega) (by omega) (by omega) (by rw [ht2]; exact hty') hst.2 h81 h87
      simp only [List.length_cons] at go0
      have hx01 := hx rfl
      rw [f_X12_comesTo_L16]
      rcases h1 with h1 | h1
      · have o : nI (opN (st k)) = 11 := by rw [h1]; decide
        have d3 : nI (opN (st k) * 1048576 + v) - (11 : Int32) * 1048576 = nI v := by rw [← o, ← d1]; exact d2
        have n0 : ¬ (11 : Int32) = 0 := by decide
        have n1 : ¬ (11 : Int32) = 1 := by decide
        have n2 : ¬ (11 : Int32) = 10 := by decide
        have n3 : ¬ (11 : Int32) = 12 := by decide
        simp only [if_pos q3, if_pos q5, q6, q7, q9, d1, d2, lt_eq, o, d3, if_neg n0, if_neg n1, if_neg n2, if_neg n3, if_true, f_X12_comesTo_j135, f_X12_comesTo_j155, m1, if_pos z1, cl1, hs1, hbase]
        by_cases h0 : x = 0
        · have hev : ev st pt le e (f0 + 1) k (x :: S') = ev st pt le e f0 v (x :: S') := by simp [ev, hke, h1, hpv, h0, hv3]
          rw [hev, if_pos h0]; exact go0
        · have hev : ev st pt le e (f0 + 1) k (x :: S') = ev st pt le e f0 (k + 1) S' := by simp [ev, hke, h1, h0]
          rw [hev, if_neg h0]; exact go1
      · have o : nI (opN (st k)) = 12 := by rw [h1]; decide
        have d3 : nI (opN (st k) * 1048576 + v) - (12 : Int32) * 1048576 = nI v := by rw [← o, ← d1]; exact d2
        have n0 : ¬ (12 : Int32) = 0 := by decide
        have n1 : ¬ (12 : Int32) = 1 := by decide
        have n2 : ¬ (12 : Int32) = 10 := by decide
        have n3 : ¬ (12 : Int32) = 11 := by decide
        simp only [if_pos q3, if_pos q5, q6, q7, q9, d1, d2, lt_eq, o, d3, if_neg n0, if_neg n1, if_neg n2, if_neg n3, if_true, f_X12_comesTo_j135, f_X12_comesTo_j155, m1, if_pos z1, cl1, hs1, hbase]
        rcases hx01 with h0 | h0
        · have hev : ev st pt le e (f0 + 1) k (x :: S') = ev st pt le e f0 (k + 1) S' := by simp [ev, hke, h1, h0]
          rw [hev, if_neg (by rw [h0]; decide)]; exact go1
        · have hne : ¬ x = 0 := by rw [h0]; decide
          have hev : ev st pt le e (f0 + 1) k (x :: S') = ev st pt le e f0 v (x :: S') := by simp [ev, hke, h1, hpv, hne, hv3]
          rw [hev, if_pos h0]; exact go0
    all_goals
      rw [ht1] at hty
      obtain ⟨yv, S1, rfl, -, hty1⟩ := tyS_cons hty
      obtain ⟨xv, S', rfl, -, hty'⟩ := tyS_cons hty1
      simp only [List.length_cons] at hl hl39 ⊢
      have hn : (¬ st k = 1 ∧ ¬ st k = 2 ∧ ¬ st k = 33 ∧ ¬ st k = 38 ∧ ¬ st k = 124) ∧ (¬ nI (opN (st k)) = 0 ∧ ¬ nI (opN (st k)) = 1 ∧ ¬ nI (opN (st k)) = 10 ∧ ¬ nI (opN (st k)) = 11 ∧ ¬ nI (opN (st k)) = 12) ∧ (nI (opN (st k)) = 5 ↔ st k = 47) ∧ (nI (opN (st k)) = 6 ↔ st k = 37) := by
        first
          | (rcases h1 with h | h | h | h | h <;> rw [h] <;> decide)
          | (rcases h1 with h | h | h <;> rw [h] <;> decide)
      obtain ⟨⟨n1, n2, n33, n38, n124⟩, ⟨o0, o1, o10, o11, o12⟩, i47, i37⟩ := hn
      have hac : isAr (st k) ∨ isCm (st k) := by first | exact Or.inl h1 | exact Or.inr h1
      have m1 : nI (S'.length + 1) - 1 = nI S'.length := nI_pred _
      have m2 : nI (S'.length + 1 + 1) - 1 = nI (S'.length + 1) := nI_pred _
      have z1 : zin (nI S'.length) 220 = true := zin_n (by omega) (by omega)
      have z2 : zin (nI (S'.length + 1)) 220 = true := zin_n (by omega) (by omega)
      have cl1 : (nI S'.length).toNatClampNeg = S'.length := nI_clamp (by omega)
      have cl2 : (nI (S'.length + 1)).toNatClampNeg = S'.length + 1 := nI_clamp (by omega)
      have hs1 : zg σ 86 (S'.length + 1) = yv := hst.1
      have hs2 : zg σ 86 S'.length = xv := hst.2.1
      have h203 : ¬ (yv = 0 ∧ (st k = 47 ∨ st k = 37)) → ∀ K : Int32 → Int32 → zM → Option (Int32 × zM), f_X12_comesTo_j203 F K (nI e) (nI 0) (nI (S'.length + 1)) (nI (k + 1)) (nI (opN (st k))) σ = K (nI (S'.length + 1)) (nI (k + 1)) (zs σ 86 S'.length (comb (st k) xv yv)) := by
        intro hz K
        simp only [f_X12_comesTo_j203, m1, if_pos z1, if_pos z2, cl1, cl2, hs1, hs2, e_reckonM σ hac hz, bnd_some, lt_eq]
      rw [f_X12_comesTo_L16]
      simp only [if_pos q3, if_pos q5, q6, q7, q9, d1, d2, lt_eq, if_neg o0, if_neg o1, if_neg o10, if_neg o11, if_neg o12, m2, f_X12_comesTo_j192, if_pos z2, cl2, hs1, i47, i37]
      by_cases hz : yv = 0 ∧ (st k = 47 ∨ st k = 37)
      · have hev : ev st pt le e (f0 + 1) k (yv :: xv :: S') = 0 := by simp [ev, hke, n1, n2, n33, n38, n124, hz]
        rw [hev]
        refine ⟨σ, ?_, Fx.rf⟩
        rw [if_pos hz.1]
        rcases hz.2 with h | h
        · rw [if_pos h]
        · rw [if_neg (by rw [h]; decide), if_pos h]
      · have hev : ev st pt le e (f0 + 1) k (yv :: xv :: S') = ev st pt le e f0 (k + 1) (comb (st k) xv yv :: S') := by simp [ev, hke, n1, n2, n33, n38, n124, hz]
        rw [hev, h203 hz]
        obtain ⟨σ', g1, g2⟩ := ih (m - 1) (by omega) f f0 (k + 1) (comb (st k) xv yv :: S') (zs σ 86 S'.length (comb (st k) xv yv)) (by omega) (by omega) (by omega) (by omega) (by rw [ht2]; first | exact ⟨fun _ => comb_cm h1, hty'⟩ | exact ⟨fun h => (by cases h), hty'⟩) (stk_push hst.2.2) (r81 _ _) (r87 _ _)
        refine ⟨σ', ?_, (hfr _ _).tr g2⟩
        rw [← g1]
        by_cases h0 : yv = 0
        · have h47 : ¬ st k = 47 := fun q => hz ⟨h0, Or.inl q⟩
          have h37 : ¬ st k = 37 := fun q => hz ⟨h0, Or.inr q⟩
          rw [if_neg h47, if_neg h37]; rfl
        · simp only [if_neg h0, ite_self]; rfl
  · have hke' : k = e := by omega
    subst hke'
    rw [hT.1] at hty
    obtain ⟨x, r, rfl, hx, hr⟩ := tyS_cons hty
    have hr0 : r = [] := by
      cases r with
      | nil => rfl
      | cons y t => exact hr.elim
    subst hr0
    have hev : ev st pt le k (f0 + 1) k [x] = x := by simp [ev]
    have w2 : ¬ nI k < nI k := by rw [nI_ltI (by omega) (by omega)]; omega
    rw [hev, f_X12_comesTo_L16, if_neg w2, if_pos (by decide)]
    exact ⟨σ, congrArg (fun z => some (z, σ)) hst.1, Fx.rf⟩
