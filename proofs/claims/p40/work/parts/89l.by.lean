/-! ===== they sit in an order by its number, by the model ===== -/
theorem nI_dv {a b : Nat} (ha : a < 2 ^ 31) (hb : b < 2 ^ 31) : nI a / nI b = nI (a / b) := by
  have h : a / b < 2 ^ 31 := Nat.lt_of_le_of_lt (Nat.div_le_self _ _) ha
  rw [i_eq, Int32.toInt_div, nI_toInt ha, nI_toInt hb, nI_toInt h, ← Int.ofNat_tdiv]
  generalize a / b = q at h
  rw [Int.bmod_eq_of_le (by omega) (by omega)]
theorem e_by16 {F n m p q c : Nat} {W : Int32} {tg fs : Nat → Nat} {α : zM} (hF : 20 ≤ F) (hS : SC n m p q c W tg fs α) (hW16 : ∀ i, n ≤ i → i < 32 → bt W i = false) (hm : fre (nbW W) n = m) : ∀ (d fu g r k : Nat) (u : Nat → Bool) (pm : zPm) (left : Nat) (M : Int32) (τ : zM), g + d = 16 → d < fu → k = fre (nbW W) g → k + r = m → fre u m = r → left < fac r → (∀ j, j < m → bt M j = u j) → (∀ i, i < m → zg τ 98 i = nI (fs i)) → ∃ τ', f_X12_seatsBy_L16 F (fun s14 => some ((), s14)) W (nI m) fu (nI left) (nI (fac r)) M (nI k) (nI g) τ = some ((), τ') ∧ Fx ([71], []) τ τ' ∧ ∀ x, zg τ' 71 x = if g ≤ x ∧ x < 16 ∧ bt W x = true then nI (fs (dcd m r k u pm left (fre (nbW W) x))) else zg τ 71 x := by
  have h7 := hS.2.2.1.1
  have hn := hS.1.1
  intro d
  induction d with
  | zero =>
    intro fu g r k u pm left M τ hg hfu hk hr hu hl hM h98
    obtain ⟨fu, rfl⟩ : ∃ f', fu = f' + 1 := ⟨fu - 1, by omega⟩
    have : g = 16 := by omega
    subst this
    refine ⟨τ, ?_, Fx.rf, fun x => ?_⟩
    · rw [f_X12_seatsBy_L16, if_neg (by decide)]
    · rw [if_neg (by omega)]
  | succ d ih =>
    intro fu g r k u pm left M τ hg hfu hk hr hu hl hM h98
    obtain ⟨fu, rfl⟩ : ∃ f', fu = f' + 1 := ⟨fu - 1, by omega⟩
    have h16 : nI g < (16 : Int32) := (nI_ltI (b := 16) (by omega) (by omega)).mpr (by omega)
    by_cases qb : bt W g = true
    · have hgn : g < n := by
        by_cases q : g < n
        · exact q
        · rw [hW16 g (by omega) (by omega)] at qb; cases qb
      have hf1 : fre (nbW W) (g + 1) = k + 1 := by rw [fre, if_neg (show ¬ nbW W g = true by rw [nbW_t.mpr qb]; simp), hk]
      have hle := fre_mono (nbW W) (n - (g + 1)) (g + 1)
      rw [show g + 1 + (n - (g + 1)) = n by omega, hf1, hm] at hle
      obtain ⟨r, rfl⟩ : ∃ r', r = r' + 1 := ⟨r - 1, by omega⟩
      obtain ⟨w1, w2⟩ := v_fac r (by omega)
      have hfp := fac_pos r
      have hfl : fac r ≤ fac (r + 1) := by rw [fac]; exact Nat.le_mul_of_pos_left _ (by omega)
      have hsk := skip_lt hl
      obtain ⟨n1, n2, n3⟩ := nth_ok (u := u) (m := m) (skip := left / fac r) (by rw [hu]; exact hsk)
      have hdl : ∀ x, k + 1 ≤ x ∨ x = k → dcd m (r + 1) k u pm left x = dcd m r (k + 1) (ad u (nth u m (left / fac r) 0)) (pput pm k (nth u m (left / fac r) 0)) (left % fac r) x := fun x _ => by rw [dcd]
      have hdk : dcd m r (k + 1) (ad u (nth u m (left / fac r) 0)) (pput pm k (nth u m (left / fac r) 0)) (left % fac r) k = nth u m (left / fac r) 0 := by rw [dcd_lo _ _ _ _ _ k (by omega), put_eq]
      generalize hi : nth u m (left / fac r) 0 = i at n1 n2 n3 hdl hdk
      have hfa := fre_ad n2 m
      rw [if_pos n1] at hfa
      have e1 : nI m - nI k = nI (r + 1) := by rw [nI_sb (by omega)]; congr 1; omega
      have e2 : nI left / nI (fac r) = nI (left / fac r) := nI_dv (by omega) (by omega)
      have e3 : nI left - nI (left / fac r) * nI (fac r) = nI (left % fac r) := by
        have hd := Nat.div_add_mod left (fac r)
        have hmm : left / fac r * fac r ≤ left := Nat.div_mul_le_self _ _
        rw [pk_mul, nI_sb hmm]
        congr 1
        rw [Nat.mul_comm] at hd
        omega
      have z1 : ¬ nI (r + 1) = 0 := fun e => by have := (nI_eq (a := r + 1) (b := 0) (by omega) (by omega)).mp e; omega
      have z2 : ¬ nI (fac r) = 0 := fun e => by have := (nI_eq (a := fac r) (b := 0) (by omega) (by omega)).mp e; omega
      have z0 : ¬ ((W >>> (nI g &&& 31)) &&& (1 : Int32)) = 0 := fun w => by rw [(b_ask0 W (by omega)).mp w] at qb; cases qb
      obtain ⟨τ1, hτ1⟩ : ∃ τ1, τ1 = zs τ 71 g (nI (fs i)) := ⟨_, rfl⟩
      have f1 : Fx ([71], []) τ τ1 := by rw [hτ1]; exact Fx.rf.zs rfl
      obtain ⟨τ', a1, a2, a3⟩ := ih fu (g + 1) r (k + 1) (ad u i) (pput pm k i) (left % fac r) (M ||| ((1 : Int32) <<< (nI i &&& 31))) τ1 (by omega) (by omega) hf1.symm (by omega) (by omega) (Nat.mod_lt _ hfp) (fun j hj => by rw [b_with M (by omega) (by omega), hM j hj]; rfl) (fun j hj => (f1 98 j rfl).trans (h98 j hj))
      refine ⟨τ', ?_, f1.tr a2, fun x => ?_⟩
      · rw [f_X12_seatsBy_L16, if_pos h16, if_neg z0, e1, if_neg z1, w1, lt_eq, if_neg z2, e2, lt_eq, if_neg z2, e3, lt_eq, show (0 : Int32) = nI 0 from rfl, e_by61 h7 n1 n2 hM i F 0 (left / fac r) (by omega) (by omega) (by rw [n3, fre]; omega), lt_eq, if_pos (zin_n (by omega) (by omega)), if_pos (zin_n (by omega) (by omega)), nI_clamp (by omega), nI_clamp (by omega), h98 i n1, lt_eq, ← hτ1, lt_eq, lt_eq, nI_1, nI_1]
        exact a1
      · rw [a3 x]
        by_cases qx : x = g
        · subst qx
          rw [if_neg (by omega), if_pos ⟨by omega, by omega, qb⟩, hτ1, zg_eq, ← hk, hdl k (Or.inr rfl), hdk]
        · by_cases qq : g + 1 ≤ x ∧ x < 16 ∧ bt W x = true
          · have hmo := fre_mono (nbW W) (x - (g + 1)) (g + 1)
            rw [show g + 1 + (x - (g + 1)) = x by omega, hf1] at hmo
            rw [if_pos qq, if_pos ⟨by omega, qq.2⟩, hdl _ (Or.inl hmo)]
          · rw [if_neg qq, if_neg (fun w => qq ⟨by have := w.1; omega, w.2⟩), hτ1, zg_nj qx]
    · have hf0 : fre (nbW W) (g + 1) = k := by rw [fre, if_pos (show nbW W g = true by unfold nbW; simp [qb]), hk]; rfl
      obtain ⟨τ', a1, a2, a3⟩ := ih fu (g + 1) r k u pm left M τ (by omega) (by omega) hf0.symm hr hu hl hM h98
      refine ⟨τ', ?_, a2, fun x => ?_⟩
      · rw [f_X12_seatsBy_L16, if_pos h16, if_pos ((b_ask0 W (by omega)).mpr (by simpa using qb)), lt_eq, nI_1]
        exact a1
      · rw [a3 x]
        by_cases qx : x = g
        · subst qx
          rw [if_neg (by omega), if_neg (fun w => qb w.2.2)]
        · by_cases qq : g + 1 ≤ x ∧ x < 16 ∧ bt W x = true
          · rw [if_pos qq, if_pos ⟨by omega, qq.2⟩]
          · rw [if_neg qq, if_neg (fun w => qq ⟨by have := w.1; omega, w.2⟩)]
/-! the loops around it -/
theorem e_s95 {F : Nat} {W N v3 : Int32} {K : zM → Option (Int32 × zM)} : ∀ (d fu g : Nat) (τ : zM), g + d = 16 → d < fu → ∃ τ', f_X12_seating_L95 F K W N v3 fu (nI g) τ = K τ' ∧ Fx ([99], []) τ τ' ∧ (∀ x, g ≤ x → x < 16 → zg τ' 99 x = zg τ 71 x) ∧ ∀ x, x < g → zg τ' 99 x = zg τ 99 x := by
  intro d
  induction d with
  | zero =>
    intro fu g τ hg hfu
    obtain ⟨fu, rfl⟩ : ∃ f', fu = f' + 1 := ⟨fu - 1, by omega⟩
    have : g = 16 := by omega
    subst this
    exact ⟨τ, by rw [f_X12_seating_L95, if_neg (by decide)], Fx.rf, fun x h1 h2 => by omega, fun x _ => rfl⟩
  | succ d ih =>
    intro fu g τ hg hfu
    obtain ⟨fu, rfl⟩ : ∃ f', fu = f' + 1 := ⟨fu - 1, by omega⟩
    obtain ⟨τ', a1, a2, a3, a4⟩ := ih fu (g + 1) (zs τ 99 g (zg τ 71 g)) (by omega) (by omega)
    refine ⟨τ', ?_, (Fx.rf.zs rfl).tr a2, fun x h1 h2 => ?_, fun x hx => ?_⟩
    · rw [f_X12_seating_L95, if_pos (show nI g < (16 : Int32) from (nI_ltI (b := 16) (by omega) (by omega)).mpr (by omega)), if_pos (zin_n (by omega) (by omega)), if_pos (zin_n (by omega) (by omega)), nI_clamp (by omega), lt_eq, lt_eq, nI_1]
      exact a1
    · by_cases q : x = g
      · rw [q, a4 g (by omega), zg_eq]
      · rw [a3 x (by omega) h2, zg_ne (by decide)]
    · rw [a4 x (by omega), zg_nj (by omega)]
theorem e_s241 {F : Nat} {v3 : Int32} (h3 : ¬ v3 = 16) : ∀ (d fu g : Nat) (τ : zM), g + d = 16 → d < fu → ∃ τ', (∀ (K : zM → Option (Int32 × zM)) (y : Int32), f_X12_seating_L241 F K v3 y fu (nI g) τ = K τ') ∧ Fx ([71], []) τ τ' ∧ (∀ x, g ≤ x → x < 16 → zg τ' 71 x = zg τ 99 x) ∧ ∀ x, (x < g ∨ 16 ≤ x) → zg τ' 71 x = zg τ 71 x := by
  intro d
  induction d with
  | zero =>
    intro fu g τ hg hfu
    obtain ⟨fu, rfl⟩ : ∃ f', fu = f' + 1 := ⟨fu - 1, by omega⟩
    have : g = 16 := by omega
    subst this
    exact ⟨τ, fun K y => by rw [f_X12_seating_L241, if_neg (by decide)], Fx.rf, fun x h1 h2 => by omega, fun x _ => rfl⟩
  | succ d ih =>
    intro fu g τ hg hfu
    obtain ⟨fu, rfl⟩ : ∃ f', fu = f' + 1 := ⟨fu - 1, by omega⟩
    obtain ⟨τ', a1, a2, a3, a4⟩ := ih fu (g + 1) (zs τ 71 g (zg τ 99 g)) (by omega) (by omega)
    refine ⟨τ', fun K y => ?_, (Fx.rf.zs rfl).tr a2, fun x h1 h2 => ?_, fun x hx => ?_⟩
    · rw [f_X12_seating_L241, if_pos (show nI g < (16 : Int32) from (nI_ltI (b := 16) (by omega) (by omega)).mpr (by omega)), if_neg h3, if_pos (zin_n (by omega) (by omega)), if_pos (zin_n (by omega) (by omega)), nI_clamp (by omega), lt_eq, lt_eq, nI_1]
      exact a1 K y
    · by_cases q : x = g
      · rw [q, a4 g (Or.inl (by omega)), zg_eq]
      · rw [a3 x (by omega) h2, zg_ne (by decide)]
    · rw [a4 x (by omega), zg_nj (by omega)]
theorem e_s128 {F m : Nat} {W v3 : Int32} {K : Int32 → zM → Option (Int32 × zM)} {τ : zM} (h1 : 1 ≤ m) (h7 : m ≤ 7) : ∀ (d fu k : Nat), k + d = m + 1 → 1 ≤ k → d < fu → f_X12_seating_L128 F K W (nI m) v3 fu (nI (fac (k - 1))) (nI k) τ = K (nI (fac m)) τ := by
  intro d
  induction d with
  | zero =>
    intro fu k hk hk1 hfu
    obtain ⟨fu, rfl⟩ : ∃ f', fu = f' + 1 := ⟨fu - 1, by omega⟩
    rw [f_X12_seating_L128, if_pos (show nI m < nI k from (nI_ltI (by omega) (by omega)).mpr (by omega)), show k - 1 = m by omega]
  | succ d ih =>
    intro fu k hk hk1 hfu
    obtain ⟨fu, rfl⟩ : ∃ f', fu = f' + 1 := ⟨fu - 1, by omega⟩
    have e : fac (k - 1) * k = fac (k + 1 - 1) := by
      obtain ⟨j, rfl⟩ : ∃ j, k = j + 1 := ⟨k - 1, by omega⟩
      show fac j * (j + 1) = fac (j + 1)
      rw [fac, Nat.mul_comm]
    rw [f_X12_seating_L128, if_neg (show ¬ nI m < nI k from fun w => by have := (nI_ltI (by omega) (by omega)).mp w; omega), lt_eq, lt_eq, pk_mul, e, nI_1]
    exact ih fu (k + 1) (by omega) (by omega) (by omega)
