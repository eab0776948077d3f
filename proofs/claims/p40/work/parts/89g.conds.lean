/-! ===== may they be told so ===== -/
def Cnd (n : Nat) (W v2 : Int32) (m : Nat) : Prop := 1 ≤ m ∧ m ≤ 7 ∧ v2 = nI m ∧ ∃ w, W = nI w ∧ w < 2 ^ n ∧ fre (nbW W) 16 = m
theorem bit_lt {n : Nat} (hn : n ≤ 16) (W : Int32) : (W.toUInt32 >>> ((nI n).toUInt32 &&& Int32.toUInt32 31)).toInt32 = 0 ↔ ∃ w, W = nI w ∧ w < 2 ^ n := by
  constructor
  · intro h
    refine ⟨W.toBitVec.toNat, ?_, Nat.lt_pow_two_of_testBit _ (fun i hi => ?_)⟩
    · unfold nI
      apply Int32.toBitVec_inj.mp
      rw [Int32.toBitVec_ofNat']; simp
    · by_cases q : i < 32
      · have := congrArg (fun x => bt x (i - n)) h
        change bt _ (i - n) = bt 0 (i - n) at this
        rw [b_ushr n (by omega), b_0, show n + (i - n) = i by omega] at this
        exact this
      · exact Nat.testBit_lt_two_pow (Nat.lt_of_lt_of_le W.toBitVec.isLt (Nat.pow_le_pow_right (by omega) (by omega)))
  · rintro ⟨w, rfl, hw⟩
    have : 2 ^ n ≤ 2 ^ 16 := Nat.pow_le_pow_right (by omega) hn
    rw [nI_ushr (by omega) (by omega), Nat.shiftRight_eq_div_pow, Nat.div_eq_of_lt hw]; rfl
theorem w_lt {n w : Nat} (hn : n ≤ 16) (hw : w < 2 ^ n) : w < 65536 := by
  have : 2 ^ n ≤ 2 ^ 16 := Nat.pow_le_pow_right (by omega) hn
  omega
theorem canT_yes {n m : Nat} {W v2 : Int32} {s : zM} (hn : n ≤ 16) (h3 : zg s 3 8 = nI n) (h : Cnd n W v2 m) : f_X6_canTell W v2 s = some (1, s) := by
  obtain ⟨h1, h7, rfl, w, rfl, hw, hm⟩ := h
  unfold f_X6_canTell
  rw [if_neg (show ¬ nI m < (1 : Int32) from fun q => by have := (nI_ltI (b := 1) (by omega) (by omega)).mp q; omega), if_neg (show ¬ (7 : Int32) < nI m from fun q => by have := (nI_ltI (a := 7) (by omega) (by omega)).mp q; omega), e_bitCount (w_lt hn hw), bnd_some, ← fre_c8, hm, if_pos rfl, f_X0_number, bnd_some, h3, if_pos ((bit_lt hn _).mpr ⟨w, rfl, hw⟩)]
theorem canT_no {n : Nat} {W v2 : Int32} {s : zM} (hn : n ≤ 16) (h3 : zg s 3 8 = nI n) (h : ∀ m, ¬ Cnd n W v2 m) : f_X6_canTell W v2 s = some (0, s) := by
  unfold f_X6_canTell
  by_cases q1 : v2 < (1 : Int32)
  · rw [if_pos q1]
  · rw [if_neg q1]
    by_cases q2 : (7 : Int32) < v2
    · rw [if_pos q2]
    · rw [if_neg q2]
      have hr : ∃ r, f_J6_bitCount_0f7a4 W s = some (r, s) := by
        unfold f_J6_bitCount_0f7a4
        rw [lt_eq, lt_eq, lt_eq, lt_eq, lt_eq]
        exact ⟨_, rfl⟩
      obtain ⟨r, hr⟩ := hr
      rw [hr, bnd_some]
      by_cases q3 : r = v2
      · rw [if_pos q3, f_X0_number, bnd_some, h3]
        by_cases q4 : (W.toUInt32 >>> ((nI n).toUInt32 &&& Int32.toUInt32 31)).toInt32 = 0
        · exfalso
          obtain ⟨w, rfl, hw⟩ := (bit_lt hn W).mp q4
          rw [e_bitCount (w_lt hn hw), ← fre_c8] at hr
          have e : nI (fre (nbW (nI w)) 16) = v2 := by rw [← q3]; injection hr with h; injection h
          have b16 : fre (nbW (nI w)) 16 ≤ 16 := by rw [fre_c8]; unfold c8; omega
          rw [← e] at q1 q2
          refine h (fre (nbW (nI w)) 16) ⟨?_, ?_, e.symm, w, rfl, hw, rfl⟩
          · have := mt (nI_ltI (b := 1) (by omega) (by omega)).mpr q1; omega
          · have := mt (nI_ltI (a := 7) (by omega) (by omega)).mpr q2; omega
        · rw [if_neg q4]
      · rw [if_neg q3]
/-! by the model -/
theorem e_bits {F : Nat} (hF : 20 ≤ F) (W : Int32) (σ : zM) : f_X12_bits F W σ = some (nI (fre (nbW W) 16), σ) := by
  have key : ∀ (d fu i : Nat), i + d = 16 → d < fu → f_X12_bits_L4 F (fun y4 s3 => some (y4, s3)) W fu (nI (fre (nbW W) i)) (nI i) σ = some (nI (fre (nbW W) 16), σ) := by
    intro d
    induction d with
    | zero =>
      intro fu i hi hfu
      obtain ⟨fu, rfl⟩ : ∃ f', fu = f' + 1 := ⟨fu - 1, by omega⟩
      have : i = 16 := by omega
      subst this
      rw [f_X12_bits_L4, if_neg (by decide)]
    | succ d ih =>
      intro fu i hi hfu
      obtain ⟨fu, rfl⟩ : ∃ f', fu = f' + 1 := ⟨fu - 1, by omega⟩
      rw [f_X12_bits_L4, if_pos (show nI i < (16 : Int32) from (nI_ltI (b := 16) (by omega) (by omega)).mpr (by omega)), lt_eq, lt_eq, nI_1, b_ask W (by omega)]
      have e : nI (fre (nbW W) i) + (if bt W i = true then (1 : Int32) else 0) = nI (fre (nbW W) (i + 1)) := by
        rw [fre]
        unfold nbW
        cases bt W i <;> simp [nI_1]
      rw [e]
      exact ih fu (i + 1) (by omega) (by omega)
  exact key 16 F 0 (by omega) (by omega)
theorem v_pw : ∀ n, n < 17 → (((1 : Int32) <<< ((nI n) &&& 31)) - (1 : Int32)).toInt = (((2 ^ n - 1 : Nat)) : Int) := by decide +kernel
theorem seatM_no {F n : Nat} {W v2 v3 : Int32} {s : zM} (hF : 20 ≤ F) (hn : n ≤ 16) (h69 : zg s 69 0 = nI n) (h : ∀ m, ¬ Cnd n W v2 m) : f_X12_seating F W v2 v3 s = some (-1000000, s) := by
  unfold f_X12_seating
  rw [h69, e_in, bnd_some, v_pw n (by omega), show ((1 : Int32)).toInt = 1 from rfl]
  by_cases q1 : (1 : Int) ≤ W.toInt ∧ W.toInt ≤ ((2 ^ n - 1 : Nat) : Int)
  · rw [if_pos q1, if_neg b1n, e_in, bnd_some, show ((1 : Int32)).toInt = 1 from rfl, show ((7 : Int32)).toInt = 7 from rfl]
    by_cases q2 : (1 : Int) ≤ v2.toInt ∧ v2.toInt ≤ 7
    · rw [if_pos q2, if_neg b1n, e_bits hF, bnd_some, if_neg ?_]
      intro e
      have hp : 2 ^ n ≤ 2 ^ 16 := Nat.pow_le_pow_right (by omega) hn
      have hp0 : 0 < 2 ^ n := Nat.pow_pos (by omega)
      obtain ⟨w, hw, rfl, -⟩ := nI_of' (v := W) (n := 2 ^ n) ⟨by omega, by omega⟩ (by omega)
      have b16 : fre (nbW (nI w)) 16 ≤ 16 := by rw [fre_c8]; unfold c8; omega
      rw [← e, nI_toInt (show fre (nbW (nI w)) 16 < 2 ^ 31 by omega)] at q2
      exact h _ ⟨by omega, by omega, e.symm, w, rfl, hw, rfl⟩
    · rw [if_neg q2, if_pos rfl]
  · rw [if_neg q1, if_pos rfl]
/-- what is asked: the sum, who moves, or where one sits -/
def Asks (n : Nat) (W v3 : Int32) : Prop := v3 = -1 ∨ v3 = 16 ∨ ∃ g, g < n ∧ v3 = nI g ∧ bt W g = true
theorem seatM_yes {F n m t : Nat} {W v3 : Int32} {s : zM} (hF : 20 ≤ F) (hn : n ≤ 16) (h69 : zg s 69 0 = nI n) (h7 : zg s 69 7 = nI t) (ht : t ≤ 220) (h : Cnd n W (nI m) m) : (m ≤ t ∧ Asks n W v3 → f_X12_seating F W (nI m) v3 s = f_X12_seating_j74 F W (nI m) v3 s) ∧ (¬ (m ≤ t ∧ Asks n W v3) → f_X12_seating F W (nI m) v3 s = some (-1000000, s)) := by
  obtain ⟨h1, hm7, -, w, rfl, hw, hm⟩ := h
  have hp : 2 ^ n ≤ 2 ^ 16 := Nat.pow_le_pow_right (by omega) hn
  have hw1 : 1 ≤ w := by
    by_cases q : w = 0
    · subst q; rw [fre_c8] at hm; simp [c8] at hm; omega
    · omega
  have hb : f_X12_seating F (nI w) (nI m) v3 s = if nI t < nI m then some ((-1000000 : Int32), s) else bnd (f_X12_in v3 (-1 : Int32) (16 : Int32) s) (fun r8 s7 =>
          if r8 = 0 then
            some ((-1000000 : Int32), s7)
          else
            bnd (f_X12_in v3 (0 : Int32) (15 : Int32) s7) (fun r10 s9 =>
            if r10 = 0 then
              f_X12_seating_j74 F (nI w) (nI m) v3 s9
            else
              if (((nI w) >>> (v3 &&& 31)) &&& (1 : Int32)) = 0 then
                some ((-1000000 : Int32), s9)
              else
                f_X12_seating_j74 F (nI w) (nI m) v3 s9)) := by
    rw [f_X12_seating, h69, e_in, bnd_some, v_pw n (by omega), show ((1 : Int32)).toInt = 1 from rfl, nI_toInt (show w < 2 ^ 31 by omega), if_pos (show (1 : Int) ≤ (w : Int) ∧ (w : Int) ≤ ((2 ^ n - 1 : Nat) : Int) by omega), if_neg b1n, e_in, bnd_some, show ((1 : Int32)).toInt = 1 from rfl, show ((7 : Int32)).toInt = 7 from rfl, nI_toInt (show m < 2 ^ 31 by omega), if_pos (show (1 : Int) ≤ (m : Int) ∧ (m : Int) ≤ 7 by omega), if_neg b1n, e_bits hF, bnd_some, hm, if_pos rfl, h7]
  rw [hb]
  by_cases qt : m ≤ t
  · rw [if_neg (show ¬ nI t < nI m from fun q => by have := (nI_ltI (by omega) (by omega)).mp q; omega), e_in, bnd_some, show ((-1 : Int32)).toInt = -1 from rfl, show ((16 : Int32)).toInt = 16 from rfl]
    by_cases q1 : (-1 : Int) ≤ v3.toInt ∧ v3.toInt ≤ 16
    · rw [if_pos q1, if_neg b1n, e_in, bnd_some, show ((0 : Int32)).toInt = 0 from rfl, show ((15 : Int32)).toInt = 15 from rfl]
      by_cases q2 : (0 : Int) ≤ v3.toInt ∧ v3.toInt ≤ 15
      · obtain ⟨g, hg, rfl, -⟩ := nI_of' (v := v3) (n := 16) ⟨by omega, by omega⟩ (by omega)
        rw [if_pos q2, if_neg b1n]
        have hiff : Asks n (nI w) (nI g) ↔ bt (nI w) g = true := by
          constructor
          · rintro (q | q | ⟨g', hg', e, hb⟩)
            · exact absurd q (nI_m1 (by omega))
            · have := (nI_eq (b := 16) (by omega) (by omega)).mp q; omega
            · rw [(nI_eq (by omega) (by omega)).mp e]; exact hb
          · intro hb
            refine Or.inr (Or.inr ⟨g, ?_, rfl, hb⟩)
            by_cases q : g < n
            · exact q
            · rw [bt_nI (by omega), Nat.testBit_lt_two_pow (Nat.lt_of_lt_of_le hw (Nat.pow_le_pow_right (by omega) (by omega)))] at hb; cases hb
        by_cases qb : bt (nI w) g = true
        · refine ⟨fun _ => ?_, fun c => absurd ⟨qt, hiff.mpr qb⟩ c⟩
          rw [if_neg (fun w' => by rw [(b_ask0 _ (by omega)).mp w'] at qb; cases qb)]
        · refine ⟨fun c => absurd (hiff.mp c.2) qb, fun _ => ?_⟩
          rw [if_pos ((b_ask0 _ (by omega)).mpr (by simpa using qb))]
      · rw [if_neg q2, if_pos rfl]
        refine ⟨fun _ => rfl, fun c => absurd ⟨qt, ?_⟩ c⟩
        by_cases q : v3.toInt = -1
        · exact Or.inl ((i_eq _ _).mpr q)
        · exact Or.inr (Or.inl ((i_eq _ _).mpr (show v3.toInt = 16 by omega)))
    · rw [if_neg q1, if_pos rfl]
      refine ⟨fun c => absurd c.2 ?_, fun _ => rfl⟩
      rintro (q | q | ⟨g, hg, q, -⟩)
      · subst q; exact q1 (by decide)
      · subst q; exact q1 (by decide)
      · subst q; rw [nI_toInt (show g < 2 ^ 31 by omega)] at q1; omega
  · rw [if_pos (show nI t < nI m from (nI_ltI (by omega) (by omega)).mpr (by omega))]
    exact ⟨fun c => absurd c.1 qt, fun _ => rfl⟩
theorem seatC {F D n m t : Nat} {W v2 v3 : Int32} {s : zM} (hn : n ≤ 16) (h3 : zg s 3 8 = nI n) (h1 : zg s 1 1 = nI t) (ht : t ≤ 220) (h : Cnd n W v2 m) : (m ≤ t ∧ Asks n W v3 → f_X11_seating F D W v2 v3 s = f_X11_seating_j52 F D W v3 s) ∧ (¬ (m ≤ t ∧ Asks n W v3) → f_X11_seating F D W v2 v3 s = some (-1000000, s)) := by
  have hc := canT_yes hn h3 h
  obtain ⟨c1, c7, rfl, -⟩ := h
  unfold f_X11_seating
  rw [hc, bnd_some, if_neg b1n, f_X10_length, bnd_some, h1]
  by_cases qt : m ≤ t
  · rw [if_neg (show ¬ nI t < nI m from fun q => by have := (nI_ltI (by omega) (by omega)).mp q; omega)]
    by_cases q1 : v3 = -1
    · rw [if_pos q1]; exact ⟨fun _ => rfl, fun c => absurd ⟨qt, Or.inl q1⟩ c⟩
    · rw [if_neg q1]
      by_cases q2 : v3 = 16
      · rw [if_pos q2]; exact ⟨fun _ => rfl, fun c => absurd ⟨qt, Or.inr (Or.inl q2)⟩ c⟩
      · rw [if_neg q2]
        by_cases q3 : gd n v3
        · obtain ⟨g, hg, rfl, -⟩ := nI_of' q3 (by omega)
          rw [e_isTold_n hn h3 hg, bnd_some]
          by_cases qb : bt W g = true
          · rw [if_pos qb, if_neg b1n]; exact ⟨fun _ => rfl, fun c => absurd ⟨qt, Or.inr (Or.inr ⟨g, hg, rfl, qb⟩)⟩ c⟩
          · rw [if_neg qb, if_pos rfl]
            refine ⟨fun c => absurd c.2 ?_, fun _ => rfl⟩
            rintro (q | q | ⟨g', hg', e, hb⟩)
            · exact q1 q
            · exact q2 q
            · rw [(nI_eq (by omega) (by omega)).mp e] at qb; exact qb hb
        · have ht : f_X6_isTold W v3 s = some (0, s) := by
            unfold f_X6_isTold
            rw [zz_a v3 s n hn h3, bnd_some, if_neg q3, if_pos rfl]
          rw [ht, bnd_some, if_pos rfl]
          refine ⟨fun c => absurd c.2 ?_, fun _ => rfl⟩
          rintro (q | q | ⟨g', hg', e, hb⟩)
          · exact q1 q
          · exact q2 q
          · subst e; exact q3 ⟨by rw [nI_toInt (show g' < 2 ^ 31 by omega)]; omega, by rw [nI_toInt (show g' < 2 ^ 31 by omega)]; omega⟩
  · rw [if_pos (show nI t < nI m from (nI_ltI (by omega) (by omega)).mpr (by omega))]
    exact ⟨fun c => absurd c.1 qt, fun _ => rfl⟩
