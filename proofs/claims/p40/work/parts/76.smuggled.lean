/-! ===== smuggled ===== -/
abbrev mFd : zMk := ([13, 23, 32, 43, 44], [(42, 4), (42, 6)])
theorem e_findB {F D n p q c a b : Nat} {σ : zM} (hF : 300 ≤ F) (hD : 6 < D) (hG : IG n σ) (hW : IW p q c σ) (ha : a < n) (hb : b < n) (h6a : ¬ zg σ 6 a = -1) (hab : ¬ a = b) : ∃ τ' B, f_X9_find F D (nI a) (nI b) σ = some (if B.1 = 0 then 0 else 1, τ') ∧ Fx mFd σ τ' ∧ sB σ p c B τ' ∧ OKB σ n a b B ∧ ∀ m f, Val σ n a b m f → nb σ p c (m, f) B := by
  have hn := hG.1
  unfold f_X9_find
  rw [lt_eq, lt_eq, lt_eq, if_pos (by decide), lt_eq, cl_0]
  have hx : Fx mD0 σ (zs (zsl (zs (zs σ 42 6 (nI b)) 42 4 (-1 : Int32)) 0 (-1 : Int64)) 43 0 (nI a)) := Fx.zs (Fx.zsl ((Fx.rf.zs rfl).zs rfl)) rfl
  have hod : (1000000000000000000 : Int64) = lN (OD σ p c 0 (fun _ => a)) := by
    unfold OD odf
    rw [show 1 * 1000 ^ (6 - 0) = 1000000000000000000 by decide]; rfl
  obtain ⟨τ', B, a1, a2, a3, a4, a5, a6, a7, a8⟩ := goC (F := F) (p := p) (q := q) (c := c) (a := a) (b := b) hF hG hW hb 6 0 D (fun _ => a) ((1 : Int32) <<< (nI a &&& 31)) (0, fun _ => 0) (zs (zsl (zs (zs σ 42 6 (nI b)) 42 4 (-1 : Int32)) 0 (-1 : Int64)) 43 0 (nI a)) (by omega) hD hx (by rw [zg_ne (by decide), zg_sl, zg_nj (by decide), zg_eq]) (fun z => absurd rfl z) ⟨fun _ => ⟨by rw [zg_ne (by decide), zg_sl, zg_eq], by rw [zgl_s, zgl_eq]⟩, fun z => absurd rfl z⟩ ⟨rfl, fun _ _ => ⟨ha, h6a⟩, fun i hi => by omega, fun i j hi hj => by omega, fun i hi => by omega⟩ (fun i hi => by rw [show i = 0 by omega, zg_eq]) (by
    intro x hx16
    rw [b_one (show x < 32 by omega) (show a < 32 by omega), decide_eq_true_eq]
    exact ⟨fun q => ⟨0, Nat.le_refl 0, q.symm⟩, fun ⟨_, _, q⟩ => q.symm⟩) (fun z => absurd rfl z) (fun q => absurd q hab)
  refine ⟨τ', B, ?_, (hx.sub rfl).tr (a2.sub rfl), a4, a5, fun m f hv => a7 m f hv ⟨by omega, fun i hi => by rw [show i = 0 by omega]; exact hv.2.2.1.1⟩⟩
  rw [hod, show (0 : Int32) = nI 0 from rfl, a1, bnd_some]
  by_cases z : B.1 = 0
  · rw [if_pos (a4.1 z).1, if_pos z]
  · have v := a5 z
    have v6 := v.2.1
    rw [(a4.2 z).1, if_neg (nI_m1 (by omega)), if_neg z]
theorem gcd_0 {y : Nat} (hy : y < 2 ^ 63) : (lN y = 0 ↔ y = 0) ∧ (((0 : Int64) < lN y) ↔ 0 < y) := ⟨pk_lEQ (b := 0) hy (by omega), pk_lLT (a := 0) (by omega) hy⟩
theorem gcd_s {F fu x y k : Nat} {K : Int64 → zM → Option (Int64 × zM)} {σ : zM} (hx : x < 2 ^ 63) (hy : y < 2 ^ 63) (hk : k < 200) : f_X9_divisor_L12 F K (fu + 1) (lN x) (lN y) (nI k) σ = if y = 0 then K (lN x) σ else f_X9_divisor_L12 F K fu (lN y) (lN (x % y)) (nI (k + 1)) σ := by
  obtain ⟨g1, g2⟩ := gcd_0 hy
  rw [f_X9_divisor_L12, if_pos (show nI k < (200 : Int32) by rw [show (200 : Int32) = nI 200 from rfl, nI_ltI (by omega) (by omega)]; exact hk)]
  simp only [lg_p]
  by_cases h : y = 0
  · rw [if_neg (fun q => by have := g2.mp q; omega), if_pos h]
  · rw [if_pos (g2.mpr (by omega)), if_neg (fun q => h (g1.mp q)), lt_eq, lt_eq, pk_lRem hx (by omega) hy, nI_1, if_neg h]
theorem gcd_m {F fu x y : Nat} {K : Int64 → zM → Option (Int64 × zM)} {σ : zM} (hx : x < 2 ^ 63) (hy : y < 2 ^ 63) : f_X12_gcd_L6 F K (fu + 1) (lN x) (lN y) σ = if y = 0 then K (lN x) σ else f_X12_gcd_L6 F K fu (lN y) (lN (x % y)) σ := by
  obtain ⟨g1, g2⟩ := gcd_0 hy
  rw [f_X12_gcd_L6]
  simp only [lg_0]
  by_cases h : y = 0
  · rw [if_pos (g1.mpr h), if_pos h]
  · rw [if_neg (fun q => h (g1.mp q)), if_neg (fun q => h (g1.mp q)), lt_eq, pk_lRem hx (by omega) hy, if_neg h]
theorem mod_half {y r : Nat} (h0 : 0 < r) (h : r < y) : 2 * (y % r) < y := by
  have h1 := Nat.mod_lt y h0
  have h2 := Nat.div_add_mod y r
  have h3 : 1 ≤ y / r := Nat.div_pos (by omega) h0
  have h4 : r * 1 ≤ r * (y / r) := Nat.mul_le_mul_left r h3
  omega
theorem gcd_a {F : Nat} {K : Int64 → zM → Option (Int64 × zM)} {σ : zM} : ∀ (j fu x y k : Nat), x < 2 ^ 63 → y < 2 ^ 63 → y < 2 ^ j → k + 2 * j + 1 ≤ 200 → 2 * j + 1 < fu → f_X9_divisor_L12 F K fu (lN x) (lN y) (nI k) σ = K (lN (Nat.gcd x y)) σ := by
  intro j
  induction j with
  | zero =>
    intro fu x y k hx hy hj hk hfu
    obtain ⟨fu, rfl⟩ : ∃ f', fu = f' + 1 := ⟨fu - 1, by omega⟩
    have : y = 0 := by omega
    subst this
    rw [gcd_s hx hy (by omega), if_pos rfl, Nat.gcd_zero_right]
  | succ j ih =>
    intro fu x y k hx hy hj hk hfu
    obtain ⟨fu, rfl⟩ : ∃ f', fu = f' + 1 + 1 := ⟨fu - 2, by omega⟩
    rw [gcd_s hx hy (by omega)]
    by_cases h : y = 0
    · rw [if_pos h, h, Nat.gcd_zero_right]
    · have hr := Nat.mod_lt x (show 0 < y by omega)
      rw [if_neg h, gcd_s hy (by omega) (by omega)]
      have e1 : Nat.gcd x y = Nat.gcd y (x % y) := by rw [Nat.gcd_comm, Nat.gcd_rec, Nat.gcd_comm]
      by_cases h2 : x % y = 0
      · rw [if_pos h2, e1, h2, Nat.gcd_zero_right]
      · have hh := mod_half (show 0 < x % y by omega) hr
        rw [if_neg h2, ih fu _ _ _ (by omega) (by omega) (by rw [Nat.pow_succ] at hj; omega) (by omega) (by omega), e1, Nat.gcd_comm y, Nat.gcd_rec (x % y) y, Nat.gcd_comm]
theorem gcd_b {F : Nat} {K : Int64 → zM → Option (Int64 × zM)} {σ : zM} : ∀ (j fu x y : Nat), x < 2 ^ 63 → y < 2 ^ 63 → y < 2 ^ j → 2 * j + 1 < fu → f_X12_gcd_L6 F K fu (lN x) (lN y) σ = K (lN (Nat.gcd x y)) σ := by
  intro j
  induction j with
  | zero =>
    intro fu x y hx hy hj hfu
    obtain ⟨fu, rfl⟩ : ∃ f', fu = f' + 1 := ⟨fu - 1, by omega⟩
    have : y = 0 := by omega
    subst this
    rw [gcd_m hx hy, if_pos rfl, Nat.gcd_zero_right]
  | succ j ih =>
    intro fu x y hx hy hj hfu
    obtain ⟨fu, rfl⟩ : ∃ f', fu = f' + 1 + 1 := ⟨fu - 2, by omega⟩
    rw [gcd_m hx hy]
    by_cases h : y = 0
    · rw [if_pos h, h, Nat.gcd_zero_right]
    · have hr := Nat.mod_lt x (show 0 < y by omega)
      rw [if_neg h, gcd_m hy (by omega)]
      have e1 : Nat.gcd x y = Nat.gcd y (x % y) := by rw [Nat.gcd_comm, Nat.gcd_rec, Nat.gcd_comm]
      by_cases h2 : x % y = 0
      · rw [if_pos h2, e1, h2, Nat.gcd_zero_right]
      · have hh := mod_half (show 0 < x % y by omega) hr
        rw [if_neg h2, ih fu _ _ (by omega) (by omega) (by rw [Nat.pow_succ] at hj; omega) (by omega), e1, Nat.gcd_comm y, Nat.gcd_rec (x % y) y, Nat.gcd_comm]
def gSR (o : Nat) : Nat := Nat.gcd 1000000000000000000 o
theorem gSR_b (o : Nat) : 0 < gSR o ∧ gSR o ≤ 1000000000000000000 := ⟨Nat.gcd_pos_of_pos_left _ (by omega), Nat.gcd_le_left _ (by omega)⟩
theorem e_divisor {F o : Nat} {σ : zM} (hF : 300 ≤ F) (ho : o ≤ 1000000000000000000) (h : zgl σ 0 = lN o) : f_X9_divisor F σ = some (lN (gSR o), σ) := by
  unfold f_X9_divisor
  rw [lt_eq, h, show (1000000000000000000 : Int64) = lN 1000000000000000000 from rfl, show (0 : Int32) = nI 0 from rfl, gcd_a 60 F _ _ 0 (by omega) (by omega) (by omega) (by omega) (by omega)]
  obtain ⟨g1, g2⟩ := gSR_b o
  have hlt : ¬ lN (gSR o) < (1 : Int64) := fun q => by have := (pk_lLT (b := 1) (by omega) (by omega)).mp q; omega
  show (if lg_cmp (lN (gSR o)) 1 < 0 then some ((1 : Int64), σ) else some (lN (gSR o), σ)) = _
  refine if_neg ?_
  unfold lg_cmp
  by_cases q : lN (gSR o) > (1 : Int64)
  · rw [if_pos q]; decide
  · rw [if_neg q]
    by_cases q2 : lN (gSR o) = 1
    · rw [if_pos q2]; decide
    · exfalso
      have e1 := pk_lLT (a := 1) (b := gSR o) (by omega) (by omega)
      have e2 := pk_lEQ (a := gSR o) (b := 1) (by omega) (by omega)
      have r1 : ¬ 1 < gSR o := fun w => q (e1.mpr w)
      have r2 : ¬ gSR o = 1 := fun w => q2 (e2.mpr w)
      omega
theorem e_gcdM {F o : Nat} {σ : zM} (hF : 300 ≤ F) (ho : o ≤ 1000000000000000000) : f_X12_gcd F (lN o) (1000000000000000000 : Int64) σ = some (lN (gSR o), σ) := by
  unfold f_X12_gcd
  rw [show (1000000000000000000 : Int64) = lN 1000000000000000000 from rfl, gcd_b 60 F _ _ (by omega) (by omega) (by omega) (by omega)]
  unfold gSR
  rw [Nat.gcd_comm]
theorem op_smuggled {F D : Nat} (hF : 1100 ≤ F) (hDD : 6 < D) (v1 v2 v3 : Int32) : OP (f_X11_smuggled F D v1 v2 v3) (f_X12_smuggled F v1 v2 v3) := by
  intro a σ ha ⟨n, t, r, p, kc, x, ko, pl, ql, cl, ⟨hG, hH, hT, hN, hK, hD, hX, hW⟩, ⟨bG, bH, bL, bT, bN, bK, bP, bD, bX, bW⟩, hP⟩
  have hn := hG.1
  have h3 := hG.2.1
  have e10 : (10 : Int32).toInt = 10 := rfl
  have e16 : (16 : Int32).toInt = 16 := rfl
  have e2 : (2 : Int32).toInt = 2 := rfl
  have e0 : (0 : Int32).toInt = 0 := rfl
  -- the class begins
  have xa : ∀ o : Option (Int64 × zM), ((10 ≤ v3.toInt ∧ v3.toInt ≤ 16) → f_X11_smuggled_j38 F D v1 v2 v3 1 1 σ = o) → (¬ (10 ≤ v3.toInt ∧ v3.toInt ≤ 16) → (0 ≤ v3.toInt ∧ v3.toInt ≤ 2) → f_X11_smuggled_j38 F D v1 v2 v3 0 1 σ = o) → (¬ (10 ≤ v3.toInt ∧ v3.toInt ≤ 16) → ¬ (0 ≤ v3.toInt ∧ v3.toInt ≤ 2) → f_X11_smuggled_j38 F D v1 v2 v3 0 0 σ = o) → f_X11_smuggled F D v1 v2 v3 σ = o := by
    intro o q1 q2 q3
    unfold f_X11_smuggled f_X11_smuggled_j16 f_X11_smuggled_j17 f_X11_smuggled_j33 f_X11_smuggled_j37
    rw [if_neg b1n, if_pos rfl]
    simp only [i_lt, e10, e16, e2, e0]
    repeat' split
    all_goals first
      | exact q1 (by omega)
      | exact q2 (by omega) (by omega)
      | exact q3 (by omega) (by omega)
  by_cases hc : (¬ v1 = v2 ∧ (gd n v1 ∧ ¬ zg σ 6 v1.toNatClampNeg = -1) ∧ (gd n v2 ∧ ¬ zg σ 6 v2.toNatClampNeg = -1)) ∧ ((10 ≤ v3.toInt ∧ v3.toInt ≤ 16) ∨ (0 ≤ v3.toInt ∧ v3.toInt ≤ 2))
  · obtain ⟨⟨c0, ⟨c1, c2⟩, c3, c4⟩, c5⟩ := hc
    obtain ⟨f, hf, rfl, cf⟩ := nI_of' c1 (by omega)
    obtain ⟨b, hb, rfl, cb⟩ := nI_of' c3 (by omega)
    rw [cf] at c2
    rw [cb] at c4
    have hfb : ¬ f = b := fun q => c0 (by rw [q])
    obtain ⟨σ1, B, a1, a2, a3, a4, a5⟩ := e_findB (F := F) (D := D) (by omega) hDD hG hW hf hb c2 hfb
    have b1 := bG.si a2 rfl
    obtain ⟨σ2, B', d1, d2, d3, d4, d5⟩ := e_laysB (F := F) hF hG hW b1 (bL.si a2 rfl) (bW.si a2 rfl) hf hb c2 hfb
    obtain ⟨q1, q2⟩ := best_eq hn a4 d4 a5 d5
    have hf2 : Fx ([13, 23, 32, 43, 44, 86, 87, 96, 97], [(42, 4), (42, 6), (69, 42), (69, 43)]) σ σ2 := (a2.sub rfl).tr (d2.sub rfl)
    have rr : RR a σ2 := RR.scr ⟨n, t, r, p, kc, x, ko, pl, ql, cl, ⟨hG, hH, hT, hN, hK, hD, hX, hW⟩, ⟨bG, bH, bL, bT, bN, bK, bP, bD, bX, bW⟩, hP⟩ (hf2.sub rfl)
    -- both, to where the best way is known
    have xj : ∀ (w : Int32) (o : Option (Int64 × zM)), (B.1 = 0 → some ((-2 : Int64), σ1) = o) → (¬ B.1 = 0 → (if w = 0 then if v3 = (2 : Int32) then some ((nI B.1).toInt64, σ1) else if v3 = 0 then bnd (f_X9_above F σ1) (fun r10 s9 => some (r10, s9)) else bnd (f_X9_below F σ1) (fun r8 s7 => some (r8, s7)) else bnd (f_X9_guestAt (v3 - (10 : Int32)) σ1) (fun r14 s13 => some ((r14).toInt64, s13))) = o) → f_X11_smuggled_j38 F D (nI f) (nI b) v3 w 1 σ = o := by
      intro w o h1 h2
      unfold f_X11_smuggled_j38 f_X9_passings
      rw [if_neg b1n, if_neg c0, e_sits_n hG hf, if_neg c2, bnd_some, if_neg b1n, e_sits_n hG hb, if_neg c4, bnd_some, if_neg b1n, a1, bnd_some]
      by_cases z : B.1 = 0
      · rw [if_pos z, if_pos rfl]; exact h1 z
      · rw [if_neg z, if_neg b1n, (a3.2 z).1]; exact h2 z
    have mj : ∀ o : Option (Int64 × zM), f_X12_smuggled_j61 F (nI f) (nI b) v3 σ1 = o → f_X12_smuggled F (nI f) (nI b) v3 σ1 = o := by
      intro o h
      unfold f_X12_smuggled
      rw [isGuest_n hn b1.1 hf, bnd_some, if_neg b1n, isGuest_n hn b1.1 hb, bnd_some, if_neg b1n, if_neg c0, e_sitsM hG b1 hf, if_neg c2, bnd_some, if_neg b1n, e_sitsM hG b1 hb, if_neg c4, bnd_some, if_neg b1n, e_in, bnd_some, b01, e_in, bnd_some, b01, e0, e2, e10, e16]
      by_cases q : 0 ≤ v3.toInt ∧ v3.toInt ≤ 2
      · rw [if_pos q]; exact h
      · rw [if_neg q, if_pos (by rcases c5 with h | h; exact h; exact absurd h q)]; exact h
    have xg : ∀ o : Option (Int64 × zM), ((10 ≤ v3.toInt ∧ v3.toInt ≤ 16) → f_X11_smuggled_j38 F D (nI f) (nI b) v3 1 1 σ = o) → (¬ (10 ≤ v3.toInt ∧ v3.toInt ≤ 16) → (0 ≤ v3.toInt ∧ v3.toInt ≤ 2) → f_X11_smuggled_j38 F D (nI f) (nI b) v3 0 1 σ = o) → f_X11_smuggled F D (nI f) (nI b) v3 σ = o := fun o h1 h2 => xa o h1 h2 (fun h4 h5 => by rcases c5 with h | h; exact absurd h h4; exact absurd h h5)
    by_cases z : B.1 = 0
    · have z' : B'.1 = 0 := by rw [← q1]; exact z
      refine ⟨-2, σ1, σ2, xg _ (fun _ => xj 1 _ (fun _ => rfl) (fun q => absurd z q)) (fun _ _ => xj 0 _ (fun _ => rfl) (fun q => absurd z q)), mj _ ?_, a, by omega, rr⟩
      unfold f_X12_smuggled_j61
      rw [d1, bnd_some, d3.1, z', if_pos (show nI 0 = (0 : Int32) from rfl)]
    · have z' : ¬ B'.1 = 0 := by rw [← q1]; exact z
      obtain ⟨w1, w2⟩ := q2 z
      have v6 := (a4 z).2.1
      have v1' := (a4 z).1
      have nz : ¬ nI B.1 = 0 := nI_ne0 (by omega) (by omega)
      have hol := OD_le σ pl cl B.2 v6
      have sb := a3.2 z
      have sm := d3.2 z'
      obtain ⟨g1, g2⟩ := gSR_b (OD σ pl cl B.1 B.2)
      have gnz : ¬ lN (gSR (OD σ pl cl B.1 B.2)) = 0 := fun q => by have := (gcd_0 (by omega)).1.mp q; omega
      -- the model's
      have mm : ∀ o : Option (Int64 × zM), (if v3 = (2 : Int32) then some ((nI B.1).toInt64, σ2) else if (2 : Int32) < v3 then if nI B.1 < (v3 - (10 : Int32)) then some ((-1 : Int64), σ2) else if zin (v3 - (10 : Int32)) 7 = true then some (((zg σ2 97 ((v3 - (10 : Int32))).toNatClampNeg)).toInt64, σ2) else none else bnd (f_X12_gcd F (zgl σ2 2) (1000000000000000000 : Int64) σ2) (fun r13 s12 => if v3 = 0 then if r13 = 0 then none else some (((zgl s12 2) / r13), s12) else if r13 = 0 then none else some (((1000000000000000000 : Int64) / r13), s12))) = o → f_X12_smuggled_j61 F (nI f) (nI b) v3 σ1 = o := by
        intro o h
        unfold f_X12_smuggled_j61
        rw [d1, bnd_some, d3.1, ← q1, if_neg nz]; exact h
      by_cases hg : 10 ≤ v3.toInt ∧ v3.toInt ≤ 16
      · obtain ⟨k, hk, rfl, -⟩ := nI_of' (v := v3) (n := 17) ⟨by omega, by omega⟩ (by omega)
        rw [nI_toInt (show k < 2 ^ 31 by omega)] at hg
        have ek : nI k - (10 : Int32) = nI (k - 10) := by rw [show (10 : Int32) = nI 10 from rfl, pk_sub (by omega)]
        have z7 : zin (nI (k - 10)) 7 = true := zin_n (by omega) (by omega)
        refine ⟨if B.1 < k - 10 then -1 else (nI (B.2 (k - 10))).toInt64, σ1, σ2, xg _ (fun _ => xj 1 _ (fun q => absurd q z) (fun _ => ?_)) (fun q => absurd (show 10 ≤ (nI k).toInt ∧ (nI k).toInt ≤ 16 by rw [nI_toInt (show k < 2 ^ 31 by omega)]; exact hg) q), mj _ (mm _ ?_), a, by omega, rr⟩
        · rw [if_neg b1n, ek]
          unfold f_X9_guestAt
          rw [if_neg (nI_pos (by omega)), sb.1]
          by_cases h : B.1 < k - 10
          · rw [if_pos ((nI_ltI (by omega) (by omega)).mpr h), if_pos h]; rfl
          · rw [if_neg (fun q => h ((nI_ltI (by omega) (by omega)).mp q)), if_neg h, if_neg (show ¬ (6 : Int32) < nI (k - 10) by rw [show (6 : Int32) = nI 6 from rfl, nI_ltI (by omega) (by omega)]; omega), if_pos z7, bnd_some, nI_clamp (by omega), sb.2.2 (k - 10) (by omega)]
        · rw [if_neg (show ¬ nI k = (2 : Int32) by rw [show (2 : Int32) = nI 2 from rfl, nI_eq (by omega) (by omega)]; omega), if_pos (show (2 : Int32) < nI k by rw [show (2 : Int32) = nI 2 from rfl, nI_ltI (by omega) (by omega)]; omega), ek]
          by_cases h : B.1 < k - 10
          · rw [if_pos ((nI_ltI (by omega) (by omega)).mpr h), if_pos h]
          · rw [if_neg (fun q => h ((nI_ltI (by omega) (by omega)).mp q)), if_neg h, if_pos z7, nI_clamp (by omega), sm.2 (k - 10) (by omega), w2 (k - 10) (by omega)]
      · have hr : 0 ≤ v3.toInt ∧ v3.toInt ≤ 2 := by rcases c5 with h | h; exact absurd h hg; exact h
        have n2 : ¬ (2 : Int32) < v3 := by rw [i_lt, e2]; omega
        have xs : ∀ o : Option (Int64 × zM), (if v3 = (2 : Int32) then some ((nI B.1).toInt64, σ1) else if v3 = 0 then bnd (f_X9_above F σ1) (fun r10 s9 => some (r10, s9)) else bnd (f_X9_below F σ1) (fun r8 s7 => some (r8, s7))) = o → f_X11_smuggled F D (nI f) (nI b) v3 σ = o := fun o h => xg o (fun q => absurd q hg) (fun _ _ => xj 0 o (fun q => absurd q z) (fun _ => by rw [if_pos rfl]; exact h))
        by_cases r2 : v3 = 2
        · refine ⟨(nI B.1).toInt64, σ1, σ2, xs _ (by rw [if_pos r2]), mj _ (mm _ (by rw [if_pos r2])), a, by omega, rr⟩
        · by_cases r0 : v3 = 0
          · refine ⟨lN (OD σ pl cl B.1 B.2) / lN (gSR (OD σ pl cl B.1 B.2)), σ1, σ2, xs _ ?_, mj _ (mm _ ?_), a, by omega, rr⟩
            · rw [if_neg r2, if_pos r0]
              unfold f_X9_above
              rw [e_divisor (by omega) hol sb.2.1, bnd_some, if_neg gnz, bnd_some, sb.2.1]
            · rw [if_neg r2, if_neg n2, sm.1, ← w1, e_gcdM (by omega) hol, bnd_some, if_pos r0, if_neg gnz, sm.1, ← w1]
          · refine ⟨(1000000000000000000 : Int64) / lN (gSR (OD σ pl cl B.1 B.2)), σ1, σ2, xs _ ?_, mj _ (mm _ ?_), a, by omega, rr⟩
            · rw [if_neg r2, if_neg r0]
              unfold f_X9_below
              rw [e_divisor (by omega) hol sb.2.1, bnd_some, if_neg gnz, bnd_some]
            · rw [if_neg r2, if_neg n2, sm.1, ← w1, e_gcdM (by omega) hol, bnd_some, if_neg r0, if_neg gnz]
  · refine OP.no ⟨n, t, r, p, kc, x, ko, pl, ql, cl, ⟨hG, hH, hT, hN, hK, hD, hX, hW⟩, ⟨bG, bH, bL, bT, bN, bK, bP, bD, bX, bW⟩, hP⟩ (-1) ?_ ?_
    · have j1 : ∀ w, ¬ (¬ v1 = v2 ∧ (gd n v1 ∧ ¬ zg σ 6 v1.toNatClampNeg = -1) ∧ (gd n v2 ∧ ¬ zg σ 6 v2.toNatClampNeg = -1)) → f_X11_smuggled_j38 F D v1 v2 v3 w 1 σ = some (-1, σ) := by
        intro w h
        unfold f_X11_smuggled_j38
        rw [if_neg b1n, e_sits hn h3, bnd_some, b01, e_sits hn h3, bnd_some, b01]
        by_cases q0 : v1 = v2
        · rw [if_pos q0]
        · rw [if_neg q0]
          by_cases q1 : gd n v1 ∧ ¬ zg σ 6 v1.toNatClampNeg = -1
          · rw [if_pos q1, if_neg (fun q2 => h ⟨q0, q1, q2⟩)]
          · rw [if_neg q1]
      refine xa _ (fun h => j1 1 (fun q => hc ⟨q, Or.inl h⟩)) (fun _ h => j1 0 (fun q => hc ⟨q, Or.inr h⟩)) (fun _ _ => ?_)
      unfold f_X11_smuggled_j38
      rw [if_pos rfl]
    · unfold f_X12_smuggled
      rw [e_isGuest hn bG.1, bnd_some, b01, e_isGuest hn bG.1, bnd_some, b01]
      by_cases q1 : gd n v1
      · rw [if_pos q1]
        by_cases q2 : gd n v2
        · rw [if_pos q2]
          by_cases q0 : v1 = v2
          · rw [if_pos q0]
          · rw [if_neg q0]
            obtain ⟨f, hf, rfl, cf⟩ := nI_of' q1 (by omega)
            obtain ⟨b, hb, rfl, cb⟩ := nI_of' q2 (by omega)
            rw [e_sitsM hG bG hf, bnd_some, b10, e_sitsM hG bG hb, bnd_some, b10, e_in, bnd_some, b01, e_in, bnd_some, b01, e0, e2, e10, e16]
            by_cases q3 : zg σ 6 f = -1
            · rw [if_pos q3]
            · rw [if_neg q3]
              by_cases q4 : zg σ 6 b = -1
              · rw [if_pos q4]
              · have hq := fun q => hc ⟨⟨q0, ⟨q1, by rw [cf]; exact q3⟩, q2, by rw [cb]; exact q4⟩, q⟩
                rw [if_neg q4, if_neg (fun q => hq (Or.inr q)), if_neg (fun q => hq (Or.inl q))]
        · rw [if_neg q2]
      · rw [if_neg q1]
