/-! ===== the class reads a text ===== -/
theorem c_all {F D q n : Nat} {tx : Nat → Int32} {σ0 : zM} {K : zM → Option (Int32 × zM)} (hF : 210 ≤ F) (hD : 21 ≤ D) : ∀ (f k : Nat) (st : zLs) (R : zCl) (σ : zM) (fu : Nat), f + k = 15 → f < fu → GA n k st R → cAl q n tx σ0 k st R σ → match pAll tx n f k st R with
    | .inl x => ∃ σ', f_X4_read_L26 F D K fu 1 (nI k) σ = K σ' ∧ cAl q n tx σ0 x.1 x.2.1 x.2.2 σ' ∧ GA n x.1 x.2.1 x.2.2
    | .inr e => ∃ σ', f_X4_read_L26 F D K fu 1 (nI k) σ = K σ' ∧ cFl q σ0 e σ' := by
  have stop : ∀ fu v s, f_X4_read_L26 F D K (fu + 1) 0 v s = K s := by
    intro fu v s
    rw [f_X4_read_L26]
    split
    · rfl
    · rw [if_pos rfl]
  intro f
  induction f with
  | zero => intro k st R σ fu hk hfu hG; have := hG.1; omega
  | succ f ih =>
    intro k st R σ fu hk hfu hG h
    obtain ⟨fu, rfl⟩ : ∃ f', fu = f' + 1 + 1 := ⟨fu - 2, by omega⟩
    have hk14 := hG.1
    have h' := h
    obtain ⟨hf, h0, htx, hS, h7, hR⟩ := h'
    have hq := h0.1
    have hn := h0.2.1
    have htx' : ∀ i, n ≤ i → tx i = -1 := fun i hi => by rw [← htx]; exact txc_out i hi
    have ba : msub (mCB q) (mCA q) = true := by rcases hq with rfl | rfl <;> rfl
    have bb : msub (mCS q) (mCB q) = true := by rcases hq with rfl | rfl <;> rfl
    have ra : msub (mCR q) (mCA q) = true := by rcases hq with rfl | rfl <;> rfl
    have w := c_clause (F := F) (D := D) hF hD hG.2.1 hG.2.2.1 hk14 h
    rw [f_X4_read_L26, if_neg (show ¬ (14 : Int32) < nI k by rw [show (14 : Int32) = nI 14 from rfl, nI_ltI (by omega) (by omega)]; omega), if_neg b1n, pAll]
    cases hr : pCl tx k st R with
    | inr e =>
      rw [hr] at w
      obtain ⟨σ1, w1, w2⟩ := w
      exact ⟨σ1, by rw [w1, bnd_some, if_pos rfl, lt_eq, stop], w2⟩
    | inl x =>
      rw [hr] at w
      obtain ⟨σ1, w1, w2⟩ := w
      obtain ⟨g1, g2, g3⟩ := ga_pCl htx' hn hG hr
      obtain ⟨uf, u0, ut, uS, u7, uR⟩ := w2
      have e2 := uS.2.1
      have e3 := (uS.f u0).2.1
      have gp := g1.2.2.1
      rw [w1, bnd_some, if_neg b1n, e2, e3]
      show match (if x.1.1 < n then (if tx x.1.1 = 59 then pAll tx n f (k + 1) (adv x.1) x.2 else .inr (fltP 1 x.1.1)) else .inl (k + 1, x.1, x.2) : zPA) with
        | .inl x => _
        | .inr e => _
      by_cases hlt : x.1.1 < n
      · rw [if_pos hlt, if_pos (α := Option (Int32 × zM)) ((nI_ltI (by omega) (by omega)).mpr hlt)]
        have ac := acc_c (c := 59) u0 uS g1.2.1 gp
        rw [ut] at ac
        by_cases h59 : tx x.1.1 = 59
        · rw [if_pos h59] at ac ⊢
          obtain ⟨σ2, v1, v2⟩ := ac
          rw [v1, bnd_some, if_neg b1n, lt_eq, nI_1]
          obtain ⟨p0, pt, pS', p7⟩ := cB.of u0 ut u7 v2
          exact ih (k + 1) (adv x.1) x.2 σ2 (fu + 1) (by omega) (by omega) ⟨g1.1, by show x.1.2.1 ≤ x.1.1 + 1; have := g1.2.1; omega, hlt, g1.2.2.2.1, g1.2.2.2.2⟩ ⟨uf.tr (v2.1.sub bb), p0, pt, pS', p7, rcS.fx (n := n) hq uR v2.1 (Or.inl rfl)⟩
        · rw [if_neg h59] at ac ⊢
          obtain ⟨σ2, v1, v2⟩ := ac
          exact ⟨σ2, by rw [v1, bnd_some, if_pos rfl, lt_eq, stop], (uf.sub ba).tr (v2.1.sub ra), v2.2.1.1, v2.2.1.2⟩
      · rw [if_neg hlt, if_neg (α := Option (Int32 × zM)) (fun z => hlt ((nI_ltI (by omega) (by omega)).mp z))]
        exact ⟨σ1, by rw [lt_eq, stop], ⟨uf, u0, ut, uS, u7, uR⟩, g1⟩
def R0c : zCl := fun _ => (0, 0, 0, 0)
def st0 : zLs := (0, 0, fun _ => (0, 0))
abbrev mRd (q : Nat) : zMk := ([q + 1, q + 2, q + 3, q + 4, q + 5, q + 6], [(24, 2), (24, 3), (24, 4), (q, 7), (q, 8)])
theorem e_read {F D p q c n t : Nat} {σ : zM} (hF : 210 ≤ F) (hD : 21 ≤ D) (hT : IT t σ) (hW : IW p q c σ) (hn1 : 1 ≤ n) (hn : n ≤ 200) (hnt : n ≤ t) : match pAll (txc σ n) n 15 0 st0 R0c with
    | .inl x => ∃ σ', f_X4_read F D (nI n) σ = some (nI x.1, σ') ∧ Fx (mRd q) σ σ' ∧ cAl q n (txc σ n) σ' x.1 x.2.1 x.2.2 σ' ∧ GA n x.1 x.2.1 x.2.2
    | .inr e => ∃ σ', f_X4_read F D (nI n) σ = some (e, σ') ∧ Fx (mRd q) σ σ' ∧ e.toInt < 0 := by
  have hq : q = 16 ∨ q = 25 := by rcases hW.1 with ⟨-, h⟩ | ⟨-, h⟩ <;> simp [h]
  obtain ⟨t1, t2, t3⟩ := hT
  have e241 : zg (zs (zs (zs σ 24 2 (0 : Int32)) 24 3 (nI n)) 24 4 (0 : Int32)) 24 1 = nI q := by rw [zg_nj (by decide), zg_nj (by decide), zg_nj (by decide)]; exact hW.2.2.1
  unfold f_X4_read
  rw [lt_eq, lt_eq, lt_eq, e241]
  have zq : zLw (nI q).toNatClampNeg = true ∧ (nI q).toNatClampNeg = q := by rcases hq with rfl | rfl <;> exact ⟨rfl, rfl⟩
  rw [if_pos zq.1, zq.2]
  unfold f_X3_clear
  rw [lt_eq, lt_eq, bnd_some]
  have fx0 : Fx (mRd q) σ (zs (zs (zs (zs (zs σ 24 2 (0 : Int32)) 24 3 (nI n)) 24 4 (0 : Int32)) q 7 (0 : Int32)) q 8 (0 : Int32)) := ((((Fx.rf.zs (by simp [inm])).zs (by simp [inm])).zs (by simp [inm])).zs (by simp [inm])).zs (by simp [inm])
  have a2 : ∀ i, zg (zs (zs (zs (zs (zs σ 24 2 (0 : Int32)) 24 3 (nI n)) 24 4 (0 : Int32)) q 7 (0 : Int32)) q 8 (0 : Int32)) 2 i = zg σ 2 i := fun i => fx0 2 i (by rcases hq with rfl | rfl <;> rfl)
  have a1 : zg (zs (zs (zs (zs (zs σ 24 2 (0 : Int32)) 24 3 (nI n)) 24 4 (0 : Int32)) q 7 (0 : Int32)) q 8 (0 : Int32)) 1 1 = nI t := (fx0 1 1 (by rcases hq with rfl | rfl <;> rfl)).trans t2
  have b1 : zg (zs (zs (zs (zs (zs σ 24 2 (0 : Int32)) 24 3 (nI n)) 24 4 (0 : Int32)) q 7 (0 : Int32)) q 8 (0 : Int32)) 24 1 = nI q := by
    rw [zg_ne (by rcases hq with rfl | rfl <;> decide), zg_ne (by rcases hq with rfl | rfl <;> decide)]; exact e241
  have b2 : zg (zs (zs (zs (zs (zs σ 24 2 (0 : Int32)) 24 3 (nI n)) 24 4 (0 : Int32)) q 7 (0 : Int32)) q 8 (0 : Int32)) 24 2 = nI 0 := by
    rw [zg_ne (by rcases hq with rfl | rfl <;> decide), zg_ne (by rcases hq with rfl | rfl <;> decide), zg_nj (by decide), zg_nj (by decide), zg_eq]; rfl
  have b3 : zg (zs (zs (zs (zs (zs σ 24 2 (0 : Int32)) 24 3 (nI n)) 24 4 (0 : Int32)) q 7 (0 : Int32)) q 8 (0 : Int32)) 24 3 = nI n := by
    rw [zg_ne (by rcases hq with rfl | rfl <;> decide), zg_ne (by rcases hq with rfl | rfl <;> decide), zg_nj (by decide), zg_eq]
  have b4 : zg (zs (zs (zs (zs (zs σ 24 2 (0 : Int32)) 24 3 (nI n)) 24 4 (0 : Int32)) q 7 (0 : Int32)) q 8 (0 : Int32)) 24 4 = 0 := by
    rw [zg_ne (by rcases hq with rfl | rfl <;> decide), zg_ne (by rcases hq with rfl | rfl <;> decide), zg_eq]
  have b7 : zg (zs (zs (zs (zs (zs σ 24 2 (0 : Int32)) 24 3 (nI n)) 24 4 (0 : Int32)) q 7 (0 : Int32)) q 8 (0 : Int32)) q 7 = nI 0 := by rw [zg_nj (by decide), zg_eq]; rfl
  have b8 : zg (zs (zs (zs (zs (zs σ 24 2 (0 : Int32)) 24 3 (nI n)) 24 4 (0 : Int32)) q 7 (0 : Int32)) q 8 (0 : Int32)) q 8 = nI 0 := by rw [zg_eq]; rfl
  generalize zs (zs (zs (zs (zs σ 24 2 (0 : Int32)) 24 3 (nI n)) 24 4 (0 : Int32)) q 7 (0 : Int32)) q 8 (0 : Int32) = σ0 at fx0 a1 a2 b1 b2 b3 b4 b7 b8 ⊢
  have htx : txc σ0 n = txc σ n := by funext i; unfold txc; rw [a2]
  have h0 : CR0 q n σ0 := ⟨hq, hn, b1, b3, t, hnt, t1, a1, fun i hi => by rw [a2]; exact t3 i (by omega)⟩
  have ga0 : GA n 0 st0 R0c := ⟨by omega, Nat.le_refl _, by show 0 ≤ n; omega, fun j hj => by have : j < 0 := hj; omega, fun i hi => by omega⟩
  have w := c_all (F := F) (D := D) (K := fun s14 => f_X4_read_j75 F D s14) hF hD 15 0 st0 R0c σ0 F (by omega) (by omega) ga0 ⟨Fx.rf, h0, htx, ⟨Fx.rf, b2, b8, fun j hj => by have : j < 0 := hj; omega⟩, b7, fun i hi => by omega⟩
  have ar : msub (mCA q) (mRd q) = true := by rcases hq with rfl | rfl <;> rfl
  have br : msub (mCB q) (mRd q) = true := by rcases hq with rfl | rfl <;> rfl
  cases hr : pAll (txc σ n) n 15 0 st0 R0c with
  | inr e =>
    rw [hr] at w
    obtain ⟨σ', w1, w2, w3, w4⟩ := w
    refine ⟨σ', ?_, fx0.tr (w2.sub ar), w4⟩
    rw [show (0 : Int32) = nI 0 from rfl, w1]
    unfold f_X4_read_j75
    rw [w3, if_neg (fun z => by rw [z] at w4; exact absurd w4 (by decide))]
  | inl x =>
    rw [hr] at w
    obtain ⟨σ', w1, ⟨uf, u0, ut, uS, u7, uR⟩, w3⟩ := w
    refine ⟨σ', ?_, fx0.tr (uf.sub br), ⟨Fx.rf, u0, ut, uS, u7, uR⟩, w3⟩
    obtain ⟨z1, z2⟩ := c_zLw u0 uS
    have f4 : zg σ' 24 4 = 0 := (uf 24 4 (by rcases hq with rfl | rfl <;> rfl)).trans b4
    rw [show (0 : Int32) = nI 0 from rfl, w1]
    unfold f_X4_read_j75 f_X3_number
    rw [f4, if_pos rfl, if_pos z1, z2, bnd_some, u7]
