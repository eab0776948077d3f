/-! ===== who is told, and where they shall sit ===== -/
theorem e_isTold_n {n g : Nat} {s : zM} (hn : n ≤ 16) (h : zg s 3 8 = nI n) (hg : g < n) (W : Int32) : f_X6_isTold W (nI g) s = some (if bt W g = true then 1 else 0, s) := by
  unfold f_X6_isTold
  rw [e_knows_n hn h hg, bnd_some, if_neg b1n, b_ask W (by omega)]
  by_cases q : bt W g = true
  · rw [if_pos q, if_neg b1n]
  · rw [if_neg q, if_pos rfl]
theorem e_lives_k {n g : Nat} {s : zM} (hn : n ≤ 16) (h : zg s 3 8 = nI n) (hg : g < n) : f_X0_lives (nI g) s = some (if zg s 5 g = 0 then 0 else 1, s) := by
  unfold f_X0_lives
  rw [e_knows_n hn h hg, bnd_some, if_neg b1n, if_pos (zin_n (by omega) (by omega)), nI_clamp (by omega)]
  by_cases q : zg s 5 g = 0
  · rw [if_pos q, if_pos q]
  · rw [if_neg q, if_neg q]
theorem e_tell12 {F n m : Nat} {W : Int32} {σ0 : zM} {K : zM → Option (Int32 × zM)} (hG : IG n σ0) (hm : fre (nbW W) n = m) (h7 : m ≤ 7) : ∀ (d fu g : Nat) (σ : zM), g + d = n → d < fu → Fx ([46], [(45, 10)]) σ0 σ → zg σ 45 10 = nI (fre (nbW W) g) → (∀ k, k < fre (nbW W) g → zg σ 46 k = nI (tgf W k)) → (∀ x, x < g → bt W x = true → zg σ0 5 x = 1) → ∃ σ', Fx ([46], [(45, 10)]) σ0 σ' ∧ (((∃ x, x < n ∧ bt W x = true ∧ zg σ0 5 x = 0) ∧ f_X6_tell_L12 F K W fu (nI g) σ = some (0, σ')) ∨ ((∀ x, x < n → bt W x = true → zg σ0 5 x = 1) ∧ f_X6_tell_L12 F K W fu (nI g) σ = K σ' ∧ zg σ' 45 10 = nI m ∧ ∀ k, k < m → zg σ' 46 k = nI (tgf W k))) := by
  have hn := hG.1
  intro d
  induction d with
  | zero =>
    intro fu g σ hg hfu hf h10 h46 hal
    obtain ⟨fu, rfl⟩ : ∃ f', fu = f' + 1 := ⟨fu - 1, by omega⟩
    have : g = n := by omega
    subst this
    refine ⟨σ, hf, Or.inr ⟨hal, ?_, by rw [h10, hm], by rw [← hm]; exact h46⟩⟩
    rw [f_X6_tell_L12, f_X0_number, bnd_some, hf 3 8 rfl, hG.2.1, if_neg (by rw [nI_ltI (by omega) (by omega)]; omega)]
  | succ d ih =>
    intro fu g σ hg hfu hf h10 h46 hal
    obtain ⟨fu, rfl⟩ : ∃ f', fu = f' + 1 := ⟨fu - 1, by omega⟩
    have hgn : g < n := by omega
    have e3 : zg σ 3 8 = nI n := (hf 3 8 rfl).trans hG.2.1
    have hle : fre (nbW W) (g + 1) ≤ m := by
      have := fre_mono (nbW W) (n - (g + 1)) (g + 1)
      rw [show g + 1 + (n - (g + 1)) = n by omega] at this; omega
    have hle0 : fre (nbW W) g ≤ fre (nbW W) (g + 1) := fre_mono (nbW W) 1 g
    by_cases q7 : fre (nbW W) g < 7
    · have hl : f_X6_tell_L12 F K W (fu + 1) (nI g) σ = if bt W g = true then (if zg σ0 5 g = 0 then some (0, σ) else f_X6_tell_L12 F K W fu (nI (g + 1)) (zs (zs σ 46 (fre (nbW W) g) (nI g)) 45 10 (nI (fre (nbW W) g + 1)))) else f_X6_tell_L12 F K W fu (nI (g + 1)) σ := by
        rw [f_X6_tell_L12, f_X0_number, bnd_some, e3, if_pos (show nI g < nI n from (nI_ltI (by omega) (by omega)).mpr hgn), h10, if_pos (show nI (fre (nbW W) g) < (7 : Int32) from (nI_ltI (b := 7) (by omega) (by omega)).mpr q7), e_isTold_n hn e3 hgn, bnd_some]
        by_cases qb : bt W g = true
        · rw [if_pos qb, if_pos qb, if_neg b1n, e_lives_k hn e3 hgn, bnd_some, hf 5 g rfl]
          by_cases q5 : zg σ0 5 g = 0
          · rw [if_pos q5, if_pos q5, if_pos rfl]
          · rw [if_neg q5, if_neg q5, if_neg b1n, h10, if_pos (zin_n (by omega) q7), lt_eq, lt_eq, lt_eq, nI_clamp (by omega), zg_ne (by decide), h10, nI_1, nI_1]
        · rw [if_neg qb, if_neg qb, if_pos rfl, lt_eq, nI_1]
      by_cases qb : bt W g = true
      · have hfs : fre (nbW W) (g + 1) = fre (nbW W) g + 1 := by rw [fre, if_neg (show ¬ nbW W g = true by rw [nbW_t.mpr qb]; simp)]
        rw [hl, if_pos qb]
        rcases hG.2.2.2.1 g hgn with ⟨h5, -⟩ | ⟨h5, -⟩
        · rw [if_pos h5]
          exact ⟨σ, hf, Or.inl ⟨⟨g, hgn, qb, h5⟩, rfl⟩⟩
        · rw [if_neg (by rw [h5]; decide)]
          refine ih fu (g + 1) _ (by omega) (by omega) ((hf.zs rfl).zs rfl) (by rw [zg_eq, hfs]) (fun k hk => ?_) (fun x hx hb => ?_)
          · rw [zg_ne (by decide), zg_row]
            by_cases qk : k = fre (nbW W) g
            · subst qk; rw [if_pos rfl, tgf_eq (by omega) qb]
            · rw [if_neg qk]; exact h46 k (by omega)
          · by_cases qx : x = g
            · subst qx; exact h5
            · exact hal x (by omega) hb
      · have hfs : fre (nbW W) (g + 1) = fre (nbW W) g := by rw [fre, if_pos (show nbW W g = true by unfold nbW; simp [qb])]; rfl
        rw [hl, if_neg qb]
        refine ih fu (g + 1) _ (by omega) (by omega) hf (by rw [h10, hfs]) (by rw [hfs]; exact h46) (fun x hx hb => ?_)
        by_cases qx : x = g
        · subst qx; exact absurd hb qb
        · exact hal x (by omega) hb
    · have hf7 : fre (nbW W) g = 7 := by omega
      have hm7 : m = 7 := by omega
      refine ⟨σ, hf, Or.inr ⟨fun x hx hb => ?_, ?_, by rw [h10, hf7, hm7], by rw [hm7, ← hf7]; exact h46⟩⟩
      · by_cases qx : x < g
        · exact hal x qx hb
        · exfalso
          have h1 : fre (nbW W) (x + 1) = fre (nbW W) x + 1 := by rw [fre, if_neg (show ¬ nbW W x = true by rw [nbW_t.mpr hb]; simp)]
          have h2 := fre_mono (nbW W) (x - g) g
          rw [show g + (x - g) = x by omega] at h2
          have h3 := fre_mono (nbW W) (n - (x + 1)) (x + 1)
          rw [show x + 1 + (n - (x + 1)) = n by omega] at h3
          omega
      · rw [f_X6_tell_L12, f_X0_number, bnd_some, e3, if_pos (show nI g < nI n from (nI_ltI (by omega) (by omega)).mpr hgn), h10, hf7, if_neg (by decide)]
/-- a seat that a told one may take -/
def okS (α : zM) (W : Int32) (v : Nat) : Bool := decide (v < 40) && (decide (zg α 9 v = -1) || bt W (zg α 9 v).toNatClampNeg)
theorem e_tell82 {F n m t : Nat} {W : Int32} {b : Nat → Nat} {α : zM} {K : zM → Option (Int32 × zM)} (hF : 20 ≤ F) (hG : IG n α) (h7 : m ≤ 7) (ht : m ≤ t) (hT : t ≤ 220) (h1 : zg α 1 1 = nI t) (hb : ∀ i, i < t → b i < 256 ∧ zg α 2 i = nI (b i)) : ∀ (d fu k : Nat) (f : Nat → Nat) (σ : zM), k + d = m → d < fu → Fx ([45, 46, 47], []) α σ → zg σ 45 10 = nI m → insA b (okS α W) k = some f → (∀ j, j < k → zg σ 47 j = nI (f j)) → ∃ σ', Fx ([47], []) σ σ' ∧ f_X6_tell_L82 F K W fu (nI k) σ = (if (insA b (okS α W) m).isSome = true then K σ' else some (0, σ')) ∧ ∀ f', insA b (okS α W) m = some f' → ∀ j, j < m → zg σ' 47 j = nI (f' j) := by
  have hn := hG.1
  intro d
  induction d with
  | zero =>
    intro fu k f σ hk hfu hf h10 hi h47
    obtain ⟨fu, rfl⟩ : ∃ f', fu = f' + 1 := ⟨fu - 1, by omega⟩
    have : k = m := by omega
    subst this
    refine ⟨σ, Fx.rf, ?_, fun f' hf' => ?_⟩
    · rw [f_X6_tell_L82, h10, if_neg (by rw [nI_ltI (by omega) (by omega)]; omega), hi]; rfl
    · rw [hi] at hf'; rw [← Option.some.inj hf']; exact h47
  | succ d ih =>
    intro fu k f σ hk hfu hf h10 hi h47
    obtain ⟨fu, rfl⟩ : ∃ f', fu = f' + 1 := ⟨fu - 1, by omega⟩
    obtain ⟨hb1, hb2⟩ := hb k (by omega)
    have hby : f_X10_byteAt (nI k) σ = some (nI (b k), σ) := by
      unfold f_X10_byteAt
      rw [if_neg (nI_pos (by omega)), hf 1 1 rfl, h1, if_pos ((nI_ltI (by omega) (by omega)).mpr (by omega)), if_pos (zin_n (by omega) (by omega)), nI_clamp (by omega), hf 2 k rfl, hb2]
    have hst : insA b (okS α W) (k + 1) = insS b (okS α W) k f := by rw [insA, hi]; rfl
    have hno : insS b (okS α W) k f = none → insA b (okS α W) m = none := fun h => by
      have := insA_none (hst.trans h) (m - (k + 1))
      rw [show k + 1 + (m - (k + 1)) = m by omega] at this; exact this
    have hk' : nI k < nI m := (nI_ltI (by omega) (by omega)).mpr (by omega)
    rw [f_X6_tell_L82, h10, if_pos hk', hby, bnd_some, e_at, bnd_some, e_isSeat, bnd_some, nI_toInt (show b k < 2 ^ 31 by omega), nI_clamp (show b k < 2 ^ 31 by omega)]
    by_cases q40 : b k < 40
    · have c40 : (0 : Int) ≤ (b k : Int) ∧ (b k : Int) < 40 := by omega
      rw [if_pos c40, if_pos c40, if_neg b1n, hf 9 (b k) rfl]
      have go : okS α W (b k) = true → ∃ σ', Fx ([47], []) σ σ' ∧ f_X6_tell_j132 F (f_X6_tell_L82 F K W fu) W (nI k) (nI (b k)) σ = (if (insA b (okS α W) m).isSome = true then K σ' else some (0, σ')) ∧ ∀ f', insA b (okS α W) m = some f' → ∀ j, j < m → zg σ' 47 j = nI (f' j) := fun hok => by
        obtain ⟨-, hs⟩ := insA_ok k f hi |>.imp id id
        have hlt : ∀ j, j < k → f j < 40 := fun j hj => by
          have := (insA_ok k f hi).1 j hj
          unfold okS at this
          simp only [Bool.and_eq_true, decide_eq_true_eq] at this
          exact this.1
        obtain ⟨σ1, a1, a2, a3⟩ := e_insC (F := F) (k := k) q40 (by omega) k F f σ (Nat.le_refl k) (by omega) (fun j hj hne => ⟨hlt j (by omega), h47 j (by omega)⟩)
        have hS : insS b (okS α W) k f = insF (b k) k f := by unfold insS; rw [if_pos hok]
        unfold f_X6_tell_j132 f_X6_insert
        rw [a2, bnd_some]
        cases e : insF (b k) k f with
        | none =>
          rw [if_neg (show ¬ (none : Option (Nat → Nat)).isSome = true by simp), if_pos rfl]
          rw [hno (hS.trans e)]
          exact ⟨σ1, a1, rfl, fun f' h => by cases h⟩
        | some f1 =>
          rw [if_pos (show (some f1 : Option (Nat → Nat)).isSome = true from rfl), if_neg b1n, lt_eq, nI_1]
          obtain ⟨σ2, c1, c2, c3⟩ := ih fu (k + 1) f1 σ1 (by omega) (by omega) (hf.tr (a1.sub rfl)) ((a1 45 10 rfl).trans h10) (hst.trans (hS.trans e)) (fun j hj => a3 f1 e j (by omega))
          exact ⟨σ2, a1.tr c1, c2, c3⟩
      rcases hG.2.2.2.2.1 (b k) q40 with h9 | ⟨o, ho, h9, -⟩
      · rw [if_pos h9]
        exact go (by unfold okS; simp [q40, h9])
      · rw [if_neg (by rw [h9]; exact nI_m1 (by omega)), h9, e_isTold_n hn ((hf 3 8 rfl).trans hG.2.1) ho, bnd_some]
        by_cases qb : bt W o = true
        · rw [if_pos qb, if_neg b1n]
          exact go (by unfold okS; rw [h9, nI_clamp (by omega), qb]; simp [q40])
        · rw [if_neg qb, if_pos rfl]
          have hbad : ¬ okS α W (b k) = true := by
            unfold okS; rw [h9, nI_clamp (by omega)]
            simp [qb, nI_m1 (show o < 2 ^ 31 by omega)]
          rw [hno (by unfold insS; rw [if_neg hbad])]
          exact ⟨σ, Fx.rf, rfl, fun f' h => by cases h⟩
    · have c40 : ¬ ((0 : Int) ≤ (b k : Int) ∧ (b k : Int) < 40) := by omega
      rw [if_neg c40, if_neg c40, if_pos rfl]
      have hbad : ¬ okS α W (b k) = true := by unfold okS; simp [q40]
      rw [hno (by unfold insS; rw [if_neg hbad])]
      exact ⟨σ, Fx.rf, rfl, fun f' h => by cases h⟩
