/-! ===== the same, by the model ===== -/
theorem v_b40 : ∀ b, b < 256 → ((b < 40 → (nI b).toInt8.toInt32 = nI b) ∧ (40 ≤ b → ¬ ((0 : Int) ≤ ((nI b).toInt8.toInt32).toInt ∧ ((nI b).toInt8.toInt32).toInt < 40))) := by decide +kernel
theorem e_take130 {F n : Nat} {W : Int32} {α σ : zM} {C : zM → Option (Int32 × zM)} (hG : IG n α) (hB : BG n α σ) (hW : ∀ i, n ≤ i → i < 32 → bt W i = false) : ∀ (d fu g : Nat), g + d = 16 → d < fu → (∀ x, x < g → x < n → bt W x = true → zg α 5 x = 1) → ((∃ x, x < n ∧ bt W x = true ∧ zg α 5 x = 0) ∧ f_X12_takesSeats_L130 F C W fu (nI g) σ = some (0, σ)) ∨ ((∀ x, x < n → bt W x = true → zg α 5 x = 1) ∧ f_X12_takesSeats_L130 F C W fu (nI g) σ = C σ) := by
  have hn := hG.1
  intro d
  induction d with
  | zero =>
    intro fu g hg hfu hal
    obtain ⟨fu, rfl⟩ : ∃ f', fu = f' + 1 := ⟨fu - 1, by omega⟩
    refine Or.inr ⟨fun x hx hb => hal x (by omega) hx hb, ?_⟩
    rw [f_X12_takesSeats_L130, if_neg (by rw [show (16 : Int32) = nI 16 from rfl, nI_ltI (by omega) (by omega)]; omega)]
  | succ d ih =>
    intro fu g hg hfu hal
    obtain ⟨fu, rfl⟩ : ∃ f', fu = f' + 1 := ⟨fu - 1, by omega⟩
    have h16 : nI g < (16 : Int32) := (nI_ltI (b := 16) (by omega) (by omega)).mpr (by omega)
    by_cases qb : bt W g = true
    · have hgn : g < n := by
        by_cases q : g < n
        · exact q
        · rw [hW g (by omega) (by omega)] at qb; cases qb
      rw [f_X12_takesSeats_L130, if_pos h16, if_pos ((b_ask1 W (by omega)).mpr qb), if_pos (zin_n (by omega) (by omega)), nI_clamp (by omega), lt_eq, nI_1]
      rcases hB.pos hG hgn with ⟨h5, -, h7⟩ | ⟨h5, -, h7⟩ | ⟨h5, s, hs, -, h7⟩
      · rw [if_pos h7]; exact Or.inl ⟨⟨g, hgn, qb, h5⟩, rfl⟩
      · rw [if_neg (by rw [h7]; decide)]
        exact ih fu (g + 1) (by omega) (by omega) (fun x hx hxn hb => by
          by_cases qx : x = g
          · rw [qx]; exact h5
          · exact hal x (by omega) hxn hb)
      · rw [if_neg (by rw [h7]; exact nI_m2 (by omega))]
        exact ih fu (g + 1) (by omega) (by omega) (fun x hx hxn hb => by
          by_cases qx : x = g
          · rw [qx]; exact h5
          · exact hal x (by omega) hxn hb)
    · rw [f_X12_takesSeats_L130, if_pos h16, if_neg (fun w => qb ((b_ask1 W (by omega)).mp w)), lt_eq, nI_1]
      exact ih fu (g + 1) (by omega) (by omega) (fun x hx hxn hb => by
        by_cases qx : x = g
        · rw [qx] at hb; exact absurd hb qb
        · exact hal x (by omega) hxn hb)
theorem e_take2 {F n m t : Nat} {W : Int32} {b : Nat → Nat} {α σ0 : zM} {C : zM → Option (Int32 × zM)} (hF : 20 ≤ F) (hG : IG n α) (hB : BG n α σ0) (h7 : m ≤ 7) (ht : m ≤ t) (hT : t ≤ 220) (hb : ∀ i, i < t → b i < 256 ∧ zg σ0 74 i = (nI (b i)).toInt8.toInt32) : ∀ (d fu k : Nat) (f : Nat → Nat) (σ : zM), k + d = m → d < fu → Fx ([98], [(69, 7)]) σ0 σ → insA b (okS α W) k = some f → (∀ j, j < k → zg σ 98 j = nI (f j)) → ∃ σ', Fx ([98], []) σ σ' ∧ f_X12_takesSeats_L2 F C W (nI m) fu (nI k) σ = (if (insA b (okS α W) m).isSome = true then C σ' else some (0, σ')) ∧ ∀ f', insA b (okS α W) m = some f' → ∀ j, j < m → zg σ' 98 j = nI (f' j) := by
  have hn := hG.1
  intro d
  induction d with
  | zero =>
    intro fu k f σ hk hfu hf hi h47
    obtain ⟨fu, rfl⟩ : ∃ f', fu = f' + 1 := ⟨fu - 1, by omega⟩
    have : k = m := by omega
    subst this
    refine ⟨σ, Fx.rf, ?_, fun f' hf' => ?_⟩
    · rw [f_X12_takesSeats_L2, if_neg (by rw [nI_ltI (by omega) (by omega)]; omega), hi]; rfl
    · rw [hi] at hf'; rw [← Option.some.inj hf']; exact h47
  | succ d ih =>
    intro fu k f σ hk hfu hf hi h47
    obtain ⟨fu, rfl⟩ : ∃ f', fu = f' + 1 := ⟨fu - 1, by omega⟩
    obtain ⟨hb1, hb2⟩ := hb k (by omega)
    obtain ⟨v1, v2⟩ := v_b40 (b k) hb1
    have hst : insA b (okS α W) (k + 1) = insS b (okS α W) k f := by rw [insA, hi]; rfl
    have hno : insS b (okS α W) k f = none → insA b (okS α W) m = none := fun h => by
      have := insA_none (hst.trans h) (m - (k + 1))
      rw [show k + 1 + (m - (k + 1)) = m by omega] at this; exact this
    have hk' : nI k < nI m := (nI_ltI (by omega) (by omega)).mpr (by omega)
    rw [f_X12_takesSeats_L2, if_pos hk', if_pos (zin_n (by omega) (by omega)), nI_clamp (by omega), hf 74 k rfl, hb2, lt_eq, e_isSeatM, bnd_some]
    by_cases q40 : b k < 40
    · rw [v1 q40, nI_toInt (show b k < 2 ^ 31 by omega), if_pos (show (0 : Int) ≤ (b k : Int) ∧ (b k : Int) < 40 by omega), if_neg b1n, e_guestAt (by omega) hG (hB.si hf rfl) q40, bnd_some]
      have go : okS α W (b k) = true → ∃ σ', Fx ([98], []) σ σ' ∧ f_X12_takesSeats_L53 F (fun y9 s8 =>
              if zin y9 7 = true then
                lt (zs s8 98 (y9).toNatClampNeg (nI (b k))) (fun s10 =>
                lt (nI k + (1 : Int32)) (fun y11 =>
                f_X12_takesSeats_L2 F C W (nI m) fu y11 s10))
              else none) W (nI m) (nI k) (nI (b k)) F (nI k) σ = (if (insA b (okS α W) m).isSome = true then C σ' else some (0, σ')) ∧ ∀ f', insA b (okS α W) m = some f' → ∀ j, j < m → zg σ' 98 j = nI (f' j) := fun hok => by
        have hlt : ∀ j, j < k → f j < 40 := fun j hj => by
          have := (insA_ok k f hi).1 j hj
          unfold okS at this
          simp only [Bool.and_eq_true, decide_eq_true_eq] at this
          exact this.1
        obtain ⟨σ1, a1, a2, a3⟩ := e_insM (F := F) (k := k) (W := W) (N := nI m) (C := fun s10 => lt (nI k + (1 : Int32)) (fun y11 => f_X12_takesSeats_L2 F C W (nI m) fu y11 s10)) q40 (by omega) k F f σ (Nat.le_refl k) (by omega) (fun j hj hne => ⟨hlt j (by omega), h47 j (by omega)⟩)
        have hS : insS b (okS α W) k f = insF (b k) k f := by unfold insS; rw [if_pos hok]
        rw [a2]
        cases e : insF (b k) k f with
        | none =>
          rw [if_neg (show ¬ (none : Option (Nat → Nat)).isSome = true by simp)]
          rw [hno (hS.trans e)]
          exact ⟨σ1, a1, rfl, fun f' h => by cases h⟩
        | some f1 =>
          rw [if_pos (show (some f1 : Option (Nat → Nat)).isSome = true from rfl), lt_eq, nI_1]
          obtain ⟨σ2, c1, c2, c3⟩ := ih fu (k + 1) f1 σ1 (by omega) (by omega) (hf.tr (a1.sub rfl)) (hst.trans (hS.trans e)) (fun j hj => a3 f1 e j (by omega))
          exact ⟨σ2, a1.tr c1, c2, c3⟩
      rcases hG.2.2.2.2.1 (b k) q40 with h9 | ⟨o, ho, h9, -⟩
      · rw [if_pos h9]
        exact go (by unfold okS; simp [q40, h9])
      · rw [if_neg (by rw [h9]; exact nI_m1 (by omega)), h9]
        by_cases qb : bt W o = true
        · rw [if_neg (fun w => by rw [(b_ask0 W (by omega)).mp w] at qb; cases qb)]
          exact go (by unfold okS; rw [h9, nI_clamp (by omega), qb]; simp [q40])
        · rw [if_pos ((b_ask0 W (by omega)).mpr (by simpa using qb))]
          have hbad : ¬ okS α W (b k) = true := by
            unfold okS; rw [h9, nI_clamp (by omega)]
            simp [qb, nI_m1 (show o < 2 ^ 31 by omega)]
          rw [hno (by unfold insS; rw [if_neg hbad])]
          exact ⟨σ, Fx.rf, rfl, fun f' h => by cases h⟩
    · rw [if_neg (v2 (by omega)), if_pos rfl]
      have hbad : ¬ okS α W (b k) = true := by unfold okS; simp [q40]
      rw [hno (by unfold insS; rw [if_neg hbad])]
      exact ⟨σ, Fx.rf, rfl, fun f' h => by cases h⟩
