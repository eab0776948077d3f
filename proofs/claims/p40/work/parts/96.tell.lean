/-! ===== who tells a rumour; moves home ===== -/
def TL (can : Nat → Nat → Nat → Bool) (n g0 : Nat) (S : zR) : Prop := ∀ h x, S.1 h = some x → ¬ h = g0 → ∃ f m y, S.2 h = nI f ∧ f < n ∧ x = m + 1 ∧ m < 999 ∧ S.1 f = some y ∧ y ≤ m ∧ can f h m = true
theorem TL.up {can : Nat → Nat → Nat → Bool} {n g0 f m : Nat} {S : zR} (hn : ∀ f g m, can f g m = true → f < n) (hm : m < 999) (he : heM S f m = true) (h : TL can n g0 S) : TL can n g0 (upR (fun g => can f g m) f m S) := by
  obtain ⟨y0, hy0, hym⟩ : ∃ y, S.1 f = some y ∧ y ≤ m := by
    unfold heM at he
    cases hf : S.1 f with
    | none => rw [hf] at he; cases he
    | some y => rw [hf] at he; exact ⟨y, rfl, by simpa using he⟩
  have keep : ∀ k y, S.1 k = some y → (upR (fun g => can f g m) f m S).1 k = some y := by
    intro k y hk
    unfold upR
    show (if S.1 k = none ∧ can f k m = true then _ else _) = _
    rw [if_neg (fun w => by rw [hk] at w; cases w.1)]; exact hk
  intro k x hk hne
  by_cases q : S.1 k = none ∧ can f k m = true
  · have e1 : (upR (fun g => can f g m) f m S).1 k = some (m + 1) := if_pos q
    have e2 : (upR (fun g => can f g m) f m S).2 k = nI f := if_pos q
    rw [e1] at hk; cases hk
    exact ⟨f, m, y0, e2, hn _ _ _ q.2, rfl, hm, keep f y0 hy0, hym, q.2⟩
  · have e1 : (upR (fun g => can f g m) f m S).1 k = S.1 k := if_neg q
    have e2 : (upR (fun g => can f g m) f m S).2 k = S.2 k := if_neg q
    rw [e1] at hk
    obtain ⟨f', m', y', a1, a2, a3, a4, a5, a6, a7⟩ := h k x hk hne
    exact ⟨f', m', y', e2.trans a1, a2, a3, a4, keep f' y' a5, a6, a7⟩
theorem TL.row {can : Nat → Nat → Nat → Bool} {n g0 m : Nat} (hn : ∀ f g m, can f g m = true → f < n) (hm : m < 999) : ∀ (k f : Nat) (S : zR), TL can n g0 S → TL can n g0 (rowM can m k f S) := by
  intro k
  induction k with
  | zero => intro f S h; exact h
  | succ k ih =>
    intro f S h
    rw [rowM]
    refine ih (f + 1) _ ?_
    split
    · rename_i he; exact h.up hn hm he
    · exact h
theorem TL.it {can : Nat → Nat → Nat → Bool} {n g0 : Nat} (hn : ∀ f g m, can f g m = true → f < n) : ∀ (j m : Nat) (S : zR), m + j ≤ 999 → TL can n g0 S → TL can n g0 (itM can n j m S) := by
  intro j
  induction j with
  | zero => intro m S _ h; exact h
  | succ j ih =>
    intro m S hj h
    rw [itM]
    exact ih (m + 1) _ (by omega) (TL.row hn (by omega) n 0 S h)
theorem tell_ok {α : zM} {p c n r g h mi : Nat} (hn : n ≤ 16) (hG : IG n α) (hg : g < n) (hm : mi < 100) (h0 : ¬ RV α p c n r g h mi < 0) : ∃ f, f < n ∧ RV α p c n r g h mi = nI f ∧ ¬ f = h ∧ ¬ zg α 6 g = -1 ∧ ¬ zg α 6 f = -1 ∧ ¬ zg α 6 h = -1 ∧ (∃ y m, (SR α p c n r g mi).1 f = some y ∧ (SR α p c n r g mi).1 h = some (m + 1) ∧ y ≤ m ∧ m < 999) ∧ nxt (sN α f) (sN α h) = true ∧ alw α p c f (sN α f) h (sN α h) = true := by
  have hown := st_own (can := canp α p c n r) (n := n) (f := g) (mi := mi)
  have hT : TL (canp α p c n r) n g (SR α p c n r g mi) := by
    refine TL.it canp_f (999 - mi) mi _ (by omega) (fun k x hk hne => ?_)
    have hk' : (if k = g then some mi else none) = some x := hk
    rw [if_neg hne] at hk'
    cases hk'
  unfold RV at h0 ⊢
  by_cases h6 : zg α 6 g = -1
  · rw [if_pos h6] at h0; exact absurd (by decide) h0
  rw [if_neg h6] at h0 ⊢
  cases hh : (SR α p c n r g mi).1 h with
  | none => rw [hh, if_pos rfl] at h0; exact absurd (by decide) h0
  | some x =>
    have hx : ¬ (some x : Option Nat) = none := by simp
    rw [hh, if_neg hx] at h0
    rw [if_neg hx]
    by_cases hgh : h = g
    · subst hgh
      have : (SR α p c n r h mi).2 h = -1 := hown.2
      rw [this] at h0
      exact absurd (by decide) h0
    · obtain ⟨f, m, y, a1, a2, a3, a4, a5, a6, a7⟩ := hT h x hh hgh
      subst a3
      unfold canp at a7
      simp only [Bool.and_eq_true, decide_eq_true_eq, Bool.not_eq_true', decide_eq_false_iff_not] at a7
      obtain ⟨-, -, b1, b2, b3, -, -, b4⟩ := a7
      refine ⟨f, a2, a1, ?_, h6, b1, b2, ⟨y, m, a5, rfl, a6, a4⟩, b3, b4⟩
      rintro rfl
      rw [hh] at a5
      cases a5
      omega
/-! strays, home -/
theorem v_strays {F n : Nat} {σ : zM} (hF : 22 ≤ F) (hG : IG n σ) : f_X11_strays F σ = some (strI σ n 0 0, σ) := by
  have hn := hG.1
  have kX : ∀ (m fu g : Nat) (acc : Int32), g + m = n → m < fu → f_X11_strays_L4 F (fun y9 s8 => some (y9, s8)) fu acc (nI g) σ = some (strI σ m g acc, σ) := by
    intro m
    induction m with
    | zero =>
      intro fu g acc hg hfu
      obtain ⟨fu, rfl⟩ : ∃ f', fu = f' + 1 := ⟨fu - 1, by omega⟩
      rw [f_X11_strays_L4, f_X0_number, bnd_some, hG.2.1, if_neg (by rw [nI_ltI (by omega) (by omega)]; omega)]; rfl
    | succ m ih =>
      intro fu g acc hg hfu
      obtain ⟨fu, rfl⟩ : ∃ f', fu = f' + 1 := ⟨fu - 1, by omega⟩
      rw [f_X11_strays_L4, f_X0_number, bnd_some, hG.2.1, if_pos (by rw [nI_ltI (by omega) (by omega)]; omega), e_isStrayA hG (show g < n by omega), bnd_some, lt_eq, lt_eq, lt_eq, nI_1, strI, b01]
      split <;> exact ih fu (g + 1) _ (by omega) (by omega)
  exact kX n F 0 0 (by omega) (by omega)
theorem v_home {F n : Nat} {σ : zM} (hF : 22 ≤ F) (hG : IG n σ) : f_X11_home F σ = some (homI σ n 0 0 0, σ) := by
  have hn := hG.1
  have kX : ∀ (m fu g : Nat) (z o : Int32), g + m = n → m < fu → f_X11_home_L6 F (fun y15 y16 s14 => some ((if y15 < y16 then y16 else y15), s14)) fu z o (nI g) σ = some (homI σ m g z o, σ) := by
    intro m
    induction m with
    | zero =>
      intro fu g z o hg hfu
      obtain ⟨fu, rfl⟩ : ∃ f', fu = f' + 1 := ⟨fu - 1, by omega⟩
      rw [f_X11_home_L6, f_X0_number, bnd_some, hG.2.1, if_neg (by rw [nI_ltI (by omega) (by omega)]; omega)]; rfl
    | succ m ih =>
      intro fu g z o hg hfu
      obtain ⟨fu, rfl⟩ : ∃ f', fu = f' + 1 := ⟨fu - 1, by omega⟩
      have hst := e_isStrayA hG (show g < n by omega)
      rw [f_X11_home_L6, f_X0_number, bnd_some, hG.2.1, if_pos (by rw [nI_ltI (by omega) (by omega)]; omega), hst, bnd_some, b01, homI]
      unfold f_X11_home_j45
      simp only [hst, bnd_some, b01, lt_eq, nI_1]
      rw [e_landOf_n hn hG.2.1 (show g < n by omega), bnd_some]
      by_cases h1 : strB σ g = true
      · simp only [if_pos h1]
        by_cases h2 : zg σ 4 g = 0
        · simp only [if_pos h2]; exact ih fu (g + 1) _ _ (by omega) (by omega)
        · simp only [if_neg h2, hst, bnd_some, b01, if_pos h1]; exact ih fu (g + 1) _ _ (by omega) (by omega)
      · simp only [if_neg h1]; exact ih fu (g + 1) _ _ (by omega) (by omega)
  exact kX n F 0 0 0 (by omega) (by omega)
def cnt (p : Nat → Bool) : Nat → Nat → Nat
  | 0, _ => 0
  | m + 1, g => (p g).toNat + cnt p m (g + 1)
theorem cnt_le (p : Nat → Bool) : ∀ m g, cnt p m g ≤ m := by
  intro m
  induction m with
  | zero => intro g; exact Nat.le_refl 0
  | succ m ih =>
    intro g
    have h1 := ih (g + 1)
    have h2 : (p g).toNat ≤ 1 := Bool.toNat_le (p g)
    rw [cnt]; omega
theorem cnt_add {p q r : Nat → Bool} (h : ∀ g, (p g).toNat + (q g).toNat = (r g).toNat) : ∀ m g, cnt p m g + cnt q m g = cnt r m g := by
  intro m
  induction m with
  | zero => intro g; rfl
  | succ m ih =>
    intro g
    have h1 := ih (g + 1)
    have h2 := h g
    rw [cnt, cnt, cnt]; omega
theorem homI_n {σ : zM} : ∀ (m g z o : Nat), z + m ≤ 100 → o + m ≤ 100 → homI σ m g (nI z) (nI o) = nI (max (z + cnt (fun g => strB σ g && decide (zg σ 4 g = 0)) m g) (o + cnt (fun g => strB σ g && !decide (zg σ 4 g = 0)) m g)) := by
  intro m
  induction m with
  | zero =>
    intro g z o h1 h2
    rw [homI, cnt, cnt, Nat.add_zero, Nat.add_zero]
    by_cases h : z < o
    · rw [if_pos ((nI_ltI (by omega) (by omega)).mpr h), show max z o = o by omega]
    · rw [if_neg (fun w => h ((nI_ltI (by omega) (by omega)).mp w)), show max z o = z by omega]
  | succ m ih =>
    intro g z o h1 h2
    rw [homI, cnt, cnt, nI_1, nI_1]
    by_cases hs : strB σ g = true
    · rw [if_pos hs]
      by_cases h4 : zg σ 4 g = 0
      · rw [if_pos h4, ih (g + 1) (z + 1) o (by omega) (by omega)]
        simp only [hs, h4, decide_true, Bool.and_self, Bool.not_true, Bool.and_false, Bool.toNat_true, Bool.toNat_false]
        congr 1; omega
      · rw [if_neg h4, ih (g + 1) z (o + 1) (by omega) (by omega)]
        simp only [hs, h4, decide_false, Bool.and_self, Bool.not_false, Bool.and_false, Bool.toNat_true, Bool.toNat_false]
        congr 1; omega
    · rw [if_neg hs, ih (g + 1) z o (by omega) (by omega)]
      have hs' : strB σ g = false := by simpa using hs
      simp only [hs', Bool.false_and, Bool.toNat_false]
      congr 1; omega
def mk8 (b0 b1 b2 b3 b4 b5 b6 b7 : Bool) : Int32 :=
  let w : Nat → Int32 → Bool → Int32 := fun g acc b => if b = true then acc ||| ((1 : Int32) <<< (nI g &&& 31)) else acc
  w 7 (w 6 (w 5 (w 4 (w 3 (w 2 (w 1 (w 0 0 b0) b1) b2) b3) b4) b5) b6) b7
def w8 (b0 b1 b2 b3 b4 b5 b6 b7 : Bool) : Nat := b0.toNat + 2 * b1.toNat + 4 * b2.toNat + 8 * b3.toNat + 16 * b4.toNat + 32 * b5.toNat + 64 * b6.toNat + 128 * b7.toNat
theorem bits8 : ∀ b0 b1 b2 b3 b4 b5 b6 b7 : Bool, mk8 b0 b1 b2 b3 b4 b5 b6 b7 = nI (w8 b0 b1 b2 b3 b4 b5 b6 b7) ∧ w8 b0 b1 b2 b3 b4 b5 b6 b7 < 65536 ∧ c8 (w8 b0 b1 b2 b3 b4 b5 b6 b7 / 256) + c8 (w8 b0 b1 b2 b3 b4 b5 b6 b7 % 256) = b0.toNat + (b1.toNat + (b2.toNat + (b3.toNat + (b4.toNat + (b5.toNat + (b6.toNat + (b7.toNat + 0))))))) := by decide +kernel
theorem strI_8 (σ : zM) : strI σ 8 0 0 = mk8 (strB σ 0) (strB σ 1) (strB σ 2) (strB σ 3) (strB σ 4) (strB σ 5) (strB σ 6) (strB σ 7) := rfl
theorem v_count (σ s : zM) : f_J6_bitCount_0f7a4 (strI σ 8 0 0) s = some (nI (cnt (strB σ) 8 0), s) := by
  obtain ⟨h1, h2, h3⟩ := bits8 (strB σ 0) (strB σ 1) (strB σ 2) (strB σ 3) (strB σ 4) (strB σ 5) (strB σ 6) (strB σ 7)
  rw [strI_8, h1, e_bitCount h2, h3]
  rfl
theorem v_homes (σ : zM) : ∃ x, homI σ 8 0 0 0 = nI x ∧ x ≤ cnt (strB σ) 8 0 ∧ cnt (strB σ) 8 0 ≤ 2 * x ∧ x ≤ 8 := by
  have h := homI_n (σ := σ) 8 0 0 0 (by omega) (by omega)
  have h2 := cnt_add (p := fun g => strB σ g && decide (zg σ 4 g = 0)) (q := fun g => strB σ g && !decide (zg σ 4 g = 0)) (r := strB σ) (fun g => by
    cases strB σ g <;> cases decide (zg σ 4 g = 0) <;> rfl) 8 0
  have l1 := cnt_le (strB σ) 8 0
  exact ⟨_, h, by omega, by omega, by omega⟩
