/-! ===== loops; the model's seats ===== -/
def iter {α : Type} (step : Nat → α → α) : Nat → Nat → α → α
  | _, 0, a => a
  | g, m + 1, a => iter step (g + 1) m (step g a)
theorem for_loop {α β : Type} (L : Nat → α → Nat → β) (step : Nat → α → α) (k : α → β) (n : Nat) (h : ∀ f a g, g < n → L (f + 1) a g = L f (step g a) (g + 1)) (hx : ∀ f a, L (f + 1) a n = k a) : ∀ (m f : Nat) (a : α) (g : Nat), g + m = n → m < f → L f a g = k (iter step g m a) := by
  intro m
  induction m with
  | zero =>
    intro f a g hg hf
    obtain ⟨f, rfl⟩ : ∃ f', f = f' + 1 := ⟨f - 1, by omega⟩
    rw [show g = n by omega, hx]; rfl
  | succ m ih =>
    intro f a g hg hf
    obtain ⟨f, rfl⟩ : ∃ f', f = f' + 1 := ⟨f - 1, by omega⟩
    rw [h f a g (by omega), ih f _ (g + 1) (by omega) (by omega)]; rfl
theorem BG.pos {n : Nat} {α σ : zM} (h : IG n α) (b : BG n α σ) {g : Nat} (hg : g < n) : (zg α 5 g = 0 ∧ zg α 6 g = -1 ∧ zg σ 71 g = -2) ∨ (zg α 5 g = 1 ∧ zg α 6 g = -1 ∧ zg σ 71 g = -1) ∨ (zg α 5 g = 1 ∧ ∃ s, s < 40 ∧ zg α 6 g = nI s ∧ zg σ 71 g = nI s) := by
  obtain ⟨-, -, -, h4, -⟩ := h
  have hb := (b.2 g hg).2
  rcases h4 g hg with ⟨ha, h6⟩ | ⟨ha, h6 | ⟨s, hs, h6, -⟩⟩
  · rw [if_pos ha] at hb; exact Or.inl ⟨ha, h6, hb⟩
  · rw [if_neg (by rw [ha]; decide), h6] at hb; exact Or.inr (Or.inl ⟨ha, h6, hb⟩)
  · rw [if_neg (by rw [ha]; decide), h6] at hb; exact Or.inr (Or.inr ⟨ha, s, hs, h6, hb⟩)
theorem BG.s71 {n : Nat} {α σ : zM} (h : IG n α) (b : BG n α σ) {g s : Nat} (hg : g < n) (hs : s < 40) : zg σ 71 g = nI s ↔ zg α 6 g = nI s := by
  rcases b.pos h hg with ⟨-, h6, h7⟩ | ⟨-, h6, h7⟩ | ⟨-, t, ht, h6, h7⟩
  · rw [h6, h7]; exact ⟨fun q => absurd q.symm (nI_m2 (by omega)), fun q => absurd q.symm (nI_m1 (by omega))⟩
  · rw [h6, h7]
  · rw [h6, h7]
theorem e_sitsM {n : Nat} {α σ : zM} (h : IG n α) (b : BG n α σ) {g : Nat} (hg : g < n) : f_X12_sits (nI g) σ = some (if zg α 6 g = -1 then 0 else 1, σ) := by
  have hn := h.1
  unfold f_X12_sits
  rw [if_pos (zin_n (by omega) (by omega)), nI_clamp (by omega)]
  rcases b.pos h hg with ⟨-, h6, h7⟩ | ⟨-, h6, h7⟩ | ⟨-, t, ht, h6, h7⟩
  · rw [h6, h7]; rfl
  · rw [h6, h7]; rfl
  · rw [h6, h7, if_neg (nI_pos (by omega)), if_neg (nI_m1 (by omega))]
theorem e_guestAt {F n s : Nat} {α σ : zM} (hF : 17 ≤ F) (h : IG n α) (b : BG n α σ) (hs : s < 40) : f_X12_guestAt F (nI s) σ = some (zg α 9 s, σ) := by
  have hn := h.1
  have key : ∀ (m f g : Nat), g + m = n → m < f → (∀ g', g' < g → ¬ zg α 6 g' = nI s) → f_X12_guestAt_L2 F (fun s2 => some ((-1 : Int32), s2)) (nI s) f (nI g) σ = some (zg α 9 s, σ) := by
    intro m
    induction m with
    | zero =>
      intro f g hg hf hno
      obtain ⟨f, rfl⟩ : ∃ f', f = f' + 1 := ⟨f - 1, by omega⟩
      rw [f_X12_guestAt_L2, b.1, if_neg (by rw [nI_ltI (by omega) (by omega)]; omega)]
      rcases h.2.2.2.2.1 s hs with h9 | ⟨g', hg', h9, h6⟩
      · rw [h9]
      · exact absurd h6 (hno g' (by omega))
    | succ m ih =>
      intro f g hg hf hno
      obtain ⟨f, rfl⟩ : ∃ f', f = f' + 1 := ⟨f - 1, by omega⟩
      rw [f_X12_guestAt_L2, b.1, if_pos (by rw [nI_ltI (by omega) (by omega)]; omega), if_pos (zin_n (by omega) (by omega)), nI_clamp (by omega)]
      by_cases hq : zg σ 71 g = nI s
      · rw [if_pos hq, h.sit9 (by omega) hs ((b.s71 h (by omega) hs).mp hq)]
      · rw [if_neg hq, lt_eq, nI_1]
        exact ih f (g + 1) (by omega) (by omega) (fun g' hg' => by
          by_cases he : g' = g
          · subst he; exact fun q => hq ((b.s71 h (by omega) hs).mpr q)
          · exact hno g' (by omega))
  exact key n F 0 (by omega) (by omega) (fun _ h => absurd h (by omega))
/-! ===== heirs, likings, sitting, guests ===== -/
theorem bu {α β : Type} {r : α} {s : zM} {o : Option (α × zM)} {f : α → zM → Option β} (h : o = some (r, s)) : bnd o f = f r s := by rw [h]; rfl
theorem zg_zs (σ : zM) (k j k' j' : Nat) (v : Int32) : zg (zs σ k j v) k' j' = if k' = k ∧ j' = j then v else zg σ k' j' := by
  simp only [zg, zs]
  by_cases h1 : k' = k <;> by_cases h2 : j' = j <;> simp [h1, h2]
theorem a_heir {n : Nat} {σ : zM} (hn : n ≤ 16) (h3 : zg σ 3 8 = nI n) (v w : Int32) : f_X11_heir v w σ = some (if (0 ≤ v.toInt ∧ v.toInt < n) ∧ ¬ v = w ∧ (w = -1 ∨ (0 ≤ w.toInt ∧ w.toInt < n)) then (1, zs σ 7 v.toNatClampNeg w) else (0, σ)) := by
  unfold f_X11_heir f_X0_bequeath
  simp only [e_knows hn h3, bnd_some, b01]
  by_cases hv : 0 ≤ v.toInt ∧ v.toInt < n
  · have hz : zin v 16 = true := zin_i ⟨hv.1, by omega⟩
    simp only [hv, hz, and_self, if_true, true_and, lt_eq, bnd_some]
    by_cases hvw : v = w <;> by_cases hw1 : w = -1 <;> by_cases hw : 0 ≤ w.toInt ∧ w.toInt < n <;> first
      | (simp [hvw, hw1, hw]; done)
      | (simp [hvw, hw1, hw]; split <;> rfl)
  · simp [hv]
theorem m_heir {n : Nat} {σ : zM} (hn : n ≤ 16) (h3 : zg σ 69 0 = nI n) (v w : Int32) : f_X12_heir v w σ = some (if (0 ≤ v.toInt ∧ v.toInt < n) ∧ ¬ v = w ∧ (w = -1 ∨ (0 ≤ w.toInt ∧ w.toInt < n)) then (1, zs σ 73 v.toNatClampNeg w) else (0, σ)) := by
  unfold f_X12_heir f_X12_heir_j21
  simp only [e_isGuest hn h3, bnd_some, b01]
  by_cases hv : 0 ≤ v.toInt ∧ v.toInt < n
  · have hz : zin v 16 = true := zin_i ⟨hv.1, by omega⟩
    simp only [hv, hz, and_self, if_true, true_and, lt_eq]
    by_cases hvw : v = w <;> by_cases hw1 : w = -1 <;> by_cases hw : 0 ≤ w.toInt ∧ w.toInt < n <;> first
      | (simp [hvw, hw1, hw]; done)
      | (simp [hvw, hw1, hw]; split <;> rfl)
  · simp [hv]
