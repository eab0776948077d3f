/-! ===== all orders, one after the other ===== -/
theorem iter_add {α : Type} (step : Nat → α → α) : ∀ a b g x, iter step g (a + b) x = iter step (g + a) b (iter step g a x) := by
  intro a
  induction a with
  | zero => intro b g x; rw [Nat.zero_add]; rfl
  | succ a ih =>
    intro b g x
    rw [show a + 1 + b = (a + b) + 1 by omega, iter, ih, iter, show g + 1 + a = g + (a + 1) by omega]
theorem iter_ext {α : Type} {s1 s2 : Nat → α → α} : ∀ m g x, (∀ i y, g ≤ i → i < g + m → s1 i y = s2 i y) → iter s1 g m x = iter s2 g m x := by
  intro m
  induction m with
  | zero => intro g x _; rfl
  | succ m ih =>
    intro g x h
    rw [iter, iter, h g x (by omega) (by omega)]
    exact ih (g + 1) _ (fun i y h1 h2 => h i y (by omega) (by omega))
theorem iter_shift {α : Type} {s1 s2 : Nat → α → α} (c : Nat) : ∀ m g x, (∀ i y, g ≤ i → i < g + m → s1 (c + i) y = s2 i y) → iter s1 (c + g) m x = iter s2 g m x := by
  intro m
  induction m with
  | zero => intro g x _; rfl
  | succ m ih =>
    intro g x h
    rw [iter, iter, h g x (by omega) (by omega)]
    exact ih (g + 1) _ (fun i y h1 h2 => h i y (by omega) (by omega))
abbrev zPm : Type := Nat → Nat
def pput (pm : zPm) (k i : Nat) : zPm := fun j => if j = k then i else pm j
def ad (u : Nat → Bool) (i : Nat) : Nat → Bool := fun x => u x || decide (x = i)
/-- so many below that are not used -/
def fre (u : Nat → Bool) : Nat → Nat
  | 0 => 0
  | i + 1 => fre u i + (if u i = true then 0 else 1)
def dfs {β : Type} (m : Nat) (stp : zPm → β → β) : Nat → Nat → (Nat → Bool) → zPm → β → β
  | 0, _, _, pm, B => stp pm B
  | r + 1, k, u, pm, B => iter (fun i B => if u i = true then B else dfs m stp r (k + 1) (ad u i) (pput pm k i) B) 0 m B
/-- the unused one at a place, from q on -/
def nth (u : Nat → Bool) : Nat → Nat → Nat → Nat
  | 0, _, q => q
  | f + 1, skip, q => if u q = true then nth u f skip (q + 1) else if 0 < skip then nth u f (skip - 1) (q + 1) else q
def fac : Nat → Nat
  | 0 => 1
  | r + 1 => (r + 1) * fac r
theorem fac_pos : ∀ r, 0 < fac r := by
  intro r
  induction r with
  | zero => exact Nat.one_pos
  | succ r ih => rw [fac]; exact Nat.mul_pos (by omega) ih
def dcd (m : Nat) : Nat → Nat → (Nat → Bool) → zPm → Nat → zPm
  | 0, _, _, pm, _ => pm
  | r + 1, k, u, pm, left => dcd m r (k + 1) (ad u (nth u m (left / fac r) 0)) (pput pm k (nth u m (left / fac r) 0)) (left % fac r)
theorem nth_of {u : Nat → Bool} {i : Nat} (hu : u i = false) : ∀ (d f q skip : Nat), q + d = i → d < f → skip + fre u q = fre u i → nth u f skip q = i := by
  intro d
  induction d with
  | zero =>
    intro f q skip hq hf hs
    obtain ⟨f, rfl⟩ : ∃ f', f = f' + 1 := ⟨f - 1, by omega⟩
    have : q = i := by omega
    subst this
    have : skip = 0 := by omega
    subst this
    rw [nth, if_neg (by rw [hu]; simp), if_neg (by omega)]
  | succ d ih =>
    intro f q skip hq hf hs
    obtain ⟨f, rfl⟩ : ∃ f', f = f' + 1 := ⟨f - 1, by omega⟩
    have mono : ∀ e x, fre u x ≤ fre u (x + e) := by
      intro e
      induction e with
      | zero => intro x; exact Nat.le_refl _
      | succ e ihe => intro x; rw [← Nat.add_assoc, fre]; have := ihe x; omega
    rw [nth]
    by_cases hc : u q = true
    · rw [if_pos hc]
      exact ih f (q + 1) skip (by omega) (by omega) (by rw [fre, if_pos hc]; omega)
    · rw [if_neg hc]
      have h1 : fre u (q + 1) = fre u q + 1 := by rw [fre, if_neg hc]
      have h2 := mono d (q + 1)
      rw [show q + 1 + d = i by omega] at h2
      rw [if_pos (by omega)]
      exact ih f (q + 1) (skip - 1) (by omega) (by omega) (by omega)
theorem fre_ad {u : Nat → Bool} {i : Nat} (hu : u i = false) : ∀ m, fre (ad u i) m + (if i < m then 1 else 0) = fre u m := by
  intro m
  induction m with
  | zero => rfl
  | succ m ih =>
    rw [fre, fre]
    by_cases h : m = i
    · subst h
      have e : ad u m m = true := by unfold ad; simp
      rw [if_neg (show ¬ m < m by omega)] at ih
      rw [if_pos e, if_neg (show ¬ u m = true by rw [hu]; simp), if_pos (show m < m + 1 by omega)]
      omega
    · have e : ad u i m = u m := by unfold ad; rw [decide_eq_false h, Bool.or_false]
      rw [e]
      by_cases h2 : i < m
      · rw [if_pos h2] at ih; rw [if_pos (show i < m + 1 by omega)]; omega
      · rw [if_neg h2] at ih; rw [if_neg (show ¬ i < m + 1 by omega)]; omega
theorem dfs_codes {β : Type} {m : Nat} {stp : zPm → β → β} : ∀ (r k : Nat) (u : Nat → Bool) (pm : zPm) (B : β), fre u m = r → iter (fun left B => stp (dcd m r k u pm left) B) 0 (fac r) B = dfs m stp r k u pm B := by
  intro r
  induction r with
  | zero => intro k u pm B _; rfl
  | succ r ih =>
    intro k u pm B hr
    have hf := fac_pos r
    have key : ∀ i, i ≤ m → iter (fun left B => stp (dcd m (r + 1) k u pm left) B) 0 (fre u i * fac r) B = iter (fun i B => if u i = true then B else dfs m stp r (k + 1) (ad u i) (pput pm k i) B) 0 i B := by
      intro i
      induction i with
      | zero => intro _; rw [fre, Nat.zero_mul]; rfl
      | succ i ihi =>
        intro hi
        rw [iter_add _ i 1 0 B, ← ihi (by omega), fre]
        by_cases hc : u i = true
        · rw [if_pos hc]
          show _ = (if u (0 + i) = true then _ else _)
          simp only [Nat.zero_add, Nat.add_zero]
          rw [if_pos hc]
        · have hu : u i = false := by simpa using hc
          rw [if_neg hc, Nat.add_mul, Nat.one_mul, iter_add]
          show _ = (if u (0 + i) = true then _ else _)
          simp only [Nat.zero_add]
          rw [if_neg hc, ← ih (k + 1) (ad u i) (pput pm k i) _ (by
            have := fre_ad hu m
            rw [if_pos (show i < m by omega)] at this; omega)]
          rw [show fre u i * fac r = fre u i * fac r + 0 by omega]
          refine iter_shift (fre u i * fac r) (fac r) 0 _ (fun left y _ hl => ?_)
          have e1 : (fre u i * fac r + left) / fac r = fre u i := by
            rw [Nat.mul_comm, Nat.mul_add_div hf, Nat.div_eq_of_lt (by omega)]; omega
          have e2 : (fre u i * fac r + left) % fac r = left := by
            rw [Nat.mul_comm, Nat.mul_add_mod, Nat.mod_eq_of_lt (by omega)]
          have e3 : nth u m (fre u i) 0 = i := nth_of hu i m 0 (fre u i) (by omega) (by omega) (by rw [fre]; omega)
          show stp (dcd m (r + 1) k u pm (fre u i * fac r + left)) y = _
          rw [dcd, e1, e2, e3]
    rw [fac, dfs]
    have w := key m (Nat.le_refl m)
    rw [hr] at w
    exact w
