/-! ===== passing by minutes: rows of minutes and of who told it ===== -/
abbrev zR : Type := (Nat → Option Nat) × (Nat → Int32)
def upR (C : Nat → Bool) (f m : Nat) (S : zR) : zR := (fun g => if S.1 g = none ∧ C g = true then some (m + 1) else S.1 g, fun g => if S.1 g = none ∧ C g = true then nI f else S.2 g)
def heM (S : zR) (f m : Nat) : Bool := match S.1 f with
  | some x => decide (x ≤ m)
  | none => false
def rowA (can : Nat → Nat → Nat → Bool) (m : Nat) : Nat → Nat → zR → zR
  | 0, _, S => S
  | k + 1, f, S => rowA can m k (f + 1) (if S.1 f = some m then upR (fun g => can f g m) f m S else S)
def rowM (can : Nat → Nat → Nat → Bool) (m : Nat) : Nat → Nat → zR → zR
  | 0, _, S => S
  | k + 1, f, S => rowM can m k (f + 1) (if heM S f m = true then upR (fun g => can f g m) f m S else S)
def itM (can : Nat → Nat → Nat → Bool) (n : Nat) : Nat → Nat → zR → zR
  | 0, _, S => S
  | j + 1, m, S => itM can n j (m + 1) (rowM can m n 0 S)
theorem upR_no {C : Nat → Bool} {f m : Nat} {S : zR} (h : ∀ g, S.1 g = none → C g = false) : upR C f m S = S := by
  unfold upR
  have h1 : ∀ g, ¬ (S.1 g = none ∧ C g = true) := fun g q => by rw [h g q.1] at q; exact Bool.noConfusion q.2
  simp only [if_neg (h1 _)]
theorem upR_two {C D : Nat → Bool} {f m : Nat} {S : zR} : upR D f m (upR C f m S) = upR (fun g => C g || D g) f m S := by
  unfold upR
  refine Prod.ext (funext fun g => ?_) (funext fun g => ?_)
  · dsimp only
    by_cases h : S.1 g = none <;> by_cases hc : C g = true <;> by_cases hd : D g = true <;> simp [h, hc, hd]
  · dsimp only
    by_cases h : S.1 g = none <;> by_cases hc : C g = true <;> by_cases hd : D g = true <;> simp [h, hc, hd]
/-- what grows in one minute -/
def GR (m : Nat) (S S' : zR) : Prop := ∀ g, (S'.1 g = S.1 g ∧ S'.2 g = S.2 g) ∨ (S.1 g = none ∧ S'.1 g = some (m + 1))
theorem GR.rf {m : Nat} {S : zR} : GR m S S := fun _ => Or.inl ⟨rfl, rfl⟩
theorem GR.tr {m : Nat} {S S1 S2 : zR} (h1 : GR m S S1) (h2 : GR m S1 S2) : GR m S S2 := by
  intro g
  rcases h1 g with ⟨a, b⟩ | ⟨a, b⟩
  · rcases h2 g with ⟨c, d⟩ | ⟨c, d⟩
    · exact Or.inl ⟨c.trans a, d.trans b⟩
    · exact Or.inr ⟨a.symm.trans c, d⟩
  · rcases h2 g with ⟨c, d⟩ | ⟨c, d⟩
    · exact Or.inr ⟨a, c.trans b⟩
    · rw [b] at c; exact absurd c (by simp)
theorem GR.up (C : Nat → Bool) (f m : Nat) (S : zR) : GR m S (upR C f m S) := by
  intro g
  by_cases h : S.1 g = none ∧ C g = true
  · exact Or.inr ⟨h.1, by unfold upR; exact if_pos h⟩
  · exact Or.inl ⟨by unfold upR; exact if_neg h, by unfold upR; exact if_neg h⟩
theorem GR.M (can : Nat → Nat → Nat → Bool) (m : Nat) : ∀ k f S, GR m S (rowM can m k f S) := by
  intro k
  induction k with
  | zero => intro f S; exact GR.rf
  | succ k ih =>
    intro f S
    rw [rowM]
    refine GR.tr ?_ (ih (f + 1) _)
    split
    · exact GR.up _ _ _ _
    · exact GR.rf
theorem GR.A (can : Nat → Nat → Nat → Bool) (m : Nat) : ∀ k f S, GR m S (rowA can m k f S) := by
  intro k
  induction k with
  | zero => intro f S; exact GR.rf
  | succ k ih =>
    intro f S
    rw [rowA]
    refine GR.tr ?_ (ih (f + 1) _)
    split
    · exact GR.up _ _ _ _
    · exact GR.rf
theorem GR.none {m : Nat} {S S' : zR} (h : GR m S S') {g : Nat} (hg : S'.1 g = none) : S.1 g = none := by
  rcases h g with ⟨a, -⟩ | ⟨a, -⟩
  · rw [← a]; exact hg
  · exact a
theorem GR.old {m : Nat} {S S' : zR} (h : GR m S S') {g x : Nat} (hg : S'.1 g = some x) (hx : x ≤ m) : S.1 g = some x := by
  rcases h g with ⟨a, -⟩ | ⟨-, a⟩
  · rw [← a]; exact hg
  · rw [hg] at a; cases a; omega
theorem GR.bd {m : Nat} {S S' : zR} (h : GR m S S') (hb : ∀ g x, S.1 g = some x → x ≤ m) : ∀ g x, S'.1 g = some x → x ≤ m + 1 := by
  intro g x hg
  rcases h g with ⟨a, -⟩ | ⟨-, a⟩
  · have := hb g x (by rw [← a]; exact hg); omega
  · rw [hg] at a; cases a; omega
/-- nobody who has had it for longer brings it on -/
def Stale (can : Nat → Nat → Nat → Bool) (m : Nat) (S : zR) : Prop := ∀ f x g, S.1 f = some x → x < m → S.1 g = none → can f g m = false
theorem row_eq {can : Nat → Nat → Nat → Bool} {m : Nat} {S0 : zR} (hs : Stale can m S0) : ∀ k f S, GR m S0 S → rowA can m k f S = rowM can m k f S := by
  intro k
  induction k with
  | zero => intro f S _; rfl
  | succ k ih =>
    intro f S hS
    have e : (if S.1 f = some m then upR (fun g => can f g m) f m S else S) = (if heM S f m = true then upR (fun g => can f g m) f m S else S) := by
      cases hf : S.1 f with
      | none => rw [if_neg (by simp), if_neg (by unfold heM; rw [hf]; simp)]
      | some x =>
        rcases Nat.lt_trichotomy x m with h | h | h
        · rw [if_neg (by simp; omega), if_pos (by unfold heM; rw [hf]; simp; omega)]
          exact (upR_no fun g hg => hs f x g (hS.old hf (by omega)) h (hS.none hg)).symm
        · rw [if_pos (by rw [h]), if_pos (by unfold heM; rw [hf]; simp; omega)]
        · rw [if_neg (by simp; omega), if_neg (by unfold heM; rw [hf]; simp; omega)]
    rw [rowA, rowM, e]
    refine ih (f + 1) _ (hS.tr ?_)
    split
    · exact GR.up _ _ _ _
    · exact GR.rf
theorem row_done {can : Nat → Nat → Nat → Bool} {m : Nat} : ∀ k f S f' x g, f ≤ f' → f' < f + k → (rowM can m k f S).1 f' = some x → x ≤ m → (rowM can m k f S).1 g = none → can f' g m = false := by
  intro k
  induction k with
  | zero => intro f S f' x g h1 h2; omega
  | succ k ih =>
    intro f S f' x g h1 h2 h3 h4 h5
    rw [rowM] at h3 h5
    by_cases he : f' = f
    · subst he
      have q1 := (GR.M can m k (f' + 1) _).old h3 h4
      have q2 := (GR.M can m k (f' + 1) _).none h5
      have q3 : S.1 f' = some x := by
        split at q1
        · exact (GR.up _ _ _ _).old q1 h4
        · exact q1
      have q4 : heM S f' m = true := by unfold heM; rw [q3]; simp; omega
      rw [if_pos q4] at q2
      have q5 := (GR.up _ _ _ _).none q2
      cases hc : can f' g m with
      | false => rfl
      | true =>
        unfold upR at q2
        dsimp only at q2
        rw [if_pos ⟨q5, hc⟩] at q2
        cases q2
    · exact ih (f + 1) _ f' x g (by omega) (by omega) h3 h4 h5
theorem stale_next {can : Nat → Nat → Nat → Bool} {n m : Nat} {S : zR} (hn : ∀ f g m, can f g m = true → f < n) (ha : ∀ f g m, m < 1000 → can f g (m + 1) = true → can f g m = true) (hm : m < 1000) : Stale can (m + 1) (rowM can m n 0 S) := by
  intro f x g hf hx hg
  cases hc : can f g (m + 1) with
  | false => rfl
  | true =>
    have h1 := ha f g m hm hc
    have h2 := row_done n 0 S f x g (by omega) (by have := hn f g m h1; omega) hf (by omega) hg
    rw [h1] at h2; cases h2
theorem stale_up {can : Nat → Nat → Nat → Bool} {m : Nat} {S : zR} (ha : ∀ f g m, m < 1000 → can f g (m + 1) = true → can f g m = true) (hm : m < 1000) (hs : Stale can m S) (hb : ∀ g x, S.1 g = some x → x < m) : Stale can (m + 1) S := by
  intro f x g hf hx hg
  cases hc : can f g (m + 1) with
  | false => rfl
  | true =>
    have h1 := ha f g m hm hc
    rw [hs f x g hf (hb f x hf) hg] at h1; cases h1
theorem row_idle {can : Nat → Nat → Nat → Bool} {m : Nat} {S : zR} (hs : Stale can m S) (hb : ∀ g x, S.1 g = some x → x < m) : ∀ k f, rowM can m k f S = S := by
  intro k
  induction k with
  | zero => intro f; rfl
  | succ k ih =>
    intro f
    rw [rowM]
    have e : (if heM S f m = true then upR (fun g => can f g m) f m S else S) = S := by
      split
      · rename_i h
        unfold heM at h
        cases hf : S.1 f with
        | none => rw [hf] at h; simp at h
        | some x => exact upR_no fun g hg => hs f x g hf (hb f x hf) hg
      · rfl
    rw [e]; exact ih (f + 1)
theorem it_idle {can : Nat → Nat → Nat → Bool} {n : Nat} {S : zR} (ha : ∀ f g m, m < 1000 → can f g (m + 1) = true → can f g m = true) : ∀ j m, m + j ≤ 999 → Stale can m S → (∀ g x, S.1 g = some x → x < m) → itM can n j m S = S := by
  intro j
  induction j with
  | zero => intro m _ _ _; rfl
  | succ j ih =>
    intro m hm hs hb
    rw [itM, row_idle hs hb]
    exact ih (m + 1) (by omega) (stale_up ha (by omega) hs hb) (fun g x h => by have := hb g x h; omega)
/-- how many have not got it -/
def unR (S : zR) : Nat → Nat
  | 0 => 0
  | k + 1 => unR S k + (if S.1 k = none then 1 else 0)
theorem unR_le {m : Nat} {S S' : zR} (h : GR m S S') : ∀ k, unR S' k ≤ unR S k := by
  intro k
  induction k with
  | zero => exact Nat.le_refl 0
  | succ k ih =>
    rw [unR, unR]
    by_cases h1 : S'.1 k = none
    · rw [if_pos h1, if_pos (h.none h1)]; omega
    · rw [if_neg h1]; omega
theorem unR_lt {m : Nat} {S S' : zR} (h : GR m S S') {g : Nat} (h0 : S.1 g = none) (h1 : ¬ S'.1 g = none) : ∀ k, g < k → unR S' k < unR S k := by
  intro k
  induction k with
  | zero => intro hg; omega
  | succ k ih =>
    intro hg
    rw [unR, unR]
    by_cases he : g = k
    · subst he
      rw [if_neg h1, if_pos h0]
      have := unR_le h g; omega
    · have := ih (by omega)
      by_cases h2 : S'.1 k = none
      · rw [if_pos h2, if_pos (h.none h2)]; omega
      · rw [if_neg h2]; omega
theorem unR_n (S : zR) : ∀ k, unR S k ≤ k := by
  intro k
  induction k with
  | zero => exact Nat.le_refl 0
  | succ k ih => rw [unR]; split <;> omega
theorem unR_1 {S : zR} {g : Nat} (h : ¬ S.1 g = none) : ∀ k, g < k → unR S k + 1 ≤ k := by
  intro k
  induction k with
  | zero => intro hg; omega
  | succ k ih =>
    intro hg
    rw [unR]
    by_cases he : g = k
    · subst he
      rw [if_neg h]; have := unR_n S g; omega
    · have := ih (by omega); split <;> omega
theorem it_gr {can : Nat → Nat → Nat → Bool} {n : Nat} {g x : Nat} : ∀ j m S, S.1 g = some x → (itM can n j m S).1 g = some x ∧ (itM can n j m S).2 g = S.2 g := by
  intro j
  induction j with
  | zero => intro m S h; exact ⟨h, rfl⟩
  | succ j ih =>
    intro m S h
    rw [itM]
    rcases GR.M can m n 0 S g with ⟨a, b⟩ | ⟨a, -⟩
    · have := ih (m + 1) (rowM can m n 0 S) (by rw [a]; exact h)
      rw [b] at this; exact this
    · rw [h] at a; cases a
theorem row_out {can : Nat → Nat → Nat → Bool} {n m : Nat} (hn : ∀ f g m, can f g m = true → g < n) {g : Nat} (hg : n ≤ g) : ∀ k f S, (rowM can m k f S).1 g = S.1 g := by
  intro k
  induction k with
  | zero => intro f S; rfl
  | succ k ih =>
    intro f S
    rw [rowM, ih]
    split
    · unfold upR
      refine if_neg fun q => ?_
      have := hn f g m q.2; omega
    · rfl
theorem it_out {can : Nat → Nat → Nat → Bool} {n : Nat} (hn : ∀ f g m, can f g m = true → g < n) {g : Nat} (hg : n ≤ g) : ∀ j m S, (itM can n j m S).1 g = S.1 g := by
  intro j
  induction j with
  | zero => intro m S; rfl
  | succ j ih => intro m S; rw [itM, ih, row_out hn hg]
theorem it_bd {can : Nat → Nat → Nat → Bool} {n : Nat} : ∀ j m S, (∀ g x, S.1 g = some x → x ≤ m) → ∀ g x, (itM can n j m S).1 g = some x → x ≤ m + j := by
  intro j
  induction j with
  | zero => intro m S h; exact h
  | succ j ih =>
    intro m S h g x hg
    rw [itM] at hg
    have := ih (m + 1) _ ((GR.M can m n 0 S).bd h) g x hg
    omega
/-! whether one may pass to another one in a minute -/
def canp (α : zM) (p c n r f g m : Nat) : Bool := decide (f < n) && (decide (g < n) && (!(decide (zg α 6 f = -1)) && (!(decide (zg α 6 g = -1)) && (nxt (sN α f) (sN α g) && (dryL α (sN α f) m r 0 && (dryL α (sN α g) m r 0 && alw α p c f (sN α f) g (sN α g)))))))
theorem dry_anti {α : zM} {s m : Nat} (hm : m < 1000) : ∀ j k, dryL α s (m + 1) j k = true → dryL α s m j k = true := by
  intro j
  induction j with
  | zero => intro k _; rfl
  | succ j ih =>
    intro k h
    rw [dryL] at h ⊢
    have hw : wetB α s m k = true → wetB α s (m + 1) k = true := by
      unfold wetB
      simp only [decide_eq_true_eq, i_lt, nI_toInt (show m < 2 ^ 31 by omega), nI_toInt (show m + 1 < 2 ^ 31 by omega)]
      intro q
      exact ⟨by omega, q.2.1, q.2.2⟩
    by_cases h1 : wetB α s (m + 1) k = true
    · rw [if_pos h1] at h; cases h
    · rw [if_neg (fun q => h1 (hw q))]
      rw [if_neg h1] at h
      exact ih (k + 1) h
theorem canp_f {α : zM} {p c n r : Nat} : ∀ f g m, canp α p c n r f g m = true → f < n := by
  intro f g m h
  unfold canp at h
  simp only [Bool.and_eq_true, decide_eq_true_eq] at h
  exact h.1
theorem canp_g {α : zM} {p c n r : Nat} : ∀ f g m, canp α p c n r f g m = true → g < n := by
  intro f g m h
  unfold canp at h
  simp only [Bool.and_eq_true, decide_eq_true_eq] at h
  exact h.2.1
theorem canp_anti {α : zM} {p c n r : Nat} : ∀ f g m, m < 1000 → canp α p c n r f g (m + 1) = true → canp α p c n r f g m = true := by
  intro f g m hm h
  unfold canp at h ⊢
  simp only [Bool.and_eq_true] at h ⊢
  obtain ⟨h1, h2, h3, h4, h5, h6, h7, h8⟩ := h
  exact ⟨h1, h2, h3, h4, h5, dry_anti hm r 0 h6, dry_anti hm r 0 h7, h8⟩
theorem dryL_fx {m : zMk} {α α' : zM} (hf : Fx m α α') (hd : dis m ([34, 35, 36], []) = true) (s mi : Nat) : ∀ j k, dryL α' s mi j k = dryL α s mi j k := by
  intro j
  induction j with
  | zero => intro k; rfl
  | succ j ih =>
    intro k
    have e : wetB α' s mi k = wetB α s mi k := by
      unfold wetB
      rw [hf 34 k (dis_row hd (by simp) k), hf 35 k (dis_row hd (by simp) k), hf 36 k (dis_row hd (by simp) k)]
    rw [dryL, dryL, e, ih]
