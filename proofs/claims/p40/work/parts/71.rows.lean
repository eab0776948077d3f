/-! ===== smuggling: rows, their odds, their order ===== -/
def vv (α : zM) (p c u w : Nat) : Nat := (see α p c u (sN α u) w (sN α w)).toNatClampNeg
theorem vv_n (α : zM) (p c u w : Nat) : vv α p c u w ≤ 1000 ∧ see α p c u (sN α u) w (sN α w) = nI (vv α p c u w) := by
  obtain ⟨k, hk, e⟩ := see_n α p c u (sN α u) w (sN α w)
  unfold vv
  rw [e, nI_clamp (by omega)]
  exact ⟨hk, rfl⟩
def odf (α : zM) (p c : Nat) (f : Nat → Nat) : Nat → Nat
  | 0 => 1
  | k + 1 => odf α p c f k * (1000 - vv α p c (f k) (f (k + 1)))
/-- the odds, through a thousand for each of six -/
def OD (α : zM) (p c m : Nat) (f : Nat → Nat) : Nat := odf α p c f m * 1000 ^ (6 - m)
def lkf (f : Nat → Nat) : Nat → Nat
  | 0 => f 0
  | k + 1 => 16 * lkf f k + f (k + 1)
theorem odf_le (α : zM) (p c : Nat) (f : Nat → Nat) : ∀ k, odf α p c f k ≤ 1000 ^ k := by
  intro k
  induction k with
  | zero => exact Nat.le_refl 1
  | succ k ih =>
    rw [odf, Nat.pow_succ]
    exact Nat.mul_le_mul ih (Nat.sub_le _ _)
theorem OD_le (α : zM) (p c : Nat) (f : Nat → Nat) {m : Nat} (hm : m ≤ 6) : OD α p c m f ≤ 1000000000000000000 := by
  unfold OD
  have h1 := Nat.mul_le_mul_right (1000 ^ (6 - m)) (odf_le α p c f m)
  rw [← Nat.pow_add, show m + (6 - m) = 6 by omega] at h1
  exact h1
theorem odf_ext (α : zM) (p c : Nat) {f h : Nat → Nat} : ∀ k, (∀ i, i ≤ k → f i = h i) → odf α p c f k = odf α p c h k := by
  intro k
  induction k with
  | zero => intro _; rfl
  | succ k ih =>
    intro e
    rw [odf, odf, ih (fun i hi => e i (by omega)), e k (by omega), e (k + 1) (by omega)]
theorem OD_ext (α : zM) (p c : Nat) {f h : Nat → Nat} {k : Nat} (e : ∀ i, i ≤ k → f i = h i) : OD α p c k f = OD α p c k h := by
  unfold OD; rw [odf_ext α p c k e]
theorem lkf_ext {f h : Nat → Nat} : ∀ k, (∀ i, i ≤ k → f i = h i) → lkf f k = lkf h k := by
  intro k
  induction k with
  | zero => intro e; exact e 0 (by omega)
  | succ k ih =>
    intro e
    rw [lkf, lkf, ih (fun i hi => e i (by omega)), e (k + 1) (by omega)]
theorem lkf_up {f h : Nat → Nat} {k : Nat} (hlt : lkf h k < lkf f k) : ∀ m, k ≤ m → (∀ i, i ≤ m → h i < 16) → lkf h m < lkf f m := by
  intro m
  induction m with
  | zero => intro hk _; rw [show k = 0 by omega] at hlt; exact hlt
  | succ m ih =>
    intro hk hb
    by_cases e : k = m + 1
    · rw [← e]; exact hlt
    · have h1 := ih (by omega) (fun i hi => hb i (by omega))
      have h2 := hb (m + 1) (by omega)
      rw [lkf, lkf]; omega
theorem lkf_inj {f h : Nat → Nat} : ∀ k, (∀ i, i ≤ k → f i < 16 ∧ h i < 16) → lkf f k = lkf h k → ∀ i, i ≤ k → f i = h i := by
  intro k
  induction k with
  | zero => intro _ e i hi; rw [show i = 0 by omega]; exact e
  | succ k ih =>
    intro hb e i hi
    rw [lkf, lkf] at e
    have h1 := hb (k + 1) (by omega)
    by_cases hik : i = k + 1
    · subst hik; omega
    · exact ih (fun j hj => hb j (by omega)) (by omega) i (by omega)
/-- a way so far: from a, nobody twice, each next to the one ahead; b not ahead of its end -/
def Pth (α : zM) (n a b k : Nat) (f : Nat → Nat) : Prop := f 0 = a ∧ (∀ i, i ≤ k → f i < n ∧ ¬ zg α 6 (f i) = -1) ∧ (∀ i, i < k → nxt (sN α (f i)) (sN α (f (i + 1))) = true) ∧ (∀ i j, i < j → j ≤ k → ¬ f i = f j) ∧ ∀ i, i < k → ¬ f i = b
def Val (α : zM) (n a b m : Nat) (f : Nat → Nat) : Prop := 1 ≤ m ∧ m ≤ 6 ∧ Pth α n a b m f ∧ f m = b
abbrev zB2 : Type := Nat × (Nat → Nat)
/-- better -/
def btr (α : zM) (p c : Nat) (r B : zB2) : Prop := OD α p c B.1 B.2 < OD α p c r.1 r.2 ∨ (OD α p c r.1 r.2 = OD α p c B.1 B.2 ∧ (r.1 < B.1 ∨ (r.1 = B.1 ∧ lkf r.2 r.1 < lkf B.2 B.1)))
/-- there is one, and this one isn't better -/
def nb (α : zM) (p c : Nat) (r B : zB2) : Prop := ¬ B.1 = 0 ∧ ¬ btr α p c r B
theorem nb.tr {α : zM} {p c : Nat} {r B B' : zB2} (h : nb α p c r B) (h' : nb α p c B B') : nb α p c r B' := by
  unfold nb btr at *
  refine ⟨h'.1, ?_⟩
  have h1 := h.2
  have h2 := h'.2
  omega
theorem nb.rf {α : zM} {p c : Nat} {B : zB2} (h : ¬ B.1 = 0) : nb α p c B B := by
  unfold nb btr
  exact ⟨h, by omega⟩
def OKB (α : zM) (n a b : Nat) (B : zB2) : Prop := ¬ B.1 = 0 → Val α n a b B.1 B.2
theorem best_eq {α : zM} {p c n a b : Nat} {B B' : zB2} (hn : n ≤ 16) (h1 : OKB α n a b B) (h2 : OKB α n a b B') (g1 : ∀ m f, Val α n a b m f → nb α p c (m, f) B) (g2 : ∀ m f, Val α n a b m f → nb α p c (m, f) B') : B.1 = B'.1 ∧ (¬ B.1 = 0 → OD α p c B.1 B.2 = OD α p c B'.1 B'.2 ∧ ∀ i, i ≤ B.1 → B.2 i = B'.2 i) := by
  by_cases z1 : B.1 = 0
  · refine ⟨?_, fun q => absurd z1 q⟩
    by_cases z2 : B'.1 = 0
    · rw [z1, z2]
    · exact absurd z1 (g1 _ _ (h2 z2)).1
  · have v1 := h1 z1
    have z2 := (g2 _ _ v1).1
    have v2 := h2 z2
    have q1 := (g2 _ _ v1).2
    have q2 := (g1 _ _ v2).2
    unfold btr at q1 q2
    dsimp only at q1 q2
    have e1 : B.1 = B'.1 := by omega
    have e2 : OD α p c B.1 B.2 = OD α p c B'.1 B'.2 := by omega
    have e3 : lkf B.2 B.1 = lkf B'.2 B.1 := by rw [e1] at q1 q2 ⊢; omega
    refine ⟨e1, fun _ => ⟨e2, lkf_inj B.1 (fun i hi => ?_) e3⟩⟩
    have a1 := (v1.2.2.1.2.1 i hi).1
    have a2 := (v2.2.2.1.2.1 i (by omega)).1
    omega
/-- in the order of rows ahead of all that go on from a way -/
def LB (B : zB2) (k : Nat) (f : Nat → Nat) : Prop := k ≤ B.1 → lkf B.2 k < lkf f k
def Ext (k : Nat) (f : Nat → Nat) (m : Nat) (h : Nat → Nat) : Prop := k ≤ m ∧ ∀ i, i ≤ k → h i = f i
theorem Pth.sub {α : zM} {n a b k m : Nat} {f : Nat → Nat} (h : Pth α n a b m f) (hk : k ≤ m) : Pth α n a b k f := by
  obtain ⟨h1, h2, h3, h4, h5⟩ := h
  exact ⟨h1, fun i hi => h2 i (by omega), fun i hi => h3 i (by omega), fun i j hi hj => h4 i j hi (by omega), fun i hi => h5 i (by omega)⟩
theorem Pth.ext {α : zM} {n a b k : Nat} {f h : Nat → Nat} (hp : Pth α n a b k f) (e : ∀ i, i ≤ k → h i = f i) : Pth α n a b k h := by
  obtain ⟨h1, h2, h3, h4, h5⟩ := hp
  refine ⟨by rw [e 0 (by omega)]; exact h1, fun i hi => by rw [e i hi]; exact h2 i hi, fun i hi => by rw [e i (by omega), e (i + 1) (by omega)]; exact h3 i hi, fun i j hi hj => by rw [e i (by omega), e j hj]; exact h4 i j hi hj, fun i hi => by rw [e i (by omega)]; exact h5 i hi⟩
/-- a way goes on to one more -/
def stp (f : Nat → Nat) (k g : Nat) (i : Nat) : Nat := if i = k + 1 then g else f i
theorem stp_lo {f : Nat → Nat} {k g i : Nat} (h : i ≤ k) : stp f k g i = f i := if_neg (by omega)
theorem stp_hi {f : Nat → Nat} {k g : Nat} : stp f k g (k + 1) = g := if_pos rfl
theorem Pth.on {α : zM} {n a b k g : Nat} {f : Nat → Nat} (h : Pth α n a b k f) (hb : ¬ f k = b) (hg : g < n) (h6 : ¬ zg α 6 g = -1) (hn : nxt (sN α (f k)) (sN α g) = true) (ho : ∀ i, i ≤ k → ¬ f i = g) : Pth α n a b (k + 1) (stp f k g) := by
  obtain ⟨h1, h2, h3, h4, h5⟩ := h
  refine ⟨by rw [stp_lo (by omega)]; exact h1, fun i hi => ?_, fun i hi => ?_, fun i j hi hj => ?_, fun i hi => ?_⟩
  · by_cases e : i = k + 1
    · subst e; rw [stp_hi]; exact ⟨hg, h6⟩
    · rw [stp_lo (by omega)]; exact h2 i (by omega)
  · rw [stp_lo (show i ≤ k by omega)]
    by_cases e : i = k
    · subst e; rw [stp_hi]; exact hn
    · rw [stp_lo (by omega)]; exact h3 i (by omega)
  · rw [stp_lo (show i ≤ k by omega)]
    by_cases e : j = k + 1
    · subst e; rw [stp_hi]; exact ho i (by omega)
    · rw [stp_lo (by omega)]; exact h4 i j hi (by omega)
  · rw [stp_lo (show i ≤ k by omega)]
    by_cases e : i = k
    · subst e; exact hb
    · exact h5 i (by omega)
