/-! ===== wrong counts: edges joined ===== -/
abbrev zW : Type := (Nat → Nat) × (Nat → Int32)
def jn (x y : Nat) (v : Int32) (C : zW) : Bool × zW := if C.1 x = C.1 y then (decide (C.2 x + v - C.2 y = 0), C) else (true, (fun e => if C.1 e = C.1 y then C.1 x else C.1 e, fun e => if C.1 e = C.1 y then C.2 e + (C.2 x + v - C.2 y) else C.2 e))
def cW (N kG kH : Nat) (C : zW) (σ : zM) : Prop := ∀ e, e < N → C.1 e < N ∧ zg σ kG e = nI (C.1 e) ∧ zg σ kH e = C.2 e
/-- e < k is done -/
def jnk (k x y : Nat) (v : Int32) (C : zW) : zW := (fun e => if e < k ∧ C.1 e = C.1 y then C.1 x else C.1 e, fun e => if e < k ∧ C.1 e = C.1 y then C.2 e + (C.2 x + v - C.2 y) else C.2 e)
theorem jnk_0 (x y : Nat) (v : Int32) (C : zW) : jnk 0 x y v C = C := by
  unfold jnk
  have : ∀ e, ¬ (e < 0 ∧ C.1 e = C.1 y) := fun e q => by omega
  simp only [if_neg (this _)]
theorem jnk_bd {N k x y : Nat} {v : Int32} {C : zW} (h : ∀ e, e < N → C.1 e < N) (hx : x < N) : ∀ e, e < N → (jnk k x y v C).1 e < N := by
  intro e he
  unfold jnk
  dsimp only
  split
  · exact h x hx
  · exact h e he
theorem jn_k {N x y : Nat} {v : Int32} {C : zW} (hne : ¬ C.1 x = C.1 y) {kG kH : Nat} {σ : zM} (h : cW N kG kH (jnk N x y v C) σ) : cW N kG kH (jn x y v C).2 σ := by
  unfold jn
  rw [if_neg hne]
  intro e he
  have := h e he
  unfold jnk at this
  dsimp only at this ⊢
  have q : (e < N ∧ C.1 e = C.1 y) ↔ C.1 e = C.1 y := ⟨fun q => q.2, fun q => ⟨he, q⟩⟩
  simp only [q] at this
  exact this
theorem jnk_step {N kG kH k x y : Nat} {v : Int32} {C : zW} {σ : zM} (hGH : ¬ kG = kH) (hb : ∀ e, e < N → C.1 e < N) (hk : k < N) (hx : x < N) (h : cW N kG kH (jnk k x y v C) σ) : (¬ C.1 k = C.1 y → cW N kG kH (jnk (k + 1) x y v C) σ) ∧ (C.1 k = C.1 y → cW N kG kH (jnk (k + 1) x y v C) (zs (zs σ kG k (nI (C.1 x))) kH k (C.2 k + (C.2 x + v - C.2 y)))) := by
  refine ⟨fun hne e he => ?_, fun heq e he => ?_⟩
  · have := h e he
    unfold jnk at this ⊢
    dsimp only at this ⊢
    have q : (e < k + 1 ∧ C.1 e = C.1 y) ↔ (e < k ∧ C.1 e = C.1 y) := by
      constructor
      · rintro ⟨a, b⟩
        refine ⟨?_, b⟩
        by_cases hek : e = k
        · subst hek; exact absurd b hne
        · omega
      · rintro ⟨a, b⟩; exact ⟨by omega, b⟩
    simp only [q]; exact this
  · have hh := h e he
    rw [zg_ne hGH, zg_row, zg_row, zg_ne (fun q => hGH q.symm)]
    by_cases hek : e = k
    · subst hek
      rw [if_pos rfl, if_pos rfl]
      unfold jnk
      dsimp only
      rw [if_pos ⟨by omega, heq⟩, if_pos ⟨by omega, heq⟩]
      exact ⟨hb x hx, rfl, rfl⟩
    · rw [if_neg hek, if_neg hek]
      unfold jnk at hh ⊢
      dsimp only at hh ⊢
      have q : (e < k + 1 ∧ C.1 e = C.1 y) ↔ (e < k ∧ C.1 e = C.1 y) := by
        constructor
        · rintro ⟨a, b⟩; exact ⟨by omega, b⟩
        · rintro ⟨a, b⟩; exact ⟨by omega, b⟩
      simp only [q]; exact hh
theorem e_relate {F x y : Nat} {v : Int32} {C : zW} {σ : zM} (hF : 44 ≤ F) (hC : cW 42 58 59 C σ) (hx : x < 42) (hy : y < 42) : ∃ σ', f_X2_relate F (nI x) (nI y) v σ = some (if (jn x y v C).1 = true then 1 else 0, σ') ∧ Fx ([58, 59], []) σ σ' ∧ cW 42 58 59 (jn x y v C).2 σ' := by
  have zx := zin_n (show (42 : Nat) < 2 ^ 31 by omega) hx
  have zy := zin_n (show (42 : Nat) < 2 ^ 31 by omega) hy
  obtain ⟨x1, x2, x3⟩ := hC x hx
  obtain ⟨y1, y2, y3⟩ := hC y hy
  have hb : ∀ e, e < 42 → C.1 e < 42 := fun e he => (hC e he).1
  have l42 : ∀ k, k < 42 → nI k < (42 : Int32) := fun k hk => by rw [show (42 : Int32) = nI 42 from rfl, nI_ltI (by omega) (by omega)]; exact hk
  unfold f_X2_relate
  rw [if_neg (nI_pos (by omega)), if_neg (nI_pos (by omega)), if_pos (l42 x hx), if_pos (l42 y hy), if_pos zx, if_pos zy, nI_clamp (by omega), nI_clamp (by omega), lt_eq, if_pos zy, lt_eq, if_pos zx, x2, y2, x3, y3]
  by_cases hg : C.1 x = C.1 y
  · rw [if_pos (by rw [hg])]
    have e : jn x y v C = (decide (C.2 x + v - C.2 y = 0), C) := by unfold jn; exact if_pos hg
    rw [e]
    refine ⟨σ, ?_, Fx.rf, hC⟩
    by_cases h0 : C.2 x + v - C.2 y = 0
    · rw [if_pos h0, if_pos (decide_eq_true h0)]
    · rw [if_neg h0, if_neg (by rw [decide_eq_false h0]; simp)]
  · rw [if_neg (by rw [nI_eq (by omega) (by omega)]; exact fun q => hg q.symm)]
    have e1 : (jn x y v C).1 = true := by unfold jn; rw [if_neg hg]
    have key : ∀ (j fu k : Nat) (τ : zM), k + j = 42 → j < fu → Fx ([58, 59], []) σ τ → cW 42 58 59 (jnk k x y v C) τ → ∃ σ', f_X2_relate_L72 F (fun s7 => some ((1 : Int32), s7)) (nI x) (C.2 x + v - C.2 y) (nI (C.1 y)) fu (nI k) τ = some (1, σ') ∧ Fx ([58, 59], []) σ σ' ∧ cW 42 58 59 (jnk 42 x y v C) σ' := by
      intro j
      induction j with
      | zero =>
        intro fu k τ hk hfu hf hS
        obtain ⟨fu, rfl⟩ : ∃ f', fu = f' + 1 := ⟨fu - 1, by omega⟩
        have : k = 42 := by omega
        subst this
        exact ⟨τ, by rw [f_X2_relate_L72, if_neg (by decide)], hf, hS⟩
      | succ j ih =>
        intro fu k τ hk hfu hf hS
        obtain ⟨fu, rfl⟩ : ∃ f', fu = f' + 1 := ⟨fu - 1, by omega⟩
        have z := zin_n (show (42 : Nat) < 2 ^ 31 by omega) (show k < 42 by omega)
        obtain ⟨s1, s2, s3⟩ := hS k (by omega)
        obtain ⟨t1, t2, t3⟩ := hS x hx
        have ek : (jnk k x y v C).1 k = C.1 k := by unfold jnk; exact if_neg (fun q => by omega)
        have ek2 : (jnk k x y v C).2 k = C.2 k := by unfold jnk; exact if_neg (fun q => by omega)
        have ex : (jnk k x y v C).1 x = C.1 x := by unfold jnk; exact if_neg (fun q => hg q.2)
        obtain ⟨u1, u2⟩ := jnk_step (kG := 58) (kH := 59) (by decide) hb (show k < 42 by omega) hx hS
        rw [f_X2_relate_L72, if_pos (l42 k (by omega)), if_pos z, nI_clamp (by omega), s2, ek]
        by_cases hq : C.1 k = C.1 y
        · rw [if_pos (by rw [hq]), if_pos zx, if_pos z, lt_eq, if_pos z, if_pos z, nI_clamp (by omega), t2, ex, zg_ne (show ¬ 59 = 58 by decide), s3, ek2, lt_eq, lt_eq, nI_1]
          exact ih fu (k + 1) _ (by omega) (by omega) ((hf.zs rfl).zs rfl) (u2 hq)
        · rw [if_neg (by rw [nI_eq (by have := hb k (by omega); omega) (by omega)]; exact hq), lt_eq, nI_1]
          exact ih fu (k + 1) τ (by omega) (by omega) hf (u1 hq)
    obtain ⟨σ', k1, k2, k3⟩ := key 42 F 0 σ (by omega) (by omega) Fx.rf (by rw [jnk_0]; exact hC)
    exact ⟨σ', by rw [if_pos e1]; exact k1, k2, jn_k hg k3⟩
theorem e_joins {F x y : Nat} {v : Int32} {C : zW} {σ : zM} (hF : 44 ≤ F) (hC : cW 21 106 105 C σ) (hx : x < 21) (hy : y < 21) : ∃ σ', f_X12_joins F (nI x) (nI y) v σ = some (if (jn x y v C).1 = true then 1 else 0, σ') ∧ Fx ([105, 106], []) σ σ' ∧ cW 21 106 105 (jn x y v C).2 σ' := by
  have zx := zin_n (show (21 : Nat) < 2 ^ 31 by omega) hx
  have zy := zin_n (show (21 : Nat) < 2 ^ 31 by omega) hy
  obtain ⟨x1, x2, x3⟩ := hC x hx
  obtain ⟨y1, y2, y3⟩ := hC y hy
  have hb : ∀ e, e < 21 → C.1 e < 21 := fun e he => (hC e he).1
  have l42 : ∀ k, k < 21 → nI k < (21 : Int32) := fun k hk => by rw [show (21 : Int32) = nI 21 from rfl, nI_ltI (by omega) (by omega)]; exact hk
  unfold f_X12_joins
  rw [if_pos zx, if_pos zy, nI_clamp (by omega), nI_clamp (by omega), lt_eq, if_pos zx, if_pos zy, x2, y2, x3, y3]
  by_cases hg : C.1 x = C.1 y
  · rw [if_pos (by rw [hg])]
    have e : jn x y v C = (decide (C.2 x + v - C.2 y = 0), C) := by unfold jn; exact if_pos hg
    rw [e]
    refine ⟨σ, ?_, Fx.rf, hC⟩
    by_cases h0 : C.2 x + v - C.2 y = 0
    · rw [if_pos h0, if_pos (decide_eq_true h0)]
    · rw [if_neg h0, if_neg (by rw [decide_eq_false h0]; simp)]
  · rw [if_neg (by rw [nI_eq (by omega) (by omega)]; exact hg), if_pos zy, lt_eq]
    have e1 : (jn x y v C).1 = true := by unfold jn; rw [if_neg hg]
    have key : ∀ (j fu k : Nat) (τ : zM), k + j = 21 → j < fu → Fx ([105, 106], []) σ τ → cW 21 106 105 (jnk k x y v C) τ → ∃ σ', f_X12_joins_L54 F (fun s7 => some ((1 : Int32), s7)) (nI x) (C.2 x + v - C.2 y) (nI (C.1 y)) fu (nI k) τ = some (1, σ') ∧ Fx ([105, 106], []) σ σ' ∧ cW 21 106 105 (jnk 21 x y v C) σ' := by
      intro j
      induction j with
      | zero =>
        intro fu k τ hk hfu hf hS
        obtain ⟨fu, rfl⟩ : ∃ f', fu = f' + 1 := ⟨fu - 1, by omega⟩
        have : k = 21 := by omega
        subst this
        exact ⟨τ, by rw [f_X12_joins_L54, if_neg (by decide)], hf, hS⟩
      | succ j ih =>
        intro fu k τ hk hfu hf hS
        obtain ⟨fu, rfl⟩ : ∃ f', fu = f' + 1 := ⟨fu - 1, by omega⟩
        have z := zin_n (show (21 : Nat) < 2 ^ 31 by omega) (show k < 21 by omega)
        obtain ⟨s1, s2, s3⟩ := hS k (by omega)
        obtain ⟨t1, t2, t3⟩ := hS x hx
        have ek : (jnk k x y v C).1 k = C.1 k := by unfold jnk; exact if_neg (fun q => by omega)
        have ek2 : (jnk k x y v C).2 k = C.2 k := by unfold jnk; exact if_neg (fun q => by omega)
        have ex : (jnk k x y v C).1 x = C.1 x := by unfold jnk; exact if_neg (fun q => hg q.2)
        obtain ⟨u1, u2⟩ := jnk_step (kG := 106) (kH := 105) (by decide) hb (show k < 21 by omega) hx hS
        rw [f_X12_joins_L54, if_pos (l42 k (by omega)), if_pos z, nI_clamp (by omega), s2, ek]
        by_cases hq : C.1 k = C.1 y
        · rw [if_pos (by rw [hq]), if_pos zx, if_pos z, lt_eq, if_pos z, if_pos z, nI_clamp (by omega), t2, ex, zg_ne (show ¬ 105 = 106 by decide), s3, ek2, lt_eq, lt_eq, nI_1]
          exact ih fu (k + 1) _ (by omega) (by omega) ((hf.zs rfl).zs rfl) (u2 hq)
        · rw [if_neg (by rw [nI_eq (by have := hb k (by omega); omega) (by omega)]; exact hq), lt_eq, nI_1]
          exact ih fu (k + 1) τ (by omega) (by omega) hf (u1 hq)
    obtain ⟨σ', k1, k2, k3⟩ := key 21 F 0 σ (by omega) (by omega) Fx.rf (by rw [jnk_0]; exact hC)
    exact ⟨σ', by rw [if_pos e1]; exact k1, k2, jn_k hg k3⟩
/-! both sides in one -/
def Two (C S0 S1 : zW) : Prop := ∀ e, e < 21 → C.1 e = S0.1 e ∧ C.2 e = S0.2 e ∧ C.1 (21 + e) = 21 + S1.1 e ∧ C.2 (21 + e) = S1.2 e ∧ S0.1 e < 21 ∧ S1.1 e < 21
theorem Two.j0 {C S0 S1 : zW} (h : Two C S0 S1) {a b : Nat} (ha : a < 21) (hb : b < 21) (v : Int32) : (jn a b v C).1 = (jn a b v S0).1 ∧ Two (jn a b v C).2 (jn a b v S0).2 S1 := by
  obtain ⟨a1, a2, -, -, a5, -⟩ := h a ha
  obtain ⟨b1, b2, -, -, b5, -⟩ := h b hb
  unfold jn
  rw [a1, b1, a2, b2]
  by_cases hg : S0.1 a = S0.1 b
  · rw [if_pos hg, if_pos hg]; exact ⟨rfl, h⟩
  · rw [if_neg hg, if_neg hg]
    refine ⟨rfl, fun e he => ?_⟩
    obtain ⟨c1, c2, c3, c4, c5, c6⟩ := h e he
    dsimp only
    rw [c1, c2, c3, c4, if_neg (show ¬ 21 + S1.1 e = S0.1 b by omega), if_neg (show ¬ 21 + S1.1 e = S0.1 b by omega)]
    refine ⟨rfl, rfl, rfl, rfl, ?_, c6⟩
    split
    · exact a5
    · exact c5
theorem Two.j1 {C S0 S1 : zW} (h : Two C S0 S1) {a b : Nat} (ha : a < 21) (hb : b < 21) (v : Int32) : (jn (21 + a) (21 + b) v C).1 = (jn a b v S1).1 ∧ Two (jn (21 + a) (21 + b) v C).2 S0 (jn a b v S1).2 := by
  obtain ⟨-, -, a1, a2, -, a5⟩ := h a ha
  obtain ⟨-, -, b1, b2, -, b5⟩ := h b hb
  have hi : ∀ x y : Nat, (21 + x = 21 + y) ↔ x = y := fun x y => by omega
  unfold jn
  rw [a1, b1, a2, b2]
  by_cases hg : S1.1 a = S1.1 b
  · rw [if_pos (by rw [hg]), if_pos hg]; exact ⟨rfl, h⟩
  · rw [if_neg (fun q => hg ((hi _ _).mp q)), if_neg hg]
    refine ⟨rfl, fun e he => ?_⟩
    obtain ⟨c1, c2, c3, c4, c5, c6⟩ := h e he
    dsimp only
    rw [c1, c2, c3, c4, if_neg (show ¬ S0.1 e = 21 + S1.1 b by omega), if_neg (show ¬ S0.1 e = 21 + S1.1 b by omega)]
    by_cases he2 : S1.1 e = S1.1 b
    · rw [if_pos (by rw [he2]), if_pos he2, if_pos (by rw [he2]), if_pos he2]; exact ⟨rfl, rfl, rfl, rfl, c5, a5⟩
    · rw [if_neg (fun q => he2 ((hi _ _).mp q)), if_neg he2, if_neg (fun q => he2 ((hi _ _).mp q)), if_neg he2]; exact ⟨rfl, rfl, rfl, rfl, c5, c6⟩
def cN (α : zM) (k i : Nat) : Nat := (zg α k i).toNatClampNeg
def wgo (α : zM) (d : Nat) : Nat → Nat → zW → Int32
  | 0, _, _ => -1
  | m + 1, i, S => if cN α 54 i = d then (if (jn (cN α 55 i) (cN α 56 i + 1) (zg α 57 i) S).1 = true then wgo α d m (i + 1) (jn (cN α 55 i) (cN α 56 i + 1) (zg α 57 i) S).2 else nI i) else wgo α d m (i + 1) S
def cgo (α : zM) : Nat → Nat → zW → Int32
  | 0, _, _ => -1
  | m + 1, i, C => if (jn (21 * cN α 54 i + cN α 55 i) (21 * cN α 54 i + (cN α 56 i + 1)) (zg α 57 i) C).1 = true then cgo α m (i + 1) (jn (21 * cN α 54 i + cN α 55 i) (21 * cN α 54 i + (cN α 56 i + 1)) (zg α 57 i) C).2 else nI i
def cmb (a b : Int32) : Int32 := if a = -1 then b else if b = -1 then a else if b < a then b else a
theorem wgo_or (α : zM) (d : Nat) : ∀ m i S, wgo α d m i S = -1 ∨ ∃ j, i ≤ j ∧ j < i + m ∧ wgo α d m i S = nI j := by
  intro m
  induction m with
  | zero => intro i S; exact Or.inl rfl
  | succ m ih =>
    intro i S
    have up : ∀ S', wgo α d m (i + 1) S' = -1 ∨ ∃ j, i ≤ j ∧ j < i + (m + 1) ∧ wgo α d m (i + 1) S' = nI j := by
      intro S'
      rcases ih (i + 1) S' with h | ⟨j, h1, h2, h3⟩
      · exact Or.inl h
      · exact Or.inr ⟨j, by omega, by omega, h3⟩
    rw [wgo]
    split
    · split
      · exact up _
      · exact Or.inr ⟨i, by omega, by omega, rfl⟩
    · exact up _
theorem cnt_n {kc i : Nat} {α : zM} (hK : IK kc α) (hi : i < kc) : cN α 54 i < 2 ∧ cN α 55 i ≤ cN α 56 i ∧ cN α 56 i < 20 ∧ zg α 54 i = nI (cN α 54 i) ∧ zg α 55 i = nI (cN α 55 i) ∧ zg α 56 i = nI (cN α 56 i) := by
  obtain ⟨h1, f, t, y, h2, h3, -, h5, h6, -⟩ := hK.2.2.2 i hi
  unfold cN
  rw [h5, h6, nI_clamp (by omega), nI_clamp (by omega)]
  rcases h1 with h | h
  · rw [h]; exact ⟨by decide, h2, h3, rfl, rfl, rfl⟩
  · rw [h]; exact ⟨by decide, h2, h3, rfl, rfl, rfl⟩
theorem cgo_eq {kc : Nat} {α : zM} (hK : IK kc α) : ∀ m i C S0 S1, i + m = kc → Two C S0 S1 → cgo α m i C = cmb (wgo α 0 m i S0) (wgo α 1 m i S1) := by
  have k1 := hK.1
  have mI : ∀ j, j < 20 → ¬ nI j = -1 := fun j hj => nI_m1 (by omega)
  intro m
  induction m with
  | zero => intro i C S0 S1 _ _; rfl
  | succ m ih =>
    intro i C S0 S1 hi hT
    obtain ⟨q1, q2, q3, -⟩ := cnt_n hK (show i < kc by omega)
    rw [cgo, wgo, wgo]
    have : cN α 54 i = 0 ∨ cN α 54 i = 1 := by omega
    rcases this with h | h
    · obtain ⟨t1, t2⟩ := hT.j0 (show cN α 55 i < 21 by omega) (show cN α 56 i + 1 < 21 by omega) (zg α 57 i)
      rw [h, if_pos (show (0 : Nat) = 0 from rfl), if_neg (show ¬ (0 : Nat) = 1 by decide), show 21 * 0 + cN α 55 i = cN α 55 i by omega, show 21 * 0 + (cN α 56 i + 1) = cN α 56 i + 1 by omega, t1]
      by_cases hok : (jn (cN α 55 i) (cN α 56 i + 1) (zg α 57 i) S0).1 = true
      · rw [if_pos hok, if_pos hok]; exact ih (i + 1) _ _ _ (by omega) t2
      · rw [if_neg hok, if_neg hok]
        unfold cmb
        rw [if_neg (mI i (by omega))]
        rcases wgo_or α 1 m (i + 1) S1 with e | ⟨j, e1, e2, e3⟩
        · rw [if_pos e]
        · rw [e3, if_neg (mI j (by omega)), if_neg (by rw [nI_ltI (by omega) (by omega)]; omega)]
    · obtain ⟨t1, t2⟩ := hT.j1 (show cN α 55 i < 21 by omega) (show cN α 56 i + 1 < 21 by omega) (zg α 57 i)
      rw [h, if_neg (show ¬ (1 : Nat) = 0 by decide), if_pos (show (1 : Nat) = 1 from rfl), show 21 * 1 + cN α 55 i = 21 + cN α 55 i by omega, show 21 * 1 + (cN α 56 i + 1) = 21 + (cN α 56 i + 1) by omega, t1]
      by_cases hok : (jn (cN α 55 i) (cN α 56 i + 1) (zg α 57 i) S1).1 = true
      · rw [if_pos hok, if_pos hok]; exact ih (i + 1) _ _ _ (by omega) t2
      · rw [if_neg hok, if_neg hok]
        unfold cmb
        rcases wgo_or α 0 m (i + 1) S0 with e | ⟨j, e1, e2, e3⟩
        · rw [if_pos e]
        · rw [e3, if_neg (mI j (by omega)), if_neg (mI i (by omega)), if_pos (by rw [nI_ltI (by omega) (by omega)]; omega)]
def zW0 : zW := (fun e => e, fun _ => 0)
theorem knI_fx {m : zMk} {α α' : zM} (hf : Fx m α α') (hd : dis m ([52], []) = true) (d : Nat) : ∀ j p acc, knI α' d j p acc = knI α d j p acc := by
  intro j
  induction j with
  | zero => intro p acc; rfl
  | succ j ih => intro p acc; rw [knI, knI, hf 52 _ (dis_row hd (by simp) _), ih]
theorem s_21 {d e : Nat} : nI d * (21 : Int32) + nI e = nI (21 * d + e) := by
  rw [show (21 : Int32) = nI 21 from rfl, pk_mul, nI_add, Nat.mul_comm]
theorem cgo_fx {m : zMk} {α α' : zM} (hf : Fx m α α') (hd : dis m ([54, 55, 56, 57], []) = true) : ∀ j i C, cgo α' j i C = cgo α j i C := by
  intro j
  induction j with
  | zero => intro i C; rfl
  | succ j ih =>
    intro i C
    unfold cgo cN
    rw [hf 54 i (dis_row hd (by simp) i), hf 55 i (dis_row hd (by simp) i), hf 56 i (dis_row hd (by simp) i), hf 57 i (dis_row hd (by simp) i)]
    simp only [ih]
theorem e_firstWrong {F kc : Nat} {σ : zM} (hF : 60 ≤ F) (hK : IK kc σ) : ∃ σ', f_X2_firstWrong F σ = some (cgo σ kc 0 (jn 21 41 (knI σ 1 20 0 0) (jn 0 20 (knI σ 0 20 0 0) zW0).2).2, σ') ∧ Fx ([58, 59], []) σ σ' := by
  have k1 := hK.1
  have ini : ∀ (K : zM → Option (Int32 × zM)) (j fu k : Nat) (τ : zM), k + j = 42 → j < fu → Fx ([58, 59], []) σ τ → (∀ e, e < k → zg τ 58 e = nI e ∧ zg τ 59 e = 0) → ∃ τ', f_X2_firstWrong_L2 F K fu (nI k) τ = K τ' ∧ Fx ([58, 59], []) σ τ' ∧ cW 42 58 59 zW0 τ' := by
    intro K j
    induction j with
    | zero =>
      intro fu k τ hk hfu hf h
      obtain ⟨fu, rfl⟩ : ∃ f', fu = f' + 1 := ⟨fu - 1, by omega⟩
      have : k = 42 := by omega
      subst this
      exact ⟨τ, by rw [f_X2_firstWrong_L2, if_neg (by decide)], hf, fun e he => ⟨he, (h e he).1, (h e he).2⟩⟩
    | succ j ih =>
      intro fu k τ hk hfu hf h
      obtain ⟨fu, rfl⟩ : ∃ f', fu = f' + 1 := ⟨fu - 1, by omega⟩
      have z := zin_n (show (42 : Nat) < 2 ^ 31 by omega) (show k < 42 by omega)
      rw [f_X2_firstWrong_L2, if_pos (show nI k < (42 : Int32) by rw [show (42 : Int32) = nI 42 from rfl, nI_ltI (by omega) (by omega)]; omega), if_pos z, lt_eq, if_pos z, lt_eq, lt_eq, nI_1, nI_clamp (by omega)]
      refine ih fu (k + 1) _ (by omega) (by omega) ((hf.zs rfl).zs rfl) (fun e he => ?_)
      rw [zg_ne (by decide), zg_row, zg_row, zg_ne (by decide)]
      by_cases hek : e = k
      · subst hek; rw [if_pos rfl, if_pos rfl]; exact ⟨rfl, rfl⟩
      · rw [if_neg hek, if_neg hek]; exact h e (by omega)
  have run : ∀ (m fu i : Nat) (C : zW) (τ : zM), i + m = kc → m < fu → Fx ([58, 59], []) σ τ → cW 42 58 59 C τ → ∃ σ', f_X2_firstWrong_L67 F (fun s15 => some ((-1 : Int32), s15)) fu (nI i) τ = some (cgo σ m i C, σ') ∧ Fx ([58, 59], []) σ σ' := by
    intro m
    induction m with
    | zero =>
      intro fu i C τ hi hfu hf hC
      obtain ⟨fu, rfl⟩ : ∃ f', fu = f' + 1 := ⟨fu - 1, by omega⟩
      refine ⟨τ, ?_, hf⟩
      rw [f_X2_firstWrong_L67, hf 51 8 rfl, hK.2.1, if_neg (by rw [nI_ltI (by omega) (by omega)]; omega)]; rfl
    | succ m ih =>
      intro fu i C τ hi hfu hf hC
      obtain ⟨fu, rfl⟩ : ∃ f', fu = f' + 1 := ⟨fu - 1, by omega⟩
      obtain ⟨q1, q2, q3, q4, q5, q6⟩ := cnt_n hK (show i < kc by omega)
      have z := zin_n (show (20 : Nat) < 2 ^ 31 by omega) (show i < 20 by omega)
      obtain ⟨τ1, a1, a2, a3⟩ := e_relate (F := F) (x := 21 * cN σ 54 i + cN σ 55 i) (y := 21 * cN σ 54 i + (cN σ 56 i + 1)) (v := zg σ 57 i) (by omega) hC (by omega) (by omega)
      have e1 : nI (cN σ 54 i) * (21 : Int32) + nI (cN σ 56 i) + 1 = nI (21 * cN σ 54 i + (cN σ 56 i + 1)) := by rw [s_21, nI_1]; rfl
      rw [f_X2_firstWrong_L67, hf 51 8 rfl, hK.2.1, if_pos (by rw [nI_ltI (by omega) (by omega)]; omega), if_pos (show nI i < (20 : Int32) by rw [show (20 : Int32) = nI 20 from rfl, nI_ltI (by omega) (by omega)]; omega), if_pos z, lt_eq, if_pos z, if_pos z, if_pos z, nI_clamp (by omega), hf 54 i rfl, hf 55 i rfl, hf 56 i rfl, hf 57 i rfl, q4, q5, q6, e1, s_21, a1, bnd_some, b01, cgo]
      by_cases hok : (jn (21 * cN σ 54 i + cN σ 55 i) (21 * cN σ 54 i + (cN σ 56 i + 1)) (zg σ 57 i) C).1 = true
      · rw [if_pos hok, if_pos hok, lt_eq, nI_1]
        exact ih fu (i + 1) _ τ1 (by omega) (by omega) (hf.tr a2) a3
      · rw [if_neg hok, if_neg hok]; exact ⟨τ1, rfl, hf.tr a2⟩
  unfold f_X2_firstWrong
  obtain ⟨τ1, a1, a2, a3⟩ := ini (fun s4 => f_X2_firstWrong_L30 F (fun s10 => f_X2_firstWrong_L67 F (fun s15 => some ((-1 : Int32), s15)) F (0 : Int32) s10) F (0 : Int32) s4) 42 F 0 σ (by omega) (by omega) Fx.rf (fun e he => absurd he (by omega))
  have K1 : IK kc τ1 := hK.fx a2 rfl
  obtain ⟨τ2, b1, b2, b3⟩ := e_relate (F := F) (x := 0) (y := 20) (v := knI σ 0 20 0 0) (by omega) a3 (by omega) (by omega)
  have f2 := a2.tr b2
  have K2 : IK kc τ2 := hK.fx f2 rfl
  obtain ⟨τ3, c1, c2, c3⟩ := e_relate (F := F) (x := 21) (y := 41) (v := knI σ 1 20 0 0) (by omega) b3 (by omega) (by omega)
  obtain ⟨σ', d1, d2⟩ := run kc F 0 _ τ3 (by omega) (by omega) (f2.tr c2) c3
  refine ⟨σ', a1.trans ?_, d2⟩
  obtain ⟨F', hF'⟩ : ∃ F', F = F' + 1 + 1 + 1 := ⟨F - 3, by omega⟩
  have L0 : f_X2_firstWrong_L30 F (fun s10 => f_X2_firstWrong_L67 F (fun s15 => some ((-1 : Int32), s15)) F (0 : Int32) s10) F (0 : Int32) τ1 = f_X2_firstWrong_L30 F (fun s10 => f_X2_firstWrong_L67 F (fun s15 => some ((-1 : Int32), s15)) F (0 : Int32) s10) (F' + 1 + 1 + 1) (nI 0) τ1 := by rw [← hF']; rfl
  have w0 : f_X2_between F (nI 0) (0 : Int32) (19 : Int32) τ1 = some (knI σ 0 20 0 0, τ1) := (e_between (F := F) (d := 0) (f := 0) (t := 19) (by omega) K1 (by omega) (by omega) (by omega)).trans (by rw [knI_fx a2 rfl])
  have w1 : f_X2_between F (nI 1) (0 : Int32) (19 : Int32) τ2 = some (knI σ 1 20 0 0, τ2) := (e_between (F := F) (d := 1) (f := 0) (t := 19) (by omega) K2 (by omega) (by omega) (by omega)).trans (by rw [knI_fx f2 rfl])
  rw [L0, f_X2_firstWrong_L30, if_pos (by decide), w0, bnd_some, show nI 0 * (21 : Int32) = nI 0 from rfl, show nI 0 + (20 : Int32) = nI 20 from rfl, b1, bnd_some, lt_eq, nI_1, f_X2_firstWrong_L30, if_pos (by decide), w1, bnd_some, show nI (0 + 1) * (21 : Int32) = nI 21 from rfl, show nI 21 + (20 : Int32) = nI 41 from rfl, c1, bnd_some, lt_eq, nI_1, f_X2_firstWrong_L30, if_neg (by decide)]
  exact d1
theorem e_wrongOf {F kc d : Nat} {α σ : zM} (hF : 60 ≤ F) (hK : IK kc α) (bK : BK kc α σ) (hd : d < 2) : ∃ σ', f_X12_wrongOf F (nI d) σ = some (wgo α d kc 0 (jn 0 20 (knI α d 20 0 0) zW0).2, σ') ∧ Fx ([105, 106], []) σ σ' := by
  have k1 := hK.1
  have ini : ∀ (K : zM → Option (Int32 × zM)) (j fu k : Nat) (τ : zM), k + j = 21 → j < fu → Fx ([105, 106], []) σ τ → (∀ e, e < k → zg τ 106 e = nI e ∧ zg τ 105 e = 0) → ∃ τ', f_X12_wrongOf_L2 F K (nI d) fu (nI k) τ = K τ' ∧ Fx ([105, 106], []) σ τ' ∧ cW 21 106 105 zW0 τ' := by
    intro K j
    induction j with
    | zero =>
      intro fu k τ hk hfu hf h
      obtain ⟨fu, rfl⟩ : ∃ f', fu = f' + 1 := ⟨fu - 1, by omega⟩
      have : k = 21 := by omega
      subst this
      exact ⟨τ, by rw [f_X12_wrongOf_L2, if_neg (by decide)], hf, fun e he => ⟨he, (h e he).1, (h e he).2⟩⟩
    | succ j ih =>
      intro fu k τ hk hfu hf h
      obtain ⟨fu, rfl⟩ : ∃ f', fu = f' + 1 := ⟨fu - 1, by omega⟩
      have z := zin_n (show (21 : Nat) < 2 ^ 31 by omega) (show k < 21 by omega)
      rw [f_X12_wrongOf_L2, if_pos (show nI k < (21 : Int32) by rw [show (21 : Int32) = nI 21 from rfl, nI_ltI (by omega) (by omega)]; omega), if_pos z, lt_eq, if_pos z, lt_eq, lt_eq, nI_1, nI_clamp (by omega)]
      refine ih fu (k + 1) _ (by omega) (by omega) ((hf.zs rfl).zs rfl) (fun e he => ?_)
      rw [zg_ne (by decide), zg_row, zg_row, zg_ne (by decide)]
      by_cases hek : e = k
      · subst hek; rw [if_pos rfl, if_pos rfl]; exact ⟨rfl, rfl⟩
      · rw [if_neg hek, if_neg hek]; exact h e (by omega)
  have run : ∀ (m fu i : Nat) (C : zW) (τ : zM), i + m = kc → m < fu → Fx ([105, 106], []) σ τ → cW 21 106 105 C τ → ∃ σ', f_X12_wrongOf_L46 F (fun s13 => some ((-1 : Int32), s13)) (nI d) fu (nI i) τ = some (wgo α d m i C, σ') ∧ Fx ([105, 106], []) σ σ' := by
    intro m
    induction m with
    | zero =>
      intro fu i C τ hi hfu hf hC
      obtain ⟨fu, rfl⟩ : ∃ f', fu = f' + 1 := ⟨fu - 1, by omega⟩
      refine ⟨τ, ?_, hf⟩
      rw [f_X12_wrongOf_L46, hf 69 50 rfl, bK.1, if_neg (by rw [nI_ltI (by omega) (by omega)]; omega)]; rfl
    | succ m ih =>
      intro fu i C τ hi hfu hf hC
      obtain ⟨fu, rfl⟩ : ∃ f', fu = f' + 1 := ⟨fu - 1, by omega⟩
      obtain ⟨q1, q2, q3, q4, q5, q6⟩ := cnt_n hK (show i < kc by omega)
      obtain ⟨r1, r2, r3, r4⟩ := bK.2.2 i (by omega)
      have z := zin_n (show (20 : Nat) < 2 ^ 31 by omega) (show i < 20 by omega)
      rw [f_X12_wrongOf_L46, hf 69 50 rfl, bK.1, if_pos (by rw [nI_ltI (by omega) (by omega)]; omega), if_pos z, nI_clamp (by omega), hf 101 i rfl, r1, q4, wgo]
      by_cases hsd : cN α 54 i = d
      · obtain ⟨τ1, a1, a2, a3⟩ := e_joins (F := F) (x := cN α 55 i) (y := cN α 56 i + 1) (v := zg α 57 i) (by omega) hC (by omega) (by omega)
        rw [if_pos (by rw [hsd]), if_pos z, if_pos z, if_pos z, hf 102 i rfl, hf 103 i rfl, hf 104 i rfl, r2, r3, r4, q5, q6, nI_1, a1, bnd_some, b01, if_pos hsd]
        by_cases hok : (jn (cN α 55 i) (cN α 56 i + 1) (zg α 57 i) C).1 = true
        · rw [if_pos hok, if_pos hok, lt_eq, nI_1]
          exact ih fu (i + 1) _ τ1 (by omega) (by omega) (hf.tr a2) a3
        · rw [if_neg hok, if_neg hok]; exact ⟨τ1, rfl, hf.tr a2⟩
      · rw [if_neg (by rw [nI_eq (by omega) (by omega)]; exact hsd), if_neg hsd, lt_eq, nI_1]
        exact ih fu (i + 1) C τ (by omega) (by omega) hf hC
  unfold f_X12_wrongOf
  obtain ⟨τ1, a1, a2, a3⟩ := ini (fun s4 => bnd (f_X12_knivesFrom F (nI d) (0 : Int32) (19 : Int32) s4) (fun r6 s5 => bnd (f_X12_joins F (0 : Int32) (20 : Int32) r6 s5) (fun r8 s7 => f_X12_wrongOf_L46 F (fun s13 => some ((-1 : Int32), s13)) (nI d) F (0 : Int32) s7))) 21 F 0 σ (by omega) (by omega) Fx.rf (fun e he => absurd he (by omega))
  have B1 : BK kc α τ1 := bK.si a2 rfl
  obtain ⟨τ2, b1, b2, b3⟩ := e_joins (F := F) (x := 0) (y := 20) (v := knI α d 20 0 0) (by omega) a3 (by omega) (by omega)
  obtain ⟨σ', d1, d2⟩ := run kc F 0 _ τ2 (by omega) (by omega) (a2.tr b2) b3
  refine ⟨σ', a1.trans ?_, d2⟩
  have w0 : f_X12_knivesFrom F (nI d) (0 : Int32) (19 : Int32) τ1 = some (knI α d 20 0 0, τ1) := e_knivesFrom (F := F) (f := 0) (t := 19) (by omega) B1 hd (by omega) (by omega)
  have b1' : f_X12_joins F (0 : Int32) (20 : Int32) (knI α d 20 0 0) τ1 = _ := b1
  rw [w0, bnd_some, b1', bnd_some]
  exact d1
theorem op_wrong {F : Nat} (hF : 60 ≤ F) : OP (f_X11_wrong F) (f_X12_wrong F) := by
  intro a σ ha ⟨n, t, r, p, kc, x, ko, pl, ql, cl, ⟨hG, hH, hT, hN, hK, hD, hX, hW⟩, ⟨bG, bH, bL, bT, bN, bK, bP, bD, bX, bW⟩, hP⟩
  obtain ⟨σ1, a1, a2⟩ := e_firstWrong hF hK
  have B1 : BK kc σ σ1 := bK.si a2 rfl
  obtain ⟨σ2, b1, b2⟩ := e_wrongOf (d := 0) hF hK B1 (by omega)
  obtain ⟨σ3, c1, c2⟩ := e_wrongOf (d := 1) hF hK (B1.si b2 rfl) (by omega)
  have hf : Fx ([58, 59, 105, 106], []) σ σ3 := (a2.sub rfl).tr ((b2.tr c2).sub rfl)
  have T0 : Two zW0 zW0 zW0 := fun e he => ⟨rfl, rfl, rfl, rfl, he, he⟩
  obtain ⟨-, T1⟩ := T0.j0 (a := 0) (b := 20) (by omega) (by omega) (knI σ 0 20 0 0)
  obtain ⟨-, T2⟩ := T1.j1 (a := 0) (b := 20) (by omega) (by omega) (knI σ 1 20 0 0)
  have key := cgo_eq hK kc 0 _ _ _ (by omega) T2
  refine ⟨cmb (wgo σ 0 kc 0 (jn 0 20 (knI σ 0 20 0 0) zW0).2) (wgo σ 1 kc 0 (jn 0 20 (knI σ 1 20 0 0) zW0).2), σ1, σ3, ?_, ?_, a, by omega, RR.scr ⟨n, t, r, p, kc, x, ko, pl, ql, cl, ⟨hG, hH, hT, hN, hK, hD, hX, hW⟩, ⟨bG, bH, bL, bT, bN, bK, bP, bD, bX, bW⟩, hP⟩ (hf.sub rfl)⟩
  · unfold f_X11_wrong
    rw [a1, bnd_some]
    exact congrArg (fun x => some (x, σ1)) key
  · unfold f_X12_wrong
    have b1' : f_X12_wrongOf F (0 : Int32) σ1 = _ := b1
    have c1' : f_X12_wrongOf F (1 : Int32) σ2 = _ := c1
    rw [b1', bnd_some, c1', bnd_some]
    unfold cmb
    repeat' split
    all_goals rfl
