/-! ===== two tables, one shadow: a call's answers are alike ===== -/
def FC (m : zMk) (s t : zM) : Prop := ∀ k j, k < 69 → inm m k j = false → zg t k j = zg s k j
theorem zg_mlo {c m : zM} {k j : Nat} (hk : k < 69) : zg (zmx c m) k j = zg c k j := if_pos hk
theorem zmx_id (c m m' : zM) : zmx (zmx c m) m' = zmx c m' := by
  refine Prod.ext (funext fun k => funext fun j => ?_) (funext fun x => ?_)
  · show (if k < 69 then (if k < 69 then _ else _) else _) = (if k < 69 then _ else _)
    by_cases h : k < 69
    · rw [if_pos h, if_pos h, if_pos h]
    · rw [if_neg h, if_neg h]
  · show (if x = 0 then (if x = 0 then _ else _) else _) = (if x = 0 then _ else _)
    by_cases h : x = 0
    · rw [if_pos h, if_pos h, if_pos h]
    · rw [if_neg h, if_neg h]
theorem zmx_idr (c c' m : zM) : zmx c (zmx c' m) = zmx c m := by
  refine Prod.ext (funext fun k => funext fun j => ?_) (funext fun x => ?_)
  · show (if k < 69 then _ else (if k < 69 then _ else _)) = (if k < 69 then _ else _)
    by_cases h : k < 69
    · rw [if_pos h, if_pos h]
    · rw [if_neg h, if_neg h, if_neg h]
  · show (if x = 0 then _ else (if x = 0 then _ else _)) = (if x = 0 then _ else _)
    by_cases h : x = 0
    · rw [if_pos h, if_pos h]
    · rw [if_neg h, if_neg h, if_neg h]
theorem zmx_self (s : zM) : zmx s s = s := by
  refine Prod.ext (funext fun k => funext fun j => ?_) (funext fun x => ?_)
  · show (if k < 69 then _ else _) = _
    split <;> rfl
  · show (if x = 0 then _ else _) = _
    split <;> rfl
/-- what the class's text leaves of the shadow -/
theorem zmx_of {mk : zMk} {c m s1 : zM} (hm : (mk.1.all (fun k => decide (k < 69)) && mk.2.all (fun f => decide (f.1 < 69))) = true) (h : Fx mk (zmx c m) s1 ∧ ∀ x, 1 ≤ x → s1.2 x = (zmx c m).2 x) : s1 = zmx s1 m := by
  have fa := h.1.FA hm
  refine Prod.ext (funext fun k => funext fun j => ?_) (funext fun x => ?_)
  · show s1.1 k j = if k < 69 then s1.1 k j else m.1 k j
    by_cases hk : k < 69
    · rw [if_pos hk]
    · rw [if_neg hk]
      have := fa k j (by omega)
      exact this.trans (if_neg hk)
  · show s1.2 x = if x = 0 then s1.2 x else m.2 x
    by_cases hx : x = 0
    · rw [if_pos hx]
    · rw [if_neg hx]
      exact (h.2 x (by omega)).trans (if_neg hx)
theorem P8.cls {s t : zM} (h : P8 s) (hc : ∀ k j, k < 69 → zg t k j = zg s k j) : P8 t := by
  have e : ∀ k, k < 69 → zg t k = zg s k := fun k hk => funext fun j => hc k j hk
  refine ⟨(hc 3 8 (by decide)).trans h.1, ?_, ?_⟩
  · rw [e 61 (by decide), e 62 (by decide), e 63 (by decide), e 64 (by decide)]; exact h.2.1
  · rw [e 65 (by decide), e 66 (by decide), e 67 (by decide), e 68 (by decide)]; exact h.2.2
theorem P8.x {c m m' : zM} (h : P8 (zmx c m)) : P8 (zmx c m') := h.cls (fun k j hk => by rw [zg_mlo hk, zg_mlo hk])
theorem RR.age {a : Nat} {s : zM} (h : RR a s) : zg s 12 5 = nI a ∧ a ≤ 1000 := by
  obtain ⟨n, t, r, p, kc, x, ko, pl, ql, cl, -, -, hP⟩ := h
  exact ⟨hP.1, hP.2.1⟩
/-- the o table (with its plates), the p table, and the shadow of both -/
def TW (a b : Nat) (co cp m : zM) : Prop := RR a (zmx co m) ∧ RR b (zmx cp m) ∧ P8 (zmx co m) ∧ zg cp 3 8 = nI 8
/-- both tables hear it, and answer alike -/
def PR {β : Type} (k : Nat) (T : zM → Option (β × zM)) : Prop := ∀ a b co cp m, a < 990 → b < 990 → TW a b co cp m → ∃ r co' cp' m' a' b', T (zmx co m) = some (r, zmx co' m') ∧ T (zmx cp m) = some (r, zmx cp' m') ∧ TW a' b' co' cp' m' ∧ a' ≤ a + k ∧ b' ≤ b + k
theorem pair_core {β : Type} {X M : zM → Option (β × zM)} {mk : zMk} (hop : OP X M) (hfx : ∀ s, HF mk s (X s)) (hm : (mk.1.all (fun k => decide (k < 69)) && mk.2.all (fun f => decide (f.1 < 69))) = true) (hcg : ∀ c c' m, CG c c' (M (zmx c m)) (M (zmx c' m))) {a b : Nat} {co cp m : zM} (ha : a < 1000) (hb : b < 1000) (h1 : RR a (zmx co m)) (h2 : RR b (zmx cp m)) : ∃ r co' cp' m' a' b', X (zmx co m) = some (r, co') ∧ X (zmx cp m) = some (r, cp') ∧ co' = zmx co' m ∧ cp' = zmx cp' m ∧ cal X M (zmx co m) = some (r, zmx co' m') ∧ cal X M (zmx cp m) = some (r, zmx cp' m') ∧ RR a' (zmx co' m') ∧ RR b' (zmx cp' m') ∧ a' ≤ a + 1 ∧ b' ≤ b + 1 := by
  obtain ⟨r, s1, s2, e1, e2, a', ha', g1⟩ := hop a _ ha h1
  obtain ⟨r', t1, t2, f1, f2, b', hb', g2⟩ := hop b _ hb h2
  have z1 := zmx_of hm (hfx _ _ _ e1)
  have z2 := zmx_of hm (hfx _ _ _ f1)
  rcases hcg s1 t1 m with ⟨w, -⟩ | ⟨r0, m', w1, w2⟩
  · rw [← z1, e2] at w; cases w
  · rw [← z1, e2] at w1
    rw [← z2, f2] at w2
    cases w1
    cases w2
    refine ⟨r, s1, t1, m', a', b', e1, f1, z1, z2, ?_, ?_, g1, g2, ha', hb'⟩
    · unfold cal; rw [e1]; simp only [bnd]; rw [e2]; simp only []; rw [zmx_idr]
    · unfold cal; rw [f1]; simp only [bnd]; rw [f2]; simp only []; rw [zmx_idr]
theorem age_same {a a' : Nat} {s t : zM} (h : RR a s) (h' : RR a' t) (e : zg t 12 5 = zg s 12 5) : a' = a := by
  have h1 := h.age
  have h2 := h'.age
  have := h2.1.symm.trans (e.trans h1.1)
  exact (nI_eq (by omega) (by omega)).mp this
/-- one call of both tables, that keeps the plates' rows, the number of guests and the tape -/
theorem PR.op {β : Type} {X M : zM → Option (β × zM)} (mk : zMk) (hop : OP X M) (hfx : ∀ s, HF mk s (X s)) (hcg : ∀ c c' m, CG c c' (M (zmx c m)) (M (zmx c' m))) (hm : (mk.1.all (fun k => decide (k < 69)) && mk.2.all (fun f => decide (f.1 < 69))) = true) (hk : inm mk 3 8 = false) (hP : ∀ s, P8 s → HP (X s)) {k : Nat} (ha : k = 1 ∨ inm mk 12 5 = false) : PR k (cal X M) := by
  intro a b co cp m h1 h2 ⟨w1, w2, w3, w4⟩
  obtain ⟨r, co', cp', m', a', b', e1, e2, z1, z2, c1, c2, g1, g2, l1, l2⟩ := pair_core hop hfx hm hcg (by omega) (by omega) w1 w2
  have f2 := (hfx _ _ _ e2).1
  have f1 := (hfx _ _ _ e1).1
  have lo : ∀ (c : zM) k j, k < 69 → zg (zmx c m') k j = zg c k j := fun c k j hk => zg_mlo hk
  have ages : k = 1 ∨ (a' = a ∧ b' = b) := by
    rcases ha with ha | ha
    · exact Or.inl ha
    · refine Or.inr ⟨age_same w1 g1 ?_, age_same w2 g2 ?_⟩
      · rw [lo _ _ _ (by decide)]; exact f1 12 5 ha
      · rw [lo _ _ _ (by decide)]; exact f2 12 5 ha
  refine ⟨r, co', cp', m', a', b', c1, c2, ⟨g1, g2, ?_, ?_⟩, by omega, by omega⟩
  · have := hP _ w3 _ _ e1
    exact this.cls (fun k j hk => lo _ _ _ hk)
  · exact (f2 3 8 hk).trans ((zg_mlo (by decide)).trans w4)
theorem PR.opf {β : Type} {X M : zM → Option (β × zM)} (mk : zMk) (hop : OP X M) (hfx : ∀ s, HF mk s (X s)) (hcg : ∀ c c' m, CG c c' (M (zmx c m)) (M (zmx c' m))) (hm : (mk.1.all (fun k => decide (k < 69)) && mk.2.all (fun f => decide (f.1 < 69))) = true) (hk : inm mk 3 8 = false) (hd : dis mk ([61, 62, 63, 64, 65, 66, 67, 68], [(3, 8)]) = true) {k : Nat} (ha : k = 1 ∨ inm mk 12 5 = false) : PR k (cal X M) := PR.op mk hop hfx hcg hm hk (fun s h => hp_fx h (hfx s) hd) ha
/-- and what is made of the answer -/
theorem PR.map {α β : Type} {k : Nat} {T : zM → Option (α × zM)} (h : PR k T) (f : α → zM → Option (β × zM)) (g : α → β) (hf : ∀ r s, (∃ s0, T s0 = some (r, s)) → f r s = some (g r, s)) : PR k (fun s => bnd (T s) f) := by
  intro a b co cp m h1 h2 w
  obtain ⟨r, co', cp', m', a', b', e1, e2, w', l1, l2⟩ := h a b co cp m h1 h2 w
  refine ⟨g r, co', cp', m', a', b', ?_, ?_, w', l1, l2⟩
  · show bnd (T (zmx co m)) f = _
    rw [e1, bnd_some, hf _ _ ⟨_, e1⟩]
  · show bnd (T (zmx cp m)) f = _
    rw [e2, bnd_some, hf _ _ ⟨_, e2⟩]
theorem PR.seq {α β : Type} {k l : Nat} {T : zM → Option (α × zM)} {f : α → zM → Option (β × zM)} (h : PR k T) (hl : k = 0) (hf : ∀ r, PR l (f r)) : PR l (fun s => bnd (T s) f) := by
  subst hl
  intro a b co cp m h1 h2 w
  obtain ⟨r, co', cp', m', a', b', e1, e2, w', l1, l2⟩ := h a b co cp m h1 h2 w
  obtain ⟨r2, co2, cp2, m2, a2, b2, d1, d2, w2, l3, l4⟩ := hf r a' b' co' cp' m' (by omega) (by omega) w'
  refine ⟨r2, co2, cp2, m2, a2, b2, ?_, ?_, w2, by omega, by omega⟩
  · show bnd (T (zmx co m)) f = _
    rw [e1, bnd_some]; exact d1
  · show bnd (T (zmx cp m)) f = _
    rw [e2, bnd_some]; exact d2
theorem PR.pure {β : Type} {k : Nat} (r : β) : PR k (fun s => some (r, s)) := fun a b co cp m _ _ w => ⟨r, co, cp, m, a, b, rfl, rfl, w, by omega, by omega⟩
theorem PR.ite {β : Type} {k : Nat} {c : Prop} [Decidable c] {A B : zM → Option (β × zM)} (h1 : c → PR k A) (h2 : ¬ c → PR k B) : PR k (fun s => if c then A s else B s) := by
  by_cases h : c
  · intro a b co cp m q1 q2 w
    obtain ⟨r, co', cp', m', a', b', e1, e2, w'⟩ := h1 h a b co cp m q1 q2 w
    exact ⟨r, co', cp', m', a', b', by show (if c then _ else _) = _; rw [if_pos h]; exact e1, by show (if c then _ else _) = _; rw [if_pos h]; exact e2, w'⟩
  · intro a b co cp m q1 q2 w
    obtain ⟨r, co', cp', m', a', b', e1, e2, w'⟩ := h2 h a b co cp m q1 q2 w
    exact ⟨r, co', cp', m', a', b', by show (if c then _ else _) = _; rw [if_neg h]; exact e1, by show (if c then _ else _) = _; rw [if_neg h]; exact e2, w'⟩
theorem PR.le {β : Type} {k l : Nat} {T : zM → Option (β × zM)} (h : PR k T) (hl : k ≤ l) : PR l T := by
  intro a b co cp m h1 h2 w
  obtain ⟨r, co', cp', m', a', b', e1, e2, w', l1, l2⟩ := h a b co cp m h1 h2 w
  exact ⟨r, co', cp', m', a', b', e1, e2, w', by omega, by omega⟩
/-- the law's memory: both tables -/
def LW (a b : Nat) (σ : zM) : Prop := ∃ co cp m, sub 0 σ = zmx co m ∧ sub 1 σ = zmx cp m ∧ TW a b co cp m
theorem LW.pair {β : Type} {k a b : Nat} {T : zM → Option (β × zM)} {σ : zM} (hT : PR k T) (h : LW a b σ) (ha : a < 990) (hb : b < 990) : ∃ r σ1 σ2 a' b', inT 0 T σ = some (r, σ1) ∧ inT 1 T σ1 = some (r, σ2) ∧ LW a' b' σ2 ∧ a' ≤ a + k ∧ b' ≤ b + k := by
  obtain ⟨co, cp, m, h1, h2, w⟩ := h
  obtain ⟨r, co', cp', m', a', b', e1, e2, w', l1, l2⟩ := hT a b co cp m ha hb w
  refine ⟨r, put 0 σ (zmx co' m'), put 1 (put 0 σ (zmx co' m')) (zmx cp' m'), a', b', ?_, ?_, ⟨co', cp', m', ?_, ?_, w'⟩, l1, l2⟩
  · unfold inT; rw [h1, e1]
  · unfold inT; rw [sub_put_ne (by decide) (by decide) (by decide), h2, e2]
  · rw [sub_put_ne (by decide) (by decide) (by decide), sub_put (by decide)]
  · rw [sub_put (by decide)]
