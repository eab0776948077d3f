/-! ===== plates add up ===== -/
/-- has, eaten, served, handed on: of each guest, what came is what is there, was eaten, went on; none but eight hand on -/
def PQ (h e s d : Nat → Int32) : Prop := (∀ g, g < 16 → s g + sumI (fun x => d (16 * x + g)) 16 = h g + e g + sumI (fun x => d (16 * g + x)) 16) ∧ ∀ a b, a < 16 → b < 16 → (8 ≤ a ∨ 8 ≤ b) → d (16 * a + b) = 0
theorem sumI_ex2 {f g : Nat → Int32} : ∀ n, (∀ k, k < n → f k = g k) → sumI f n = sumI g n := by
  intro n
  induction n with
  | zero => intro _; rfl
  | succ n ih => intro h; rw [sumI, sumI, ih (fun k hk => h k (by omega)), h n (by omega)]
theorem sumI_upd {f : Nat → Int32} {a : Nat} {v : Int32} : ∀ n, sumI (fun x => if x = a then f x + v else f x) n = if a < n then sumI f n + v else sumI f n := by
  intro n
  induction n with
  | zero => rw [if_neg (by omega)]; rfl
  | succ n ih =>
    rw [sumI, sumI, ih]
    by_cases h1 : a < n
    · rw [if_pos h1, if_neg (show ¬ n = a by omega), if_pos (show a < n + 1 by omega)]; ac_rfl
    · rw [if_neg h1]
      by_cases h2 : n = a
      · rw [if_pos h2, if_pos (show a < n + 1 by omega)]; ac_rfl
      · rw [if_neg h2, if_neg (show ¬ a < n + 1 by omega)]
theorem PQ.cg {h e s d h' e' s' d' : Nat → Int32} (H : PQ h e s d) (h1 : ∀ g, g < 16 → h' g = h g) (h2 : ∀ g, g < 16 → e' g = e g) (h3 : ∀ g, g < 16 → s' g = s g) (h4 : ∀ i, i < 256 → d' i = d i) : PQ h' e' s' d' := by
  refine ⟨fun g hg => ?_, fun a b ha hb q => ?_⟩
  · rw [h1 g hg, h2 g hg, h3 g hg, sumI_ex2 (f := fun x => d' (16 * x + g)) (g := fun x => d (16 * x + g)) 16 (fun k hk => h4 _ (by omega)), sumI_ex2 (f := fun x => d' (16 * g + x)) (g := fun x => d (16 * g + x)) 16 (fun k hk => h4 _ (by omega))]
    exact H.1 g hg
  · rw [h4 _ (by omega)]; exact H.2 a b ha hb q
theorem PQ.serve {h e s d h' s' : Nat → Int32} {g : Nat} {v : Int32} (H : PQ h e s d) (h1 : ∀ k, h' k = if k = g then h g + v else h k) (h3 : ∀ k, s' k = if k = g then s g + v else s k) : PQ h' e s' d := by
  refine ⟨fun k hk => ?_, H.2⟩
  have w := H.1 k hk
  rw [h1, h3]
  by_cases q : k = g
  · subst q
    have e1 : s k + v + sumI (fun x => d (16 * x + k)) 16 = (s k + sumI (fun x => d (16 * x + k)) 16) + v := by ac_rfl
    rw [if_pos rfl, if_pos rfl, e1, w]; ac_rfl
  · rw [if_neg q, if_neg q]; exact w
theorem PQ.eat {h e s d h' e' : Nat → Int32} {g : Nat} {v : Int32} (H : PQ h e s d) (h1 : ∀ k, h' k = if k = g then h g - v else h k) (h2 : ∀ k, e' k = if k = g then e g + v else e k) : PQ h' e' s d := by
  refine ⟨fun k hk => ?_, H.2⟩
  have w := H.1 k hk
  rw [h1, h2]
  by_cases q : k = g
  · subst q
    rw [if_pos rfl, if_pos rfl, w, Int32.sub_eq_add_neg]
    have e1 : h k + -v + (e k + v) = h k + e k + (-v + v) := by ac_rfl
    rw [e1, Int32.add_left_neg, Int32.add_zero]
  · rw [if_neg q, if_neg q]; exact w
theorem PQ.hand {h e s d h' d' : Nat → Int32} {a b : Nat} {v : Int32} (H : PQ h e s d) (ha : a < 8) (hb : b < 8) (h1 : ∀ k, h' k = if k = b then (if b = a then h a - v else h b) + v else if k = a then h a - v else h k) (h4 : ∀ i, d' i = if i = 16 * a + b then d i + v else d i) : PQ h' e s d' := by
  refine ⟨fun k hk => ?_, fun x y hx hy q => ?_⟩
  · have w := H.1 k hk
    have s1 : sumI (fun x => d' (16 * x + k)) 16 = if k = b then sumI (fun x => d (16 * x + k)) 16 + v else sumI (fun x => d (16 * x + k)) 16 := by
      by_cases q : k = b
      · rw [if_pos q]
        have := sumI_upd (f := fun x => d (16 * x + k)) (a := a) (v := v) 16
        rw [if_pos (by omega)] at this
        rw [← this]
        refine sumI_ex2 16 (fun x hx => ?_)
        rw [h4]
        by_cases q2 : x = a
        · rw [if_pos (by omega), if_pos q2]
        · rw [if_neg (by omega), if_neg q2]
      · rw [if_neg q]
        refine sumI_ex2 16 (fun x hx => ?_)
        rw [h4, if_neg (by omega)]
    have s2 : sumI (fun x => d' (16 * k + x)) 16 = if k = a then sumI (fun x => d (16 * k + x)) 16 + v else sumI (fun x => d (16 * k + x)) 16 := by
      by_cases q : k = a
      · rw [if_pos q]
        have := sumI_upd (f := fun x => d (16 * k + x)) (a := b) (v := v) 16
        rw [if_pos (by omega)] at this
        rw [← this]
        refine sumI_ex2 16 (fun x hx => ?_)
        rw [h4]
        by_cases q2 : x = b
        · rw [if_pos (by omega), if_pos q2]
        · rw [if_neg (by omega), if_neg q2]
      · rw [if_neg q]
        refine sumI_ex2 16 (fun x hx => ?_)
        rw [h4, if_neg (by omega)]
    rw [s1, s2, h1]
    have neg : ∀ x y z : Int32, x - v + y + (z + v) = x + y + z := by
      intro x y z
      rw [Int32.sub_eq_add_neg]
      have e1 : x + -v + y + (z + v) = x + y + z + (-v + v) := by ac_rfl
      rw [e1, Int32.add_left_neg, Int32.add_zero]
    by_cases q1 : k = b
    · rw [if_pos q1, if_pos q1]
      by_cases q2 : k = a
      · rw [if_pos q2, if_pos (show b = a by omega), ← Int32.add_assoc, w, ← q2]
        have e1 : h k - v + v + e k + (sumI (fun x => d (16 * k + x)) 16 + v) = h k - v + (v + e k) + (sumI (fun x => d (16 * k + x)) 16 + v) := by ac_rfl
        rw [e1, neg]; ac_rfl
      · rw [if_neg q2, if_neg (show ¬ b = a by omega), ← Int32.add_assoc, w, ← q1]; ac_rfl
    · rw [if_neg q1, if_neg q1]
      by_cases q2 : k = a
      · rw [if_pos q2, if_pos q2, w, ← q2, neg]
      · rw [if_neg q2, if_neg q2]; exact w
  · rw [h4, if_neg (by omega)]; exact H.2 x y hx hy q
def P8 (σ : zM) : Prop := zg σ 3 8 = nI 8 ∧ PQ (zg σ 61) (zg σ 62) (zg σ 63) (zg σ 64) ∧ PQ (zg σ 65) (zg σ 66) (zg σ 67) (zg σ 68)
theorem P8.fx {m : zMk} {σ σ' : zM} (h : P8 σ) (hf : Fx m σ σ') (hd : dis m ([61, 62, 63, 64, 65, 66, 67, 68], [(3, 8)]) = true) : P8 σ' := by
  have e : ∀ k, k ∈ [61, 62, 63, 64, 65, 66, 67, 68] → zg σ' k = zg σ k := fun k hk => funext fun j => hf k j (dis_row hd hk j)
  refine ⟨(hf 3 8 (dis_fld hd (by simp))).trans h.1, ?_, ?_⟩
  · rw [e 61 (by simp), e 62 (by simp), e 63 (by simp), e 64 (by simp)]; exact h.2.1
  · rw [e 65 (by simp), e 66 (by simp), e 67 (by simp), e 68 (by simp)]; exact h.2.2
def HP {β : Type} (o : Option (β × zM)) : Prop := ∀ r t, o = some (r, t) → P8 t
theorem hp_none {β : Type} : HP (none : Option (β × zM)) := fun _ _ h => by cases h
theorem hp_some {β : Type} {t : zM} {r : β} (h : P8 t) : HP (some (r, t)) := fun _ _ e => by cases e; exact h
theorem hp_ite {β : Type} {c : Prop} [Decidable c] {A B : Option (β × zM)} (h1 : c → HP A) (h2 : ¬ c → HP B) : HP (if c then A else B) := by
  by_cases h : c
  · rw [if_pos h]; exact h1 h
  · rw [if_neg h]; exact h2 h
theorem hp_bnd {α β : Type} {o : Option (α × zM)} {f : α → zM → Option (β × zM)} (h : HP o) (g : ∀ r t, P8 t → HP (f r t)) : HP (bnd o f) := by
  intro r t e
  cases ho : o with
  | none => rw [ho] at e; cases e
  | some x => rw [ho] at e; exact g x.1 x.2 (h x.1 x.2 ho) r t e
theorem hp_lts {β : Type} {v : zM} {f : zM → Option (β × zM)} (e : P8 v) (h : ∀ y, P8 y → HP (f y)) : HP (lt v f) := h v e
theorem hp_ltv {α β : Type} {v : α} {f : α → Option (β × zM)} (h : ∀ y, HP (f y)) : HP (lt v f) := h v
theorem hp_fx {β : Type} {m : zMk} {s : zM} {o : Option (β × zM)} (h : P8 s) (hf : HF m s o) (hd : dis m ([61, 62, 63, 64, 65, 66, 67, 68], [(3, 8)]) = true) : HP o := fun r t e => h.fx (hf r t e).1 hd
theorem hp_fx' {β : Type} {m : zMk} {s : zM} {o : Option (β × zM)} (hf : HF m s o) (hd : dis m ([61, 62, 63, 64, 65, 66, 67, 68], [(3, 8)]) = true) (h : P8 s) : HP o := hp_fx h hf hd
theorem p8_zs {s : zM} {k j : Nat} {v : Int32} (h : P8 s) (hd : dis ([], [(k, j)]) ([61, 62, 63, 64, 65, 66, 67, 68], [(3, 8)]) = true) : P8 (zs s k j v) := h.fx (Fx.rf.zs (by simp [inm])) hd
theorem p8_f_X7_serve (v1 v2 : Int32) (s : zM) (h : P8 s) : HP (f_X7_serve v1 v2 s) := by
  unfold f_X7_serve f_X7_isGuest
  have ok : ∀ t, t = s → HP (if zin v1 16 = true then if zin v1 16 = true then lt (zs t 61 (v1).toNatClampNeg ((zg t 61 (v1).toNatClampNeg) + v2)) (fun s3 => if zin v1 16 = true then if zin v1 16 = true then lt (zs s3 63 (v1).toNatClampNeg ((zg s3 63 (v1).toNatClampNeg) + v2)) (fun s4 => some ((), s4)) else none else none) else none else none) := by
    rintro t rfl
    refine hp_ite (fun _ => hp_ite (fun _ => ?_) (fun _ => hp_none)) (fun _ => hp_none)
    rw [lt_eq]
    refine hp_ite (fun _ => hp_ite (fun _ => ?_) (fun _ => hp_none)) (fun _ => hp_none)
    rw [lt_eq]
    refine hp_some ⟨by rw [zg_ne (by decide), zg_ne (by decide)]; exact h.1, ?_, ?_⟩
    · have e := h.2.1.serve (g := v1.toNatClampNeg) (v := v2) (h' := zg (zs (zs t 61 v1.toNatClampNeg (zg t 61 v1.toNatClampNeg + v2)) 63 v1.toNatClampNeg (zg (zs t 61 v1.toNatClampNeg (zg t 61 v1.toNatClampNeg + v2)) 63 v1.toNatClampNeg + v2)) 61) (s' := zg (zs (zs t 61 v1.toNatClampNeg (zg t 61 v1.toNatClampNeg + v2)) 63 v1.toNatClampNeg (zg (zs t 61 v1.toNatClampNeg (zg t 61 v1.toNatClampNeg + v2)) 63 v1.toNatClampNeg + v2)) 63) (fun k => by rw [zg_ne (by decide), zg_row]) (fun k => by rw [zg_row, zg_ne (by decide), zg_ne (by decide)])
      refine e.cg (fun _ _ => rfl) (fun g _ => ?_) (fun _ _ => rfl) (fun i _ => ?_)
      · rw [zg_ne (by decide), zg_ne (by decide)]
      · rw [zg_ne (by decide), zg_ne (by decide)]
    · refine h.2.2.cg (fun g _ => ?_) (fun g _ => ?_) (fun g _ => ?_) (fun g _ => ?_) <;> rw [zg_ne (by decide), zg_ne (by decide)]
  split
  · rw [bnd_some, if_pos rfl]; exact hp_some h
  · split
    · rw [bnd_some, if_neg b1n]; exact ok s rfl
    · rw [bnd_some, if_pos rfl]; exact hp_some h
theorem p8_f_X7_eat (v1 v2 : Int32) (s : zM) (h : P8 s) : HP (f_X7_eat v1 v2 s) := by
  unfold f_X7_eat f_X7_isGuest
  have ok : ∀ t, t = s → HP (if zin v1 16 = true then if zin v1 16 = true then lt (zs t 61 (v1).toNatClampNeg ((zg t 61 (v1).toNatClampNeg) - v2)) (fun s3 => if zin v1 16 = true then if zin v1 16 = true then lt (zs s3 62 (v1).toNatClampNeg ((zg s3 62 (v1).toNatClampNeg) + v2)) (fun s4 => some ((), s4)) else none else none) else none else none) := by
    rintro t rfl
    refine hp_ite (fun _ => hp_ite (fun _ => ?_) (fun _ => hp_none)) (fun _ => hp_none)
    rw [lt_eq]
    refine hp_ite (fun _ => hp_ite (fun _ => ?_) (fun _ => hp_none)) (fun _ => hp_none)
    rw [lt_eq]
    refine hp_some ⟨by rw [zg_ne (by decide), zg_ne (by decide)]; exact h.1, ?_, ?_⟩
    · have e := h.2.1.eat (g := v1.toNatClampNeg) (v := v2) (h' := zg (zs (zs t 61 v1.toNatClampNeg (zg t 61 v1.toNatClampNeg - v2)) 62 v1.toNatClampNeg (zg (zs t 61 v1.toNatClampNeg (zg t 61 v1.toNatClampNeg - v2)) 62 v1.toNatClampNeg + v2)) 61) (e' := zg (zs (zs t 61 v1.toNatClampNeg (zg t 61 v1.toNatClampNeg - v2)) 62 v1.toNatClampNeg (zg (zs t 61 v1.toNatClampNeg (zg t 61 v1.toNatClampNeg - v2)) 62 v1.toNatClampNeg + v2)) 62) (fun k => by rw [zg_ne (by decide), zg_row]) (fun k => by rw [zg_row, zg_ne (by decide), zg_ne (by decide)])
      refine e.cg (fun _ _ => rfl) (fun _ _ => rfl) (fun g _ => ?_) (fun i _ => ?_)
      · rw [zg_ne (by decide), zg_ne (by decide)]
      · rw [zg_ne (by decide), zg_ne (by decide)]
    · refine h.2.2.cg (fun g _ => ?_) (fun g _ => ?_) (fun g _ => ?_) (fun g _ => ?_) <;> rw [zg_ne (by decide), zg_ne (by decide)]
  split
  · rw [bnd_some, if_pos rfl]; exact hp_some h
  · split
    · rw [bnd_some, if_neg b1n]; exact ok s rfl
    · rw [bnd_some, if_pos rfl]; exact hp_some h
theorem p8_hand {a b : Nat} (v : Int32) (s : zM) (h : P8 s) (ha : a < 8) (hb : b < 8) : HP (f_X7_hand (nI a) (nI b) v s) := by
  have z1 : zin (nI a) 16 = true := zin_n (by omega) (by omega)
  have z2 : zin (nI b) 16 = true := zin_n (by omega) (by omega)
  have e16 : nI a * (16 : Int32) + nI b = nI (16 * a + b) := by
    rw [show (16 : Int32) = nI 16 from rfl, pk_mul, nI_add, Nat.mul_comm]
  have z3 : zin (nI (16 * a + b)) 256 = true := zin_n (by omega) (by omega)
  unfold f_X7_hand
  rw [e_isGuestP (show a < 16 by omega), bnd_some, if_neg b1n, e_isGuestP (show b < 16 by omega), bnd_some, if_neg b1n, if_pos z1, if_pos z1, lt_eq, if_pos z2, if_pos z2, lt_eq, e16, if_pos z3, if_pos z3, lt_eq, nI_clamp (by omega), nI_clamp (by omega), nI_clamp (by omega)]
  generalize hs1 : zs s 61 a (zg s 61 a - v) = s1
  generalize hs2 : zs s1 61 b (zg s1 61 b + v) = s2
  refine hp_some ⟨by rw [zg_ne (by decide), ← hs2, zg_ne (by decide), ← hs1, zg_ne (by decide)]; exact h.1, ?_, ?_⟩
  · have e := h.2.1.hand (a := a) (b := b) (v := v) (h' := zg (zs s2 64 (16 * a + b) (zg s2 64 (16 * a + b) + v)) 61) (d' := zg (zs s2 64 (16 * a + b) (zg s2 64 (16 * a + b) + v)) 64) ha hb (fun k => by rw [zg_ne (by decide), ← hs2, zg_row, ← hs1, zg_row, zg_row]) (fun i => by
      rw [zg_row]
      have e2 : ∀ i, zg s2 64 i = zg s 64 i := fun i => by rw [← hs2, zg_ne (by decide), ← hs1, zg_ne (by decide)]
      rw [e2, e2]
      by_cases q : i = 16 * a + b
      · rw [if_pos q, if_pos q, q]
      · rw [if_neg q, if_neg q])
    refine e.cg (fun _ _ => rfl) (fun g _ => ?_) (fun g _ => ?_) (fun _ _ => rfl) <;> rw [zg_ne (by decide), ← hs2, zg_ne (by decide), ← hs1, zg_ne (by decide)]
  · refine h.2.2.cg (fun g _ => ?_) (fun g _ => ?_) (fun g _ => ?_) (fun g _ => ?_) <;> rw [zg_ne (by decide), ← hs2, zg_ne (by decide), ← hs1, zg_ne (by decide)]
theorem p8_f_X7_store (s : zM) (h : P8 s) : HP (f_X7_store s) := by
  unfold f_X7_store
  rw [lt_eq, lt_eq, lt_eq, lt_eq]
  refine hp_some ⟨by rw [zg_cpn (by decide), zg_cpn (by decide), zg_cpn (by decide), zg_cpn (by decide)]; exact h.1, ?_, ?_⟩
  · refine h.2.1.cg (fun g _ => ?_) (fun g _ => ?_) (fun g _ => ?_) (fun g _ => ?_) <;> rw [zg_cpn (by decide), zg_cpn (by decide), zg_cpn (by decide), zg_cpn (by decide)]
  · refine h.2.1.cg (fun g hg => ?_) (fun g hg => ?_) (fun g hg => ?_) (fun g hg => ?_)
    · rw [zg_cpn (by decide), zg_cpn (by decide), zg_cpn (by decide), zg_cp, if_pos rfl, if_pos hg]
    · rw [zg_cpn (by decide), zg_cpn (by decide), zg_cp, if_pos rfl, if_pos hg, zg_cpn (by decide)]
    · rw [zg_cpn (by decide), zg_cp, if_pos rfl, if_pos hg, zg_cpn (by decide), zg_cpn (by decide)]
    · rw [zg_cp, if_pos rfl, if_pos hg, zg_cpn (by decide), zg_cpn (by decide), zg_cpn (by decide)]
theorem p8_f_X7_restore (s : zM) (h : P8 s) : HP (f_X7_restore s) := by
  unfold f_X7_restore
  rw [lt_eq, lt_eq, lt_eq, lt_eq]
  refine hp_some ⟨by rw [zg_cpn (by decide), zg_cpn (by decide), zg_cpn (by decide), zg_cpn (by decide)]; exact h.1, ?_, ?_⟩
  · refine h.2.2.cg (fun g hg => ?_) (fun g hg => ?_) (fun g hg => ?_) (fun g hg => ?_)
    · rw [zg_cpn (by decide), zg_cpn (by decide), zg_cpn (by decide), zg_cp, if_pos rfl, if_pos hg]
    · rw [zg_cpn (by decide), zg_cpn (by decide), zg_cp, if_pos rfl, if_pos hg, zg_cpn (by decide)]
    · rw [zg_cpn (by decide), zg_cp, if_pos rfl, if_pos hg, zg_cpn (by decide), zg_cpn (by decide)]
    · rw [zg_cp, if_pos rfl, if_pos hg, zg_cpn (by decide), zg_cpn (by decide), zg_cpn (by decide)]
  · refine h.2.2.cg (fun g _ => ?_) (fun g _ => ?_) (fun g _ => ?_) (fun g _ => ?_) <;> rw [zg_cpn (by decide), zg_cpn (by decide), zg_cpn (by decide), zg_cpn (by decide)]
theorem v_seatOf {v : Int32} {s : zM} (h : P8 s) : f_X0_seatOf v s = some (if gd 8 v then zg s 6 v.toNatClampNeg else -1, s) := by
  unfold f_X0_seatOf
  rw [e_knows (by omega) h.1, bnd_some, b01]
  by_cases q : gd 8 v
  · rw [if_pos q, if_pos q, if_pos]
    obtain ⟨g, hg, rfl, -⟩ := nI_of' q (by omega)
    exact zin_n (by omega) (by omega)
  · rw [if_neg q, if_neg q]
