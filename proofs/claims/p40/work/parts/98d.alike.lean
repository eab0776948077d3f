/-! ===== what is held alike behind each act ===== -/
theorem LW.pair0 {β : Type} {a b : Nat} {T : zM → Option (β × zM)} {σ : zM} (hT : PR 0 T) (h : LW a b σ) (ha : a < 990) (hb : b < 990) : ∃ r σ1 σ2, inT 0 T σ = some (r, σ1) ∧ inT 1 T σ1 = some (r, σ2) ∧ ∃ a' b', a' ≤ a ∧ b' ≤ b ∧ LW a' b' σ2 := by
  obtain ⟨r, σ1, σ2, a', b', e1, e2, h', l1, l2⟩ := LW.pair hT h ha hb
  exact ⟨r, σ1, σ2, e1, e2, a', b', l1, l2, h'⟩
/-- two tables of an age at most so and so -/
def LQ (A : Nat) (σ : zM) : Prop := ∃ a b, a ≤ A ∧ b ≤ A ∧ LW a b σ
theorem LQ.pair {β : Type} {A k : Nat} {T : zM → Option (β × zM)} {σ : zM} (hT : PR k T) (h : LQ A σ) (hA : A < 990) : ∃ r σ1 σ2, inT 0 T σ = some (r, σ1) ∧ inT 1 T σ1 = some (r, σ2) ∧ LQ (A + k) σ2 := by
  obtain ⟨a, b, h1, h2, h⟩ := h
  obtain ⟨r, σ1, σ2, a', b', e1, e2, h', l1, l2⟩ := LW.pair hT h (by omega) (by omega)
  exact ⟨r, σ1, σ2, e1, e2, a', b', by omega, by omega, h'⟩
section ZAL
variable {F D A : Nat}
theorem alike_60 (hF : 6000 ≤ F) (hA : A < 990) {K : Int32 → zM → Option (Int32 × zM)} : ∀ (d fu k : Nat) (σ : zM), k + d = 7 → d < fu → LQ A σ → ∃ σ', f_L_alike_L60 F K fu 1 (nI k) σ = K 1 σ' ∧ LQ A σ' := by
  intro d
  induction d with
  | zero =>
    intro fu k σ hk hfu h
    obtain ⟨fu, rfl⟩ : ∃ f', fu = f' + 1 := ⟨fu - 1, by omega⟩
    have hk7 : k = 7 := by omega
    subst hk7
    exact ⟨σ, by rw [f_L_alike_L60, if_neg (by decide)], h⟩
  | succ d ih =>
    intro fu k σ hk hfu h
    obtain ⟨fu, rfl⟩ : ∃ f', fu = f' + 1 := ⟨fu - 1, by omega⟩
    obtain ⟨r, σ1, σ2, e1, e2, h2⟩ := h.pair (pr_count (nI k)) hA
    obtain ⟨σ', g1, g2⟩ := ih fu (k + 1) σ2 (by omega) (by omega) h2
    refine ⟨σ', ?_, g2⟩
    rw [f_L_alike_L60, if_pos (show nI k < (7 : Int32) by rw [show (7 : Int32) = nI 7 from rfl, nI_ltI (by omega) (by omega)]; omega), if_neg b1n, e1, bnd_some, e2, bnd_some, if_pos rfl, lt_eq, nI_1]
    exact g1
theorem alike_97 (hF : 6000 ≤ F) (hA : A < 990) {K : Int32 → zM → Option (Int32 × zM)} : ∀ (d fu k : Nat) (σ : zM), k + d = 8 → d < fu → LQ A σ → ∃ σ', f_L_alike_L97 F K fu 1 (nI k) σ = K 1 σ' ∧ LQ A σ' := by
  intro d
  induction d with
  | zero =>
    intro fu k σ hk hfu h
    obtain ⟨fu, rfl⟩ : ∃ f', fu = f' + 1 := ⟨fu - 1, by omega⟩
    have hk8 : k = 8 := by omega
    subst hk8
    exact ⟨σ, by rw [f_L_alike_L97, if_neg (by decide)], h⟩
  | succ d ih =>
    intro fu k σ hk hfu h
    obtain ⟨fu, rfl⟩ : ∃ f', fu = f' + 1 := ⟨fu - 1, by omega⟩
    obtain ⟨r1, s1, t1, a1, b1, h1⟩ := h.pair (pr_count ((20 : Int32) + nI k)) hA
    obtain ⟨r2, s2, t2, a2, b2, h2⟩ := h1.pair (pr_led hF (nI k) 0) hA
    obtain ⟨r3, s3, t3, a3, b3, h3⟩ := h2.pair (pr_led hF (nI k) 4) hA
    obtain ⟨r4, s4, t4, a4, b4, h4⟩ := h3.pair (pr_count ((40 : Int32) + nI k)) hA
    obtain ⟨r5, s5, t5, a5, b5, h5⟩ := h4.pair (pr_rumour hF (nI k) 3 (-1)) hA
    obtain ⟨σ', g1, g2⟩ := ih fu (k + 1) t5 (by omega) (by omega) h5
    refine ⟨σ', ?_, g2⟩
    rw [f_L_alike_L97, if_pos (show nI k < (8 : Int32) by rw [show (8 : Int32) = nI 8 from rfl, nI_ltI (by omega) (by omega)]; omega), if_neg b1n, a1, bnd_some, b1, bnd_some, if_pos rfl, a2, bnd_some, b2, bnd_some, if_pos rfl, a3, bnd_some, b3, bnd_some, if_pos rfl, a4, bnd_some, b4, bnd_some, if_pos rfl, a5, bnd_some, b5, bnd_some, if_pos rfl, lt_eq, nI_1]
    exact g1
theorem alike_ok (hF : 6000 ≤ F) (hA : A < 990) {σ : zM} (h : LQ A σ) : ∃ σ', f_L_alike F σ = some (1, σ') ∧ LQ A σ' := by
  obtain ⟨r1, s1, t1, a1, b1, h1⟩ := h.pair (pr_sum hF) hA
  obtain ⟨r2, s2, t2, a2, b2, h2⟩ := h1.pair (pr_strays hF) hA
  obtain ⟨r3, s3, t3, a3, b3, h3⟩ := h2.pair (pr_wrong hF) hA
  obtain ⟨r4, s4, t4, a4, b4, h4⟩ := h3.pair (pr_heard hF 9 20) hA
  obtain ⟨t5, c1, h5⟩ := alike_60 hF hA (K := fun y68 s67 => f_L_alike_L97 F (fun y70 s69 => if y70 = 0 then some (0, s69) else if y70 = 1 then some (1, s69) else none) F y68 (0 : Int32) s67) 7 F 0 t4 (by omega) (by omega) h4
  obtain ⟨t6, c2, h6⟩ := alike_97 hF hA (K := fun y70 s69 => if y70 = 0 then some (0, s69) else if y70 = 1 then some (1, s69) else none) 8 F 0 t5 (by omega) (by omega) h5
  refine ⟨t6, ?_, h6⟩
  unfold f_L_alike
  rw [a1, bnd_some, b1, bnd_some, if_pos rfl, a2, bnd_some, b2, bnd_some, if_pos rfl, a3, bnd_some, b3, bnd_some, if_pos rfl, a4, bnd_some, b4, bnd_some, if_pos rfl]
  refine c1.trans (c2.trans ?_)
  rw [if_neg b1n, if_pos rfl]
/-! ===== the one table alone ===== -/
/-- o's memory stands at this one, in scratch moved on; p's is as it was -/
def OW (n r pp p q c a : Nat) (α : zM) (σ0 σ : zM) : Prop := QI n r pp p q c a α (sub 0 σ) ∧ (∀ x, 1 ≤ x → (sub 0 σ).2 x = α.2 x) ∧ sub 1 σ = sub 1 σ0
theorem OW.step {β : Type} {n r pp p q c a : Nat} {α σ0 σ : zM} {X : zM → Option (β × zM)} {v : β} {τ' : zM} (h : OW n r pp p q c a α σ0 σ) (hx : X (sub 0 σ) = some (v, τ')) (hf : ∀ x, 1 ≤ x → τ'.2 x = (sub 0 σ).2 x) (hq : QI n r pp p q c a α τ') : ∃ σ', inT 0 X σ = some (v, σ') ∧ OW n r pp p q c a α σ0 σ' := by
  refine ⟨put 0 σ τ', by unfold inT; rw [hx], ?_, ?_, ?_⟩
  · rw [sub_put (by decide)]; exact hq
  · rw [sub_put (by decide)]; exact fun x hx => (hf x hx).trans (h.2.1 x hx)
  · rw [sub_put_ne (by decide) (by decide) (by decide)]; exact h.2.2
variable {n r pp p q c a : Nat} {α σ0 σ : zM}
theorem w_led (hF : 6000 ≤ F) (h : OW n r pp p q c a α σ0 σ) {g : Nat} (hg : g < n) : ∀ w : Nat, w < 5 → inT 0 (f_X11_led F (nI g) (nI w)) σ = some (if w = 0 then zg α 61 g else if w = 1 then zg α 62 g else if w = 2 then zg α 63 g else if w = 3 then sumI (fun h => zg α 64 (16 * h + g)) 16 else sumI (fun h => zg α 64 (16 * g + h)) 16, put 0 σ (sub 0 σ)) := by
  obtain ⟨a0, a1, a2, a3, a4⟩ := q_led (F := F) (by omega) h.1 hg
  intro w hw
  have hw' : w = 0 ∨ w = 1 ∨ w = 2 ∨ w = 3 ∨ w = 4 := by omega
  unfold inT
  rcases hw' with rfl | rfl | rfl | rfl | rfl
  · rw [show nI 0 = (0 : Int32) from rfl, a0]; rfl
  · rw [show nI 1 = (1 : Int32) from rfl, a1]; rfl
  · rw [show nI 2 = (2 : Int32) from rfl, a2]; rfl
  · rw [show nI 3 = (3 : Int32) from rfl, a3]; rfl
  · rw [show nI 4 = (4 : Int32) from rfl, a4]; rfl
theorem put_sub {t : Nat} (ht : t < 2) (σ : zM) : put t σ (sub t σ) = σ := by
  refine Prod.ext (funext fun k => funext fun j => ?_) (funext fun x => ?_)
  · rw [put_1, sub_1, sub_1]
    by_cases h1 : 69 * t ≤ k ∧ k < 69 * t + 69
    · rw [if_pos h1, sbx_lo (by omega), show k - 69 * t + 69 * t = k by omega]
    · rw [if_neg h1]
      by_cases h2 : 141 ≤ k ∧ (k - 141) % 2 = t
      · rw [if_pos h2, sbx_hi (by omega), show 141 + 2 * ((k - 141) / 2 + 69 - 69) + t = k by omega]
      · rw [if_neg h2]
  · rw [put_2, sub_l]
    by_cases h : x % 2 = t
    · rw [if_pos h, show 2 * (x / 2) + t = x by omega]
    · rw [if_neg h]
end ZAL
