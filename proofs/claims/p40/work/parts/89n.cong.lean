/-! ===== moving keeps what two memories share ===== -/
theorem zs_cg {M : zMk} {σ σ' : zM} (h : Fx M σ σ') (k j : Nat) (v : Int32) : Fx M (zs σ k j v) (zs σ' k j v) := by
  intro a b hab
  rw [zg_zs, zg_zs, h a b hab]
theorem plc_cg {M : zMk} {σ σ' : zM} (h : Fx M σ σ') (g : Nat) (v : Int32) (h6 : inm M 6 g = false) : Fx M (plc σ g v) (plc σ' g v) := by
  unfold plc
  dsimp only
  rw [h 6 g h6]
  by_cases q : zg σ 6 g = -1
  · rw [if_pos q, if_pos q]
    by_cases q2 : v = -1
    · rw [if_pos q2, if_pos q2]; exact zs_cg h _ _ _
    · rw [if_neg q2, if_neg q2]; exact zs_cg (zs_cg h _ _ _) _ _ _
  · rw [if_neg q, if_neg q]
    by_cases q2 : v = -1
    · rw [if_pos q2, if_pos q2]; exact zs_cg (zs_cg h _ _ _) _ _ _
    · rw [if_neg q2, if_neg q2]; exact zs_cg (zs_cg (zs_cg h _ _ _) _ _ _) _ _ _
theorem lifA_cg {M : zMk} {σ σ' : zM} {tg : Nat → Nat} (h : Fx M σ σ') (h6 : ∀ g, inm M 6 g = false) : ∀ k, Fx M (lifA tg k σ) (lifA tg k σ') := by
  intro k
  induction k with
  | zero => exact h
  | succ k ih => exact plc_cg ih _ _ (h6 _)
theorem seaA_cg {M : zMk} {σ σ' : zM} {tg pi : Nat → Nat} (h : Fx M σ σ') (h6 : ∀ g, inm M 6 g = false) : ∀ k, Fx M (seaA tg pi k σ) (seaA tg pi k σ') := by
  intro k
  induction k with
  | zero => exact h
  | succ k ih => exact plc_cg ih _ _ (h6 _)
theorem i_bk (x y : Int32) : x + (y - x) = y := by grind
abbrev mY : zMk := ([6, 9, 13, 14, 15, 23, 32, 45, 46, 47, 48, 49, 50], [(1, 1)])
abbrev alv (n : Nat) (W : Int32) (σ : zM) : Prop := ∀ x, x < n → bt W x = true → zg σ 5 x = 1
theorem seat_mod {F n m t : Nat} {W : Int32} {b : Nat → Nat} {σ : zM} (hF : 20 ≤ F) (hG : IG n σ) (bG : BG n σ σ) (hW16 : ∀ i, n ≤ i → i < 32 → bt W i = false) (c7 : m ≤ 7) (hmt : m ≤ t) (ht : t ≤ 220) (hb : ∀ i, i < t → b i < 256 ∧ zg σ 2 i = nI (b i)) (bT : ∀ i, i < t → zg σ 74 i = (zg σ 2 i).toInt8.toInt32) : ∀ σy, Fx mY σ σy → ∃ τb, Fx ([98], []) (zs σy 69 7 0) τb ∧ ((¬ (∃ f, insA b (okS σ W) m = some f ∧ alv n W σ) ∧ f_X12_takesSeats F W (nI m) (zs σy 69 7 0) = some (0, τb)) ∨ (∃ f, insA b (okS σ W) m = some f ∧ alv n W σ ∧ f_X12_takesSeats F W (nI m) (zs σy 69 7 0) = some (1, τb) ∧ ∀ j, j < m → zg τb 98 j = nI (f j))) := by
  intro σy hy
  have bGa : BG n σ (zs σy 69 7 0) := (bG.si hy rfl).si (m := ([], [(69, 7)])) (Fx.rf.zs rfl) rfl
  have hba : ∀ i, i < t → b i < 256 ∧ zg (zs σy 69 7 0) 74 i = (nI (b i)).toInt8.toInt32 := fun i hi => ⟨(hb i hi).1, by rw [zg_ne (by decide), hy 74 i rfl, bT i hi, (hb i hi).2]⟩
  obtain ⟨τb, a1, a2, a3⟩ := e_take2 (F := F) (C := fun s16 => f_X12_takesSeats_L130 F (fun s19 => some ((1 : Int32), s19)) W F (nI 0) s16) (W := W) (b := b) hF hG bGa c7 hmt ht hba m F 0 (fun _ => 0) _ (by omega) (by omega) Fx.rf rfl (fun j hj => by omega)
  have hunf : f_X12_takesSeats F W (nI m) (zs σy 69 7 0) = f_X12_takesSeats_L2 F (fun s16 => f_X12_takesSeats_L130 F (fun s19 => some ((1 : Int32), s19)) W F (nI 0) s16) W (nI m) F (nI 0) (zs σy 69 7 0) := by unfold f_X12_takesSeats; rfl
  refine ⟨τb, a1, ?_⟩
  rw [hunf, a2]
  cases e : insA b (okS σ W) m with
  | none => exact Or.inl ⟨fun ⟨f, h, _⟩ => (by cases h), by rw [if_neg (by simp)]⟩
  | some f =>
    rw [if_pos (show (some f : Option (Nat → Nat)).isSome = true from rfl)]
    rcases e_take130 (F := F) (C := fun s19 => some ((1 : Int32), s19)) hG (bGa.si a1 rfl) hW16 16 F 0 (by omega) (by omega) (fun x hx => by omega) with ⟨⟨x, x1, x2, x3⟩, k⟩ | ⟨k1, k2⟩
    · refine Or.inl ⟨fun ⟨f', _, h⟩ => ?_, k⟩
      have := h x x1 x2
      rw [x3] at this; exact absurd this (by decide)
    · exact Or.inr ⟨f, rfl, k1, k2, a3 f e⟩
theorem seat_cls {F n m t : Nat} {W : Int32} {b : Nat → Nat} {σ : zM} (hF : 20 ≤ F) (hG : IG n σ) (hm : fre (nbW W) n = m) (c7 : m ≤ 7) (hmt : m ≤ t) (ht : t ≤ 220) (h1 : zg σ 1 1 = nI t) (hb : ∀ i, i < t → b i < 256 ∧ zg σ 2 i = nI (b i)) : ∃ σc, Fx ([45, 46, 47], []) σ σc ∧ ((¬ (∃ f, insA b (okS σ W) m = some f ∧ alv n W σ) ∧ f_X6_tell F W σ = some (0, σc)) ∨ (∃ f, insA b (okS σ W) m = some f ∧ alv n W σ ∧ f_X6_tell F W σ = some (1, σc) ∧ zg σc 45 10 = nI m ∧ zg σc 45 11 = W ∧ (∀ j, j < m → zg σc 46 j = nI (tgf W j)) ∧ ∀ j, j < m → zg σc 47 j = nI (f j))) := by
  obtain ⟨σa, hσa⟩ : ∃ σa, σa = zs (zs σ 45 10 0) 45 11 W := ⟨_, rfl⟩
  have fa : Fx ([45], []) σ σa := by rw [hσa]; exact (Fx.rf.zs rfl).zs rfl
  have z10 : zg σa 45 10 = nI (fre (nbW W) 0) := by rw [hσa, zg_nj (by decide), zg_eq]; rfl
  have z11 : zg σa 45 11 = W := by rw [hσa, zg_eq]
  have hunf : f_X6_tell F W σ = f_X6_tell_L12 F (fun s13 => f_X6_tell_L82 F (fun s25 => some ((1 : Int32), s25)) W F (nI 0) s13) W F (nI 0) σa := by
    unfold f_X6_tell
    rw [lt_eq, lt_eq, ← hσa]; rfl
  obtain ⟨σb, fb, hor⟩ := e_tell12 (F := F) (W := W) (m := m) (K := fun s13 => f_X6_tell_L82 F (fun s25 => some ((1 : Int32), s25)) W F (nI 0) s13) (hG.fx fa rfl) hm c7 n F 0 σa (by omega) (by have := hG.1; omega) Fx.rf z10 (fun k hk => by rw [fre] at hk; omega) (fun x hx => by omega)
  have fab : Fx ([45, 46, 47], []) σ σb := (fa.sub rfl).tr (fb.sub rfl)
  rw [hunf]
  rcases hor with ⟨⟨x, x1, x2, x3⟩, k⟩ | ⟨k1, k2, k3, k4⟩
  · refine ⟨σb, fab, Or.inl ⟨fun ⟨f', _, h⟩ => ?_, k⟩⟩
    have := h x x1 x2
    rw [fa 5 x rfl] at x3
    rw [x3] at this; exact absurd this (by decide)
  · obtain ⟨σc, d1, d2, d3⟩ := e_tell82 (F := F) (W := W) (b := b) (K := fun s25 => some ((1 : Int32), s25)) hF hG c7 hmt ht h1 hb m F 0 (fun _ => 0) σb (by omega) (by omega) fab k3 rfl (fun j hj => by omega)
    have fac' : Fx ([45, 46, 47], []) σ σc := fab.tr (d1.sub rfl)
    refine ⟨σc, fac', ?_⟩
    rw [k2, d2]
    cases e : insA b (okS σ W) m with
    | none => exact Or.inl ⟨fun ⟨f, h, _⟩ => (by cases h), by rw [if_neg (by simp)]⟩
    | some f =>
      refine Or.inr ⟨f, rfl, fun x hx hb => (fa 5 x rfl).symm.trans (k1 x hx hb), by rw [if_pos (show (some f : Option (Nat → Nat)).isSome = true from rfl)], (d1 45 10 rfl).trans k3, ?_, fun j hj => (d1 46 j rfl).trans (k4 j hj), d3 f e⟩
      rw [d1 45 11 rfl, fb 45 11 rfl, z11]
