/-! ===== seats: who sits where ===== -/
def dst (s t : Nat) : Nat := if s / 2 ≤ t / 2 then t / 2 - s / 2 else s / 2 - t / 2
def nxt (s t : Nat) : Bool := dst s t + (if s % 2 = t % 2 then 0 else 1) == 1
def besI (s w : Nat) : Int32 := if w = 0 then (if 2 ≤ s then nI (s - 2) else -1) else if w = 1 then (if s + 2 < 40 then nI (s + 2) else -1) else if s % 2 = 0 then nI (s + 1) else nI (s - 1)
theorem v_apart : ∀ s, s < 40 → ∀ t, t < 40 → (if 0 ≤ ((nI s >>> ((1 : Int32) &&& 31)) - (nI t >>> ((1 : Int32) &&& 31))) then ((nI s >>> ((1 : Int32) &&& 31)) - (nI t >>> ((1 : Int32) &&& 31))) else 0 - ((nI s >>> ((1 : Int32) &&& 31)) - (nI t >>> ((1 : Int32) &&& 31)))) = nI (dst s t) := by decide +kernel
theorem e_apart {s t : Nat} (hs : s < 40) (ht : t < 40) (σ : zM) : f_X8_apart (nI s) (nI t) σ = some (nI (dst s t), σ) := by
  unfold f_X8_apart
  rw [v_apart s hs t ht]
theorem v_next : ∀ s, s < 40 → ∀ t, t < 40 → (decide ((nI (dst s t) + ((nI s ^^^ nI t) &&& (1 : Int32))) = (1 : Int32))) = nxt s t := by decide +kernel
theorem e_areNext {s t : Nat} (hs : s < 40) (ht : t < 40) (σ : zM) : f_X8_areNext (nI s) (nI t) σ = some (if nxt s t = true then 1 else 0, σ) := by
  unfold f_X8_areNext
  rw [e_apart hs ht, bnd_some, ← v_next s hs t ht]
  by_cases h : (nI (dst s t) + ((nI s ^^^ nI t) &&& (1 : Int32))) = (1 : Int32) <;> simp [h]
theorem v_bes : ∀ s, s < 40 → (if 0 ≤ (nI s - 2).toInt ∧ (nI s - 2).toInt < 40 then nI s - 2 else -1) = besI s 0 ∧ (if 0 ≤ (nI s + 2).toInt ∧ (nI s + 2).toInt < 40 then nI s + 2 else -1) = besI s 1 ∧ (if 0 ≤ (nI s ^^^ 1).toInt ∧ (nI s ^^^ 1).toInt < 40 then nI s ^^^ 1 else -1) = besI s 2 := by decide +kernel
theorem e_isSeat_n {k : Nat} (h : k < 40) (s : zM) : f_X8_isSeat (nI k) s = some (1, s) := by
  rw [e_isSeat, if_pos (by rw [nI_toInt (by omega)]; omega)]
theorem e_beside {s w : Nat} (hs : s < 40) (hw : w < 3) (σ : zM) : f_X8_beside (nI s) (nI w) σ = some (besI s w, σ) := by
  unfold f_X8_beside
  rw [e_isSeat_n hs, bnd_some, if_neg (show ¬ (1 : Int32) = 0 by decide)]
  simp only [e_isSeat, bnd_some, b01, lt_eq]
  obtain ⟨v0, v1, v2⟩ := v_bes s hs
  match w, hw with
  | 0, _ => rw [if_pos (show nI 0 = (0 : Int32) from rfl), ← v0]; split <;> rfl
  | 1, _ => rw [if_neg (show ¬ nI 1 = (0 : Int32) by decide), if_pos (show nI 1 = (1 : Int32) from rfl), ← v1]; split <;> rfl
  | 2, _ => rw [if_neg (show ¬ nI 2 = (0 : Int32) by decide), if_neg (show ¬ nI 2 = (1 : Int32) by decide), ← v2]; split <;> rfl
theorem e_beside_m1 (v : Int32) (σ : zM) : f_X8_beside (-1) v σ = some (-1, σ) := by
  unfold f_X8_beside
  simp only [e_isSeat, bnd_some, b01]
  rw [if_neg (by decide)]
theorem v_besM : ∀ s, s < 40 → (if 0 ≤ (nI s - 2).toInt ∧ (nI s - 2).toInt < 40 then nI s - 2 else -1) = besI s 0 ∧ (if 0 ≤ (nI s + 2).toInt ∧ (nI s + 2).toInt < 40 then nI s + 2 else -1) = besI s 1 ∧ (if (nI s - nI s / (2 : Int32) * (2 : Int32)) = 0 then (if 0 ≤ (nI s + 1).toInt ∧ (nI s + 1).toInt < 40 then nI s + 1 else -1) else (if 0 ≤ (nI s - 1).toInt ∧ (nI s - 1).toInt < 40 then nI s - 1 else -1)) = besI s 2 := by decide +kernel
theorem e_besideM {s w : Nat} (hs : s < 40) (hw : w < 3) (σ : zM) : f_X12_beside (nI s) (nI w) σ = some (besI s w, σ) := by
  unfold f_X12_beside
  simp only [e_isSeatM, bnd_some, b01, lt_eq]
  obtain ⟨v0, v1, v2⟩ := v_besM s hs
  match w, hw with
  | 0, _ => rw [if_neg (show ¬ nI 0 = (2 : Int32) by decide), if_neg (show ¬ nI 0 = (1 : Int32) by decide), ← v0]; split <;> rfl
  | 1, _ => rw [if_neg (show ¬ nI 1 = (2 : Int32) by decide), if_pos (show nI 1 = (1 : Int32) from rfl), ← v1]; split <;> rfl
  | 2, _ =>
    rw [if_pos (show nI 2 = (2 : Int32) from rfl), ← v2]
    split
    · split <;> rfl
    · split <;> rfl
theorem besI_or {s w : Nat} (hs : s < 40) (hw : w < 3) : besI s w = -1 ∨ ∃ t, t < 40 ∧ besI s w = nI t := by
  unfold besI
  repeat' split
  all_goals first | exact Or.inl rfl | exact Or.inr ⟨_, by omega, rfl⟩
theorem v_nxt : ∀ s, s < 40 → ∀ t, t < 40 → (nxt s t = true ↔ (besI s 0 = nI t ∨ besI s 1 = nI t ∨ besI s 2 = nI t)) := by decide +kernel
theorem e_areNextM {F s t : Nat} (hF : 4 ≤ F) (hs : s < 40) (ht : t < 40) (σ : zM) : f_X12_areNext F (nI s) (nI t) σ = some (if nxt s t = true then 1 else 0, σ) := by
  obtain ⟨F, rfl⟩ : ∃ F', F = F' + 4 := ⟨F - 4, by omega⟩
  have hm : ¬ nI t = -1 := nI_m1 (by omega)
  have b0 := e_besideM hs (w := 0) (by omega) σ
  have b1 := e_besideM hs (w := 1) (by omega) σ
  have b2 := e_besideM hs (w := 2) (by omega) σ
  have hv := v_nxt s hs t ht
  unfold f_X12_areNext
  simp only [f_X12_areNext_L2, lt_eq, if_neg hm]
  rw [if_pos (by decide), show ((0 : Int32)) = nI 0 from rfl, b0, bnd_some]
  by_cases h0 : besI s 0 = nI t
  · rw [if_pos h0, if_pos (hv.mpr (Or.inl h0))]
  rw [if_neg h0, show (nI 0 + 1 : Int32) = nI 1 from rfl, if_pos (by decide), b1, bnd_some]
  by_cases h1 : besI s 1 = nI t
  · rw [if_pos h1, if_pos (hv.mpr (Or.inr (Or.inl h1)))]
  rw [if_neg h1, show (nI 1 + 1 : Int32) = nI 2 from rfl, if_pos (by decide), b2, bnd_some]
  by_cases h2 : besI s 2 = nI t
  · rw [if_pos h2, if_pos (hv.mpr (Or.inr (Or.inr h2)))]
  rw [if_neg h2, show (nI 2 + 1 : Int32) = nI 3 from rfl, if_neg (by decide), if_neg (fun h => by rcases hv.mp h with h | h | h <;> contradiction)]
def plc (σ : zM) (g : Nat) (v : Int32) : zM :=
  let σ1 := if zg σ 6 g = -1 then σ else zs σ 9 (zg σ 6 g).toNatClampNeg (-1)
  if v = -1 then zs σ1 6 g v else zs (zs σ1 6 g v) 9 v.toNatClampNeg (nI g)
theorem plc_fx (σ : zM) (g : Nat) (v : Int32) : Fx ([6, 9], []) σ (plc σ g v) := by
  unfold plc
  dsimp only
  repeat' split
  all_goals first
    | exact Fx.rf.zs rfl
    | exact (Fx.rf.zs rfl).zs rfl
    | exact ((Fx.rf.zs rfl).zs rfl).zs rfl
theorem plc_6 (σ : zM) (g : Nat) (v : Int32) (j : Nat) : zg (plc σ g v) 6 j = if j = g then v else zg σ 6 j := by
  unfold plc
  dsimp only
  repeat' split
  all_goals simp_all [zg, zs]
theorem plc_9 (σ : zM) (g : Nat) (v : Int32) (ho : zg σ 6 g = -1 ∨ ∃ s, s < 40 ∧ zg σ 6 g = nI s) (hv : v = -1 ∨ ∃ k, k < 40 ∧ v = nI k) (s : Nat) (hs : s < 40) : zg (plc σ g v) 9 s = if v = nI s then nI g else if zg σ 6 g = nI s then -1 else zg σ 9 s := by
  have m1 : ¬ (-1 : Int32) = nI s := fun h => nI_m1 (n := s) (by omega) h.symm
  unfold plc
  dsimp only
  have e9 : ∀ (τ : zM) (j : Nat) (x : Int32), zg (zs τ 6 j x) 9 s = zg τ 9 s := fun τ j x => zg_ne (by decide)
  rcases hv with rfl | ⟨k, hk, rfl⟩
  · rw [if_pos rfl, if_neg m1, e9]
    rcases ho with h | ⟨t, ht, h⟩
    · rw [if_pos h, h, if_neg m1]
    · rw [if_neg (by rw [h]; exact nI_m1 (by omega)), h, nI_clamp (by omega), zg_row]
      simp only [nI_eq (show t < 2 ^ 31 by omega) (show s < 2 ^ 31 by omega), eq_comm]
  · rw [if_neg (nI_m1 (by omega)), nI_clamp (by omega), zg_row, e9]
    simp only [nI_eq (show k < 2 ^ 31 by omega) (show s < 2 ^ 31 by omega), eq_comm (a := s)]
    by_cases hks : k = s
    · rw [if_pos hks, if_pos hks]
    · rw [if_neg hks, if_neg hks]
      rcases ho with h | ⟨t, ht, h⟩
      · rw [if_pos h, h, if_neg m1]
      · rw [if_neg (by rw [h]; exact nI_m1 (by omega)), h, nI_clamp (by omega), zg_row]
        simp only [nI_eq (show t < 2 ^ 31 by omega) (show s < 2 ^ 31 by omega), eq_comm]
theorem b1n : ¬ (1 : Int32) = 0 := by decide
theorem e_knows_n {n g : Nat} {s : zM} (hn : n ≤ 16) (h : zg s 3 8 = nI n) (hg : g < n) : f_X0_knows (nI g) s = some (1, s) := by
  rw [e_knows hn h, if_pos (by rw [nI_toInt (by omega)]; omega)]
theorem e_place {n g : Nat} {σ : zM} (hn : n ≤ 16) (h : zg σ 3 8 = nI n) (hg : g < n) (ho : zg σ 6 g = -1 ∨ ∃ s, s < 40 ∧ zg σ 6 g = nI s) {v : Int32} (hv : v = -1 ∨ ∃ k, k < 40 ∧ v = nI k) : f_X0_place (nI g) v σ = some ((), plc σ g v) := by
  have hgi : 0 ≤ (nI g).toInt ∧ (nI g).toInt < (n : Int) := by rw [nI_toInt (by omega)]; omega
  have hz : zin (nI g) 16 = true := zin_n (by omega) (by omega)
  have hj : ∀ τ : zM, f_X0_place_j33 (nI g) v τ = some ((), if v = -1 then zs τ 6 g v else zs (zs τ 6 g v) 9 v.toNatClampNeg (nI g)) := by
    intro τ
    unfold f_X0_place_j33
    simp only [if_pos hz, lt_eq, e_isSeat, bnd_some, b01, nI_clamp (show g < 2 ^ 31 by omega)]
    rcases hv with rfl | ⟨k, hk, rfl⟩
    · rw [if_neg (by decide), if_pos rfl]
    · rw [if_pos (by rw [nI_toInt (by omega)]; omega), if_pos (zin_n (by omega) hk), if_neg (nI_m1 (by omega))]
  unfold f_X0_place plc
  simp only [e_knows_n hn h hg, bnd_some, if_neg b1n, if_pos hz, lt_eq, hj, nI_clamp (show g < 2 ^ 31 by omega)]
  rcases ho with ho | ⟨s, hs, ho⟩
  · rw [ho, e_isSeat, if_neg (by decide), bnd_some, if_pos rfl, if_pos rfl]
  · rw [ho, e_isSeat_n hs, bnd_some, if_neg b1n, ho, if_pos (zin_n (by omega) hs), if_neg (nI_m1 (by omega))]
theorem IG.seat {n : Nat} {α : zM} (h : IG n α) {g : Nat} (hg : g < n) : zg α 6 g = -1 ∨ ∃ s, s < 40 ∧ zg α 6 g = nI s := by
  obtain ⟨-, -, -, h4, -⟩ := h
  rcases h4 g hg with ⟨-, h⟩ | ⟨-, h | ⟨s, hs, h, -⟩⟩
  · exact Or.inl h
  · exact Or.inl h
  · exact Or.inr ⟨s, hs, h⟩
theorem IG.sit9 {n : Nat} {α : zM} (h : IG n α) {g s : Nat} (hg : g < n) (hs : s < 40) (he : zg α 6 g = nI s) : zg α 9 s = nI g := by
  obtain ⟨-, -, -, h4, -⟩ := h
  rcases h4 g hg with ⟨-, h⟩ | ⟨-, h | ⟨t, ht, h, h9⟩⟩
  · rw [he] at h; exact absurd h (nI_m1 (by omega))
  · rw [he] at h; exact absurd h (nI_m1 (by omega))
  · rw [he] at h
    have := (nI_eq (show s < 2 ^ 31 by omega) (show t < 2 ^ 31 by omega)).mp h
    subst this; exact h9
theorem IG.inj {n : Nat} {α : zM} (h : IG n α) {g g' s : Nat} (hg : g < n) (hg' : g' < n) (hs : s < 40) (he : zg α 6 g = nI s) (he' : zg α 6 g' = nI s) : g = g' := by
  have h1 := h.sit9 hg hs he
  have h2 := h.sit9 hg' hs he'
  have hn := h.1
  rw [h1] at h2
  exact (nI_eq (by omega) (by omega)).mp h2
theorem IG.upd {n : Nat} {α α' : zM} (h : IG n α) {g : Nat} (hg : g < n) (hal : zg α 5 g = 1) {v : Int32} (hv : v = -1 ∨ ∃ k, k < 40 ∧ v = nI k ∧ zg α 9 k = -1) (h3 : zg α' 3 8 = zg α 3 8) (h4 : ∀ j, zg α' 4 j = zg α 4 j) (h5 : ∀ j, zg α' 5 j = zg α 5 j) (h6 : ∀ j, zg α' 6 j = if j = g then v else zg α 6 j) (h9 : ∀ s, s < 40 → zg α' 9 s = if v = nI s then nI g else if zg α 6 g = nI s then -1 else zg α 9 s) : IG n α' := by
  have hS := fun {g'} (hg' : g' < n) => h.seat hg'
  have hT := fun {g' s} (a : g' < n) (b : s < 40) c => h.sit9 (g := g') (s := s) a b c
  have hI := fun {a b s} (ha : a < n) (hb : b < n) (hs : s < 40) x y => h.inj (g := a) (g' := b) (s := s) ha hb hs x y
  obtain ⟨hn, e3, e4, e5, e9, e6⟩ := h
  refine ⟨hn, by rw [h3]; exact e3, fun j hj => by rw [h4]; exact e4 j hj, fun j hj => ?_, fun s hs => ?_, fun j hj hj2 => ?_⟩
  · rw [h5, h6]
    by_cases hjg : j = g
    · subst hjg
      rw [if_pos rfl]
      refine Or.inr ⟨hal, ?_⟩
      rcases hv with rfl | ⟨k, hk, rfl, -⟩
      · exact Or.inl rfl
      · exact Or.inr ⟨k, hk, rfl, by rw [h9 k hk, if_pos rfl]⟩
    · rw [if_neg hjg]
      rcases e5 j hj with h | ⟨ha, hb | ⟨s, hs, hb, hc⟩⟩
      · exact Or.inl h
      · exact Or.inr ⟨ha, Or.inl hb⟩
      · refine Or.inr ⟨ha, Or.inr ⟨s, hs, hb, ?_⟩⟩
        rw [h9 s hs, if_neg ?_, if_neg ?_]
        · exact hc
        · intro h; exact hjg (hI hj hg hs hb h)
        · rintro rfl
          rcases hv with hv | ⟨k, hk, hv, hv9⟩
          · exact nI_m1 (by omega) hv
          · have := (nI_eq (show s < 2 ^ 31 by omega) (show k < 2 ^ 31 by omega)).mp hv
            subst this
            rw [hc] at hv9
            exact nI_m1 (by omega) hv9
  · rw [h9 s hs]
    by_cases h1 : v = nI s
    · rw [if_pos h1]
      exact Or.inr ⟨g, hg, rfl, by rw [h6, if_pos rfl, h1]⟩
    · rw [if_neg h1]
      by_cases h2 : zg α 6 g = nI s
      · rw [if_pos h2]; exact Or.inl rfl
      · rw [if_neg h2]
        rcases e9 s hs with h | ⟨j, hj, ha, hb⟩
        · exact Or.inl h
        · refine Or.inr ⟨j, hj, ha, ?_⟩
          rw [h6, if_neg ?_]
          · exact hb
          · rintro rfl; exact h2 hb
  · rw [h6, if_neg (by omega)]; exact e6 j hj hj2
theorem IG.plc {n : Nat} {α : zM} (h : IG n α) {g : Nat} (hg : g < n) (hal : zg α 5 g = 1) {v : Int32} (hv : v = -1 ∨ ∃ k, k < 40 ∧ v = nI k ∧ zg α 9 k = -1) : IG n (plc α g v) :=
  h.upd hg hal hv (plc_fx α g v 3 8 rfl) (fun j => plc_fx α g v 4 j rfl) (fun j => plc_fx α g v 5 j rfl) (plc_6 α g v) (plc_9 α g v (h.seat hg) (hv.imp id fun ⟨k, hk, e, _⟩ => ⟨k, hk, e⟩))
