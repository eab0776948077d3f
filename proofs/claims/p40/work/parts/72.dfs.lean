/-! ===== the class looks for the best way ===== -/
/-- what the best way is, in the class -/
def sB (α : zM) (p c : Nat) (B : zB2) (τ : zM) : Prop := (B.1 = 0 → zg τ 42 4 = -1 ∧ zgl τ 0 = -1) ∧ (¬ B.1 = 0 → zg τ 42 4 = nI B.1 ∧ zgl τ 0 = lN (OD α p c B.1 B.2) ∧ ∀ i, i ≤ B.1 → zg τ 44 i = nI (B.2 i))
theorem lg_0 {x y : Int64} : (lg_cmp x y = 0) ↔ x = y := by
  unfold lg_cmp
  by_cases h : x > y
  · rw [if_pos h]
    refine ⟨fun q => absurd q (by decide), fun q => ?_⟩
    subst q
    exact absurd h (by simp [Int64.lt_irrefl])
  · rw [if_neg h]
    by_cases h2 : x = y
    · rw [if_pos h2]; exact ⟨fun _ => h2, fun _ => rfl⟩
    · rw [if_neg h2]; exact ⟨fun q => absurd q (by decide), fun q => absurd q h2⟩
theorem lg_p {x y : Int64} : ((0 : Int32) < lg_cmp x y) ↔ y < x := by
  unfold lg_cmp
  by_cases h : x > y
  · rw [if_pos h]; exact ⟨fun _ => h, fun _ => by decide⟩
  · rw [if_neg h]
    refine ⟨fun q => ?_, fun q => absurd q h⟩
    by_cases h2 : x = y
    · rw [if_pos h2] at q; exact absurd q (by decide)
    · rw [if_neg h2] at q; exact absurd q (by decide)
abbrev mDf : zMk := ([13, 23, 32, 43, 44], [(42, 4)])
theorem zgl_cp {σ : zM} {k0 k1 n x : Nat} : zgl (zcp σ k0 k1 n) x = zgl σ x := rfl
theorem zg_cpn {σ : zM} {k0 k1 n k j : Nat} (h : ¬ k = k1) : zg (zcp σ k0 k1 n) k j = zg σ k j := by rw [zg_cp, if_neg h]
/-- noted, if better -/
theorem e_note {n a b p c k : Nat} {f : Nat → Nat} {B : zB2} {α τ : zM} (hB : OKB α n a b B) (hS : sB α p c B τ) (hk1 : 1 ≤ k) (hk : k ≤ 6) (hf : Pth α n a b k f) (hfb : f k = b) (hn : n ≤ 16) (hrow : ∀ i, i ≤ k → zg τ 43 i = nI (f i)) (hLB : ¬ B.1 = 0 → LB B k f) : ∃ τ' B', f_X9_noteIfBetter (nI k) (lN (OD α p c k f)) τ = some ((), τ') ∧ Fx mDf τ τ' ∧ (∀ j, zg τ' 43 j = zg τ 43 j) ∧ sB α p c B' τ' ∧ OKB α n a b B' ∧ (¬ B.1 = 0 → nb α p c B B') ∧ nb α p c (k, f) B' ∧ (B' = B ∨ Ext k f B'.1 B'.2) := by
  have hod := OD_le α p c f hk
  -- it is noted
  have yes : (¬ B.1 = 0 → btr α p c (k, f) B) → ∃ τ' B', f_X9_noteIfBetter_j26 (nI k) (lN (OD α p c k f)) τ = some ((), τ') ∧ Fx mDf τ τ' ∧ (∀ j, zg τ' 43 j = zg τ 43 j) ∧ sB α p c B' τ' ∧ OKB α n a b B' ∧ (¬ B.1 = 0 → nb α p c B B') ∧ nb α p c (k, f) B' ∧ (B' = B ∨ Ext k f B'.1 B'.2) := by
    intro h
    unfold f_X9_noteIfBetter_j26
    rw [lt_eq, lt_eq, lt_eq]
    have k0 : ¬ k = 0 := by omega
    refine ⟨_, (k, f), rfl, ?_, fun j => ?_, ⟨fun q => absurd q k0, fun _ => ⟨?_, ?_, fun i hi => ?_⟩⟩, fun _ => ⟨hk1, hk, hf, hfb⟩, fun q => ?_, nb.rf k0, Or.inr ⟨Nat.le_refl k, fun _ _ => rfl⟩⟩
    · intro x y hxy
      have hx44 : ¬ x = 44 := by rintro rfl; simp [inm] at hxy
      rw [zg_cpn hx44]
      have : ¬ (x = 42 ∧ y = 4) := by rintro ⟨rfl, rfl⟩; simp [inm] at hxy
      rw [zg_zs, if_neg this, zg_sl]
    · rw [zg_cpn (by decide), zg_ne (by decide), zg_sl]
    · rw [zg_cpn (by decide), zg_eq]
    · rw [zgl_cp, zgl_s, zgl_eq]
    · rw [zg_cp, if_pos rfl, if_pos (show i < 7 by have hi' : i ≤ k := hi; omega), zg_ne (by decide), zg_sl]; exact hrow i hi
    · have := h q
      refine ⟨k0, ?_⟩
      unfold btr at this ⊢
      dsimp only at this ⊢
      omega
  have no : (¬ B.1 = 0 ∧ ¬ btr α p c (k, f) B) → ∃ τ' B', some ((), τ) = some ((), τ') ∧ Fx mDf τ τ' ∧ (∀ j, zg τ' 43 j = zg τ 43 j) ∧ sB α p c B' τ' ∧ OKB α n a b B' ∧ (¬ B.1 = 0 → nb α p c B B') ∧ nb α p c (k, f) B' ∧ (B' = B ∨ Ext k f B'.1 B'.2) :=
    fun h => ⟨τ, B, rfl, Fx.rf, fun _ => rfl, hS, hB, fun q => nb.rf q, h, Or.inl rfl⟩
  unfold f_X9_noteIfBetter
  simp only [lg_p, lg_0]
  by_cases z : B.1 = 0
  · obtain ⟨s1, s2⟩ := hS.1 z
    rw [s2, if_pos ?_]
    · exact yes (fun q => absurd z q)
    · rw [Int64.lt_iff_toInt_lt, pk_lT (by omega)]
      have : (-1 : Int64).toInt = -1 := rfl
      omega
  · obtain ⟨s1, s2, s3⟩ := hS.2 z
    have vB := hB z
    have hoB := OD_le α p c B.2 vB.2.1
    rw [s2, s1]
    by_cases c1 : OD α p c B.1 B.2 < OD α p c k f
    · rw [if_pos ((pk_lLT (by omega) (by omega)).mpr c1)]
      exact yes (fun _ => Or.inl c1)
    · rw [if_neg (fun q => c1 ((pk_lLT (by omega) (by omega)).mp q))]
      by_cases c2 : OD α p c k f = OD α p c B.1 B.2
      · rw [if_pos (by rw [c2])]
        by_cases c3 : k < B.1
        · rw [if_pos ((nI_ltI (by omega) (by have := vB.2.1; omega)).mpr c3)]
          exact yes (fun _ => Or.inr ⟨c2, Or.inl c3⟩)
        · rw [if_neg (fun q => c3 ((nI_ltI (by omega) (by have := vB.2.1; omega)).mp q))]
          refine no ⟨z, ?_⟩
          rintro (q | ⟨-, q | ⟨q1, q2⟩⟩)
          · exact c1 q
          · exact c3 q
          · dsimp only at q1 q2
            have hl := hLB z (by omega)
            rw [← q1] at q2
            omega
      · rw [if_neg (fun q => c2 ((pk_lEQ (by omega) (by omega)).mp q))]
        refine no ⟨z, ?_⟩
        rintro (q | ⟨q, -⟩)
        · exact c1 q
        · exact c2 q
/-- the bits are of those met -/
def Met2 (M : Int32) (k : Nat) (f : Nat → Nat) : Prop := ∀ g, g < 16 → (bt M g = true ↔ ∃ i, i ≤ k ∧ f i = g)
theorem od_step {α : zM} {p c k g : Nat} {f : Nat → Nat} (hk : k < 6) : (lN (OD α p c k f) / (1000 : Int64)) * ((1000 : Int32) - see α p c (f k) (sN α (f k)) g (sN α g)).toInt64 = lN (OD α p c (k + 1) (stp f k g)) := by
  obtain ⟨v1, v2⟩ := vv_n α p c (f k) g
  have ho := OD_le α p c f (show k ≤ 6 by omega)
  rw [v2, show (1000 : Int32) = nI 1000 from rfl, pk_sub v1, nI_l (by omega), show (1000 : Int64) = lN 1000 from rfl, pk_lDiv (by omega) (by omega) (by omega), lN_mul]
  congr 1
  unfold OD
  have e1 : odf α p c (stp f k g) k = odf α p c f k := odf_ext α p c k (fun i hi => stp_lo hi)
  rw [odf, e1, stp_hi, stp_lo (Nat.le_refl k), show 6 - k = (6 - (k + 1)) + 1 by omega, Nat.pow_succ, ← Nat.mul_assoc, Nat.mul_div_cancel _ (show 0 < 1000 by omega), Nat.mul_assoc, Nat.mul_assoc, Nat.mul_comm (1000 ^ (6 - (k + 1)))]
theorem LB.on {n a b k g : Nat} {f : Nat → Nat} {α : zM} {B : zB2} (hB : OKB α n a b B) (hn : n ≤ 16) (h : ¬ B.1 = 0 → LB B k f) (z : ¬ B.1 = 0) : LB B (k + 1) (stp f k g) := by
  intro hk
  have vB := hB z
  have h1 := h z (by omega)
  have e1 : lkf (stp f k g) k = lkf f k := lkf_ext k (fun i hi => stp_lo hi)
  have h2 := (vB.2.2.1.2.1 (k + 1) hk).1
  rw [lkf, lkf, e1, stp_hi]
  omega
theorem LB.ext {k g : Nat} {f : Nat → Nat} {B : zB2} (h : Ext k f B.1 B.2) (hg : B.2 (k + 1) < g) : LB B (k + 1) (stp f k g) := by
  intro hk
  have e1 : lkf (stp f k g) k = lkf f k := lkf_ext k (fun i hi => stp_lo hi)
  have e2 : lkf B.2 k = lkf f k := lkf_ext k h.2
  rw [lkf, lkf, e1, e2, stp_hi]
  omega
