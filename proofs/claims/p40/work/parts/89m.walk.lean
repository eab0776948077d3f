/-! ===== all orders, by the model ===== -/
theorem ck_lt {x y z : Int32} (hx : -100000 ≤ x.toInt ∧ x.toInt ≤ 100000) (hy : -100000 ≤ y.toInt ∧ y.toInt ≤ 100000) (hz : -100000 ≤ z.toInt ∧ z.toInt ≤ 100000) : x - z < y - z ↔ x < y := by
  rw [i_lt, i_lt, Int32.toInt_sub, Int32.toInt_sub, Int.bmod_eq_of_le (by omega) (by omega), Int.bmod_eq_of_le (by omega) (by omega)]
  omega
abbrev zP0 (m code : Nat) : zPm := dcd m m 0 (fun _ => false) (fun _ => 0) code
theorem fre_0 : ∀ m, fre (fun _ => false) m = m := by
  intro m
  induction m with
  | zero => rfl
  | succ m ih => rw [fre, ih]; simp
def MB (A : zM) (p c n m : Nat) (tg fs : Nat → Nat) (B : zBst) (v5 v6 : Int32) : Prop := match B with
  | none => v6 = 1000000000 ∧ v5 = 0
  | some (l, q) => ∃ cd, cd < fac m ∧ v5 = nI cd ∧ q = zP0 m cd ∧ v6 = tv (seaA tg (fun j => fs (q j)) m A) p c n 0 ∧ l = cK A p c n tg fs m q
/-- seats by an order; the guests so -/
theorem e_by {F n m p q c code : Nat} {W : Int32} {tg fs : Nat → Nat} {α τ0 τ : zM} (hF : 20 ≤ F) (hS : SC n m p q c W tg fs α) (htg : tg = tgf W) (hW16 : ∀ i, n ≤ i → i < 32 → bt W i = false) (hm : fre (nbW W) n = m) (hc : code < fac m) (hB : BG n α τ0) (hf : Fx ([71, 86, 87], []) τ0 τ) (h71 : ∀ x, ¬ (x < 16 ∧ bt W x = true) → zg τ 71 x = zg τ0 71 x) (h98 : ∀ i, i < m → zg τ 98 i = nI (fs i)) : ∃ τ1, f_X12_seatsBy F W (nI m) (nI code) (nI (fac m)) τ = some ((), τ1) ∧ Fx ([71], []) τ τ1 ∧ (∀ x, ¬ (x < 16 ∧ bt W x = true) → zg τ1 71 x = zg τ0 71 x) ∧ (∀ k, k < m → zg τ1 71 (tg k) = nI (fs (zP0 m code k))) ∧ IG n (seaA tg (fun j => fs (zP0 m code j)) m (lifA tg m α)) ∧ BG n (seaA tg (fun j => fs (zP0 m code j)) m (lifA tg m α)) τ1 := by
  have h7 := hS.2.2.1.1
  have hn := hS.1.1
  have hG := hS.1
  have hT := hS.2.2.1
  obtain ⟨τ1, a1, a2, a3⟩ := e_by16 (F := F) hF hS hW16 hm 16 F 0 m 0 (fun _ => false) (fun _ => 0) code 0 τ (by omega) (by omega) rfl (by omega) (fre_0 m) hc (fun j _ => b_0 j) h98
  obtain ⟨d1, d2⟩ := dcd_ok (m := m) m 0 (fun _ => false) (fun _ => 0) code (by omega) (fre_0 m) hc (fun j hj => by omega) (fun i j hi => by omega)
  obtain ⟨P, hP⟩ : ∃ P : zPm, P = zP0 m code := ⟨_, rfl⟩
  change ∀ j, j < m → zP0 m code j < m at d1
  change ∀ i j, i < m → j < m → zP0 m code i = zP0 m code j → i = j at d2
  change ∀ x, zg τ1 71 x = if 0 ≤ x ∧ x < 16 ∧ bt W x = true then nI (fs (zP0 m code (fre (nbW W) x))) else zg τ 71 x at a3
  rw [← hP] at d1 d2 a3 ⊢
  have n71 : ∀ x, ¬ (x < 16 ∧ bt W x = true) → zg τ1 71 x = zg τ0 71 x := fun x hx => by
    rw [a3 x, if_neg (fun w => hx w.2)]; exact h71 x hx
  have t71 : ∀ k, k < m → zg τ1 71 (tg k) = nI (fs (P k)) := fun k hk => by
    obtain ⟨t1, t2⟩ := hT.2.1 k hk
    have hfk : fre (nbW W) (tg k) = k := by
      obtain ⟨g, g1, g2, g3⟩ := fre_onto (u := nbW W) n k (by omega)
      have := tgf_eq (W := W) (g := g) (by omega) (nbW_t.mp g2)
      rw [g3] at this
      rw [htg, this]; exact g3
    rw [a3 (tg k), if_pos ⟨by omega, by omega, t2⟩, hfk]
  have hGA := lifA_IG (m := m) (tg := tg) hG hS.tb m (Nat.le_refl m)
  have hPi : PiOK n m (fun j => fs (P j)) (lifA tg m α) := by
    refine ⟨fun i hi => ⟨hS.s40 (d1 i hi), fun g hg e => ?_⟩, fun i j hi hj e => ?_⟩
    · by_cases qb : bt W g = true
      · rw [(lifA_6 m g).1 (hT.2.2.2 g hg qb)] at e
        have hs40 := hS.s40 (d1 i hi)
        change (-1 : Int32) = nI (fs (P i)) at e
        exact nI_m1 (show fs (P i) < 2 ^ 31 by omega) e.symm
      · rw [(lifA_6 m g).2 (fun a ha ea => qb (by rw [ea]; exact (hT.2.1 a ha).2))] at e
        have ok := hS.2.2.2.2.1 (P i) (d1 i hi)
        unfold okS at ok
        rw [hG.sit9 hg (hS.s40 (d1 i hi)) e, nI_clamp (by omega)] at ok
        simp [qb, nI_m1 (show g < 2 ^ 31 by omega)] at ok
    · have e' : fs (P i) = fs (P j) := e
      apply d2 i j hi hj
      by_cases q1 : P i < P j
      · have := hS.2.2.2.2.2 _ _ q1 (d1 j hj); omega
      · by_cases q2 : P j < P i
        · have := hS.2.2.2.2.2 _ _ q2 (d1 i hi); omega
        · omega
  have hGP := seaA_IG (m := m) hT.inj hPi hGA (fun i hi => ⟨(hS.tb i hi).1, (lifA_fx tg α m 5 _ rfl).trans (hS.tb i hi).2⟩) m (Nat.le_refl m)
  refine ⟨τ1, a1, a2, n71, t71, hGP, ?_⟩
  have fA : Fx ([6, 9], []) α (seaA tg (fun j => fs (P j)) m (lifA tg m α)) := (lifA_fx tg α m).tr (seaA_fx tg _ _ m)
  refine ⟨(a2 69 0 rfl).trans ((hf 69 0 rfl).trans hB.1), fun g hg => ⟨?_, ?_⟩⟩
  · rw [a2 70 g rfl, hf 70 g rfl, fA 4 g rfl]; exact (hB.2 g hg).1
  · rw [fA 5 g rfl]
    by_cases qb : bt W g = true
    · obtain ⟨k, hk, rfl⟩ := hT.2.2.2 g hg qb
      rw [t71 k hk, (hS.tb k hk).2, if_neg (by decide), (seaA_6 (m := m) hT.inj m (tg k) (Nat.le_refl m)).1 k hk rfl]
    · have nt : ∀ i, i < m → ¬ g = tg i := fun a ha ea => qb (by rw [ea]; exact (hT.2.1 a ha).2)
      rw [n71 g (fun w => qb w.2), (hB.2 g hg).2, (seaA_6 (m := m) hT.inj m g (Nat.le_refl m)).2 nt, (lifA_6 m g).2 nt]
theorem e_s158 {F n m p q c : Nat} {W v3 : Int32} {tg fs : Nat → Nat} {α τ0 : zM} {K : Int32 → Int32 → zM → Option (Int32 × zM)} (hF : 300 ≤ F) (hS : SC n m p q c W tg fs α) (htg : tg = tgf W) (hW16 : ∀ i, n ≤ i → i < 32 → bt W i = false) (hm : fre (nbW W) n = m) (hB : BG n α τ0) (hL : BL α τ0) (hV : BW p c α τ0) (h98 : ∀ i, i < m → zg τ0 98 i = nI (fs i)) : ∀ (d fu code : Nat) (v5 v6 : Int32) (B : zBst) (τ : zM), code + d = fac m → d < fu → Fx ([71, 86, 87], []) τ0 τ → (∀ x, ¬ (x < 16 ∧ bt W x = true) → zg τ 71 x = zg τ0 71 x) → MB (lifA tg m α) p c n m tg fs B v5 v6 → (code = 0 ∨ ¬ B = none) → ∃ v5' v6' τ' B', f_X12_seating_L158 F K W (nI m) v3 (nI (fac m)) fu v5 v6 (nI code) τ = K v5' v6' τ' ∧ Fx ([71, 86, 87], []) τ0 τ' ∧ (∀ x, ¬ (x < 16 ∧ bt W x = true) → zg τ' 71 x = zg τ0 71 x) ∧ MB (lifA tg m α) p c n m tg fs B' v5' v6' ∧ ¬ B' = none ∧ B' = iter (fun left B => stpS (lifA tg m α) p c n m tg fs (zP0 m left) B) code d B := by
  have h7 := hS.2.2.1.1
  have hn := hS.1.1
  have hfm : fac m < 5041 := by
    by_cases q : m = 0
    · subst q; decide
    · obtain ⟨j, rfl⟩ : ∃ j, m = j + 1 := ⟨m - 1, by omega⟩
      exact (v_fac j (by omega)).2
  intro d
  induction d with
  | zero =>
    intro fu code v5 v6 B τ hc hfu hf h71 hMB hn0
    obtain ⟨fu, rfl⟩ : ∃ f', fu = f' + 1 := ⟨fu - 1, by omega⟩
    have hfp := fac_pos m
    refine ⟨v5, v6, τ, B, ?_, hf, h71, hMB, by rcases hn0 with h | h; omega; exact h, rfl⟩
    rw [f_X12_seating_L158, if_neg (fun w => by have := (nI_ltI (by omega) (by omega)).mp w; omega)]
  | succ d ih =>
    intro fu code v5 v6 B τ hc hfu hf h71 hMB hn0
    obtain ⟨fu, rfl⟩ : ∃ f', fu = f' + 1 := ⟨fu - 1, by omega⟩
    have hcm : code < fac m := by omega
    obtain ⟨τ1, a1, a2, a3, -, a5, a6⟩ := e_by (F := F) (by omega) hS htg hW16 hm hcm hB hf h71 (fun i hi => (hf 98 i rfl).trans (h98 i hi))
    obtain ⟨P, hP⟩ : ∃ P : zPm, P = zP0 m code := ⟨_, rfl⟩
    rw [← hP] at a5 a6
    have fA : Fx ([6, 9], []) α (seaA tg (fun j => fs (P j)) m (lifA tg m α)) := (lifA_fx tg α m).tr (seaA_fx tg _ _ m)
    have f01 : Fx ([71, 86, 87], []) τ0 τ1 := hf.tr (a2.sub rfl)
    obtain ⟨τ2, b1, b2⟩ := e_sumOf (F := F) hF a5 a6 ((hL.al fA rfl).si f01 rfl) (hS.2.1.fx fA rfl) ((hV.al hS.2.1.or fA rfl).si f01 rfl)
    have f02 : Fx ([71, 86, 87], []) τ0 τ2 := f01.tr (b2.sub rfl)
    have g71 : ∀ x, ¬ (x < 16 ∧ bt W x = true) → zg τ2 71 x = zg τ0 71 x := fun x hx => (b2 71 x rfl).trans (a3 x hx)
    have hb1 := tv_b (α := seaA tg (fun j => fs (P j)) m (lifA tg m α)) (p := p) (c := c) (n := n) (W := 0) hn
    have hbA := tv_b (α := lifA tg m α) (p := p) (c := c) (n := n) (W := 0) hn
    have hlt : nI code < nI (fac m) := (nI_ltI (by omega) (by omega)).mpr hcm
    have hnew : MB (lifA tg m α) p c n m tg fs (some (cK (lifA tg m α) p c n tg fs m P, P)) (nI code) (tv (seaA tg (fun j => fs (P j)) m (lifA tg m α)) p c n 0) := ⟨code, hcm, rfl, hP, rfl, rfl⟩
    have hl : f_X12_seating_L158 F K W (nI m) v3 (nI (fac m)) (fu + 1) v5 v6 (nI code) τ = if tv (seaA tg (fun j => fs (P j)) m (lifA tg m α)) p c n 0 < v6 then f_X12_seating_L158 F K W (nI m) v3 (nI (fac m)) fu (nI code) (tv (seaA tg (fun j => fs (P j)) m (lifA tg m α)) p c n 0) (nI (code + 1)) τ2 else f_X12_seating_L158 F K W (nI m) v3 (nI (fac m)) fu v5 v6 (nI (code + 1)) τ2 := by
      rw [f_X12_seating_L158, if_pos hlt, a1, bnd_some, b1, bnd_some, lt_eq, lt_eq, nI_1]
    rw [hl, iter, ← hP]
    cases B with
    | none =>
      rw [if_pos (show tv (seaA tg (fun j => fs (P j)) m (lifA tg m α)) p c n 0 < v6 by
        rw [hMB.1, i_lt, show ((1000000000 : Int32)).toInt = 1000000000 from rfl]; omega)]
      exact ih fu (code + 1) _ _ (some (cK (lifA tg m α) p c n tg fs m P, P)) τ2 (by omega) (by omega) f02 g71 hnew (Or.inr (by simp))
    | some lq =>
      obtain ⟨l, qq⟩ := lq
      obtain ⟨cd, e1, e2, e3, e4, e5⟩ := hMB
      have hbq := tv_b (α := seaA tg (fun j => fs (qq j)) m (lifA tg m α)) (p := p) (c := c) (n := n) (W := 0) hn
      have hiff : cK (lifA tg m α) p c n tg fs m P < l ↔ tv (seaA tg (fun j => fs (P j)) m (lifA tg m α)) p c n 0 < v6 := by
        rw [e5, e4]
        unfold cK
        exact ck_lt hb1 hbq hbA
      have hst : stpS (lifA tg m α) p c n m tg fs P (some (l, qq)) = if cK (lifA tg m α) p c n tg fs m P < l then some (cK (lifA tg m α) p c n tg fs m P, P) else some (l, qq) := by rw [stpS]
      rw [hst]
      by_cases ql : cK (lifA tg m α) p c n tg fs m P < l
      · rw [if_pos (hiff.mp ql), if_pos ql]
        exact ih fu (code + 1) _ _ (some (cK (lifA tg m α) p c n tg fs m P, P)) τ2 (by omega) (by omega) f02 g71 hnew (Or.inr (by simp))
      · rw [if_neg (fun w => ql (hiff.mpr w)), if_neg ql]
        exact ih fu (code + 1) v5 v6 (some (l, qq)) τ2 (by omega) (by omega) f02 g71 ⟨cd, e1, e2, e3, e4, e5⟩ (Or.inr (by simp))
