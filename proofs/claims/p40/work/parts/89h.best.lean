/-! ===== the best seats, by the class ===== -/
def cK (A : zM) (p c n : Nat) (tg fs : Nat → Nat) (k : Nat) (pm : zPm) : Int32 := tv (seaA tg (fun j => fs (pm j)) k A) p c n 0 - tv A p c n 0
abbrev zBst : Type := Option (Int32 × zPm)
def stpS (A : zM) (p c n m : Nat) (tg fs : Nat → Nat) (pm : zPm) (B : zBst) : zBst := match B with
  | none => some (cK A p c n tg fs m pm, pm)
  | some (l, q) => if cK A p c n tg fs m pm < l then some (cK A p c n tg fs m pm, pm) else some (l, q)
theorem seaA_ext {tg pi pi' : Nat → Nat} {β : zM} : ∀ k, (∀ j, j < k → pi j = pi' j) → seaA tg pi k β = seaA tg pi' k β := by
  intro k
  induction k with
  | zero => intro _; rfl
  | succ k ih => intro h; rw [seaA, seaA, ih (fun j hj => h j (by omega)), h k (by omega)]
/-- what holds of those that are told -/
def SC (n m p q c : Nat) (W : Int32) (tg fs : Nat → Nat) (α : zM) : Prop := IG n α ∧ IW p q c α ∧ Told W n m tg ∧ (∀ k, k < m → zg α 5 (tg k) = 1) ∧ (∀ i, i < m → okS α W (fs i) = true) ∧ ∀ i j, i < j → j < m → fs i < fs j
theorem SC.s40 {n m p q c : Nat} {W : Int32} {tg fs : Nat → Nat} {α : zM} (h : SC n m p q c W tg fs α) {i : Nat} (hi : i < m) : fs i < 40 := by
  have := h.2.2.2.2.1 i hi
  unfold okS at this
  simp only [Bool.and_eq_true, decide_eq_true_eq] at this
  exact this.1
theorem i_mv (a b c d : Int32) : a + (b + c) - d = a - d + b + c := by grind
theorem cK_step {n m p q c k i : Nat} {W : Int32} {tg fs : Nat → Nat} {α : zM} {pm : zPm} (h : SC n m p q c W tg fs α) (hk : k < m) (hi : i < m) (hp : ∀ j, j < k → pm j < m) : cK (lifA tg m α) p c n tg fs (k + 1) (pput pm k i) = (cK (lifA tg m α) p c n tg fs k pm + cst α p c n (tg k) (fs i) W) + sumI (fun j => qrl α p c (tg j) (fs (pm j)) (tg k) (fs i)) k := by
  have hn := h.1.1
  have hT := h.2.2.1
  have hor := h.2.1.or
  obtain ⟨pi, hpi⟩ : ∃ pi : Nat → Nat, pi = fun j => fs (pput pm k i j) := ⟨_, rfl⟩
  have hpk : pi k = fs i := by rw [hpi]; show fs (pput pm k i k) = _; rw [put_eq]
  have hpj : ∀ j, j < k → pi j = fs (pm j) := fun j hj => by rw [hpi]; show fs (pput pm k i j) = _; rw [put_ne (by omega)]
  have hinj : ∀ i j, i < j → j < k + 1 → ¬ tg i = tg j := fun a b h1 h2 => hT.inj a b h1 (by omega)
  have hL : ∀ j, sameL p c α (seaA tg pi j (lifA tg m α)) := fun j => sameL_fx ((lifA_fx tg α m).tr (seaA_fx tg pi _ j)) rfl hor
  have st : ∀ j, sameL p c (seaA tg pi j (lifA tg m α)) (seaA tg pi (j + 1) (lifA tg m α)) := fun j => sameL_fx (plc_fx _ _ _) rfl hor
  have m1 : ∀ j, j ≤ k → zg (seaA tg pi j (lifA tg m α)) 6 (tg j) = -1 := fun j hj => by
    rw [(seaA_6 (m := k + 1) hinj j (tg j) (by omega)).2 (fun a ha e => hinj a j ha (by omega) e.symm)]
    exact (lifA_6 m (tg j)).1 ⟨j, by omega, rfl⟩
  have self : ∀ j, zg (seaA tg pi (j + 1) (lifA tg m α)) 6 (tg j) = nI (pi j) := fun j => by rw [seaA, plc_6, if_pos rfl]
  have oth : ∀ j a, ¬ a = tg j → zg (seaA tg pi (j + 1) (lifA tg m α)) 6 a = zg (seaA tg pi j (lifA tg m α)) 6 a := fun j a ha => by rw [seaA, plc_6, if_neg ha]
  have hpi40 : ∀ j, j ≤ k → pi j < 40 := fun j hj => by
    by_cases q : j = k
    · rw [q, hpk]; exact h.s40 hi
    · rw [hpj j (by omega)]; exact h.s40 (hp j (by omega))
  have chain : ∀ j, j ≤ k → cst (seaA tg pi j (lifA tg m α)) p c n (tg k) (fs i) 0 = cst α p c n (tg k) (fs i) W + sumI (fun j => qrl α p c (tg j) (fs (pm j)) (tg k) (fs i)) j := by
    intro j
    induction j with
    | zero =>
      intro _
      rw [seaA, sumI, cst_lif hn hT (sameL_fx (lifA_fx tg α m) rfl hor)]; simp
    | succ j ih =>
      intro hj
      rw [cst_grow (st j) (hT.2.1 j (by omega)).1 (hpi40 j (by omega)) (hinj j k (by omega) (by omega)) (m1 j (by omega)) (self j) (oth j), ih (by omega), (hL j).2, qrl_sym, hpj j (by omega), sumI, Int32.add_assoc]
  have hadd := tv_add (st k) (hT.2.1 k hk).1 (hpi40 k (by omega)) (m1 k (by omega)) (self k) (oth k)
  rw [hpk, chain k (by omega)] at hadd
  have e1 : seaA tg (fun j => fs (pput pm k i j)) (k + 1) (lifA tg m α) = seaA tg pi (k + 1) (lifA tg m α) := by rw [hpi]
  have e2 : seaA tg (fun j => fs (pm j)) k (lifA tg m α) = seaA tg pi k (lifA tg m α) := seaA_ext k (fun j hj => (hpj j hj).symm)
  unfold cK
  rw [e1, e2, hadd]
  exact i_mv _ _ _ _
/-! what the class holds while it looks -/
def StC (n m p c a : Nat) (W : Int32) (tg fs : Nat → Nat) (α σ : zM) : Prop := zg σ 45 10 = nI m ∧ (∀ k, k < m → zg σ 46 k = nI (tg k)) ∧ (∀ i, i < m → zg σ 47 i = nI (fs i)) ∧ (∀ k i, k < m → i < m → zg σ 48 (k * 7 + i) = cst α p c n (tg k) (fs i) W) ∧ Fx mQ α σ ∧ PM n p c a α σ
abbrev mCh : zMk := ([13, 14, 15, 23, 32, 49, 50], [(45, 12), (45, 13)])
theorem mQ_ch {α σ σ' : zM} (h : Fx mQ α σ) (h' : Fx mCh σ σ') : Fx mQ α σ' := h.tr (h'.sub rfl)
theorem StC.fx {n m p c a : Nat} {W : Int32} {tg fs : Nat → Nat} {α σ σ' : zM} (h : StC n m p c a W tg fs α σ) (h' : Fx mCh σ σ') (hP : PM n p c a α σ') : StC n m p c a W tg fs α σ' :=
  ⟨(h' 45 10 rfl).trans h.1, fun k hk => (h' 46 k rfl).trans (h.2.1 k hk), fun k hk => (h' 47 k rfl).trans (h.2.2.1 k hk), fun k i hk hi => (h' 48 _ rfl).trans (h.2.2.2.1 k i hk hi), mQ_ch h.2.2.2.2.1 h', hP⟩
def CB (m : Nat) (fs : Nat → Nat) (B : zBst) (σ : zM) : Prop := match B with
  | none => zg σ 45 13 = 0
  | some (l, q) => zg σ 45 13 = 1 ∧ zg σ 45 12 = l ∧ ∀ j, j < m → zg σ 50 j = nI (fs (q j))
theorem CB.fx {m : Nat} {fs : Nat → Nat} {B : zBst} {σ σ' : zM} {M : zMk} (h : CB m fs B σ) (h' : Fx M σ σ') (h1 : inm M 45 13 = false) (h2 : inm M 45 12 = false) (h3 : ∀ j, inm M 50 j = false) : CB m fs B σ' := by
  cases B with
  | none => exact (h' 45 13 h1).trans h
  | some x => exact ⟨(h' 45 13 h1).trans h.1, (h' 45 12 h2).trans h.2.1, fun j hj => (h' 50 j (h3 j)).trans (h.2.2 j hj)⟩
theorem e_quarrels {F n m p q c a k : Nat} {W : Int32} {tg fs pi : Nat → Nat} {α σ : zM} (rec : Int32 → Int32 → Int32 → zM → Option (Unit × zM)) (x v : Int32) (hF : 300 ≤ F) (hS : SC n m p q c W tg fs α) (hk : k < m) (h46 : ∀ j, j < m → zg σ 46 j = nI (tg j)) (h49 : ∀ j, j ≤ k → pi j < 40 ∧ zg σ 49 j = nI (pi j)) (hx : Fx mQ α σ) (hP : PM n p c a α σ) : ∃ σ', (∀ kk : Int32 → zM → Option (Unit × zM), f_X6_seatOthers_L6 F rec kk (nI k) v F x (nI 0) σ = kk (x + sumI (fun j => qrl α p c (tg j) (pi j) (tg k) (pi k)) k) σ') ∧ Fx ([13, 14, 23, 32], []) σ σ' ∧ PM n p c a α σ' := by
  have h7 := hS.2.2.1.1
  have hn := hS.1.1
  have key : ∀ (d fu j : Nat) (τ : zM), j + d = k → d < fu → Fx ([13, 14, 23, 32], []) σ τ → PM n p c a α τ → ∃ σ', (∀ kk : Int32 → zM → Option (Unit × zM), f_X6_seatOthers_L6 F rec kk (nI k) v fu (x + sumI (fun j => qrl α p c (tg j) (pi j) (tg k) (pi k)) j) (nI j) τ = kk (x + sumI (fun j => qrl α p c (tg j) (pi j) (tg k) (pi k)) k) σ') ∧ Fx ([13, 14, 23, 32], []) σ σ' ∧ PM n p c a α σ' := by
    intro d
    induction d with
    | zero =>
      intro fu j τ hj hfu hf hp
      obtain ⟨fu, rfl⟩ : ∃ f', fu = f' + 1 := ⟨fu - 1, by omega⟩
      have : j = k := by omega
      subst this
      refine ⟨τ, fun kk => ?_, hf, hp⟩
      rw [f_X6_seatOthers_L6, if_neg (by rw [nI_ltI (by omega) (by omega)]; omega)]
    | succ d ih =>
      intro fu j τ hj hfu hf hp
      obtain ⟨fu, rfl⟩ : ∃ f', fu = f' + 1 := ⟨fu - 1, by omega⟩
      obtain ⟨τ1, a1, a2, a3⟩ := e_quarrel (F := F) (f := tg j) (g := tg k) (s := pi j) (t := pi k) hF hS.1 hS.2.1 (hx.tr (hf.sub rfl)) hp (hS.2.2.1.2.1 j (by omega)).1 (hS.2.2.1.2.1 k hk).1 (h49 j (by omega)).1 (h49 k (by omega)).1
      obtain ⟨τ2, g1, g2, g3⟩ := ih fu (j + 1) τ1 (by omega) (by omega) (hf.tr a2) a3
      refine ⟨τ2, fun kk => ?_, g2, g3⟩
      rw [f_X6_seatOthers_L6, if_pos (show nI j < nI k from (nI_ltI (by omega) (by omega)).mpr (by omega)), if_pos (show nI k < (7 : Int32) from (nI_ltI (b := 7) (by omega) (by omega)).mpr (by omega)), if_pos (zin_n (by omega) (by omega)), if_pos (zin_n (by omega) (by omega)), if_pos (zin_n (by omega) (by omega)), if_pos (zin_n (by omega) (by omega)), nI_clamp (by omega), nI_clamp (by omega), hf 46 j rfl, hf 49 j rfl, hf 46 k rfl, hf 49 k rfl, h46 j (by omega), h46 k hk, (h49 j (by omega)).2, (h49 k (by omega)).2, a1, bnd_some, lt_eq, lt_eq, nI_1, Int32.add_assoc]
      exact g1 kk
  obtain ⟨τ, g1, g2, g3⟩ := key k F 0 σ (by omega) (by omega) Fx.rf hP
  refine ⟨τ, fun kk => ?_, g2, g3⟩
  rw [← g1 kk, sumI, Int32.add_zero]
