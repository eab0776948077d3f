/-! ===== what is read is well made: each piece ===== -/
def GdR (n : Nat) (st0 : zLs) (b : Bool) (K : Nat) (st' : zLs) : Prop := st'.2.1 + (st0.1 - st0.2.1) ≤ st'.1 ∧ st'.1 ≤ n ∧ st0.1 < st'.1 ∧ (∀ j, j < st0.2.1 → st'.2.2 j = st0.2.2 j) ∧ Seg st'.2.2 st0.2.1 st'.2.1 b K
def Gd (n : Nat) (p : zLs → zPR) (b : Bool) (K : Nat) : Prop := ∀ st st', st.2.1 ≤ st.1 → st.1 ≤ n → p st = .inl st' → GdR n st b K st'
theorem bndP_in {r : zPR} {f : zLs → zPR} {st : zLs} (h : bndP r f = .inl st) : ∃ st1, r = .inl st1 ∧ f st1 = .inl st := by
  cases r with
  | inl s => exact ⟨s, rfl, h⟩
  | inr e => cases h
theorem flP_in {k pos : Nat} {st : zLs} (h : flP k pos = .inl st) : False := by unfold flP at h; cases h
theorem dg_n {c : Int32} (h : dg c = true) : c.toNatClampNeg ≤ 57 ∧ 48 ≤ c.toNatClampNeg ∧ c = nI c.toNatClampNeg := by
  unfold dg at h
  rw [decide_eq_true_eq] at h
  obtain ⟨k, hk, e, hc⟩ := nI_of' (v := c) (n := 58) ⟨by omega, by omega⟩ (by omega)
  have h2 : c.toInt = k := by rw [e, nI_toInt (by omega)]
  rw [hc]
  exact ⟨by omega, by omega, e⟩
theorem m1_toInt : (-1 : Int32).toInt = -1 := rfl
theorem tx_lt {n : Nat} {tx : Nat → Int32} (htx : ∀ i, n ≤ i → tx i = -1) {i : Nat} (h : ¬ tx i = -1) : i < n := by
  by_cases q : i < n
  · exact q
  · exact absurd (htx i (by omega)) h
theorem dg_m {c : Int32} (h : dg c = true) : ¬ c = -1 := by
  intro q
  unfold dg at h
  rw [q, decide_eq_true_eq, m1_toInt] at h
  omega
theorem pNum_in {n : Nat} {tx : Nat → Int32} (htx : ∀ i, n ≤ i → tx i = -1) : ∀ k num st st', k ≤ 5 → num < 10 ^ (5 - k) → st.1 ≤ n → pNum tx k num st = .inl st' → st.1 ≤ st'.1 ∧ st'.1 ≤ n ∧ ∃ v, v < 100000 ∧ st'.2 = (st.2.1 + 1, fun j => if j = st.2.1 then ((1 : Int32), v) else st.2.2 j) := by
  intro k
  induction k with
  | zero =>
    intro num st st' hk hnum hst h
    rw [pNum] at h
    split at h
    · exact (flP_in h).elim
    · cases h
      exact ⟨Nat.le_refl _, hst, num, hnum, rfl⟩
  | succ k ih =>
    intro num st st' hk hnum hst h
    rw [pNum] at h
    split at h
    · rename_i hd
      obtain ⟨d1, d2, -⟩ := dg_n hd
      have hlt := tx_lt htx (dg_m hd)
      have e10 : 10 ^ (5 - k) = 10 * 10 ^ (5 - (k + 1)) := by rw [show 5 - k = (5 - (k + 1)) + 1 by omega, Nat.pow_succ, Nat.mul_comm]
      obtain ⟨h1, h2, v, h3, h4⟩ := ih (10 * num + ((tx st.1).toNatClampNeg - 48)) (adv st) st' (by omega) (by rw [e10]; omega) hlt h
      have h1' : st.1 + 1 ≤ st'.1 := h1
      exact ⟨by omega, h2, v, h3, h4⟩
    · cases h
      refine ⟨Nat.le_refl _, hst, num, ?_, rfl⟩
      have : 10 ^ (5 - (k + 1)) ≤ 10 ^ 5 := Nat.pow_le_pow_right (by omega) (by omega)
      omega
theorem letP_n (c : Int32) : letP c = -1 ∨ ((letP c).toNatClampNeg < 10 ∧ letP c = nI (letP c).toNatClampNeg) := by
  unfold letP
  repeat' split
  all_goals first
    | exact Or.inl rfl
    | exact Or.inr ⟨by decide, rfl⟩
theorem leaf_gd {n : Nat} {st st' : zLs} {s : Int32} {v : Nat} (h1 : st.2.1 ≤ st.1) (hp : st.1 < st'.1) (hn : st'.1 ≤ n) (h : st'.2 = (st.2.1 + 1, fun j => if j = st.2.1 then (s, v) else st.2.2 j)) (hs : s = 1 ∨ (s = 2 ∧ v < 10)) (hv : v < 1048576) {K : Nat} (hK : 1 ≤ K) : GdR n st false K st' := by
  have e1 : st'.2.1 = st.2.1 + 1 := by rw [h]
  have e2 : ∀ j, st'.2.2 j = if j = st.2.1 then (s, v) else st.2.2 j := fun j => by rw [h]
  refine ⟨by omega, hn, hp, fun j hj => by rw [e2, if_neg (by omega)], ?_⟩
  rw [e1]
  exact (Seg.leaf (by rw [e2, if_pos rfl]; exact hs) (by rw [e2, if_pos rfl]; exact hv)).up hK
theorem gd_fac {n o K : Nat} {tx : Nat → Int32} {rec : Nat → zLs → zPR} (htx : ∀ i, n ≤ i → tx i = -1) (hr : o < 6 → Gd n (rec (o + 1)) false K) (hK : 1 ≤ K) : Gd n (pFac tx rec o) false K := by
  intro st st' h1 h2 h
  unfold pFac at h
  split at h
  · rename_i hd
    have hlt := tx_lt htx (dg_m hd)
    rw [pNum, if_pos hd] at h
    obtain ⟨d1, d2, -⟩ := dg_n hd
    obtain ⟨g1, g2, v, g3, g4⟩ := pNum_in htx 4 _ (adv st) st' (by omega) (by simp; omega) hlt h
    have g1' : st.1 + 1 ≤ st'.1 := g1
    exact leaf_gd h1 (by omega) g2 g4 (Or.inl rfl) (by omega) hK
  · split at h
    · rename_i hb
      have hlt := tx_lt htx (i := st.1) (by rw [hb]; decide)
      split at h
      · rename_i ho
        obtain ⟨st1, q1, q2⟩ := bndP_in h
        split at q2
        · rename_i hc
          cases q2
          have hlt2 := tx_lt htx (i := st1.1) (by rw [hc]; decide)
          obtain ⟨r1, r2, r3, r4, r5⟩ := hr ho (adv st) st1 (by show st.2.1 ≤ st.1 + 1; omega) hlt q1
          have r1' : st1.2.1 + (st.1 + 1 - st.2.1) ≤ st1.1 := r1
          have r3' : st.1 + 1 < st1.1 := r3
          exact ⟨by show st1.2.1 + (st.1 - st.2.1) ≤ st1.1 + 1; omega, hlt2, by show st.1 < st1.1 + 1; omega, r4, r5⟩
        · exact (flP_in q2).elim
      · exact (flP_in h).elim
    · split at h
      · exact (flP_in h).elim
      · rename_i hl
        cases h
        rcases letP_n (tx st.1) with q | ⟨q, -⟩
        · exact absurd q hl
        · have hlt := tx_lt htx (i := st.1) (by
            intro w
            apply hl
            rw [w]; decide)
          exact leaf_gd h1 (show st.1 < st.1 + 1 by omega) hlt rfl (Or.inr ⟨rfl, q⟩) (by omega) hK
theorem gd_chL {n K K1 : Nat} {tx : Nat → Int32} {isOp : Int32 → Bool} {p : zLs → zPR} (htx : ∀ i, n ≤ i → tx i = -1) (hop : ∀ c, isOp c = true → isAr c ∧ ¬ c = -1) (hp : Gd n p false K1) (hK : K1 + 1 ≤ K) {st0 : zLs} (h0 : st0.2.1 ≤ st0.1) : ∀ k st st', GdR n st0 false K st → chL tx isOp p k st = .inl st' → GdR n st0 false K st' := by
  intro k
  induction k with
  | zero => intro st st' h e; rw [chL] at e; cases e; exact h
  | succ k ih =>
    intro st st' h e
    rw [chL] at e
    split at e
    · rename_i ho
      obtain ⟨o1, o2⟩ := hop _ ho
      have hlt := tx_lt htx o2
      obtain ⟨st1, q1, q2⟩ := bndP_in e
      obtain ⟨a1, a2, a3, a4, a5⟩ := h
      have hse := a5.1
      obtain ⟨r1, r2, r3, r4, r5⟩ := hp (adv st) st1 (by show st.2.1 ≤ st.1 + 1; omega) hlt q1
      have r1' : st1.2.1 + (st.1 + 1 - st.2.1) ≤ st1.1 := r1
      have r3' : st.1 + 1 < st1.1 := r3
      have r4' : ∀ j, j < st.2.1 → st1.2.2 j = st.2.2 j := r4
      have r5' : Seg st1.2.2 st.2.1 st1.2.1 false K1 := r5
      have hse1 := r5'.1
      refine ih (emi st1 (tx st.1) 0) st' ⟨?_, r2, ?_, fun j hj => ?_, ?_⟩ q2
      · show st1.2.1 + 1 + (st0.1 - st0.2.1) ≤ st1.1
        omega
      · show st0.1 < st1.1
        omega
      · show (if j = st1.2.1 then _ else st1.2.2 j) = _
        rw [if_neg (by omega), r4' j (by omega)]; exact a4 j hj
      · show Seg (fun j => if j = st1.2.1 then (tx st.1, 0) else st1.2.2 j) st0.2.1 (st1.2.1 + 1) false K
        refine Seg.bin (m := st.2.1) (a5.cg fun j _ hj => ?_) (r5'.cg fun j _ hj => ?_) (Or.inl ⟨?_, rfl⟩) ?_ (Nat.le_refl K) hK
        · rw [if_neg (by omega)]; exact r4' j hj
        · rw [if_neg (by omega)]
        · rw [if_pos rfl]; exact o1
        · rw [if_pos rfl]; omega
    · cases e; exact h
theorem gd_chn {n K K1 : Nat} {tx : Nat → Int32} {isOp : Int32 → Bool} {p : zLs → zPR} (htx : ∀ i, n ≤ i → tx i = -1) (hop : ∀ c, isOp c = true → isAr c ∧ ¬ c = -1) (hp : Gd n p false K1) (hK : K1 + 1 ≤ K) : Gd n (chn tx isOp p) false K := by
  intro st st' h1 h2 h
  unfold chn at h
  obtain ⟨st1, q1, q2⟩ := bndP_in h
  obtain ⟨r1, r2, r3, r4, r5⟩ := hp st st1 h1 h2 q1
  exact gd_chL htx hop hp hK h1 200 st1 st' ⟨r1, r2, r3, r4, r5.up (by omega)⟩ q2
theorem pl_op (c : Int32) (h : isPl c = true) : isAr c ∧ ¬ c = -1 := by
  unfold isPl at h
  rw [decide_eq_true_eq] at h
  rcases h with rfl | rfl
  · exact ⟨Or.inl rfl, by decide⟩
  · exact ⟨Or.inr (Or.inl rfl), by decide⟩
theorem ti_op (c : Int32) (h : isTi c = true) : isAr c ∧ ¬ c = -1 := by
  unfold isTi at h
  rw [decide_eq_true_eq] at h
  rcases h with rfl | rfl | rfl
  · exact ⟨Or.inr (Or.inr (Or.inl rfl)), by decide⟩
  · exact ⟨Or.inr (Or.inr (Or.inr (Or.inl rfl))), by decide⟩
  · exact ⟨Or.inr (Or.inr (Or.inr (Or.inr rfl))), by decide⟩
theorem gd_pS {n : Nat} {tx : Nat → Int32} (htx : ∀ i, n ≤ i → tx i = -1) : ∀ d o, d + o = 7 → Gd n (pS tx d o) false (2 * d + 1) := by
  intro d
  induction d with
  | zero => intro o _ st st' _ _ h; rw [pS] at h; exact (flP_in h).elim
  | succ d ih =>
    intro o ho st st' h1 h2 h
    rw [pS] at h
    refine gd_chn (K1 := 2 * d + 2) htx pl_op (gd_chn (K1 := 2 * d + 1) htx ti_op (gd_fac htx (fun ho6 => ih (o + 1) (by omega)) (by omega)) (by omega)) (by omega) st st' h1 h2 h
theorem gd_jL {n K : Nat} {tx : Nat → Int32} {c : Int32} {p : zLs → zPR} (htx : ∀ i, n ≤ i → tx i = -1) (hn : n ≤ 200) (hc : c = 38 ∨ c = 124) (hp : Gd n p true K) {st0 : zLs} (h0 : st0.2.1 ≤ st0.1) : ∀ k st st', GdR n st0 true K st → jL tx c p k st = .inl st' → GdR n st0 true K st' := by
  intro k
  induction k with
  | zero => intro st st' h e; rw [jL] at e; cases e; exact h
  | succ k ih =>
    intro st st' h e
    rw [jL] at e
    split at e
    · rename_i ho
      have hlt := tx_lt htx (i := st.1) (by rw [ho]; rcases hc with rfl | rfl <;> decide)
      obtain ⟨st1, q1, q2⟩ := bndP_in e
      obtain ⟨a1, a2, a3, a4, a5⟩ := h
      have hse := a5.1
      obtain ⟨r1, r2, r3, r4, r5⟩ := hp (emi (adv st) c 0) st1 (by show st.2.1 + 1 ≤ st.1 + 1; omega) hlt q1
      have r1' : st1.2.1 + (st.1 + 1 - (st.2.1 + 1)) ≤ st1.1 := r1
      have r3' : st.1 + 1 < st1.1 := r3
      have r4' : ∀ j, j < st.2.1 + 1 → st1.2.2 j = if j = st.2.1 then (c, 0) else st.2.2 j := r4
      have r5' : Seg st1.2.2 (st.2.1 + 1) st1.2.1 true K := r5
      have hse1 := r5'.1
      refine ih (lnd st1 st.2.1) st' ⟨?_, r2, ?_, fun j hj => ?_, ?_⟩ q2
      · show st1.2.1 + (st0.1 - st0.2.1) ≤ st1.1
        omega
      · show st0.1 < st1.1
        omega
      · show (if j = st.2.1 then _ else st1.2.2 j) = _
        rw [if_neg (by omega), r4' j (by omega), if_neg (by omega)]; exact a4 j hj
      · show Seg (fun j => if j = st.2.1 then ((st1.2.2 st.2.1).1, st1.2.1) else st1.2.2 j) st0.2.1 st1.2.1 true K
        refine Seg.jmp (m := st.2.1) (a5.cg fun j _ hj => ?_) (r5'.cg fun j hj _ => ?_) ?_ ?_ (by omega)
        · rw [if_neg (by omega), r4' j (by omega), if_neg (by omega)]
        · rw [if_neg (by omega)]
        · rw [if_pos rfl, r4' _ (by omega), if_pos rfl]; exact hc
        · rw [if_pos rfl]
    · cases e; exact h
theorem gd_jch {n K : Nat} {tx : Nat → Int32} {c : Int32} {p : zLs → zPR} (htx : ∀ i, n ≤ i → tx i = -1) (hn : n ≤ 200) (hc : c = 38 ∨ c = 124) (hp : Gd n p true K) : Gd n (jch tx c p) true K := by
  intro st st' h1 h2 h
  unfold jch at h
  obtain ⟨st1, q1, q2⟩ := bndP_in h
  exact gd_jL htx hn hc hp h1 200 st1 st' (hp st st1 h1 h2 q1) q2
theorem gd_pCn {n K : Nat} {tx : Nat → Int32} {p : zLs → zPR} (htx : ∀ i, n ≤ i → tx i = -1) (hn : n ≤ 200) (hp : Gd n p true K) : Gd n (pCn tx p) true K := gd_jch htx hn (Or.inr rfl) (gd_jch htx hn (Or.inl rfl) hp)
theorem gd_pP {n : Nat} {tx : Nat → Int32} (htx : ∀ i, n ≤ i → tx i = -1) (hn : n ≤ 200) : ∀ d o, d + o = 7 → Gd n (pP tx d o) true 16 := by
  intro d
  induction d with
  | zero => intro o _ st st' _ _ h; rw [pP] at h; exact (flP_in h).elim
  | succ d ih =>
    intro o ho st st' h1 h2 h
    rw [pP] at h
    unfold pPi at h
    split at h
    · rename_i hb
      have hlt := tx_lt htx (i := st.1) (by rcases hb with q | q <;> rw [q] <;> decide)
      split at h
      · split at h
        · obtain ⟨st1, q1, q2⟩ := bndP_in h
          split at q2
          · rename_i hc
            cases q2
            have hlt2 := tx_lt htx (i := st1.1) (by rw [hc]; decide)
            obtain ⟨r1, r2, r3, r4, r5⟩ := gd_pCn htx hn (ih (o + 1) (by omega)) (adv st) st1 (by show st.2.1 ≤ st.1 + 1; omega) hlt q1
            have r1' : st1.2.1 + (st.1 + 1 - st.2.1) ≤ st1.1 := r1
            have r3' : st.1 + 1 < st1.1 := r3
            exact ⟨by show st1.2.1 + (st.1 - st.2.1) ≤ st1.1 + 1; omega, hlt2, by show st.1 < st1.1 + 1; omega, r4, r5⟩
          · exact (flP_in q2).elim
        · obtain ⟨st1, q1, q2⟩ := bndP_in h
          cases q2
          obtain ⟨r1, r2, r3, r4, r5⟩ := ih (o + 1) (by omega) (adv st) st1 (by show st.2.1 ≤ st.1 + 1; omega) hlt q1
          have r1' : st1.2.1 + (st.1 + 1 - st.2.1) ≤ st1.1 := r1
          have r3' : st.1 + 1 < st1.1 := r3
          have r4' : ∀ j, j < st.2.1 → st1.2.2 j = st.2.2 j := r4
          have r5' : Seg st1.2.2 st.2.1 st1.2.1 true 16 := r5
          have hse := r5'.1
          refine ⟨by show st1.2.1 + 1 + (st.1 - st.2.1) ≤ st1.1; omega, r2, by show st.1 < st1.1; omega, fun j hj => ?_, ?_⟩
          · show (if j = st1.2.1 then _ else st1.2.2 j) = _
            rw [if_neg (by omega)]; exact r4' j hj
          · refine Seg.not (r5'.cg fun j _ hj => ?_) ?_ ?_ (by omega)
            · show (if j = st1.2.1 then _ else st1.2.2 j) = _
              rw [if_neg (by omega)]
            · show (if st1.2.1 = st1.2.1 then ((33 : Int32), 0) else _).1 = _
              rw [if_pos rfl]
            · show (if st1.2.1 = st1.2.1 then ((33 : Int32), 0) else _).2 < _
              rw [if_pos rfl]; omega
      · exact (flP_in h).elim
    · obtain ⟨st1, q1, q2⟩ := bndP_in h
      split at q2
      · rename_i hc
        obtain ⟨st2, q3, q4⟩ := bndP_in q2
        cases q4
        obtain ⟨r1, r2, r3, r4, r5⟩ := gd_pS htx (7 - o) o (by omega) st st1 h1 h2 q1
        have hse := r5.1
        have hlt := tx_lt htx (i := st1.1) (by rcases hc with q | q | q <;> rw [q] <;> decide)
        obtain ⟨u1, u2, u3, u4, u5⟩ := gd_pS htx (7 - o) o (by omega) (adv st1) st2 (by show st1.2.1 ≤ st1.1 + 1; omega) hlt q3
        have u1' : st2.2.1 + (st1.1 + 1 - st1.2.1) ≤ st2.1 := u1
        have u3' : st1.1 + 1 < st2.1 := u3
        have u4' : ∀ j, j < st1.2.1 → st2.2.2 j = st1.2.2 j := u4
        have u5' : Seg st2.2.2 st1.2.1 st2.2.1 false (2 * (7 - o) + 1) := u5
        have hse1 := u5'.1
        refine ⟨by show st2.2.1 + 1 + (st.1 - st.2.1) ≤ st2.1; omega, u2, by show st.1 < st2.1; omega, fun j hj => ?_, ?_⟩
        · show (if j = st2.2.1 then _ else st2.2.2 j) = _
          rw [if_neg (by omega), u4' j (by omega)]; exact r4 j hj
        · refine Seg.bin (m := st1.2.1) (r5.cg fun j _ hj => ?_) (u5'.cg fun j _ hj => ?_) (Or.inr ⟨?_, rfl⟩) ?_ (by omega) (by omega)
          · show (if j = st2.2.1 then _ else st2.2.2 j) = _
            rw [if_neg (by omega)]; exact u4' j hj
          · show (if j = st2.2.1 then _ else st2.2.2 j) = _
            rw [if_neg (by omega)]
          · show isCm (if st2.2.1 = st2.2.1 then (tx st1.1, 0) else _).1
            rw [if_pos rfl]; exact hc
          · show (if st2.2.1 = st2.2.1 then (tx st1.1, 0) else _).2 < _
            rw [if_pos rfl]; omega
      · exact (flP_in q2).elim
