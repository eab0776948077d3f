/-! ===== clauses ===== -/
abbrev zCl : Type := Nat → Int32 × Nat × Nat × Nat
abbrev zPA : Type := (Nat × zLs × zCl) ⊕ Int32
def isK (c : Int32) : Bool := decide (c = 112 ∨ c = 119 ∨ c = 104 ∨ c = 118)
def pE (tx : Nat → Int32) (c : Int32) (st : zLs) : zPR := if c = 112 then .inl st else pS tx 7 0 st
def pCo (tx : Nat → Int32) (st : zLs) : zPR := if tx st.1 = 40 then bndP (pCn tx (pP tx 6 1) (adv st)) (fun s => if tx s.1 = 41 then .inl (adv s) else flP 1 s.1) else flP 1 st.1
def rcd (R : zCl) (k : Nat) (r : Int32 × Nat × Nat × Nat) : zCl := fun i => if i = k then r else R i
def fltP (k pos : Nat) : Int32 := (-1000 : Int32) * nI k - nI pos
def pCl (tx : Nat → Int32) (k : Nat) (st : zLs) (R : zCl) : (zLs × zCl) ⊕ Int32 :=
  if isK (tx st.1) = true then (if k < 14 then (match pE tx (tx st.1) (adv st) with
    | .inr e => .inr e
    | .inl s1 => match pCo tx s1 with
      | .inr e => .inr e
      | .inl s2 => .inl (s2, rcd R k (tx st.1, st.2.1, s1.2.1, s2.2.1))) else .inr (fltP 4 st.1)) else .inr (fltP 1 st.1)
def pAll (tx : Nat → Int32) (n : Nat) : Nat → Nat → zLs → zCl → zPA
  | 0, _, _, _ => .inr 0
  | f + 1, k, st, R => match pCl tx k st R with
    | .inr e => .inr e
    | .inl x => if x.1.1 < n then (if tx x.1.1 = 59 then pAll tx n f (k + 1) (adv x.1) x.2 else .inr (fltP 1 x.1.1)) else .inl (k + 1, x.1, x.2)
/-- what is read so far is well made -/
def GA (n k : Nat) (st : zLs) (R : zCl) : Prop := k ≤ 14 ∧ st.2.1 ≤ st.1 ∧ st.1 ≤ n ∧ (∀ j, j < st.2.1 → (st.2.2 j).2 < 1048576) ∧ ∀ i, i < k → (R i).2.1 ≤ (R i).2.2.1 ∧ (R i).2.2.1 ≤ (R i).2.2.2 ∧ (R i).2.2.2 ≤ st.2.1 ∧ Seg st.2.2 (R i).2.2.1 (R i).2.2.2 true 16 ∧ ((R i).1 = 112 ∨ Seg st.2.2 (R i).2.1 (R i).2.2.1 false 15)
theorem isK_m {c : Int32} (h : isK c = true) : ¬ c = -1 := by
  unfold isK at h
  rw [decide_eq_true_eq] at h
  rcases h with rfl | rfl | rfl | rfl <;> decide
theorem gd_pCo {n : Nat} {tx : Nat → Int32} (htx : ∀ i, n ≤ i → tx i = -1) (hn : n ≤ 200) : Gd n (pCo tx) true 16 := by
  intro st st' h1 h2 h
  unfold pCo at h
  split at h
  · rename_i hb
    have hlt := tx_lt htx (i := st.1) (by rw [hb]; decide)
    obtain ⟨s, q1, q2⟩ := bndP_in h
    split at q2
    · rename_i hc
      cases q2
      have hlt2 := tx_lt htx (i := s.1) (by rw [hc]; decide)
      obtain ⟨r1, r2, r3, r4, r5⟩ := gd_pCn htx hn (gd_pP htx hn 6 1 rfl) (adv st) s (by show st.2.1 ≤ st.1 + 1; omega) hlt q1
      have r1' : s.2.1 + (st.1 + 1 - st.2.1) ≤ s.1 := r1
      have r3' : st.1 + 1 < s.1 := r3
      exact ⟨by show s.2.1 + (st.1 - st.2.1) ≤ s.1 + 1; omega, hlt2, by show st.1 < s.1 + 1; omega, r4, r5⟩
    · exact (flP_in q2).elim
  · exact (flP_in h).elim
theorem pE_in {n : Nat} {tx : Nat → Int32} (htx : ∀ i, n ≤ i → tx i = -1) {c : Int32} {st s1 : zLs} (h1 : st.2.1 ≤ st.1) (h2 : st.1 ≤ n) (h : pE tx c st = .inl s1) : s1.2.1 + (st.1 - st.2.1) ≤ s1.1 ∧ s1.1 ≤ n ∧ st.1 ≤ s1.1 ∧ st.2.1 ≤ s1.2.1 ∧ (∀ j, j < st.2.1 → s1.2.2 j = st.2.2 j) ∧ (c = 112 ∧ s1 = st ∨ Seg s1.2.2 st.2.1 s1.2.1 false 15) := by
  unfold pE at h
  split at h
  · rename_i hc
    cases h
    exact ⟨by omega, h2, Nat.le_refl _, Nat.le_refl _, fun _ _ => rfl, Or.inl ⟨hc, rfl⟩⟩
  · obtain ⟨r1, r2, r3, r4, r5⟩ := gd_pS htx 7 0 rfl st s1 h1 h2 h
    have := r5.1
    exact ⟨r1, r2, by omega, by omega, r4, Or.inr r5⟩
theorem ga_pCl {n k : Nat} {tx : Nat → Int32} {st : zLs} {R : zCl} {x : zLs × zCl} (htx : ∀ i, n ≤ i → tx i = -1) (hn : n ≤ 200) (h : GA n k st R) (hx : pCl tx k st R = .inl x) : GA n (k + 1) x.1 x.2 ∧ st.1 < x.1.1 ∧ k < 14 := by
  obtain ⟨a1, a2, a3, a4, a5⟩ := h
  unfold pCl at hx
  split at hx
  · rename_i hk
    have hlt := tx_lt htx (isK_m hk)
    split at hx
    · rename_i hk14
      split at hx
      · cases hx
      · rename_i s1 hs1
        split at hx
        · cases hx
        · rename_i s2 hs2
          cases hx
          have h1' : (adv st).2.1 ≤ (adv st).1 := by show st.2.1 ≤ st.1 + 1; omega
          obtain ⟨e1, e2, e3, e4, e5, e6⟩ := pE_in htx h1' hlt hs1
          have e1' : s1.2.1 + (st.1 + 1 - st.2.1) ≤ s1.1 := e1
          have e3' : st.1 + 1 ≤ s1.1 := e3
          have e4' : st.2.1 ≤ s1.2.1 := e4
          have e5' : ∀ j, j < st.2.1 → s1.2.2 j = st.2.2 j := e5
          obtain ⟨c1, c2, c3, c4, c5⟩ := gd_pCo htx hn s1 s2 (by omega) e2 hs2
          have c5' := c5.1
          have e6' : tx st.1 = 112 ∧ s1 = adv st ∨ Seg s1.2.2 st.2.1 s1.2.1 false 15 := e6
          refine ⟨⟨by omega, (show s2.2.1 ≤ s2.1 by omega), c2, fun j hj => ?_, fun i hi => ?_⟩, (show st.1 < s2.1 by omega), hk14⟩
          · by_cases q : j < s1.2.1
            · rw [c4 j q]
              by_cases q2 : j < st.2.1
              · rw [e5' j q2]; exact a4 j q2
              · rcases e6' with ⟨-, w⟩ | w
                · rw [w] at q
                  exact absurd q q2
                · exact w.2.2 j (by omega) q
            · exact c5.2.2 j (by omega) hj
          · unfold rcd
            by_cases q : i = k
            · subst q
              simp only [if_true]
              refine ⟨e4', by omega, Nat.le_refl _, c5, ?_⟩
              rcases e6' with ⟨w, -⟩ | w
              · exact Or.inl w
              · exact Or.inr (w.cg fun j _ hj => c4 j hj)
            · simp only [if_neg q]
              obtain ⟨b1, b2, b3, b4, b5⟩ := a5 i (by omega)
              refine ⟨b1, b2, by omega, b4.cg fun j _ hj => ?_, ?_⟩
              · rw [c4 j (by omega), e5' j (by omega)]
              · rcases b5 with w | w
                · exact Or.inl w
                · exact Or.inr (w.cg fun j _ hj => by rw [c4 j (by omega), e5' j (by omega)])
    · cases hx
  · cases hx
/-! by the class -/
abbrev mCA (q : Nat) : zMk := ([q + 1, q + 2, q + 3, q + 4, q + 5, q + 6], [(24, 2), (24, 4), (q, 7), (q, 8)])
abbrev mCB (q : Nat) : zMk := ([q + 1, q + 2, q + 3, q + 4, q + 5, q + 6], [(24, 2), (q, 7), (q, 8)])
/-- a clause as it stands -/
def rcS (q k : Nat) (R : zCl) (σ : zM) : Prop := ∀ i, i < k → zg σ (q + 1) i = (R i).1 ∧ zg σ (q + 2) i = nI (R i).2.1 ∧ zg σ (q + 3) i = nI (R i).2.2.1 ∧ zg σ (q + 4) i = nI (R i).2.2.2
def cAl (q n : Nat) (tx : Nat → Int32) (σ0 : zM) (k : Nat) (st : zLs) (R : zCl) (σ : zM) : Prop := Fx (mCB q) σ0 σ ∧ CR0 q n σ ∧ txc σ n = tx ∧ cS q σ st σ ∧ zg σ q 7 = nI k ∧ rcS q k R σ
theorem CR0.fx {q n : Nat} {σ σ' : zM} (h : CR0 q n σ) (hf : Fx (mCA q) σ σ') : CR0 q n σ' ∧ txc σ' n = txc σ n := by
  obtain ⟨hq, hn, h1, h3, t, ht, ht2, h11, hb⟩ := h
  have f2 : ∀ i, zg σ' 2 i = zg σ 2 i := fun i => hf 2 i (by rcases hq with rfl | rfl <;> rfl)
  refine ⟨⟨hq, hn, (hf 24 1 (by rcases hq with rfl | rfl <;> rfl)).trans h1, (hf 24 3 (by rcases hq with rfl | rfl <;> rfl)).trans h3, t, ht, ht2, (hf 1 1 (by rcases hq with rfl | rfl <;> rfl)).trans h11, fun i hi => by rw [f2]; exact hb i hi⟩, ?_⟩
  funext i
  unfold txc
  rw [f2]
theorem cS.re {q : Nat} {σ0 σ : zM} {st : zLs} (h : cS q σ0 st σ) : cS q σ st σ := ⟨Fx.rf, h.2⟩
theorem rcS.fx {q n k : Nat} {R : zCl} {σ0 σ : zM} {m : zMk} (hq : q = 16 ∨ q = 25) (h : rcS q k R σ0) (hf : Fx m σ0 σ) (hm : m = mCS q ∨ m = mCR q) : rcS q k R σ := by
  intro i hi
  obtain ⟨a1, a2, a3, a4⟩ := h i hi
  rcases hm with rfl | rfl
  · rw [hf (q + 1) i (by rcases hq with rfl | rfl <;> rfl), hf (q + 2) i (by rcases hq with rfl | rfl <;> rfl), hf (q + 3) i (by rcases hq with rfl | rfl <;> rfl), hf (q + 4) i (by rcases hq with rfl | rfl <;> rfl)]
    exact ⟨a1, a2, a3, a4⟩
  · rw [hf (q + 1) i (by rcases hq with rfl | rfl <;> rfl), hf (q + 2) i (by rcases hq with rfl | rfl <;> rfl), hf (q + 3) i (by rcases hq with rfl | rfl <;> rfl), hf (q + 4) i (by rcases hq with rfl | rfl <;> rfl)]
    exact ⟨a1, a2, a3, a4⟩
/-- self-contained: where the reader stands -/
def cB (q n : Nat) (tx : Nat → Int32) (k : Nat) (st : zLs) (σ : zM) : Prop := CR0 q n σ ∧ txc σ n = tx ∧ cS q σ st σ ∧ zg σ q 7 = nI k
def cFl (q : Nat) (σ0 : zM) (e : Int32) (σ : zM) : Prop := Fx (mCA q) σ0 σ ∧ zg σ 24 4 = e ∧ e.toInt < 0
theorem c_fail0 {q n k : Nat} {σ0 σ : zM} {st : zLs} (h0 : CR0 q n σ0) (h : cS q σ0 st σ) (h1 : st.2.1 ≤ st.1) (h2 : st.1 ≤ n) (hk : 1 ≤ k ∧ k ≤ 5) : ∃ σ', (bnd (f_X4_fail (nI k) σ) (fun r24 s23 => if r24 = 0 then some ((0 : Int32), s23) else if r24 = 1 then some (1, s23) else none)) = some (0, σ') ∧ cE q σ0 (fltP k st.1) σ' := by
  obtain ⟨σ', e1, e2⟩ := c_fail (k := k) h0 h h1 h2 hk
  exact ⟨σ', by rw [e1, bnd_some, if_pos rfl], e2⟩
theorem cB.of {q n k : Nat} {tx : Nat → Int32} {σ0 σ : zM} {st : zLs} (h0 : CR0 q n σ0) (ht : txc σ0 n = tx) (h7 : zg σ0 q 7 = nI k) (h : cS q σ0 st σ) : cB q n tx k st σ := by
  have hq := h0.1
  obtain ⟨g1, g2⟩ := h0.fx (h.1.sub (by rcases hq with rfl | rfl <;> rfl))
  exact ⟨g1, g2.trans ht, h.re, (h.1 q 7 (by rcases hq with rfl | rfl <;> rfl)).trans h7⟩
theorem cB.zs {q n k i j : Nat} {tx : Nat → Int32} {v : Int32} {σ : zM} {st : zLs} (h : cB q n tx k st σ) (hi : 1 ≤ i) (hi4 : i ≤ 4) : cB q n tx k st (zs σ (q + i) j v) := by
  obtain ⟨h0, ht, hS, h7⟩ := h
  have hq := h0.1
  have fm : Fx (mCA q) σ (_root_.Jvm.Pilot.@@N@@.zs σ (q + i) j v) := Fx.rf.zs (by
    have : i = 1 ∨ i = 2 ∨ i = 3 ∨ i = 4 := by omega
    rcases this with rfl | rfl | rfl | rfl <;> simp [inm])
  obtain ⟨g1, g2⟩ := h0.fx fm
  obtain ⟨a1, a2, a3, a4⟩ := hS
  refine ⟨g1, g2.trans ht, ⟨Fx.rf, ?_, ?_, fun x hx => ?_⟩, ?_⟩
  · rw [zg_ne (by omega)]; exact a2
  · rw [zg_ne (by omega)]; exact a3
  · rw [zg_ne (by omega), zg_ne (by omega)]; exact a4 x hx
  · rw [zg_ne (by omega)]; exact h7
theorem rows4 {q : Nat} {σ σ' : zM} (hq : q = 16 ∨ q = 25) (hf : Fx (mCS q) σ σ') (i j : Nat) (hi : 1 ≤ i) (hi4 : i ≤ 4) : zg σ' (q + i) j = zg σ (q + i) j := by
  refine hf (q + i) j ?_
  have : i = 1 ∨ i = 2 ∨ i = 3 ∨ i = 4 := by omega
  rcases this with rfl | rfl | rfl | rfl <;> rcases hq with rfl | rfl <;> rfl
theorem c_clause {F D q n k : Nat} {tx : Nat → Int32} {σ0 σ : zM} {st : zLs} {R : zCl} (hF : 210 ≤ F) (hD : 21 ≤ D) (h1 : st.2.1 ≤ st.1) (h2 : st.1 ≤ n) (hk : k ≤ 14) (h : cAl q n tx σ0 k st R σ) : match pCl tx k st R with
    | .inl x => ∃ σ', f_X4_readClause F D σ = some (1, σ') ∧ cAl q n tx σ0 (k + 1) x.1 x.2 σ'
    | .inr e => ∃ σ', f_X4_readClause F D σ = some (0, σ') ∧ cFl q σ0 e σ' := by
  obtain ⟨hf, h0, htx, hS, h7, hR⟩ := h
  have hq := h0.1
  have hn := h0.2.1
  have htx' : ∀ i, n ≤ i → tx i = -1 := fun i hi => by rw [← htx]; exact txc_out i hi
  have bb : msub (mCS q) (mCB q) = true := by rcases hq with rfl | rfl <;> rfl
  have ba : msub (mCB q) (mCA q) = true := by rcases hq with rfl | rfl <;> rfl
  have ra : msub (mCR q) (mCA q) = true := by rcases hq with rfl | rfl <;> rfl
  have flt : ∀ (σb σc : zM) (e : Int32), Fx (mCB q) σ0 σb → cE q σb e σc → cFl q σ0 e σc := fun σb σc e hb hc => ⟨(hb.sub ba).tr (hc.1.sub ra), hc.2.1.1, hc.2.1.2⟩
  have in1 : ∀ i j, 1 ≤ i → i ≤ 4 → inm (mCB q) (q + i) j = true := by
    intro i j a b
    have : i = 1 ∨ i = 2 ∨ i = 3 ∨ i = 4 := by omega
    rcases this with rfl | rfl | rfl | rfl <;> simp [inm]
  -- the kind of clause is one of four
  have four : f_X4_readClause F D σ = if isK (tx st.1) = true then f_X4_readClause_j35 F D (tx st.1) σ else bnd (f_X4_fail (1 : Int32) σ) (fun r24 s23 => if r24 = 0 then some ((0 : Int32), s23) else if r24 = 1 then some (1, s23) else none) := by
    unfold f_X4_readClause
    rw [c_peek h0 hS h2, bnd_some, htx]
    unfold isK
    by_cases c1 : tx st.1 = 112
    · rw [if_pos c1, if_pos (by rw [decide_eq_true_eq]; exact Or.inl c1)]
    · by_cases c2 : tx st.1 = 119
      · rw [if_neg c1, if_pos c2, if_pos (by rw [decide_eq_true_eq]; exact Or.inr (Or.inl c2))]
      · by_cases c3 : tx st.1 = 104
        · rw [if_neg c1, if_neg c2, if_pos c3, if_pos (by rw [decide_eq_true_eq]; exact Or.inr (Or.inr (Or.inl c3)))]
        · by_cases c4 : tx st.1 = 118
          · rw [if_neg c1, if_neg c2, if_neg c3, if_pos c4, if_pos (by rw [decide_eq_true_eq]; exact Or.inr (Or.inr (Or.inr c4)))]
          · rw [if_neg c1, if_neg c2, if_neg c3, if_neg c4, if_neg (by rw [decide_eq_true_eq]; rintro (w | w | w | w); exact c1 w; exact c2 w; exact c3 w; exact c4 w)]
  rw [four]
  unfold pCl
  by_cases hK : isK (tx st.1) = true
  · have hlt := tx_lt htx' (isK_m hK)
    rw [if_pos hK, if_pos hK]
    obtain ⟨z1, z2⟩ := c_zLw h0 hS
    unfold f_X4_readClause_j35
    rw [if_pos z1, z2]
    have full : ∀ τ, zg τ q 7 = nI k → f_X3_isFull q τ = some (if k < 14 then 0 else 1, τ) := by
      intro τ hτ
      unfold f_X3_isFull
      rw [hτ]
      by_cases c : k < 14
      · rw [if_pos c, if_pos (show nI k < (14 : Int32) by rw [show (14 : Int32) = nI 14 from rfl, nI_ltI (by omega) (by omega)]; exact c)]
      · rw [if_neg c, if_neg (show ¬ nI k < (14 : Int32) by rw [show (14 : Int32) = nI 14 from rfl, nI_ltI (by omega) (by omega)]; exact c)]
    rw [full σ h7, bnd_some]
    by_cases hk14 : k < 14
    · have z14 := zin_n (show (14 : Nat) < 2 ^ 31 by omega) hk14
      have h1' : (adv st).2.1 ≤ (adv st).1 := by show st.2.1 ≤ st.1 + 1; omega
      rw [if_pos hk14, if_pos hk14, if_pos rfl, lt_eq]
      have hA := c_adv h0 hS
      obtain ⟨y1, y2⟩ := c_zLw h0 hA
      rw [if_pos y1, y2]
      have bA := cB.of h0 htx h7 hA
      have fA : Fx (mCB q) σ0 (zs σ 24 2 (zg σ 24 2 + 1)) := hf.tr (hA.1.sub bb)
      have rA : rcS q k R (zs σ 24 2 (zg σ 24 2 + 1)) := rcS.fx (n := n) hq hR hA.1 (Or.inl rfl)
      generalize zs σ 24 2 (zg σ 24 2 + 1) = σa at hA bA fA rA ⊢
      have beg : f_X3_begin q (tx st.1) σa = some ((), zs (zs σa (q + 1) k (tx st.1)) (q + 2) k (nI st.2.1)) := by
        unfold f_X3_begin
        rw [full σa bA.2.2.2, bnd_some, if_pos hk14, if_pos rfl, bA.2.2.2, if_pos z14, nI_clamp (by omega), lt_eq, zg_ne (show q ≠ q + 1 by omega), bA.2.2.2, if_pos z14, nI_clamp (by omega), zg_ne (show q ≠ q + 1 by omega), bA.2.2.1.2.2.1, lt_eq]
        rfl
      have bb2 : cB q n tx k (adv st) (zs (zs σa (q + 1) k (tx st.1)) (q + 2) k (nI st.2.1)) := (bA.zs (by omega) (by omega)).zs (by omega) (by omega)
      have fb : Fx (mCB q) σ0 (zs (zs σa (q + 1) k (tx st.1)) (q + 2) k (nI st.2.1)) := (fA.zs (in1 1 k (by omega) (by omega))).zs (in1 2 k (by omega) (by omega))
      have kb1 : zg (zs (zs σa (q + 1) k (tx st.1)) (q + 2) k (nI st.2.1)) (q + 1) k = tx st.1 := by rw [zg_ne (by omega), zg_eq]
      have kb2 : zg (zs (zs σa (q + 1) k (tx st.1)) (q + 2) k (nI st.2.1)) (q + 2) k = nI st.2.1 := zg_eq
      have rb : rcS q k R (zs (zs σa (q + 1) k (tx st.1)) (q + 2) k (nI st.2.1)) := by
        intro i hi
        rw [zg_ne (show q + 1 ≠ q + 2 by omega), zg_nj (show i ≠ k by omega), zg_nj (show i ≠ k by omega), zg_ne (show q + 2 ≠ q + 1 by omega), zg_ne (show q + 3 ≠ q + 2 by omega), zg_ne (show q + 3 ≠ q + 1 by omega), zg_ne (show q + 4 ≠ q + 2 by omega), zg_ne (show q + 4 ≠ q + 1 by omega)]
        exact rA i hi
      rw [beg, bnd_some]
      generalize zs (zs σa (q + 1) k (tx st.1)) (q + 2) k (nI st.2.1) = σb at bb2 fb kb1 kb2 rb ⊢
      obtain ⟨b0, bt, bS, b7⟩ := bb2
      -- the condition, from any state behind
      have cond : ∀ (s1 : zLs) (σ1 : zM), s1.2.1 ≤ s1.1 → s1.1 ≤ n → cS q σb s1 σ1 → match (match pCo tx s1 with
            | .inr e => (.inr e : (zLs × zCl) ⊕ Int32)
            | .inl s2 => .inl (s2, rcd R k (tx st.1, st.2.1, s1.2.1, s2.2.1))) with
          | .inl x => ∃ σ', f_X4_readClause_j85 F D σ1 = some (1, σ') ∧ cAl q n tx σ0 (k + 1) x.1 x.2 σ'
          | .inr e => ∃ σ', f_X4_readClause_j85 F D σ1 = some (0, σ') ∧ cFl q σ0 e σ' := by
        intro s1 σ1 g1 g2 hS1
        have b1 := cB.of b0 bt b7 hS1
        have f1 : Fx (mCB q) σ0 σ1 := fb.tr (hS1.1.sub bb)
        obtain ⟨x1, x2⟩ := c_zLw b0 hS1
        have bc : f_X3_beginCondition q σ1 = some ((), zs σ1 (q + 3) k (nI s1.2.1)) := by
          unfold f_X3_beginCondition
          rw [full σ1 b1.2.2.2, bnd_some, if_pos hk14, if_pos rfl, b1.2.2.2, if_pos z14, nI_clamp (by omega), b1.2.2.1.2.2.1, lt_eq]
        have bm : cB q n tx k s1 (zs σ1 (q + 3) k (nI s1.2.1)) := b1.zs (by omega) (by omega)
        have fm : Fx (mCB q) σ0 (zs σ1 (q + 3) k (nI s1.2.1)) := f1.zs (in1 3 k (by omega) (by omega))
        have km1 : zg (zs σ1 (q + 3) k (nI s1.2.1)) (q + 1) k = tx st.1 := by rw [zg_ne (by omega), rows4 hq hS1.1 1 k (by omega) (by omega)]; exact kb1
        have km2 : zg (zs σ1 (q + 3) k (nI s1.2.1)) (q + 2) k = nI st.2.1 := by rw [zg_ne (by omega), rows4 hq hS1.1 2 k (by omega) (by omega)]; exact kb2
        have km3 : zg (zs σ1 (q + 3) k (nI s1.2.1)) (q + 3) k = nI s1.2.1 := zg_eq
        have rm : rcS q k R (zs σ1 (q + 3) k (nI s1.2.1)) := by
          intro i hi
          rw [zg_ne (show q + 1 ≠ q + 3 by omega), zg_ne (show q + 2 ≠ q + 3 by omega), zg_nj (show i ≠ k by omega), zg_ne (show q + 4 ≠ q + 3 by omega)]
          exact rcS.fx (n := n) hq rb hS1.1 (Or.inl rfl) i hi
        unfold f_X4_readClause_j85
        rw [if_pos x1, x2, bc, bnd_some]
        generalize zs σ1 (q + 3) k (nI s1.2.1) = σm at bm fm km1 km2 km3 rm ⊢
        obtain ⟨m0, mt, mS', m7⟩ := bm
        have ac := acc_c (c := 40) m0 mS' g1 g2
        rw [mt] at ac
        unfold pCo
        by_cases c40 : tx s1.1 = 40
        · have hlt1 := tx_lt htx' (i := s1.1) (by rw [c40]; decide)
          rw [if_pos c40] at ac ⊢
          obtain ⟨σ2, e1, e2⟩ := ac
          rw [e1, bnd_some, if_neg b1n]
          obtain ⟨D, rfl⟩ : ∃ d, D = d + 1 + 1 := ⟨D - 2, by omega⟩
          have gp := gd_pP htx' hn 6 1 rfl
          have sp := sim_pP hF m0 6 1 D rfl (by omega) (by omega)
          rw [mt] at sp
          have sc : sim q n σm (pCn tx (pP tx 6 1)) (f_G0 F (D + 1 + 1) 0 (nI 1)) := by
            have s3 := sim_part (F := F) (o := 1) hF m0 sp gp
            rw [mt] at s3
            have s4 := sim_cond (F := F) (o := 1) (rec := f_G0 F (D + 1)) hF m0 s3 (gd_jch htx' hn (Or.inl rfl) gp)
            rw [mt] at s4
            exact s4
          have h1a : (adv s1).2.1 ≤ (adv s1).1 := by show s1.2.1 ≤ s1.1 + 1; omega
          have w := sc (adv s1) σ2 h1a hlt1 e2
          cases hr : pCn tx (pP tx 6 1) (adv s1) with
          | inr e =>
            rw [hr] at w
            obtain ⟨σ3, w1, w2⟩ := w
            have w1' : f_G0 F (D + 1 + 1) 0 (1 : Int32) σ2 = some (0, σ3) := w1
            exact ⟨σ3, by rw [w1', bnd_some, if_pos rfl], flt σm σ3 e fm w2⟩
          | inl s =>
            rw [hr] at w
            obtain ⟨σ3, w1, w2⟩ := w
            obtain ⟨q1, q2, q3, -⟩ := gd_pCn htx' hn gp (adv s1) s h1a hlt1 hr
            have q1' : s.2.1 + (s1.1 + 1 - s1.2.1) ≤ s.1 := q1
            have w1' : f_G0 F (D + 1 + 1) 0 (1 : Int32) σ2 = some (1, σ3) := w1
            rw [w1', bnd_some, if_neg b1n]
            have ac2 := acc_c (c := 41) m0 w2 (by omega) q2
            rw [mt] at ac2
            show match (match (if tx s.1 = 41 then (.inl (adv s) : zPR) else flP 1 s.1) with
              | .inr e => (.inr e : (zLs × zCl) ⊕ Int32)
              | .inl s2 => .inl (s2, rcd R k (tx st.1, st.2.1, s1.2.1, s2.2.1))) with
              | .inl x => _
              | .inr e => _
            by_cases c41 : tx s.1 = 41
            · rw [if_pos c41] at ac2 ⊢
              obtain ⟨σ4, v1, v2⟩ := ac2
              rw [v1, bnd_some, if_neg b1n]
              obtain ⟨u1, u2⟩ := c_zLw m0 v2
              have b4 := cB.of m0 mt m7 v2
              have f4 : Fx (mCB q) σ0 σ4 := fm.tr (v2.1.sub bb)
              have en : f_X3_end q σ4 = some ((), zs (zs σ4 (q + 4) k (nI s.2.1)) q 7 (nI (k + 1))) := by
                unfold f_X3_end
                have e8 : zg σ4 q 8 = nI s.2.1 := b4.2.2.1.2.2.1
                rw [full σ4 b4.2.2.2, bnd_some, if_pos hk14, if_pos rfl, b4.2.2.2, if_pos z14, nI_clamp (by omega), e8, lt_eq, zg_ne (show q ≠ q + 4 by omega), b4.2.2.2, nI_1, lt_eq]
              rw [if_pos u1, u2, en, bnd_some]
              have b5 : cB q n tx k (adv s) (zs σ4 (q + 4) k (nI s.2.1)) := b4.zs (by omega) (by omega)
              obtain ⟨p0, pt, pS', p7⟩ := b5
              have fz : Fx (mCA q) (zs σ4 (q + 4) k (nI s.2.1)) (zs (zs σ4 (q + 4) k (nI s.2.1)) q 7 (nI (k + 1))) := Fx.rf.zs (by rcases hq with rfl | rfl <;> rfl)
              obtain ⟨p0', pt'⟩ := p0.fx fz
              refine ⟨_, rfl, (f4.zs (in1 4 k (by omega) (by omega))).zs (by rcases hq with rfl | rfl <;> rfl), p0', pt'.trans pt, ⟨Fx.rf, ?_, ?_, fun j hj => ?_⟩, zg_eq, fun i hi => ?_⟩
              · rw [zg_ne (by rcases hq with rfl | rfl <;> decide)]; exact pS'.2.1
              · rw [zg_nj (by decide)]; exact pS'.2.2.1
              · rw [zg_ne (show q + 5 ≠ q by omega), zg_ne (show q + 6 ≠ q by omega)]; exact pS'.2.2.2 j hj
              · rw [zg_ne (show q + 1 ≠ q by omega), zg_ne (show q + 2 ≠ q by omega), zg_ne (show q + 3 ≠ q by omega), zg_ne (show q + 4 ≠ q by omega), zg_ne (show q + 1 ≠ q + 4 by omega), zg_ne (show q + 2 ≠ q + 4 by omega), zg_ne (show q + 3 ≠ q + 4 by omega), rows4 hq v2.1 1 i (by omega) (by omega), rows4 hq v2.1 2 i (by omega) (by omega), rows4 hq v2.1 3 i (by omega) (by omega), zg_row, rows4 hq v2.1 4 i (by omega) (by omega)]
                unfold rcd
                by_cases hik : i = k
                · subst hik
                  simp only [if_true]
                  exact ⟨km1, km2, km3, rfl⟩
                · simp only [if_neg hik]
                  exact rm i (by omega)
            · rw [if_neg c41] at ac2 ⊢
              obtain ⟨σ4, v1, v2⟩ := ac2
              exact ⟨σ4, by rw [v1, bnd_some, if_pos rfl], flt σm σ4 _ fm v2⟩
        · rw [if_neg c40] at ac ⊢
          obtain ⟨σ2, e1, e2⟩ := ac
          exact ⟨σ2, by rw [e1, bnd_some, if_pos rfl], flt σm σ2 _ fm e2⟩
      unfold pE
      by_cases c112 : tx st.1 = 112
      · rw [if_pos c112, if_pos (α := Option (Int32 × zM)) c112]
        have w := cond (adv st) σb h1' hlt bS
        exact w
      · rw [if_neg c112, if_neg (α := Option (Int32 × zM)) c112]
        have sS := sim_pS hF b0 7 0 D rfl (by omega) (by omega)
        rw [bt] at sS
        have w := sS (adv st) σb h1' hlt bS
        cases hr : pS tx 7 0 (adv st) with
        | inr e =>
          rw [hr] at w
          obtain ⟨σ1, w1, w2⟩ := w
          have w1' : f_G0 F D 3 (0 : Int32) σb = some (0, σ1) := w1
          exact ⟨σ1, by rw [w1', bnd_some, if_pos rfl], flt σb σ1 e fb w2⟩
        | inl s1 =>
          rw [hr] at w
          obtain ⟨σ1, w1, w2⟩ := w
          obtain ⟨g1, g2, g3, -⟩ := gd_pS htx' 7 0 rfl (adv st) s1 h1' hlt hr
          have wc := cond s1 σ1 (by omega) g2 w2
          have w1' : f_G0 F D 3 (0 : Int32) σb = some (1, σ1) := w1
          rw [w1', bnd_some, if_neg b1n]
          exact wc
    · rw [if_neg hk14, if_neg hk14, if_neg b1n]
      obtain ⟨σ', e1, e2⟩ := c_fail0 (k := 4) h0 hS h1 h2 (by decide)
      exact ⟨σ', e1, flt σ σ' _ hf e2⟩
  · rw [if_neg hK, if_neg hK]
    obtain ⟨σ', e1, e2⟩ := c_fail0 (k := 1) h0 hS h1 h2 (by decide)
    exact ⟨σ', e1, flt σ σ' _ hf e2⟩
