/-! ===== the class reads so: rows, conditions ===== -/
theorem sim_sum {F q n o K : Nat} {σ0 : zM} {p : zLs → zPR} {rec : Nat → Int32 → zM → Option (Int32 × zM)} (hF : 210 ≤ F) (h0 : CR0 q n σ0) (hp : sim q n σ0 p (rec 4 (nI o))) (hg : Gd n p false K) : sim q n σ0 (chn (txc σ0 n) isPl p) (b_X4_readSum F rec (nI o)) := by
  have hn := h0.2.1
  -- a fault behind it
  have bad : ∀ fu k e σ, 0 < fu → cE q σ0 e σ → cOut q σ0 (.inr e) (f_X4_readSum_L8 F rec (fun y17 s16 => if y17 = 0 then some (0, s16) else if y17 = 1 then some (1, s16) else none) (nI o) fu 0 k σ) := by
    intro fu k e σ hfu hE
    obtain ⟨fu, rfl⟩ : ∃ f', fu = f' + 1 := ⟨fu - 1, by omega⟩
    refine ⟨σ, ?_, hE⟩
    rw [f_X4_readSum_L8]
    split
    · rw [if_pos rfl, if_pos rfl]
    · rw [if_pos rfl]
  have key : ∀ k fu st σ, k ≤ 200 → k + 1 < fu → st.2.1 ≤ st.1 → st.1 ≤ n → cS q σ0 st σ → cOut q σ0 (chL (txc σ0 n) isPl p k st) (f_X4_readSum_L8 F rec (fun y17 s16 => if y17 = 0 then some (0, s16) else if y17 = 1 then some (1, s16) else none) (nI o) fu 1 (nI (200 - k)) σ) := by
    intro k
    induction k with
    | zero =>
      intro fu st σ hk hfu h1 h2 hS
      obtain ⟨fu, rfl⟩ : ∃ f', fu = f' + 1 := ⟨fu - 1, by omega⟩
      rw [f_X4_readSum_L8, if_neg (by decide), chL]
      exact ⟨σ, by rw [if_neg b1n, if_pos rfl], hS⟩
    | succ k ih =>
      intro fu st σ hk hfu h1 h2 hS
      obtain ⟨fu, rfl⟩ : ∃ f', fu = f' + 1 := ⟨fu - 1, by omega⟩
      rw [f_X4_readSum_L8, if_pos (show nI (200 - (k + 1)) < (200 : Int32) by rw [show (200 : Int32) = nI 200 from rfl, nI_ltI (by omega) (by omega)]; omega), if_neg b1n, c_peek h0 hS h2, bnd_some, e_isPlus, bnd_some, b01, chL]
      by_cases ho : isPl (txc σ0 n st.1) = true
      · have hlt : st.1 < n := tx_lt txc_out (pl_op _ ho).2
        rw [if_pos ho, if_pos ho, c_peek h0 hS h2, bnd_some, lt_eq]
        have h1' : (adv st).2.1 ≤ (adv st).1 := by show st.2.1 ≤ st.1 + 1; omega
        have w := hp (adv st) _ h1' hlt (c_adv h0 hS)
        cases hr : p (adv st) with
        | inl s =>
          rw [hr] at w
          obtain ⟨σ', w1, w2⟩ := w
          obtain ⟨g1, g2, g3, -⟩ := hg (adv st) s h1' hlt hr
          have g1' : s.2.1 + (st.1 + 1 - st.2.1) ≤ s.1 := g1
          obtain ⟨z1, z2⟩ := c_zLw h0 w2
          obtain ⟨σ'', e1, e2⟩ := c_add (s := txc σ0 n st.1) (v := 0) h0 w2 (by omega)
          rw [w1, bnd_some, if_pos z1, z2, show (0 : Int32) = nI 0 from rfl, e1, bnd_some, lt_eq, nI_1, show 200 - (k + 1) + 1 = 200 - k by omega]
          exact ih fu (emi s (txc σ0 n st.1) 0) σ'' (by omega) (by omega) (by show s.2.1 + 1 ≤ s.1; omega) g2 e2
        | inr e =>
          rw [hr] at w
          obtain ⟨σ', w1, w2⟩ := w
          obtain ⟨z1, z2⟩ := w2.f h0
          obtain ⟨r, σ'', e1, e2⟩ := cE_add (s := txc σ0 n st.1) (v := 0) h0 w2
          rw [w1, bnd_some, if_pos z1, z2, e1, bnd_some, lt_eq]
          exact bad fu _ e σ'' (by omega) e2
      · rw [if_neg ho, if_neg ho, if_neg b1n, if_pos rfl]
        exact ⟨σ, rfl, hS⟩
  intro st σ h1 h2 hS
  unfold b_X4_readSum chn
  have w := hp st σ h1 h2 hS
  cases hr : p st with
  | inl s =>
    rw [hr] at w
    obtain ⟨σ', w1, w2⟩ := w
    obtain ⟨g1, g2, g3, -⟩ := hg st s h1 h2 hr
    rw [w1, bnd_some]
    exact key 200 F s σ' (by omega) (by omega) (by omega) g2 w2
  | inr e =>
    rw [hr] at w
    obtain ⟨σ', w1, w2⟩ := w
    rw [w1, bnd_some]
    exact bad F 0 e σ' (by omega) w2
theorem sim_term {F q n o K : Nat} {σ0 : zM} {p : zLs → zPR} {rec : Nat → Int32 → zM → Option (Int32 × zM)} (hF : 210 ≤ F) (h0 : CR0 q n σ0) (hp : sim q n σ0 p (rec 5 (nI o))) (hg : Gd n p false K) : sim q n σ0 (chn (txc σ0 n) isTi p) (b_X4_readTerm F rec (nI o)) := by
  have hn := h0.2.1
  -- a fault behind it
  have bad : ∀ fu k e σ, 0 < fu → cE q σ0 e σ → cOut q σ0 (.inr e) (f_X4_readTerm_L8 F rec (fun y17 s16 => if y17 = 0 then some (0, s16) else if y17 = 1 then some (1, s16) else none) (nI o) fu 0 k σ) := by
    intro fu k e σ hfu hE
    obtain ⟨fu, rfl⟩ : ∃ f', fu = f' + 1 := ⟨fu - 1, by omega⟩
    refine ⟨σ, ?_, hE⟩
    rw [f_X4_readTerm_L8]
    split
    · rw [if_pos rfl, if_pos rfl]
    · rw [if_pos rfl]
  have key : ∀ k fu st σ, k ≤ 200 → k + 1 < fu → st.2.1 ≤ st.1 → st.1 ≤ n → cS q σ0 st σ → cOut q σ0 (chL (txc σ0 n) isTi p k st) (f_X4_readTerm_L8 F rec (fun y17 s16 => if y17 = 0 then some (0, s16) else if y17 = 1 then some (1, s16) else none) (nI o) fu 1 (nI (200 - k)) σ) := by
    intro k
    induction k with
    | zero =>
      intro fu st σ hk hfu h1 h2 hS
      obtain ⟨fu, rfl⟩ : ∃ f', fu = f' + 1 := ⟨fu - 1, by omega⟩
      rw [f_X4_readTerm_L8, if_neg (by decide), chL]
      exact ⟨σ, by rw [if_neg b1n, if_pos rfl], hS⟩
    | succ k ih =>
      intro fu st σ hk hfu h1 h2 hS
      obtain ⟨fu, rfl⟩ : ∃ f', fu = f' + 1 := ⟨fu - 1, by omega⟩
      rw [f_X4_readTerm_L8, if_pos (show nI (200 - (k + 1)) < (200 : Int32) by rw [show (200 : Int32) = nI 200 from rfl, nI_ltI (by omega) (by omega)]; omega), if_neg b1n, c_peek h0 hS h2, bnd_some, e_isTimes, bnd_some, b01, chL]
      by_cases ho : isTi (txc σ0 n st.1) = true
      · have hlt : st.1 < n := tx_lt txc_out (ti_op _ ho).2
        rw [if_pos ho, if_pos ho, c_peek h0 hS h2, bnd_some, lt_eq]
        have h1' : (adv st).2.1 ≤ (adv st).1 := by show st.2.1 ≤ st.1 + 1; omega
        have w := hp (adv st) _ h1' hlt (c_adv h0 hS)
        cases hr : p (adv st) with
        | inl s =>
          rw [hr] at w
          obtain ⟨σ', w1, w2⟩ := w
          obtain ⟨g1, g2, g3, -⟩ := hg (adv st) s h1' hlt hr
          have g1' : s.2.1 + (st.1 + 1 - st.2.1) ≤ s.1 := g1
          obtain ⟨z1, z2⟩ := c_zLw h0 w2
          obtain ⟨σ'', e1, e2⟩ := c_add (s := txc σ0 n st.1) (v := 0) h0 w2 (by omega)
          rw [w1, bnd_some, if_pos z1, z2, show (0 : Int32) = nI 0 from rfl, e1, bnd_some, lt_eq, nI_1, show 200 - (k + 1) + 1 = 200 - k by omega]
          exact ih fu (emi s (txc σ0 n st.1) 0) σ'' (by omega) (by omega) (by show s.2.1 + 1 ≤ s.1; omega) g2 e2
        | inr e =>
          rw [hr] at w
          obtain ⟨σ', w1, w2⟩ := w
          obtain ⟨z1, z2⟩ := w2.f h0
          obtain ⟨r, σ'', e1, e2⟩ := cE_add (s := txc σ0 n st.1) (v := 0) h0 w2
          rw [w1, bnd_some, if_pos z1, z2, e1, bnd_some, lt_eq]
          exact bad fu _ e σ'' (by omega) e2
      · rw [if_neg ho, if_neg ho, if_neg b1n, if_pos rfl]
        exact ⟨σ, rfl, hS⟩
  intro st σ h1 h2 hS
  unfold b_X4_readTerm chn
  have w := hp st σ h1 h2 hS
  cases hr : p st with
  | inl s =>
    rw [hr] at w
    obtain ⟨σ', w1, w2⟩ := w
    obtain ⟨g1, g2, g3, -⟩ := hg st s h1 h2 hr
    rw [w1, bnd_some]
    exact key 200 F s σ' (by omega) (by omega) (by omega) g2 w2
  | inr e =>
    rw [hr] at w
    obtain ⟨σ', w1, w2⟩ := w
    rw [w1, bnd_some]
    exact bad F 0 e σ' (by omega) w2
theorem sim_cond {F q n o K : Nat} {σ0 : zM} {p : zLs → zPR} {rec : Nat → Int32 → zM → Option (Int32 × zM)} (hF : 210 ≤ F) (h0 : CR0 q n σ0) (hp : sim q n σ0 p (rec 1 (nI o))) (hg : Gd n p true K) : sim q n σ0 (jch (txc σ0 n) 124 p) (b_X4_readCondition F rec (nI o)) := by
  have hn := h0.2.1
  have bad : ∀ fu k e σ, 0 < fu → cE q σ0 e σ → cOut q σ0 (.inr e) (f_X4_readCondition_L8 F rec (fun y15 s14 => if y15 = 0 then some (0, s14) else if y15 = 1 then some (1, s14) else none) (nI o) fu 0 k σ) := by
    intro fu k e σ hfu hE
    obtain ⟨fu, rfl⟩ : ∃ f', fu = f' + 1 := ⟨fu - 1, by omega⟩
    refine ⟨σ, ?_, hE⟩
    rw [f_X4_readCondition_L8]
    split
    · rw [if_pos rfl, if_pos rfl]
    · rw [if_pos rfl]
  have key : ∀ k fu st σ, k ≤ 200 → k + 1 < fu → st.2.1 ≤ st.1 → st.1 ≤ n → cS q σ0 st σ → cOut q σ0 (jL (txc σ0 n) 124 p k st) (f_X4_readCondition_L8 F rec (fun y15 s14 => if y15 = 0 then some (0, s14) else if y15 = 1 then some (1, s14) else none) (nI o) fu 1 (nI (200 - k)) σ) := by
    intro k
    induction k with
    | zero =>
      intro fu st σ hk hfu h1 h2 hS
      obtain ⟨fu, rfl⟩ : ∃ f', fu = f' + 1 := ⟨fu - 1, by omega⟩
      rw [f_X4_readCondition_L8, if_neg (by decide), jL]
      exact ⟨σ, by rw [if_neg b1n, if_pos rfl], hS⟩
    | succ k ih =>
      intro fu st σ hk hfu h1 h2 hS
      obtain ⟨fu, rfl⟩ : ∃ f', fu = f' + 1 := ⟨fu - 1, by omega⟩
      rw [f_X4_readCondition_L8, if_pos (show nI (200 - (k + 1)) < (200 : Int32) by rw [show (200 : Int32) = nI 200 from rfl, nI_ltI (by omega) (by omega)]; omega), if_neg b1n, c_peek h0 hS h2, bnd_some, jL]
      by_cases ho : txc σ0 n st.1 = 124
      · have hlt : st.1 < n := tx_lt txc_out (i := st.1) (by rw [ho]; decide)
        have ha := c_adv h0 hS
        obtain ⟨y1, y2⟩ := c_zLw h0 ha
        obtain ⟨σa, b1, b2⟩ := c_add (s := 124) (v := 0) h0 ha (by show st.2.1 < 200; omega)
        rw [if_pos ho, if_pos ho, lt_eq, if_pos y1, y2, show (0 : Int32) = nI 0 from rfl, b1, bnd_some]
        have h1' : (emi (adv st) 124 0).2.1 ≤ (emi (adv st) 124 0).1 := by show st.2.1 + 1 ≤ st.1 + 1; omega
        have w := hp (emi (adv st) 124 0) _ h1' hlt b2
        cases hr : p (emi (adv st) 124 0) with
        | inl s =>
          rw [hr] at w
          obtain ⟨σ', w1, w2⟩ := w
          obtain ⟨g1, g2, g3, -, g5⟩ := hg (emi (adv st) 124 0) s h1' hlt hr
          have g1' : s.2.1 + (st.1 + 1 - (st.2.1 + 1)) ≤ s.1 := g1
          have g5' : st.2.1 + 1 < s.2.1 := g5.1
          obtain ⟨z1, z2⟩ := c_zLw h0 w2
          obtain ⟨σ'', e1, e2⟩ := c_land (a := st.2.1) h0 w2 (by omega) (by omega)
          rw [w1, bnd_some, if_pos z1, z2]
          show cOut q σ0 _ (bnd (f_X3_land q (nI st.2.1) σ') _)
          rw [e1, bnd_some, lt_eq, nI_1, show 200 - (k + 1) + 1 = 200 - k by omega]
          exact ih fu (lnd s st.2.1) σ'' (by omega) (by omega) (by show s.2.1 ≤ s.1; omega) g2 e2
        | inr e =>
          rw [hr] at w
          obtain ⟨σ', w1, w2⟩ := w
          obtain ⟨z1, z2⟩ := w2.f h0
          obtain ⟨σ'', e1, e2⟩ := cE_land (v := nI (adv st).2.1) h0 w2
          rw [w1, bnd_some, if_pos z1, z2, e1, bnd_some, lt_eq]
          exact bad fu _ e σ'' (by omega) e2
      · rw [if_neg ho, if_neg ho, if_neg b1n, if_pos rfl]
        exact ⟨σ, rfl, hS⟩
  intro st σ h1 h2 hS
  unfold b_X4_readCondition jch
  have w := hp st σ h1 h2 hS
  cases hr : p st with
  | inl s =>
    rw [hr] at w
    obtain ⟨σ', w1, w2⟩ := w
    obtain ⟨g1, g2, g3, -⟩ := hg st s h1 h2 hr
    rw [w1, bnd_some]
    exact key 200 F s σ' (by omega) (by omega) (by omega) g2 w2
  | inr e =>
    rw [hr] at w
    obtain ⟨σ', w1, w2⟩ := w
    rw [w1, bnd_some]
    exact bad F 0 e σ' (by omega) w2
theorem sim_part {F q n o K : Nat} {σ0 : zM} {p : zLs → zPR} {rec : Nat → Int32 → zM → Option (Int32 × zM)} (hF : 210 ≤ F) (h0 : CR0 q n σ0) (hp : sim q n σ0 p (rec 2 (nI o))) (hg : Gd n p true K) : sim q n σ0 (jch (txc σ0 n) 38 p) (b_X4_readPart F rec (nI o)) := by
  have hn := h0.2.1
  have bad : ∀ fu k e σ, 0 < fu → cE q σ0 e σ → cOut q σ0 (.inr e) (f_X4_readPart_L8 F rec (fun y15 s14 => if y15 = 0 then some (0, s14) else if y15 = 1 then some (1, s14) else none) (nI o) fu 0 k σ) := by
    intro fu k e σ hfu hE
    obtain ⟨fu, rfl⟩ : ∃ f', fu = f' + 1 := ⟨fu - 1, by omega⟩
    refine ⟨σ, ?_, hE⟩
    rw [f_X4_readPart_L8]
    split
    · rw [if_pos rfl, if_pos rfl]
    · rw [if_pos rfl]
  have key : ∀ k fu st σ, k ≤ 200 → k + 1 < fu → st.2.1 ≤ st.1 → st.1 ≤ n → cS q σ0 st σ → cOut q σ0 (jL (txc σ0 n) 38 p k st) (f_X4_readPart_L8 F rec (fun y15 s14 => if y15 = 0 then some (0, s14) else if y15 = 1 then some (1, s14) else none) (nI o) fu 1 (nI (200 - k)) σ) := by
    intro k
    induction k with
    | zero =>
      intro fu st σ hk hfu h1 h2 hS
      obtain ⟨fu, rfl⟩ : ∃ f', fu = f' + 1 := ⟨fu - 1, by omega⟩
      rw [f_X4_readPart_L8, if_neg (by decide), jL]
      exact ⟨σ, by rw [if_neg b1n, if_pos rfl], hS⟩
    | succ k ih =>
      intro fu st σ hk hfu h1 h2 hS
      obtain ⟨fu, rfl⟩ : ∃ f', fu = f' + 1 := ⟨fu - 1, by omega⟩
      rw [f_X4_readPart_L8, if_pos (show nI (200 - (k + 1)) < (200 : Int32) by rw [show (200 : Int32) = nI 200 from rfl, nI_ltI (by omega) (by omega)]; omega), if_neg b1n, c_peek h0 hS h2, bnd_some, jL]
      by_cases ho : txc σ0 n st.1 = 38
      · have hlt : st.1 < n := tx_lt txc_out (i := st.1) (by rw [ho]; decide)
        have ha := c_adv h0 hS
        obtain ⟨y1, y2⟩ := c_zLw h0 ha
        obtain ⟨σa, b1, b2⟩ := c_add (s := 38) (v := 0) h0 ha (by show st.2.1 < 200; omega)
        rw [if_pos ho, if_pos ho, lt_eq, if_pos y1, y2, show (0 : Int32) = nI 0 from rfl, b1, bnd_some]
        have h1' : (emi (adv st) 38 0).2.1 ≤ (emi (adv st) 38 0).1 := by show st.2.1 + 1 ≤ st.1 + 1; omega
        have w := hp (emi (adv st) 38 0) _ h1' hlt b2
        cases hr : p (emi (adv st) 38 0) with
        | inl s =>
          rw [hr] at w
          obtain ⟨σ', w1, w2⟩ := w
          obtain ⟨g1, g2, g3, -, g5⟩ := hg (emi (adv st) 38 0) s h1' hlt hr
          have g1' : s.2.1 + (st.1 + 1 - (st.2.1 + 1)) ≤ s.1 := g1
          have g5' : st.2.1 + 1 < s.2.1 := g5.1
          obtain ⟨z1, z2⟩ := c_zLw h0 w2
          obtain ⟨σ'', e1, e2⟩ := c_land (a := st.2.1) h0 w2 (by omega) (by omega)
          rw [w1, bnd_some, if_pos z1, z2]
          show cOut q σ0 _ (bnd (f_X3_land q (nI st.2.1) σ') _)
          rw [e1, bnd_some, lt_eq, nI_1, show 200 - (k + 1) + 1 = 200 - k by omega]
          exact ih fu (lnd s st.2.1) σ'' (by omega) (by omega) (by show s.2.1 ≤ s.1; omega) g2 e2
        | inr e =>
          rw [hr] at w
          obtain ⟨σ', w1, w2⟩ := w
          obtain ⟨z1, z2⟩ := w2.f h0
          obtain ⟨σ'', e1, e2⟩ := cE_land (v := nI (adv st).2.1) h0 w2
          rw [w1, bnd_some, if_pos z1, z2, e1, bnd_some, lt_eq]
          exact bad fu _ e σ'' (by omega) e2
      · rw [if_neg ho, if_neg ho, if_neg b1n, if_pos rfl]
        exact ⟨σ, rfl, hS⟩
  intro st σ h1 h2 hS
  unfold b_X4_readPart jch
  have w := hp st σ h1 h2 hS
  cases hr : p st with
  | inl s =>
    rw [hr] at w
    obtain ⟨σ', w1, w2⟩ := w
    obtain ⟨g1, g2, g3, -⟩ := hg st s h1 h2 hr
    rw [w1, bnd_some]
    exact key 200 F s σ' (by omega) (by omega) (by omega) g2 w2
  | inr e =>
    rw [hr] at w
    obtain ⟨σ', w1, w2⟩ := w
    rw [w1, bnd_some]
    exact bad F 0 e σ' (by omega) w2
/-- an answer that is 0 or 1 goes through as it is -/
theorem cO_wrap {q : Nat} {σ0 : zM} {x : zPR} {v : Option (Int32 × zM)} (h : cOut q σ0 x v) : cOut q σ0 x (bnd v (fun r s => if r = 0 then some (0, s) else if r = 1 then some (1, s) else none)) := by
  cases x with
  | inl st => obtain ⟨σ', w1, w2⟩ := h; exact ⟨σ', by rw [w1, bnd_some, if_neg b1n, if_pos rfl], w2⟩
  | inr e => obtain ⟨σ', w1, w2⟩ := h; exact ⟨σ', by rw [w1, bnd_some, if_pos rfl], w2⟩
theorem sim_piece {q n o : Nat} {σ0 : zM} {r : Nat → zLs → zPR} {rec : Nat → Int32 → zM → Option (Int32 × zM)} (h0 : CR0 q n σ0) (ho : o ≤ 6) (hs : sim q n σ0 (pS (txc σ0 n) (7 - o) o) (rec 3 (nI o))) (hc : o < 6 → sim q n σ0 (pCn (txc σ0 n) (r (o + 1))) (rec 0 (nI (o + 1)))) (hp : o < 6 → sim q n σ0 (r (o + 1)) (rec 2 (nI (o + 1)))) (hg : o < 6 → Gd n (r (o + 1)) true 16) : sim q n σ0 (pPi (txc σ0 n) r o) (b_X4_readPiece rec (nI o)) := by
  have hn := h0.2.1
  have htx : ∀ i, n ≤ i → txc σ0 n i = -1 := txc_out
  intro st σ h1 h2 hS
  unfold b_X4_readPiece pPi
  rw [c_peek h0 hS h2, bnd_some]
  have h1' : (adv st).2.1 ≤ (adv st).1 := by show st.2.1 ≤ st.1 + 1; omega
  have open_ : (txc σ0 n st.1 = 33 ∨ txc σ0 n st.1 = 40) → cOut q σ0 (if o < 6 then (if txc σ0 n st.1 = 40 then bndP (pCn (txc σ0 n) (r (o + 1)) (adv st)) (fun st1 => if txc σ0 n st1.1 = 41 then .inl (adv st1) else flP 1 st1.1) else bndP (r (o + 1) (adv st)) (fun st1 => .inl (emi st1 33 0))) else flP 5 st.1) (b_X4_readInner rec (txc σ0 n st.1) (nI o) σ) := by
    intro hb
    have hlt : st.1 < n := tx_lt txc_out (i := st.1) (by rcases hb with w | w <;> rw [w] <;> decide)
    unfold b_X4_readInner
    by_cases ho6 : o < 6
    · rw [if_pos (show nI o < (6 : Int32) by rw [show (6 : Int32) = nI 6 from rfl, nI_ltI (by omega) (by omega)]; exact ho6), if_pos ho6, lt_eq, nI_1]
      by_cases h40 : txc σ0 n st.1 = 40
      · rw [if_pos h40, if_pos h40]
        have w := hc ho6 (adv st) _ h1' hlt (c_adv h0 hS)
        cases hr : pCn (txc σ0 n) (r (o + 1)) (adv st) with
        | inl s =>
          rw [hr] at w
          obtain ⟨σ', w1, w2⟩ := w
          obtain ⟨g1, g2, g3, -⟩ := gd_pCn htx hn (hg ho6) (adv st) s h1' hlt hr
          rw [w1, bnd_some, if_neg b1n]
          have a := acc_c (c := 41) h0 w2 (by omega) g2
          show cOut q σ0 (if txc σ0 n s.1 = 41 then _ else _) _
          by_cases hcc : txc σ0 n s.1 = 41
          · rw [if_pos hcc] at a ⊢
            obtain ⟨σ'', a1, a2⟩ := a
            exact ⟨σ'', by rw [a1, bnd_some, if_neg b1n], a2⟩
          · rw [if_neg hcc] at a ⊢
            obtain ⟨σ'', a1, a2⟩ := a
            exact ⟨σ'', by rw [a1, bnd_some, if_pos rfl], a2⟩
        | inr e =>
          rw [hr] at w
          obtain ⟨σ', w1, w2⟩ := w
          exact ⟨σ', by rw [w1, bnd_some, if_pos rfl], w2⟩
      · rw [if_neg h40, if_neg h40]
        have w := hp ho6 (adv st) _ h1' hlt (c_adv h0 hS)
        cases hr : r (o + 1) (adv st) with
        | inl s =>
          rw [hr] at w
          obtain ⟨σ', w1, w2⟩ := w
          obtain ⟨g1, g2, g3, -⟩ := hg ho6 (adv st) s h1' hlt hr
          have g1' : s.2.1 + (st.1 + 1 - st.2.1) ≤ s.1 := g1
          obtain ⟨z1, z2⟩ := c_zLw h0 w2
          obtain ⟨σ'', e1, e2⟩ := c_add (s := 33) (v := 0) h0 w2 (by omega)
          refine ⟨σ'', ?_, e2⟩
          rw [w1, bnd_some, if_pos z1, z2, show (0 : Int32) = nI 0 from rfl, e1, bnd_some]; rfl
        | inr e =>
          rw [hr] at w
          obtain ⟨σ', w1, w2⟩ := w
          obtain ⟨z1, z2⟩ := w2.f h0
          obtain ⟨x, σ'', e1, e2⟩ := cE_add (s := 33) (v := 0) h0 w2
          refine ⟨σ'', ?_, e2⟩
          rw [w1, bnd_some, if_pos z1, z2, e1, bnd_some, if_pos rfl]
    · rw [if_neg (show ¬ nI o < (6 : Int32) by rw [show (6 : Int32) = nI 6 from rfl, nI_ltI (by omega) (by omega)]; exact ho6), if_neg ho6]
      obtain ⟨σ', e1, e2⟩ := c_fail (k := 5) h0 hS h1 h2
      refine ⟨σ', ?_, e2⟩
      rw [show (5 : Int32) = nI 5 from rfl, e1, bnd_some]; rfl
  have cmp_ : ∀ s σ', s.2.1 ≤ s.1 → s.1 ≤ n → cS q σ0 s σ' → (txc σ0 n s.1 = 60 ∨ txc σ0 n s.1 = 62 ∨ txc σ0 n s.1 = 61) → cOut q σ0 (bndP (pS (txc σ0 n) (7 - o) o (adv s)) (fun st2 => .inl (emi st2 (txc σ0 n s.1) 0))) (f_X4_readPiece_j63 rec (nI o) (txc σ0 n s.1) σ') := by
    intro s σ' g1 g2 hS' hcc
    have hlt : s.1 < n := tx_lt txc_out (i := s.1) (by rcases hcc with w | w | w <;> rw [w] <;> decide)
    have g1' : (adv s).2.1 ≤ (adv s).1 := by show s.2.1 ≤ s.1 + 1; omega
    unfold f_X4_readPiece_j63
    rw [lt_eq]
    have w := hs (adv s) _ g1' hlt (c_adv h0 hS')
    cases hr : pS (txc σ0 n) (7 - o) o (adv s) with
    | inl u =>
      rw [hr] at w
      obtain ⟨σ'', w1, w2⟩ := w
      obtain ⟨k1, k2, k3, -⟩ := gd_pS htx (7 - o) o (by omega) (adv s) u g1' hlt hr
      have k1' : u.2.1 + (s.1 + 1 - s.2.1) ≤ u.1 := k1
      obtain ⟨z1, z2⟩ := c_zLw h0 w2
      obtain ⟨σ3, e1, e2⟩ := c_add (s := txc σ0 n s.1) (v := 0) h0 w2 (by omega)
      refine ⟨σ3, ?_, e2⟩
      rw [w1, bnd_some, if_pos z1, z2, show (0 : Int32) = nI 0 from rfl, e1, bnd_some]; rfl
    | inr e =>
      rw [hr] at w
      obtain ⟨σ'', w1, w2⟩ := w
      obtain ⟨z1, z2⟩ := w2.f h0
      obtain ⟨x, σ3, e1, e2⟩ := cE_add (s := txc σ0 n s.1) (v := 0) h0 w2
      refine ⟨σ3, ?_, e2⟩
      rw [w1, bnd_some, if_pos z1, z2, e1, bnd_some, if_pos rfl]
  by_cases h33 : txc σ0 n st.1 = 33
  · have := cO_wrap (open_ (Or.inl h33))
    rw [if_pos h33, if_pos (Or.inl h33)]; exact this
  · by_cases h40 : txc σ0 n st.1 = 40
    · have := cO_wrap (open_ (Or.inr h40))
      rw [if_neg h33, if_pos (α := Option (Int32 × zM)) h40, if_pos (Or.inr h40)]; exact this
    · rw [if_neg h33, if_neg (α := Option (Int32 × zM)) h40, if_neg (by rintro (w | w); exact h33 w; exact h40 w)]
      have w := hs st σ h1 h2 hS
      cases hr : pS (txc σ0 n) (7 - o) o st with
      | inl s =>
        rw [hr] at w
        obtain ⟨σ', w1, w2⟩ := w
        obtain ⟨g1, g2, g3, -⟩ := gd_pS htx (7 - o) o (by omega) st s h1 h2 hr
        rw [w1, bnd_some, if_neg b1n, c_peek h0 w2 g2, bnd_some]
        have cm := cmp_ s σ' (by omega) g2 w2
        show cOut q σ0 (if txc σ0 n s.1 = 60 ∨ txc σ0 n s.1 = 62 ∨ txc σ0 n s.1 = 61 then _ else _) _
        by_cases c1 : txc σ0 n s.1 = 60
        · rw [if_pos c1, if_pos (Or.inl c1)]; exact cm (Or.inl c1)
        · by_cases c2 : txc σ0 n s.1 = 62
          · rw [if_neg c1, if_pos c2, if_pos (Or.inr (Or.inl c2))]; exact cm (Or.inr (Or.inl c2))
          · by_cases c3 : txc σ0 n s.1 = 61
            · rw [if_neg c1, if_neg c2, if_pos c3, if_pos (Or.inr (Or.inr c3))]; exact cm (Or.inr (Or.inr c3))
            · rw [if_neg c1, if_neg c2, if_neg c3, if_neg (by rintro (w | w | w); exact c1 w; exact c2 w; exact c3 w)]
              obtain ⟨σ'', e1, e2⟩ := c_fail (k := 1) h0 w2 (by omega) g2
              refine ⟨σ'', ?_, e2⟩
              rw [show (1 : Int32) = nI 1 from rfl, e1, bnd_some]; rfl
      | inr e =>
        rw [hr] at w
        obtain ⟨σ', w1, w2⟩ := w
        exact ⟨σ', by rw [w1, bnd_some, if_pos rfl], w2⟩
/-! the whole of it, by depth -/
theorem sim_pS {F q n : Nat} {σ0 : zM} (hF : 210 ≤ F) (h0 : CR0 q n σ0) : ∀ d o D, d + o = 7 → o ≤ 6 → 3 * d ≤ D → sim q n σ0 (pS (txc σ0 n) d o) (f_G0 F D 3 (nI o)) := by
  intro d
  induction d with
  | zero =>
    intro o D ho ho6 hD
    omega
  | succ d ih =>
    intro o D ho ho6 hD
    obtain ⟨D, rfl⟩ : ∃ D', D = D' + 1 + 1 + 1 := ⟨D - 3, by omega⟩
    have htx : ∀ i, n ≤ i → txc σ0 n i = -1 := txc_out
    have gf : Gd n (pFac (txc σ0 n) (pS (txc σ0 n) d) o) false (2 * d + 1) := gd_fac htx (fun ho7 => gd_pS htx d (o + 1) (by omega)) (by omega)
    have s5 : sim q n σ0 (pFac (txc σ0 n) (pS (txc σ0 n) d) o) (f_G0 F (D + 1) 5 (nI o)) := sim_fac (K := 2 * d + 1) (by omega) h0 (by omega) (fun ho7 => ih (o + 1) D (by omega) (by omega) (by omega)) (fun ho7 => gd_pS htx d (o + 1) (by omega))
    have s4 : sim q n σ0 (chn (txc σ0 n) isTi (pFac (txc σ0 n) (pS (txc σ0 n) d) o)) (f_G0 F (D + 1 + 1) 4 (nI o)) := sim_term hF h0 s5 gf
    exact sim_sum hF h0 s4 (gd_chn htx ti_op gf (Nat.le_refl _))
theorem sim_pP {F q n : Nat} {σ0 : zM} (hF : 210 ≤ F) (h0 : CR0 q n σ0) : ∀ d o D, d + o = 7 → o ≤ 6 → 3 * d + 1 ≤ D → sim q n σ0 (pP (txc σ0 n) d o) (f_G0 F D 2 (nI o)) := by
  intro d
  induction d with
  | zero =>
    intro o D ho ho6 hD
    omega
  | succ d ih =>
    intro o D ho ho6 hD
    obtain ⟨D, rfl⟩ : ∃ D', D = D' + 1 + 1 + 1 := ⟨D - 3, by omega⟩
    have htx : ∀ i, n ≤ i → txc σ0 n i = -1 := txc_out
    have hn := h0.2.1
    refine sim_piece (r := pP (txc σ0 n) d) h0 (by omega) ?_ (fun ho7 => ?_) (fun ho7 => ih (o + 1) (D + 1 + 1) (by omega) (by omega) (by omega)) (fun ho7 => gd_pP htx hn d (o + 1) (by omega))
    · rw [show 7 - o = d + 1 by omega]
      exact sim_pS hF h0 (d + 1) o (D + 1 + 1) (by omega) ho6 (by omega)
    · have s2 := ih (o + 1) D (by omega) (by omega) (by omega)
      have gp := gd_pP htx hn d (o + 1) (by omega)
      exact sim_cond hF h0 (sim_part hF h0 s2 gp) (gd_jch htx hn (Or.inl rfl) gp)
