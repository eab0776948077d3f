/-! ===== soonest, rumours ===== -/
theorem e_isStart (v : Int32) (s : zM) : f_X5_isStart v s = some (if gd 100 v then 1 else 0, s) := by
  unfold f_X5_isStart
  simp only [i_lt]
  have : (99 : Int32).toInt = 99 := rfl
  have : (0 : Int32).toInt = 0 := rfl
  repeat' split
  all_goals first | rfl | (exfalso; omega)
theorem e_starts {n : Nat} {α σ : zM} (hG : IG n α) (hB : BG n α σ) (v w : Int32) : f_X12_starts v w σ = some (if (gd n v ∧ ¬ zg α 6 v.toNatClampNeg = -1) ∧ gd 100 w then 1 else 0, σ) := by
  have hn := hG.1
  have e9 : (99 : Int32).toInt = 99 := rfl
  have e0 : (0 : Int32).toInt = 0 := rfl
  unfold f_X12_starts
  rw [e_isGuest hn hB.1, bnd_some, b01]
  by_cases h1 : gd n v
  · obtain ⟨g, hg, rfl, cg⟩ := nI_of' h1 (by omega)
    rw [if_pos h1, e_sitsM hG hB hg, bnd_some, b10, cg, e_in, bnd_some, b01]
    by_cases h2 : zg α 6 g = -1
    · rw [if_pos h2, if_neg (fun q => q.1.2 h2)]
    · rw [if_neg h2]
      by_cases h3 : gd 100 w
      · rw [if_pos (by omega), if_pos ⟨⟨h1, h2⟩, h3⟩]
      · rw [if_neg (by omega), if_neg (fun q => h3 q.2)]
  · rw [if_neg h1, if_neg (fun q => h1 q.1.1)]
theorem st_bd {can : Nat → Nat → Nat → Bool} {n f mi : Nat} (hm : mi < 100) : ∀ g x, (itM can n (999 - mi) mi (stR f mi)).1 g = some x → x ≤ 1000 := by
  intro g x h
  have := it_bd (999 - mi) mi (stR f mi) (fun g x h => by
    unfold stR at h
    dsimp only at h
    split at h
    · cases h; omega
    · cases h) g x h
  omega
theorem st_own {can : Nat → Nat → Nat → Bool} {n f mi : Nat} : (itM can n (999 - mi) mi (stR f mi)).1 f = some mi ∧ (itM can n (999 - mi) mi (stR f mi)).2 f = -1 := it_gr (999 - mi) mi (stR f mi) (by unfold stR; simp)
theorem st_out {α : zM} {p c n r f mi g : Nat} (hf : f < n) (hg : n ≤ g) : (itM (canp α p c n r) n (999 - mi) mi (stR f mi)).1 g = none := by
  rw [it_out canp_g hg]
  unfold stR
  exact if_neg (by omega)
theorem op_soonest {F : Nat} (hF : 1100 ≤ F) (v1 v2 v3 : Int32) : OP (f_X11_soonest F v1 v2 v3) (f_X12_soonest F v1 v2 v3) := by
  intro a σ ha ⟨n, t, r, p, kc, x, ko, pl, ql, cl, ⟨hG, hH, hT, hN, hK, hD, hX, hW⟩, ⟨bG, bH, bL, bT, bN, bK, bP, bD, bX, bW⟩, hP⟩
  have hn := hG.1
  have h3 := hG.2.1
  by_cases hc : ((gd n v1 ∧ ¬ zg σ 6 v1.toNatClampNeg = -1) ∧ gd 100 v3) ∧ gd n v2 ∧ ¬ zg σ 6 v2.toNatClampNeg = -1
  · obtain ⟨⟨⟨c1, c2⟩, c3⟩, c4, c5⟩ := hc
    obtain ⟨f, hf, rfl, cf⟩ := nI_of' c1 (by omega)
    obtain ⟨b, hb, rfl, cb⟩ := nI_of' c4 (by omega)
    obtain ⟨mi, hm, rfl, -⟩ := nI_of' c3 (by omega)
    rw [cf] at c2
    rw [cb] at c5
    have z : zin (nI b) 16 = true := zin_n (by omega) (by omega)
    obtain ⟨σ1, a1, a2, a3⟩ := e_spread (F := F) (c := cl) (mi := mi) (by omega) hG hN hW hf hm
    obtain ⟨σ2, d1, d2, d3⟩ := e_passing (F := F) (σ := σ1) (mi := mi) hF hG hN hW (bG.si a2 rfl) (bL.si a2 rfl) (bW.si a2 rfl) (bN.si a2 rfl) hf hm
    have hbd := st_bd (can := canp σ pl cl n r) (n := n) (f := f) hm b
    generalize itM (canp σ pl cl n r) n (999 - mi) mi (stR f mi) = S at a3 d3 hbd
    have hf2 : Fx ([13, 23, 32, 40, 41, 86, 87, 94, 95], []) σ σ2 := (a2.sub rfl).tr (d2.sub rfl)
    have g1 : gd n (nI f) := c1
    have g2 : gd n (nI b) := c4
    refine ⟨if S.1 b = none then -2 else cA (S.1 b), σ1, σ2, ?_, ?_, a, by omega, RR.scr ⟨n, t, r, p, kc, x, ko, pl, ql, cl, ⟨hG, hH, hT, hN, hK, hD, hX, hW⟩, ⟨bG, bH, bL, bT, bN, bK, bP, bD, bX, bW⟩, hP⟩ (hf2.sub rfl)⟩
    · unfold f_X11_soonest
      rw [e_isStart, if_pos c3, bnd_some, if_neg b1n, e_sits_n hG hf, if_neg c2, bnd_some, if_neg b1n, e_sits_n hG hb, if_neg c5, bnd_some, if_neg b1n, a1, bnd_some]
      unfold f_X5_minuteOf
      rw [if_neg (nI_pos (by omega)), if_pos (show nI b < (16 : Int32) by rw [show (16 : Int32) = nI 16 from rfl, nI_ltI (by omega) (by omega)]; omega), if_pos z, bnd_some, nI_clamp (by omega), (a3 b (by omega)).1]
      by_cases hs : S.1 b = none
      · rw [if_pos ((cA_no hbd).mpr hs), if_pos hs]
      · rw [if_neg (fun q => hs ((cA_no hbd).mp q)), if_neg hs]
    · unfold f_X12_soonest
      rw [e_starts hG (bG.si a2 rfl), if_pos ⟨⟨c1, by rw [cf]; exact c2⟩, c3⟩, bnd_some, if_neg b1n, e_isGuest hn (bG.si a2 rfl).1, if_pos c4, bnd_some, if_neg b1n, e_sitsM hG (bG.si a2 rfl) hb, if_neg c5, bnd_some, if_neg b1n, d1, bnd_some, if_pos z, if_pos z, nI_clamp (by omega), (d3 b (by omega)).1]
      by_cases hs : S.1 b = none
      · rw [if_pos ((cM_eq hbd).mpr hs), if_pos hs]
      · rw [if_neg (fun q => hs ((cM_eq hbd).mp q)), if_neg hs]
        cases hq : S.1 b with
        | none => exact absurd hq hs
        | some x => rfl
  · refine OP.no ⟨n, t, r, p, kc, x, ko, pl, ql, cl, ⟨hG, hH, hT, hN, hK, hD, hX, hW⟩, ⟨bG, bH, bL, bT, bN, bK, bP, bD, bX, bW⟩, hP⟩ (-1) ?_ ?_
    · unfold f_X11_soonest
      rw [e_isStart, bnd_some, b01, e_sits hn h3, bnd_some, b01, e_sits hn h3, bnd_some, b01]
      by_cases c3 : gd 100 v3
      · rw [if_pos c3]
        by_cases c1 : gd n v1 ∧ ¬ zg σ 6 v1.toNatClampNeg = -1
        · rw [if_pos c1, if_neg (fun q => hc ⟨⟨c1, c3⟩, q⟩)]
        · rw [if_neg c1]
      · rw [if_neg c3]
    · unfold f_X12_soonest
      rw [e_starts hG bG, bnd_some, b01, e_isGuest hn bG.1, bnd_some, b01]
      by_cases c1 : (gd n v1 ∧ ¬ zg σ 6 v1.toNatClampNeg = -1) ∧ gd 100 v3
      · rw [if_pos c1]
        by_cases c2 : gd n v2
        · obtain ⟨b, hb, rfl, cb⟩ := nI_of' c2 (by omega)
          rw [if_pos c2, e_sitsM hG bG hb, if_pos ?_, bnd_some, if_pos rfl]
          by_cases h6 : zg σ 6 b = -1
          · exact h6
          · exact absurd ⟨c1, c2, by rw [cb]; exact h6⟩ hc
        · rw [if_neg c2]
      · rw [if_neg c1]
def cnR (S : zR) : Nat → Nat
  | 0 => 0
  | k + 1 => if S.1 k = none then cnR S k else cnR S k + 1
def mxR (S : zR) : Nat → Option Nat
  | 0 => none
  | k + 1 => match S.1 k with
    | none => mxR S k
    | some x => some (if (mxR S k).getD 0 < x then x else (mxR S k).getD 0)
theorem cnR_le (S : zR) : ∀ k, cnR S k ≤ k := by
  intro k
  induction k with
  | zero => exact Nat.le_refl 0
  | succ k ih => rw [cnR]; split <;> omega
theorem cnR_out {S : zR} {n : Nat} (h : ∀ g, n ≤ g → S.1 g = none) : ∀ m, cnR S (n + m) = cnR S n ∧ mxR S (n + m) = mxR S n := by
  intro m
  induction m with
  | zero => exact ⟨rfl, rfl⟩
  | succ m ih =>
    have h0 := h (n + m) (by omega)
    rw [← Nat.add_assoc, cnR, mxR, if_pos h0, h0]
    exact ih
theorem mxR_bd {S : zR} (h : ∀ g x, S.1 g = some x → x ≤ 1000) : ∀ k, (mxR S k).getD 0 ≤ 1000 := by
  intro k
  induction k with
  | zero => exact Nat.zero_le _
  | succ k ih =>
    rw [mxR]
    cases hq : S.1 k with
    | none => exact ih
    | some x =>
      have := h k x hq
      show (if (mxR S k).getD 0 < x then x else (mxR S k).getD 0) ≤ 1000
      split <;> omega
theorem mxR_some {S : zR} {f : Nat} (h : ¬ S.1 f = none) : ∀ k, f < k → mxR S k = some ((mxR S k).getD 0) := by
  intro k
  induction k with
  | zero => intro hf; omega
  | succ k ih =>
    intro hf
    rw [mxR]
    cases hq : S.1 k with
    | none =>
      by_cases hfk : f = k
      · subst hfk; exact absurd hq h
      · exact ih (by omega)
    | some x => rfl
theorem e_howMany {F : Nat} {S : zR} {τ : zM} (hF : 20 ≤ F) (hS : aR S τ) (hb : ∀ g x, S.1 g = some x → x ≤ 1000) : f_X5_howMany F τ = some (nI (cnR S 16), τ) := by
  have key : ∀ (j fu k : Nat), k + j = 16 → j < fu → f_X5_howMany_L4 F (fun y5 s4 => some (y5, s4)) fu (nI (cnR S k)) (nI k) τ = some (nI (cnR S 16), τ) := by
    intro j
    induction j with
    | zero =>
      intro fu k hk hfu
      obtain ⟨fu, rfl⟩ : ∃ f', fu = f' + 1 := ⟨fu - 1, by omega⟩
      have : k = 16 := by omega
      subst this
      rw [f_X5_howMany_L4, if_neg (by decide)]
    | succ j ih =>
      intro fu k hk hfu
      obtain ⟨fu, rfl⟩ : ∃ f', fu = f' + 1 := ⟨fu - 1, by omega⟩
      have hi := ih fu (k + 1) (by omega) (by omega)
      rw [cnR] at hi
      rw [f_X5_howMany_L4, if_pos (show nI k < (16 : Int32) by rw [show (16 : Int32) = nI 16 from rfl, nI_ltI (by omega) (by omega)]; omega), if_pos (zin_n (by omega) (by omega)), nI_clamp (by omega), (hS k (by omega)).1]
      by_cases hs : S.1 k = none
      · rw [if_pos hs] at hi
        rw [if_pos ((cA_no (hb k)).mpr hs), lt_eq, nI_1]; exact hi
      · rw [if_neg hs] at hi
        rw [if_neg (fun q => hs ((cA_no (hb k)).mp q)), lt_eq, lt_eq, nI_1, nI_1]; exact hi
  exact key 16 F 0 (by omega) (by omega)
theorem e_lastMinute {F : Nat} {S : zR} {τ : zM} (hF : 20 ≤ F) (hS : aR S τ) (hb : ∀ g x, S.1 g = some x → x ≤ 1000) : f_X5_lastMinute F τ = some (cA (mxR S 16), τ) := by
  have key : ∀ (j fu k : Nat), k + j = 16 → j < fu → f_X5_lastMinute_L4 F (fun y5 s4 => some (y5, s4)) fu (cA (mxR S k)) (nI k) τ = some (cA (mxR S 16), τ) := by
    intro j
    induction j with
    | zero =>
      intro fu k hk hfu
      obtain ⟨fu, rfl⟩ : ∃ f', fu = f' + 1 := ⟨fu - 1, by omega⟩
      have : k = 16 := by omega
      subst this
      rw [f_X5_lastMinute_L4, if_neg (by decide)]
    | succ j ih =>
      intro fu k hk hfu
      obtain ⟨fu, rfl⟩ : ∃ f', fu = f' + 1 := ⟨fu - 1, by omega⟩
      have hi := ih fu (k + 1) (by omega) (by omega)
      have hm := mxR_bd hb k
      have e : (if cA (mxR S k) < cA (S.1 k) then cA (S.1 k) else cA (mxR S k)) = cA (mxR S (k + 1)) := by
        rw [mxR]
        cases hq : S.1 k with
        | none =>
          refine if_neg ?_
          cases hr : mxR S k with
          | none => exact (by decide)
          | some y => 
            show ¬ nI y < (-1 : Int32)
            rw [hr] at hm
            rw [i_lt, nI_toInt (show y < 2 ^ 31 by have : y ≤ 1000 := hm; omega)]
            have : (-1 : Int32).toInt = -1 := rfl
            omega
        | some x =>
          have hx := hb k x hq
          cases hr : mxR S k with
          | none =>
            show (if (-1 : Int32) < nI x then nI x else -1) = nI (if 0 < x then x else 0)
            rw [if_pos (by
              rw [i_lt, nI_toInt (show x < 2 ^ 31 by omega)]
              have : (-1 : Int32).toInt = -1 := rfl
              omega)]
            congr 1
            split <;> omega
          | some y =>
            rw [hr] at hm
            have hy : y ≤ 1000 := hm
            show (if nI y < nI x then nI x else nI y) = nI (if y < x then x else y)
            by_cases h : y < x
            · rw [if_pos ((nI_ltI (by omega) (by omega)).mpr h), if_pos h]
            · rw [if_neg (fun q => h ((nI_ltI (by omega) (by omega)).mp q)), if_neg h]
      rw [f_X5_lastMinute_L4, if_pos (show nI k < (16 : Int32) by rw [show (16 : Int32) = nI 16 from rfl, nI_ltI (by omega) (by omega)]; omega), if_pos (zin_n (by omega) (by omega)), nI_clamp (by omega), (hS k (by omega)).1, lt_eq, lt_eq, nI_1, e]
      exact hi
  exact key 16 F 0 (by omega) (by omega)
theorem e_countM {F n : Nat} {v3 : Int32} {S : zR} {K : Int32 → Int32 → zM → Option (Int32 × zM)} {τ : zM} (hn : n ≤ 16) (hF : 20 ≤ F) (h69 : zg τ 69 0 = nI n) (hS : bR S τ) (hb : ∀ g x, S.1 g = some x → x ≤ 1000) : f_X12_rumour_L90 F K v3 F 0 0 0 τ = K (nI (cnR S n)) (nI ((mxR S n).getD 0)) τ := by
  have key : ∀ (j fu k : Nat), k + j = n → j < fu → f_X12_rumour_L90 F K v3 fu (nI (cnR S k)) (nI ((mxR S k).getD 0)) (nI k) τ = K (nI (cnR S n)) (nI ((mxR S n).getD 0)) τ := by
    intro j
    induction j with
    | zero =>
      intro fu k hk hfu
      obtain ⟨fu, rfl⟩ : ∃ f', fu = f' + 1 := ⟨fu - 1, by omega⟩
      have : k = n := by omega
      subst this
      rw [f_X12_rumour_L90, h69, if_neg (by rw [nI_ltI (by omega) (by omega)]; omega)]
    | succ j ih =>
      intro fu k hk hfu
      obtain ⟨fu, rfl⟩ : ∃ f', fu = f' + 1 := ⟨fu - 1, by omega⟩
      have hi := ih fu (k + 1) (by omega) (by omega)
      have hm := mxR_bd hb k
      have z : zin (nI k) 16 = true := zin_n (by omega) (by omega)
      rw [cnR, mxR] at hi
      rw [f_X12_rumour_L90, h69, if_pos (by rw [nI_ltI (by omega) (by omega)]; omega), if_pos z, nI_clamp (by omega), (hS k (by omega)).1]
      cases hq : S.1 k with
      | none =>
        rw [hq] at hi
        rw [if_pos rfl] at hi
        rw [if_pos (show cM none = (1000000000 : Int32) from rfl), lt_eq, nI_1]; exact hi
      | some x =>
        have hx := hb k x hq
        rw [hq] at hi
        rw [if_neg (by simp)] at hi
        rw [← hq, if_neg (fun q => by rw [(cM_eq (hb k)).mp q] at hq; cases hq), hq, lt_eq, if_pos z, nI_1]
        have hi' : f_X12_rumour_L90 F K v3 fu (nI (cnR S k + 1)) (nI (if (mxR S k).getD 0 < x then x else (mxR S k).getD 0)) (nI (k + 1)) τ = K (nI (cnR S n)) (nI ((mxR S n).getD 0)) τ := hi
        show (if nI ((mxR S k).getD 0) < nI x then _ else _) = _
        by_cases h : (mxR S k).getD 0 < x
        · rw [if_pos h] at hi'
          rw [if_pos ((nI_ltI (by omega) (by omega)).mpr h), if_pos z, lt_eq, lt_eq, nI_1]; exact hi'
        · rw [if_neg h] at hi'
          rw [if_neg (fun q => h ((nI_ltI (by omega) (by omega)).mp q)), lt_eq, nI_1]; exact hi'
  exact key n F 0 (by omega) (by omega)
theorem op_rumour {F : Nat} (hF : 1100 ≤ F) (v1 v2 v3 : Int32) : OP (f_X11_rumour F v1 v2 v3) (f_X12_rumour F v1 v2 v3) := by
  intro a σ ha ⟨n, t, r, p, kc, x, ko, pl, ql, cl, ⟨hG, hH, hT, hN, hK, hD, hX, hW⟩, ⟨bG, bH, bL, bT, bN, bK, bP, bD, bX, bW⟩, hP⟩
  have hn := hG.1
  have h3 := hG.2.1
  have em : (-1 : Int32).toInt = -1 := rfl
  have e20 : (20 : Int32).toInt = 20 := rfl
  have e15 : (15 : Int32).toInt = 15 := rfl
  have e0 : (0 : Int32).toInt = 0 := rfl
  -- both begin alike
  have xa : ∀ o : Option (Int32 × zM), f_X11_rumour_j27 F v1 v2 v3 1 σ = o → (v3 = -1 ∨ v3 = 20 ∨ gd n v3) → f_X11_rumour F v1 v2 v3 σ = o := by
    intro o ho h
    unfold f_X11_rumour f_X11_rumour_j22
    rw [e_knows hn h3, bnd_some, b01]
    by_cases q1 : v3 = -1
    · rw [if_pos q1]; exact ho
    · rw [if_neg q1]
      by_cases q2 : v3 = 20
      · rw [if_pos q2]; exact ho
      · rw [if_neg q2, if_pos (by rcases h with h | h | h; exact absurd h q1; exact absurd h q2; exact h)]; exact ho
  by_cases hc : ((gd n v1 ∧ ¬ zg σ 6 v1.toNatClampNeg = -1) ∧ gd 100 v2) ∧ (v3 = -1 ∨ v3 = 20 ∨ gd n v3)
  · obtain ⟨⟨⟨c1, c2⟩, c3⟩, c4⟩ := hc
    obtain ⟨f, hf, rfl, cf⟩ := nI_of' c1 (by omega)
    obtain ⟨mi, hm, rfl, -⟩ := nI_of' c3 (by omega)
    rw [cf] at c2
    obtain ⟨σ1, a1, a2, a3⟩ := e_spread (F := F) (c := cl) (mi := mi) (by omega) hG hN hW hf hm
    obtain ⟨σ2, d1, d2, d3⟩ := e_passing (F := F) (σ := σ1) (mi := mi) hF hG hN hW (bG.si a2 rfl) (bL.si a2 rfl) (bW.si a2 rfl) (bN.si a2 rfl) hf hm
    have hbd := st_bd (can := canp σ pl cl n r) (n := n) (f := f) hm
    have hown := st_own (can := canp σ pl cl n r) (n := n) (f := f) (mi := mi)
    have hout : ∀ g, n ≤ g → _ := fun g hg => st_out (α := σ) (p := pl) (c := cl) (r := r) (mi := mi) hf hg
    generalize itM (canp σ pl cl n r) n (999 - mi) mi (stR f mi) = S at a3 d3 hbd hown hout
    have hf2 : Fx ([13, 23, 32, 40, 41, 86, 87, 94, 95], []) σ σ2 := (a2.sub rfl).tr (d2.sub rfl)
    have h69 : zg σ2 69 0 = nI n := (hf2 69 0 rfl).trans bG.1
    have b1 := bG.si a2 rfl
    -- up to the state that is laid
    have xs : ∀ o : Option (Int32 × zM), (if v3 = (-1 : Int32) then bnd (f_X5_howMany F σ1) (fun r13 s12 => some (r13, s12)) else if v3 = (20 : Int32) then bnd (f_X5_lastMinute F σ1) (fun r11 s10 => some (r11, s10)) else bnd (f_X5_minuteOf v3 σ1) (fun r7 s6 => if r7 = (-1 : Int32) then some ((-2 : Int32), s6) else bnd (f_X5_teller v3 s6) (fun r9 s8 => some (r9, s8)))) = o → f_X11_rumour F (nI f) (nI mi) v3 σ = o := by
      intro o ho
      refine xa o ?_ c4
      unfold f_X11_rumour_j27
      rw [if_neg b1n, e_isStart, if_pos c3, bnd_some, if_neg b1n, e_sits_n hG hf, if_neg c2, bnd_some, if_neg b1n, a1, bnd_some]
      exact ho
    have ms : ∀ o : Option (Int32 × zM), (bnd (f_X12_in v3 (0 : Int32) (15 : Int32) σ2) (fun r5 s4 => if r5 = 0 then f_X12_rumour_L90 F (fun y12 y13 s11 => if v3 = (-1 : Int32) then some (y12, s11) else some (y13, s11)) v3 F (0 : Int32) (0 : Int32) (0 : Int32) s4 else if v3 = nI f then some ((-1 : Int32), s4) else if zin v3 16 = true then if (zg s4 94 (v3).toNatClampNeg) = (1000000000 : Int32) then some ((-2 : Int32), s4) else if zin v3 16 = true then some ((zg s4 95 (v3).toNatClampNeg), s4) else none else none)) = o → f_X12_rumour F (nI f) (nI mi) v3 σ1 = o := by
      intro o ho
      have hj : f_X12_rumour_j32 F (nI f) (nI mi) v3 σ1 = o := by
        unfold f_X12_rumour_j32
        rw [d1, bnd_some]; exact ho
      unfold f_X12_rumour
      rw [e_starts hG b1, if_pos ⟨⟨c1, by rw [cf]; exact c2⟩, c3⟩, bnd_some, if_neg b1n, b1.1, show nI n - (1 : Int32) = nI (n - 1) from (by rw [show n = (n - 1) + 1 by omega, ← nI_1]; simp), e_in, bnd_some, b01, hj]
      by_cases q2 : v3 = 20
      · rw [if_pos q2]
      · rw [if_neg q2, if_pos ?_]
        rw [nI_toInt (show n - 1 < 2 ^ 31 by omega), em]
        rcases c4 with h | h | h
        · rw [h, em]; omega
        · exact absurd h q2
        · have := h.1; have := h.2; omega
    have hout2 := cnR_out hout (16 - n)
    rw [show n + (16 - n) = 16 by omega] at hout2
    have rr : RR a σ2 := RR.scr ⟨n, t, r, p, kc, x, ko, pl, ql, cl, ⟨hG, hH, hT, hN, hK, hD, hX, hW⟩, ⟨bG, bH, bL, bT, bN, bK, bP, bD, bX, bW⟩, hP⟩ (hf2.sub rfl)
    by_cases q1 : v3 = -1
    · refine ⟨nI (cnR S n), σ1, σ2, xs _ ?_, ms _ ?_, a, by omega, rr⟩
      · rw [if_pos q1, e_howMany (by omega) a3 hbd, bnd_some, hout2.1]
      · rw [e_in, bnd_some, b01, if_neg (by rw [q1, em, e0]; omega), e_countM hn (by omega) h69 d3 hbd, if_pos q1]
    · by_cases q2 : v3 = 20
      · refine ⟨nI ((mxR S n).getD 0), σ1, σ2, xs _ ?_, ms _ ?_, a, by omega, rr⟩
        · rw [if_neg q1, if_pos q2, e_lastMinute (by omega) a3 hbd, bnd_some, hout2.2, mxR_some (f := f) (by rw [hown.1]; simp) n hf]; rfl
        · rw [e_in, bnd_some, b01, if_neg (by rw [q2, e20, e15]; omega), e_countM hn (by omega) h69 d3 hbd, if_neg q1]
      · obtain ⟨g, hg, rfl, cg⟩ := nI_of' (show gd n v3 by rcases c4 with h | h | h; exact absurd h q1; exact absurd h q2; exact h) (by omega)
        have z : zin (nI g) 16 = true := zin_n (by omega) (by omega)
        have l16 : nI g < (16 : Int32) := by rw [show (16 : Int32) = nI 16 from rfl, nI_ltI (by omega) (by omega)]; omega
        refine ⟨if S.1 g = none then -2 else S.2 g, σ1, σ2, xs _ ?_, ms _ ?_, a, by omega, rr⟩
        · rw [if_neg q1, if_neg q2]
          unfold f_X5_minuteOf f_X5_teller
          rw [if_neg (nI_pos (by omega)), if_pos l16, if_pos z, bnd_some, cg, (a3 g (by omega)).1, if_neg (nI_pos (by omega)), if_pos l16, if_pos z, (a3 g (by omega)).2, bnd_some]
          by_cases hs : S.1 g = none
          · rw [if_pos ((cA_no (hbd g)).mpr hs), if_pos hs]
          · rw [if_neg (fun q => hs ((cA_no (hbd g)).mp q)), if_neg hs]
        · rw [e_in, bnd_some, b01, if_pos (by rw [nI_toInt (show g < 2 ^ 31 by omega), e15, e0]; omega), if_pos z, if_pos z, cg, (d3 g (by omega)).1, (d3 g (by omega)).2]
          by_cases hgf : g = f
          · subst hgf
            rw [if_pos rfl, if_neg (by rw [hown.1]; simp), hown.2]
          · rw [if_neg (fun q => hgf ((nI_eq (by omega) (by omega)).mp q))]
            by_cases hs : S.1 g = none
            · rw [if_pos ((cM_eq (hbd g)).mpr hs), if_pos hs]
            · rw [if_neg (fun q => hs ((cM_eq (hbd g)).mp q)), if_neg hs]
  · refine OP.no ⟨n, t, r, p, kc, x, ko, pl, ql, cl, ⟨hG, hH, hT, hN, hK, hD, hX, hW⟩, ⟨bG, bH, bL, bT, bN, bK, bP, bD, bX, bW⟩, hP⟩ (-3) ?_ ?_
    · have hj : f_X11_rumour_j27 F v1 v2 v3 0 σ = some (-3, σ) := by unfold f_X11_rumour_j27; rw [if_pos rfl]
      by_cases c4 : v3 = -1 ∨ v3 = 20 ∨ gd n v3
      · refine xa _ ?_ c4
        unfold f_X11_rumour_j27
        rw [if_neg b1n, e_isStart, bnd_some, b01, e_sits hn h3, bnd_some, b01]
        by_cases c3 : gd 100 v2
        · rw [if_pos c3, if_neg (fun q => hc ⟨⟨q, c3⟩, c4⟩)]
        · rw [if_neg c3]
      · unfold f_X11_rumour f_X11_rumour_j22
        rw [if_neg (fun q => c4 (Or.inl q)), if_neg (fun q => c4 (Or.inr (Or.inl q))), e_knows hn h3, bnd_some, b01, if_neg (fun q => c4 (Or.inr (Or.inr q)))]
        exact hj
    · unfold f_X12_rumour
      rw [e_starts hG bG, bnd_some, b01]
      by_cases c1 : (gd n v1 ∧ ¬ zg σ 6 v1.toNatClampNeg = -1) ∧ gd 100 v2
      · have hn1 : 1 ≤ n := by have := c1.1.1.1; have := c1.1.1.2; omega
        rw [if_pos c1, bG.1, show nI n - (1 : Int32) = nI (n - 1) from (by rw [show n = (n - 1) + 1 by omega, ← nI_1]; simp), e_in, bnd_some, b01, nI_toInt (show n - 1 < 2 ^ 31 by omega), em, if_neg (fun q => hc ⟨c1, Or.inr (Or.inl q)⟩), if_neg ?_]
        rintro ⟨q1, q2⟩
        apply hc
        refine ⟨c1, ?_⟩
        by_cases h : v3.toInt = -1
        · left; rw [i_eq, em]; exact h
        · right; right; constructor
          · omega
          · omega
      · rw [if_neg c1]
