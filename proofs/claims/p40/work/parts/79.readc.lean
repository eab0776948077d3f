/-! ===== the class reads so ===== -/
def txc (σ0 : zM) (n i : Nat) : Int32 := if i < n then zg σ0 2 i else -1
abbrev mCR (q : Nat) : zMk := ([q + 5, q + 6], [(24, 2), (24, 4), (q, 8)])
abbrev mCS (q : Nat) : zMk := ([q + 5, q + 6], [(24, 2), (q, 8)])
def CR0 (q n : Nat) (σ0 : zM) : Prop := (q = 16 ∨ q = 25) ∧ n ≤ 200 ∧ zg σ0 24 1 = nI q ∧ zg σ0 24 3 = nI n ∧ ∃ t, n ≤ t ∧ t ≤ 220 ∧ zg σ0 1 1 = nI t ∧ ∀ i, i < n → ∃ b, b < 256 ∧ zg σ0 2 i = nI b
def cS (q : Nat) (σ0 : zM) (st : zLs) (σ : zM) : Prop := Fx (mCS q) σ0 σ ∧ zg σ 24 2 = nI st.1 ∧ zg σ q 8 = nI st.2.1 ∧ ∀ j, j < st.2.1 → zg σ (q + 5) j = (st.2.2 j).1 ∧ zg σ (q + 6) j = nI (st.2.2 j).2
def cE (q : Nat) (σ0 : zM) (e : Int32) (σ : zM) : Prop := Fx (mCR q) σ0 σ ∧ (zg σ 24 4 = e ∧ e.toInt < 0) ∧ ∃ l, l ≤ 200 ∧ zg σ q 8 = nI l
def cOut (q : Nat) (σ0 : zM) (r : zPR) (o : Option (Int32 × zM)) : Prop := match r with
  | .inl st => ∃ σ', o = some (1, σ') ∧ cS q σ0 st σ'
  | .inr e => ∃ σ', o = some (0, σ') ∧ cE q σ0 e σ'
def sim (q n : Nat) (σ0 : zM) (p : zLs → zPR) (X : zM → Option (Int32 × zM)) : Prop := ∀ st σ, st.2.1 ≤ st.1 → st.1 ≤ n → cS q σ0 st σ → cOut q σ0 (p st) (X σ)
theorem txc_out {σ0 : zM} {n : Nat} : ∀ i, n ≤ i → txc σ0 n i = -1 := fun i h => if_neg (by omega)
theorem txc_n {q n : Nat} {σ0 : zM} (h : CR0 q n σ0) (i : Nat) : txc σ0 n i = -1 ∨ ∃ b, b < 256 ∧ txc σ0 n i = nI b := by
  obtain ⟨-, -, -, -, t, -, -, -, hb⟩ := h
  unfold txc
  by_cases q : i < n
  · rw [if_pos q]; exact Or.inr (hb i q)
  · rw [if_neg q]; exact Or.inl rfl
theorem cS.f {q n : Nat} {σ0 σ : zM} {st : zLs} (h0 : CR0 q n σ0) (h : cS q σ0 st σ) : zg σ 24 1 = nI q ∧ zg σ 24 3 = nI n ∧ zg σ 1 1 = zg σ0 1 1 ∧ ∀ i, zg σ 2 i = zg σ0 2 i := by
  obtain ⟨hq, -, h1, h3, -⟩ := h0
  refine ⟨(h.1 24 1 (by rcases hq with rfl | rfl <;> rfl)).trans h1, (h.1 24 3 (by rcases hq with rfl | rfl <;> rfl)).trans h3, h.1 1 1 (by rcases hq with rfl | rfl <;> rfl), fun i => h.1 2 i (by rcases hq with rfl | rfl <;> rfl)⟩
theorem c_peek {q n : Nat} {σ0 σ : zM} {st : zLs} (h0 : CR0 q n σ0) (h : cS q σ0 st σ) (hp : st.1 ≤ n) : f_X4_peek σ = some (txc σ0 n st.1, σ) := by
  obtain ⟨f1, f3, f11, f2⟩ := h.f h0
  obtain ⟨hq, hn, -, -, t, ht, ht2, h11, -⟩ := h0
  unfold f_X4_peek f_X10_byteAt txc
  rw [h.2.1, f3, f11, h11]
  by_cases c : st.1 < n
  · rw [if_pos ((nI_ltI (by omega) (by omega)).mpr c), if_neg (nI_pos (by omega)), if_pos ((nI_ltI (by omega) (by omega)).mpr (by omega)), if_pos (zin_n (by omega) (by omega)), bnd_some, nI_clamp (by omega), f2, if_pos c]
  · rw [if_neg (fun w => c ((nI_ltI (by omega) (by omega)).mp w)), if_neg c]
theorem c_zLw {q n : Nat} {σ0 σ : zM} {st : zLs} (h0 : CR0 q n σ0) (h : cS q σ0 st σ) : zLw (zg σ 24 1).toNatClampNeg = true ∧ (zg σ 24 1).toNatClampNeg = q := by
  rw [(h.f h0).1]
  rcases h0.1 with rfl | rfl <;> exact ⟨rfl, rfl⟩
theorem cE.f {q n : Nat} {σ0 σ : zM} {e : Int32} (h0 : CR0 q n σ0) (h : cE q σ0 e σ) : zLw (zg σ 24 1).toNatClampNeg = true ∧ (zg σ 24 1).toNatClampNeg = q := by
  have : zg σ 24 1 = nI q := (h.1 24 1 (by rcases h0.1 with h | h <;> rw [h] <;> rfl)).trans h0.2.2.1
  rw [this]
  rcases h0.1 with rfl | rfl <;> exact ⟨rfl, rfl⟩
theorem c_adv {q n : Nat} {σ0 σ : zM} {st : zLs} (h0 : CR0 q n σ0) (h : cS q σ0 st σ) : cS q σ0 (adv st) (zs σ 24 2 (zg σ 24 2 + 1)) := by
  obtain ⟨a1, a2, a3, a4⟩ := h
  have hq := h0.1
  refine ⟨a1.zs (by rcases hq with rfl | rfl <;> rfl), ?_, ?_, fun j hj => ?_⟩
  · rw [zg_eq, a2, nI_1]; rfl
  · rw [zg_ne (by rcases hq with rfl | rfl <;> decide)]; exact a3
  · rw [zg_ne (by rcases hq with rfl | rfl <;> decide), zg_ne (by rcases hq with rfl | rfl <;> decide)]; exact a4 j hj
theorem c_add {q n v : Nat} {s : Int32} {σ0 σ : zM} {st : zLs} (h0 : CR0 q n σ0) (h : cS q σ0 st σ) (hl : st.2.1 < 200) : ∃ σ', f_X3_add q s (nI v) σ = some (nI st.2.1, σ') ∧ cS q σ0 (emi st s v) σ' := by
  obtain ⟨a1, a2, a3, a4⟩ := h
  have hq := h0.1
  have z := zin_n (show (200 : Nat) < 2 ^ 31 by omega) hl
  have e1 : zg (zs σ (q + 5) st.2.1 s) q 8 = nI st.2.1 := by rw [zg_ne (by omega)]; exact a3
  have e2 : zg (zs (zs σ (q + 5) st.2.1 s) (q + 6) st.2.1 (nI v)) q 8 = nI st.2.1 := by rw [zg_ne (by omega)]; exact e1
  unfold f_X3_add
  rw [a3, if_pos (show nI st.2.1 < (200 : Int32) by rw [show (200 : Int32) = nI 200 from rfl, nI_ltI (by omega) (by omega)]; exact hl), if_pos z, nI_clamp (by omega), lt_eq, e1, if_pos z, nI_clamp (by omega), lt_eq, e2, nI_1, lt_eq]
  have hpred : zg (zs (zs (zs σ (q + 5) st.2.1 s) (q + 6) st.2.1 (nI v)) q 8 (nI (st.2.1 + 1))) q 8 - (1 : Int32) = nI st.2.1 := by rw [zg_eq, ← nI_1]; simp
  rw [hpred]
  refine ⟨_, rfl, ((a1.zs (by simp [inm])).zs (by simp [inm])).zs (by simp [inm]), ?_, zg_eq, fun j hj => ?_⟩
  · rw [zg_ne (by rcases hq with rfl | rfl <;> decide), zg_ne (by rcases hq with rfl | rfl <;> decide), zg_ne (by rcases hq with rfl | rfl <;> decide)]; exact a2
  · rw [zg_ne (show q + 5 ≠ q by omega), zg_ne (show q + 5 ≠ q + 6 by omega), zg_row, zg_ne (show q + 6 ≠ q by omega), zg_row, zg_ne (show q + 6 ≠ q + 5 by omega)]
    show (if j = st.2.1 then s else zg σ (q + 5) j) = (if j = st.2.1 then (s, v) else st.2.2 j).1 ∧ (if j = st.2.1 then nI v else zg σ (q + 6) j) = nI (if j = st.2.1 then (s, v) else st.2.2 j).2
    by_cases c : j = st.2.1
    · rw [if_pos c, if_pos c, if_pos c]; exact ⟨rfl, rfl⟩
    · rw [if_neg c, if_neg c, if_neg c]
      exact a4 j (by have : j < st.2.1 + 1 := hj; omega)
theorem c_land {q n a : Nat} {σ0 σ : zM} {st : zLs} (h0 : CR0 q n σ0) (h : cS q σ0 st σ) (ha : a < st.2.1) (hl : st.2.1 ≤ 200) : ∃ σ', f_X3_land q (nI a) σ = some ((), σ') ∧ cS q σ0 (lnd st a) σ' := by
  obtain ⟨a1, a2, a3, a4⟩ := h
  have hq := h0.1
  unfold f_X3_land
  rw [if_neg (nI_pos (by omega)), a3, if_pos ((nI_ltI (by omega) (by omega)).mpr ha), if_pos (zin_n (by omega) (by omega)), lt_eq, nI_clamp (by omega)]
  refine ⟨_, rfl, a1.zs (by simp [inm]), ?_, ?_, fun j hj => ?_⟩
  · rw [zg_ne (by rcases hq with rfl | rfl <;> decide)]; exact a2
  · rw [zg_ne (show q ≠ q + 6 by omega)]; exact a3
  · rw [zg_ne (show q + 5 ≠ q + 6 by omega), zg_row]
    show zg σ (q + 5) j = (if j = a then ((st.2.2 a).1, st.2.1) else st.2.2 j).1 ∧ (if j = a then nI st.2.1 else zg σ (q + 6) j) = nI (if j = a then ((st.2.2 a).1, st.2.1) else st.2.2 j).2
    by_cases c : j = a
    · subst c; rw [if_pos rfl, if_pos rfl]; exact ⟨(a4 j hj).1, rfl⟩
    · rw [if_neg c, if_neg c]; exact a4 j hj
theorem flt_neg {k x : Nat} (h1 : 1 ≤ k) (h5 : k ≤ 5) (hx : x ≤ 200) : ((-1000 : Int32) * nI k - nI x).toInt < 0 := by
  have e : ((-1000 : Int32) * nI k - nI x).toInt = -1000 * (k : Int) - x := by
    rw [Int32.toInt_sub, Int32.toInt_mul, nI_toInt (by omega), nI_toInt (by omega), show ((-1000 : Int32)).toInt = -1000 from rfl, Int.bmod_eq_of_le (n := -1000 * (k : Int)) (by omega) (by omega), Int.bmod_eq_of_le (by omega) (by omega)]
  omega
theorem c_fail {q n k : Nat} {σ0 σ : zM} {st : zLs} (h0 : CR0 q n σ0) (h : cS q σ0 st σ) (h1 : st.2.1 ≤ st.1) (h2 : st.1 ≤ n) (hk : 1 ≤ k ∧ k ≤ 5 := by decide) : ∃ σ', f_X4_fail (nI k) σ = some (0, σ') ∧ cE q σ0 ((-1000 : Int32) * nI k - nI st.1) σ' := by
  obtain ⟨a1, a2, a3, a4⟩ := h
  have hq := h0.1
  have hn := h0.2.1
  unfold f_X4_fail
  rw [lt_eq, a2]
  refine ⟨_, rfl, (a1.sub (by rcases hq with rfl | rfl <;> rfl)).zs (by rcases hq with rfl | rfl <;> rfl), ⟨zg_eq, flt_neg hk.1 hk.2 (by omega)⟩, st.2.1, by omega, ?_⟩
  rw [zg_ne (by rcases hq with rfl | rfl <;> decide)]; exact a3
theorem cE_add {q n : Nat} {s v e : Int32} {σ0 σ : zM} (h0 : CR0 q n σ0) (h : cE q σ0 e σ) : ∃ r σ', f_X3_add q s v σ = some (r, σ') ∧ cE q σ0 e σ' := by
  obtain ⟨a1, a2, l, hl, a3⟩ := h
  have hq := h0.1
  unfold f_X3_add
  rw [a3]
  by_cases c : l < 200
  · have z := zin_n (show (200 : Nat) < 2 ^ 31 by omega) c
    have e1 : zg (zs σ (q + 5) l s) q 8 = nI l := by rw [zg_ne (by omega)]; exact a3
    have e2 : zg (zs (zs σ (q + 5) l s) (q + 6) l v) q 8 = nI l := by rw [zg_ne (by omega)]; exact e1
    rw [if_pos (show nI l < (200 : Int32) by rw [show (200 : Int32) = nI 200 from rfl, nI_ltI (by omega) (by omega)]; exact c), if_pos z, nI_clamp (by omega), lt_eq, e1, if_pos z, nI_clamp (by omega), lt_eq, e2, nI_1, lt_eq]
    refine ⟨_, _, rfl, ((a1.zs (by simp [inm])).zs (by simp [inm])).zs (by simp [inm]), ?_, l + 1, by omega, zg_eq⟩
    rw [zg_ne (by rcases hq with rfl | rfl <;> decide), zg_ne (by rcases hq with rfl | rfl <;> decide), zg_ne (by rcases hq with rfl | rfl <;> decide)]; exact a2
  · rw [if_neg (show ¬ nI l < (200 : Int32) by rw [show (200 : Int32) = nI 200 from rfl, nI_ltI (by omega) (by omega)]; exact c)]
    exact ⟨_, σ, rfl, a1, a2, l, hl, a3⟩
theorem cE_land {q n : Nat} {v e : Int32} {σ0 σ : zM} (h0 : CR0 q n σ0) (h : cE q σ0 e σ) : ∃ σ', f_X3_land q v σ = some ((), σ') ∧ cE q σ0 e σ' := by
  obtain ⟨a1, a2, l, hl, a3⟩ := h
  have hq := h0.1
  unfold f_X3_land
  rw [a3]
  by_cases c1 : v < 0
  · rw [if_pos c1]; exact ⟨σ, rfl, a1, a2, l, hl, a3⟩
  · rw [if_neg c1]
    by_cases c2 : v < nI l
    · rw [if_pos c2]
      have z : zin v 200 = true := zin_i (by rw [i_lt] at c1 c2; rw [nI_toInt (by omega)] at c2; have : (0 : Int32).toInt = 0 := rfl; omega)
      rw [if_pos z, lt_eq]
      refine ⟨_, rfl, a1.zs (by simp [inm]), ?_, l, hl, ?_⟩
      · rw [zg_ne (by rcases hq with rfl | rfl <;> decide)]; exact a2
      · rw [zg_ne (show q ≠ q + 6 by omega)]; exact a3
    · rw [if_neg c2]; exact ⟨σ, rfl, a1, a2, l, hl, a3⟩
theorem e_isDigit (c : Int32) (σ : zM) : f_X4_isDigit c σ = some (if dg c = true then 1 else 0, σ) := by
  unfold f_X4_isDigit dg
  simp only [i_lt, decide_eq_true_eq]
  have : (48 : Int32).toInt = 48 := rfl
  have : (57 : Int32).toInt = 57 := rfl
  repeat' split
  all_goals first | rfl | (exfalso; omega)
theorem e_isPlus (c : Int32) (σ : zM) : f_X4_isPlus c σ = some (if isPl c = true then 1 else 0, σ) := by
  unfold f_X4_isPlus isPl
  simp only [decide_eq_true_eq]
  by_cases h1 : c = 43 <;> by_cases h2 : c = 45 <;> simp [h1, h2]
theorem e_isTimes (c : Int32) (σ : zM) : f_X4_isTimes c σ = some (if isTi c = true then 1 else 0, σ) := by
  unfold f_X4_isTimes isTi
  simp only [decide_eq_true_eq]
  by_cases h1 : c = 42 <;> by_cases h2 : c = 47 <;> by_cases h3 : c = 37 <;> simp [h1, h2, h3]
theorem e_letterPlace (c : Int32) (σ : zM) : f_X1_letterPlace c σ = some (letP c, σ) := by
  unfold f_X1_letterPlace letP
  by_cases a97 : c = 97
  · subst a97; rfl
  by_cases a98 : c = 98
  · subst a98; rfl
  by_cases a99 : c = 99
  · subst a99; rfl
  by_cases a100 : c = 100
  · subst a100; rfl
  by_cases a101 : c = 101
  · subst a101; rfl
  by_cases a102 : c = 102
  · subst a102; rfl
  by_cases a103 : c = 103
  · subst a103; rfl
  by_cases a104 : c = 104
  · subst a104; rfl
  by_cases a105 : c = 105
  · subst a105; rfl
  by_cases a106 : c = 106
  · subst a106; rfl
  by_cases a107 : c = 107
  · subst a107; rfl
  by_cases a108 : c = 108
  · subst a108; rfl
  by_cases a109 : c = 109
  · subst a109; rfl
  by_cases a110 : c = 110
  · subst a110; rfl
  by_cases a111 : c = 111
  · subst a111; rfl
  by_cases a112 : c = 112
  · subst a112; rfl
  by_cases a113 : c = 113
  · subst a113; rfl
  by_cases a114 : c = 114
  · subst a114; rfl
  by_cases a115 : c = 115
  · subst a115; rfl
  by_cases a116 : c = 116
  · subst a116; rfl
  simp only [a97, a98, a99, a100, a101, a102, a103, a104, a105, a106, a107, a108, a109, a110, a111, a112, a113, a114, a115, a116, if_false]
theorem e_factOf (c : Int32) (σ : zM) : f_X12_factOf c σ = some (letP c, σ) := by
  unfold f_X12_factOf letP
  by_cases a97 : c = 97
  · subst a97; rfl
  by_cases a98 : c = 98
  · subst a98; rfl
  by_cases a99 : c = 99
  · subst a99; rfl
  by_cases a100 : c = 100
  · subst a100; rfl
  by_cases a101 : c = 101
  · subst a101; rfl
  by_cases a102 : c = 102
  · subst a102; rfl
  by_cases a103 : c = 103
  · subst a103; rfl
  by_cases a104 : c = 104
  · subst a104; rfl
  by_cases a105 : c = 105
  · subst a105; rfl
  by_cases a106 : c = 106
  · subst a106; rfl
  by_cases a107 : c = 107
  · subst a107; rfl
  by_cases a108 : c = 108
  · subst a108; rfl
  by_cases a109 : c = 109
  · subst a109; rfl
  by_cases a110 : c = 110
  · subst a110; rfl
  by_cases a111 : c = 111
  · subst a111; rfl
  by_cases a112 : c = 112
  · subst a112; rfl
  by_cases a113 : c = 113
  · subst a113; rfl
  by_cases a114 : c = 114
  · subst a114; rfl
  by_cases a115 : c = 115
  · subst a115; rfl
  by_cases a116 : c = 116
  · subst a116; rfl
  simp only [a97, a98, a99, a100, a101, a102, a103, a104, a105, a106, a107, a108, a109, a110, a111, a112, a113, a114, a115, a116, if_false]
/-! numbers, factors -/
theorem sim_num {F q n : Nat} {σ0 : zM} (h0 : CR0 q n σ0) : ∀ k fu num st σ, k ≤ 5 → k < fu → st.2.1 < st.1 → st.1 ≤ n → cS q σ0 st σ → cOut q σ0 (pNum (txc σ0 n) k num st) (f_X4_readNumber_L4 F (fun y11 s10 => f_X4_readNumber_j48 F y11 s10) fu (nI num) (nI (5 - k)) σ) := by
  have hn := h0.2.1
  have stop : ∀ num st σ, st.2.1 < st.1 → st.1 ≤ n → cS q σ0 st σ → cOut q σ0 (if dg (txc σ0 n st.1) = true then flP 2 st.1 else .inl (emi st 1 num)) (f_X4_readNumber_j48 F (nI num) σ) := by
    intro num st σ h1 h2 hS
    obtain ⟨z1, z2⟩ := c_zLw h0 hS
    unfold f_X4_readNumber_j48
    rw [c_peek h0 hS h2, bnd_some, e_isDigit, bnd_some, b01]
    by_cases hd : dg (txc σ0 n st.1) = true
    · rw [if_pos hd, if_pos hd]
      obtain ⟨σ', e1, e2⟩ := c_fail (k := 2) h0 hS (by omega) h2
      refine ⟨σ', ?_, e2⟩
      rw [show (2 : Int32) = nI 2 from rfl, e1, bnd_some]; rfl
    · rw [if_neg hd, if_neg hd, if_pos z1, z2]
      obtain ⟨σ', e1, e2⟩ := c_add (s := 1) (v := num) h0 hS (by omega)
      refine ⟨σ', ?_, e2⟩
      rw [e1, bnd_some]
  intro k
  induction k with
  | zero =>
    intro fu num st σ hk hfu h1 h2 hS
    obtain ⟨fu, rfl⟩ : ∃ f', fu = f' + 1 := ⟨fu - 1, by omega⟩
    rw [f_X4_readNumber_L4, if_neg (by decide), pNum]
    exact stop num st σ h1 h2 hS
  | succ k ih =>
    intro fu num st σ hk hfu h1 h2 hS
    obtain ⟨fu, rfl⟩ : ∃ f', fu = f' + 1 := ⟨fu - 1, by omega⟩
    rw [f_X4_readNumber_L4, if_pos (show nI (5 - (k + 1)) < (5 : Int32) by rw [show (5 : Int32) = nI 5 from rfl, nI_ltI (by omega) (by omega)]; omega), c_peek h0 hS h2, bnd_some, e_isDigit, bnd_some, b01, pNum]
    by_cases hd : dg (txc σ0 n st.1) = true
    · obtain ⟨d1, d2, d3⟩ := dg_n hd
      have hlt := tx_lt txc_out (dg_m hd)
      rw [if_pos hd, if_pos hd, c_peek h0 hS h2, bnd_some, lt_eq, lt_eq, lt_eq, nI_1]
      have ev : (10 : Int32) * nI num + txc σ0 n st.1 - 48 = nI (10 * num + ((txc σ0 n st.1).toNatClampNeg - 48)) := by
        rw [d3, show (10 : Int32) = nI 10 from rfl, pk_mul, nI_add, show (48 : Int32) = nI 48 from rfl, pk_sub (by omega), nI_clamp (by omega)]
        congr 1
        omega
      rw [ev, show 5 - (k + 1) + 1 = 5 - k by omega]
      exact ih fu _ (adv st) _ (by omega) (by omega) (by show st.2.1 < st.1 + 1; omega) hlt (c_adv h0 hS)
    · rw [if_neg hd, if_neg hd]
      have w := stop num st σ h1 h2 hS
      rw [if_neg hd] at w
      exact w
theorem acc_c {q n : Nat} {c : Int32} {σ0 σ : zM} {st : zLs} (h0 : CR0 q n σ0) (h : cS q σ0 st σ) (h1 : st.2.1 ≤ st.1) (h2 : st.1 ≤ n) : cOut q σ0 (if txc σ0 n st.1 = c then .inl (adv st) else flP 1 st.1) (f_X4_accept c σ) := by
  unfold f_X4_accept
  rw [c_peek h0 h h2, bnd_some]
  by_cases hc : txc σ0 n st.1 = c
  · rw [if_pos hc, if_pos hc, lt_eq]
    exact ⟨_, rfl, c_adv h0 h⟩
  · rw [if_neg hc, if_neg hc]
    obtain ⟨σ', e1, e2⟩ := c_fail (k := 1) h0 h h1 h2
    refine ⟨σ', ?_, e2⟩
    rw [show (1 : Int32) = nI 1 from rfl, e1, bnd_some]; rfl
theorem sim_fac {F q n o K : Nat} {σ0 : zM} {r : Nat → zLs → zPR} {rec : Nat → Int32 → zM → Option (Int32 × zM)} (hF : 10 ≤ F) (h0 : CR0 q n σ0) (ho : o ≤ 6) (hp : o < 6 → sim q n σ0 (r (o + 1)) (rec 3 (nI (o + 1)))) (hg : o < 6 → Gd n (r (o + 1)) false K) : sim q n σ0 (pFac (txc σ0 n) r o) (b_X4_readFactor F rec (nI o)) := by
  have hn := h0.2.1
  intro st σ h1 h2 hS
  unfold b_X4_readFactor pFac
  rw [c_peek h0 hS h2, bnd_some, e_isDigit, bnd_some, b01]
  by_cases hd : dg (txc σ0 n st.1) = true
  · obtain ⟨d1, d2, d3⟩ := dg_n hd
    have hlt := tx_lt txc_out (dg_m hd)
    rw [if_pos hd, if_pos hd]
    obtain ⟨F', rfl⟩ : ∃ f', F = f' + 1 := ⟨F - 1, by omega⟩
    unfold f_X4_readNumber
    rw [f_X4_readNumber_L4, if_pos (by decide), c_peek h0 hS h2, bnd_some, e_isDigit, bnd_some, b01, if_pos hd, c_peek h0 hS h2, bnd_some, lt_eq, lt_eq, lt_eq, pNum, if_pos hd]
    have ev : (10 : Int32) * 0 + txc σ0 n st.1 - 48 = nI (10 * 0 + ((txc σ0 n st.1).toNatClampNeg - 48)) := by
      rw [d3, show (10 : Int32) * 0 = nI 0 from rfl, nI_add, show (48 : Int32) = nI 48 from rfl, pk_sub (by omega), nI_clamp (by omega)]
      congr 1
      omega
    have w := sim_num (F := F' + 1) h0 4 F' (10 * 0 + ((txc σ0 n st.1).toNatClampNeg - 48)) (adv st) _ (by omega) (by omega) (by show st.2.1 < st.1 + 1; omega) hlt (c_adv h0 hS)
    rw [ev, show (0 : Int32) + 1 = nI (5 - 4) from rfl]
    generalize pNum (txc σ0 n) 4 (10 * 0 + ((txc σ0 n st.1).toNatClampNeg - 48)) (adv st) = pr at w ⊢
    cases pr with
    | inl s => obtain ⟨σ', w1, w2⟩ := w; exact ⟨σ', by rw [w1, bnd_some, if_neg b1n, if_pos rfl], w2⟩
    | inr e => obtain ⟨σ', w1, w2⟩ := w; exact ⟨σ', by rw [w1, bnd_some, if_pos rfl], w2⟩
  · rw [if_neg hd, if_neg hd]
    by_cases hb : txc σ0 n st.1 = 91
    · have hlt : st.1 < n := tx_lt txc_out (i := st.1) (by rw [hb]; decide)
      rw [if_pos hb, if_pos hb]
      by_cases ho6 : o < 6
      · rw [if_pos (show nI o < (6 : Int32) by rw [show (6 : Int32) = nI 6 from rfl, nI_ltI (by omega) (by omega)]; exact ho6), if_pos ho6, lt_eq, nI_1]
        have h1' : (adv st).2.1 ≤ (adv st).1 := by show st.2.1 ≤ st.1 + 1; omega
        have w := hp ho6 (adv st) _ h1' hlt (c_adv h0 hS)
        cases hr : r (o + 1) (adv st) with
        | inl s =>
          rw [hr] at w
          obtain ⟨σ', w1, w2⟩ := w
          obtain ⟨g1, g2, g3, -⟩ := hg ho6 (adv st) s h1' hlt hr
          rw [w1, bnd_some, if_neg b1n]
          have a := acc_c (c := 93) h0 w2 (by omega) g2
          show cOut q σ0 (if txc σ0 n s.1 = 93 then _ else _) _
          by_cases hc : txc σ0 n s.1 = 93
          · rw [if_pos hc] at a ⊢
            obtain ⟨σ'', a1, a2⟩ := a
            exact ⟨σ'', by rw [a1, bnd_some, if_neg b1n], a2⟩
          · rw [if_neg hc] at a ⊢
            obtain ⟨σ'', a1, a2⟩ := a
            exact ⟨σ'', by rw [a1, bnd_some, if_pos rfl], a2⟩
        | inr e =>
          rw [hr] at w
          obtain ⟨σ', w1, w2⟩ := w
          exact ⟨σ', by rw [w1, bnd_some, if_pos rfl], w2⟩
      · rw [if_neg (show ¬ nI o < (6 : Int32) by rw [show (6 : Int32) = nI 6 from rfl, nI_ltI (by omega) (by omega)]; exact ho6), if_neg ho6]
        obtain ⟨σ', e1, e2⟩ := c_fail (k := 5) h0 hS h1 h2
        refine ⟨σ', ?_, e2⟩
        rw [show (5 : Int32) = nI 5 from rfl, e1, bnd_some]; rfl
    · rw [if_neg hb, if_neg hb, e_letterPlace, bnd_some]
      by_cases hl : letP (txc σ0 n st.1) = -1
      · rw [if_pos hl, if_pos hl]
        obtain ⟨σ', e1, e2⟩ := c_fail (k := 1) h0 hS h1 h2
        refine ⟨σ', ?_, e2⟩
        rw [show (1 : Int32) = nI 1 from rfl, e1, bnd_some]; rfl
      · have hlt : st.1 < n := tx_lt txc_out (i := st.1) (by
          intro w
          apply hl
          rw [w]; decide)
        rw [if_neg hl, if_neg hl, lt_eq]
        have ha := c_adv h0 hS
        obtain ⟨z1, z2⟩ := c_zLw h0 ha
        rcases letP_n (txc σ0 n st.1) with w | ⟨-, w⟩
        · exact absurd w hl
        · obtain ⟨σ', e1, e2⟩ := c_add (s := 2) (v := (letP (txc σ0 n st.1)).toNatClampNeg) h0 ha (by show st.2.1 < 200; omega)
          rw [← w] at e1
          refine ⟨σ', ?_, e2⟩
          rw [if_pos z1, z2, e1, bnd_some]
