/-! ===== the law's steps: what they come to ===== -/
def comb (s x y : Int32) : Int32 := if s = 37 then x - x / y * y else if s = 42 then x * y else if s = 43 then x + y else if s = 45 then x - y else if s = 47 then x / y else if s = 60 then (if x < y then 1 else 0) else if s = 62 then (if y < x then 1 else 0) else (if x = y then 1 else 0)
def ev (st pt le : Nat → Int32) (e : Nat) : Nat → Nat → List Int32 → Int32
  | 0, _, _ => 0
  | f + 1, k, S => if k < e then
      (if st k = 1 then ev st pt le e f (k + 1) (pt k :: S)
       else if st k = 2 then ev st pt le e f (k + 1) (le (pt k).toNatClampNeg :: S)
       else if st k = 33 then ev st pt le e f (k + 1) ((1 - S.headD 0) :: S.tail)
       else if st k = 38 then (if S.headD 0 = 0 then ev st pt le e f (pt k).toNatClampNeg S else ev st pt le e f (k + 1) S.tail)
       else if st k = 124 then (if S.headD 0 = 0 then ev st pt le e f (k + 1) S.tail else ev st pt le e f (pt k).toNatClampNeg S)
       else if S.headD 0 = 0 ∧ (st k = 47 ∨ st k = 37) then 0 else ev st pt le e f (k + 1) (comb (st k) (S.tail.headD 0) (S.headD 0) :: S.tail.tail))
    else S.headD 0
def isAr (s : Int32) : Prop := s = 43 ∨ s = 45 ∨ s = 42 ∨ s = 47 ∨ s = 37
def isCm (s : Int32) : Prop := s = 60 ∨ s = 62 ∨ s = 61
def okStep (st pt : Nat → Int32) (τ : Nat → List Bool) (e k : Nat) : Prop :=
  (st k = 1 ∧ τ (k + 1) = false :: τ k) ∨ (st k = 2 ∧ (∃ x, x < 10 ∧ pt k = nI x) ∧ τ (k + 1) = false :: τ k) ∨
  (st k = 33 ∧ ∃ r, τ k = true :: r ∧ τ (k + 1) = true :: r) ∨
  ((st k = 38 ∨ st k = 124) ∧ ∃ r v, pt k = nI v ∧ k < v ∧ v ≤ e ∧ τ k = true :: r ∧ τ (k + 1) = r ∧ τ v = true :: r) ∨
  (isAr (st k) ∧ ∃ x y r, τ k = x :: y :: r ∧ τ (k + 1) = false :: r) ∨
  (isCm (st k) ∧ ∃ x y r, τ k = x :: y :: r ∧ τ (k + 1) = true :: r)
def tyS : List Int32 → List Bool → Prop
  | [], [] => True
  | x :: r, b :: t => (b = true → x = 0 ∨ x = 1) ∧ tyS r t
  | _, _ => False
theorem tyS_len : ∀ (S : List Int32) (t : List Bool), tyS S t → S.length = t.length
  | [], [], _ => rfl
  | x :: r, b :: t, h => by simp [tyS_len r t h.2]
  | [], b :: t, h => h.elim
  | x :: r, [], h => h.elim
theorem tyS_cons {S : List Int32} {b : Bool} {t : List Bool} (h : tyS S (b :: t)) : ∃ x r, S = x :: r ∧ (b = true → x = 0 ∨ x = 1) ∧ tyS r t := by
  cases S with
  | nil => exact h.elim
  | cons x r => exact ⟨x, r, rfl, h.1, h.2⟩
def stk (row : Nat) (σ : zM) : List Int32 → Prop
  | [] => True
  | x :: r => zg σ row r.length = x ∧ stk row σ r
theorem stk_up {row : Nat} {σ : zM} {j : Nat} {v : Int32} : ∀ {S : List Int32}, stk row σ S → S.length ≤ j → stk row (zs σ row j v) S
  | [], _, _ => trivial
  | x :: r, h, hl => by
    simp only [List.length_cons] at hl
    exact ⟨by rw [zg_nj (by omega)]; exact h.1, stk_up h.2 (by omega)⟩
theorem stk_push {row : Nat} {σ : zM} {S : List Int32} {v : Int32} (h : stk row σ S) : stk row (zs σ row S.length v) (v :: S) := ⟨zg_eq, stk_up h (Nat.le_refl _)⟩
def Typ (st pt : Nat → Int32) (a e : Nat) (b : Bool) (τ : Nat → List Bool) : Prop := τ e = [b] ∧ (∀ k, a ≤ k → k < e → okStep st pt τ e k) ∧ ∀ k, a ≤ k → k ≤ e → (τ k).length ≤ 39
theorem comb_cm {s x y : Int32} (h : isCm s) : comb s x y = 0 ∨ comb s x y = 1 := by
  rcases h with rfl | rfl | rfl <;> unfold comb
  · rw [if_neg (by decide), if_neg (by decide), if_neg (by decide), if_neg (by decide), if_neg (by decide), if_pos rfl]; split <;> simp
  · rw [if_neg (by decide), if_neg (by decide), if_neg (by decide), if_neg (by decide), if_neg (by decide), if_neg (by decide), if_pos rfl]; split <;> simp
  · rw [if_neg (by decide), if_neg (by decide), if_neg (by decide), if_neg (by decide), if_neg (by decide), if_neg (by decide), if_neg (by decide)]; split <;> simp
theorem e_taken (v : Int32) (s : zM) : f_X3_taken v s = some (if v = 1 ∨ v = 2 then 0 else if v = 33 ∨ v = 38 ∨ v = 124 then 1 else 2, s) := by
  unfold f_X3_taken
  by_cases h1 : v = 1 <;> by_cases h2 : v = 2 <;> by_cases h3 : v = 33 <;> by_cases h4 : v = 38 <;> by_cases h5 : v = 124 <;> simp [h1, h2, h3, h4, h5]
theorem e_combined {s x y : Int32} (σ : zM) (h : isAr s ∨ isCm s) (hz : ¬ (y = 0 ∧ (s = 47 ∨ s = 37))) : f_X3_combined s x y σ = some (comb s x y, σ) := by
  unfold f_X3_combined comb
  rcases h with (rfl | rfl | rfl | rfl | rfl) | (rfl | rfl | rfl)
  · rfl
  · rfl
  · rfl
  · have hy : ¬ y = 0 := fun q => hz ⟨q, Or.inl rfl⟩
    simp [hy]
  · have hy : ¬ y = 0 := fun q => hz ⟨q, Or.inr rfl⟩
    simp [hy]
  · by_cases h : x < y <;> simp [h]
  · by_cases h : y < x <;> simp [h]
  · by_cases h : x = y <;> simp [h]
/-- the class's machine -/
theorem e_reckonL {F p e : Nat} {st pt le : Nat → Int32} {τ : Nat → List Bool} {b : Bool} {a0 : Nat} (hp : zLw p = true) (he : e ≤ 200) (hT : Typ st pt a0 e b τ) : ∀ (m f f0 k c : Nat) (S : List Int32) (σ : zM), k + m = e → m < f → m < f0 → a0 ≤ k → c ≤ k → tyS S (τ k) → stk (p + 7) σ S →
    (∀ j, j < e → zg σ (p + 5) j = st j) → (∀ j, j < e → zg σ (p + 6) j = pt j) → (∀ j, j < 10 → zg σ 13 j = le j) →
    ∃ σ', f_X3_reckon_L9 F p (fun y s => f_X3_reckon_j295 F p y s) (nI e) f (nI S.length) (nI k) (nI c) σ = some (ev st pt le e f0 k S, σ') ∧ Fx ([p + 7], []) σ σ' ∧ (b = true → ev st pt le e f0 k S = 0 ∨ ev st pt le e f0 k S = 1) := by
  have hp' := zLw_or hp
  intro m
  induction m using Nat.strongRecOn with
  | _ m ih =>
  intro f f0 k c S σ hk hf hf0 hak hck hty hst h5 h6 h13
  obtain ⟨f, rfl⟩ : ∃ f', f = f' + 1 := ⟨f - 1, by omega⟩
  obtain ⟨f0, rfl⟩ : ∃ f', f0 = f' + 1 := ⟨f0 - 1, by omega⟩
  have hfr : ∀ (j : Nat) (v : Int32), Fx ([p + 7], []) σ (zs σ (p + 7) j v) := fun j v => Fx.rf.zs (by simp [inm])
  have r5 : ∀ (q : Nat) (v : Int32) (j : Nat), j < e → zg (zs σ (p + 7) q v) (p + 5) j = st j := fun q v j hj => by rw [zg_ne (by omega)]; exact h5 j hj
  have r6 : ∀ (q : Nat) (v : Int32) (j : Nat), j < e → zg (zs σ (p + 7) q v) (p + 6) j = pt j := fun q v j hj => by rw [zg_ne (by omega)]; exact h6 j hj
  have r13 : ∀ (q : Nat) (v : Int32) (j : Nat), j < 10 → zg (zs σ (p + 7) q v) 13 j = le j := fun q v j hj => by rw [zg_ne (by omega)]; exact h13 j hj
  have hl := tyS_len S _ hty
  have hl39 := hT.2.2 k hak (by omega)
  by_cases hke : k < e
  · have hok := hT.2.1 k hak hke
    have q1 : nI c < (200 : Int32) := by rw [show (200 : Int32) = nI 200 from rfl, nI_ltI (by omega) (by omega)]; omega
    have q2 : ¬ nI k < 0 := nI_pos (by omega)
    have q3 : nI k < nI e := by rw [nI_ltI (by omega) (by omega)]; exact hke
    have q4 : nI k < (200 : Int32) := by rw [show (200 : Int32) = nI 200 from rfl, nI_ltI (by omega) (by omega)]; omega
    have q5 : zin (nI k) 200 = true := zin_n (by omega) (by omega)
    have q6 : (nI k).toNatClampNeg = k := nI_clamp (by omega)
    have q7 : nI k + 1 = nI (k + 1) := nI_1 k
    have q8 : nI c + 1 = nI (c + 1) := nI_1 c
    have q9 := h5 k hke
    have q10 := h6 k hke
    have t40 : nI S.length < (40 : Int32) := by rw [show (40 : Int32) = nI 40 from rfl, nI_ltI (by omega) (by omega)]; omega
    have tl : ∀ n : Nat, n ≤ S.length → ¬ nI S.length < nI n := fun n hn => by rw [nI_ltI (by omega) (by omega)]; omega
    have tl0 : ¬ nI S.length < 0 := tl 0 (by omega)
    have z0 : zin (nI S.length) 40 = true := zin_n (by omega) (by omega)
    have cl0 : (nI S.length).toNatClampNeg = S.length := nI_clamp (by omega)
    have p0 : nI S.length + 1 = nI (S.length + 1) := nI_1 _
    rcases hok with ⟨h1, ht⟩ | ⟨h1, ⟨x, hx, hpx⟩, ht⟩ | ⟨h1, r, ht1, ht2⟩ | ⟨h1, r, v, hpv, hkv, hve, ht1, ht2, ht3⟩ | ⟨h1, x, y, r, ht1, ht2⟩ | ⟨h1, x, y, r, ht1, ht2⟩
    · have hev : ev st pt le e (f0 + 1) k S = ev st pt le e f0 (k + 1) (pt k :: S) := by simp [ev, hke, h1]
      have hL : f_X3_reckon_L9 F p (fun y s => f_X3_reckon_j295 F p y s) (nI e) (f + 1) (nI S.length) (nI k) (nI c) σ = f_X3_reckon_L9 F p (fun y s => f_X3_reckon_j295 F p y s) (nI e) f (nI (S.length + 1)) (nI (k + 1)) (nI (c + 1)) (zs σ (p + 7) S.length (pt k)) := by
        simp [f_X3_reckon_L9, q1, q2, q3, q4, q5, q6, q7, q8, q9, q10, lt_eq, e_taken, bnd_some, h1, t40, tl0, z0, cl0, p0]
      rw [hev, hL]
      obtain ⟨σ', g1, g2, g3⟩ := ih (m - 1) (by omega) f f0 (k + 1) (c + 1) (pt k :: S) (zs σ (p + 7) S.length (pt k)) (by omega) (by omega) (by omega) (by omega) (by omega) (by rw [ht]; exact ⟨fun h => (by cases h), hty⟩) (stk_push hst) (r5 _ _) (r6 _ _) (r13 _ _)
      exact ⟨σ', g1, (hfr _ _).tr g2, g3⟩
    · have hx0 : ¬ nI x < 0 := nI_pos (by omega)
      have hx1 : nI x < (10 : Int32) := by rw [show (10 : Int32) = nI 10 from rfl, nI_ltI (by omega) (by omega)]; exact hx
      have hx2 : zin (nI x) 10 = true := zin_n (by omega) hx
      have hx3 : (nI x).toNatClampNeg = x := nI_clamp (by omega)
      have hev : ev st pt le e (f0 + 1) k S = ev st pt le e f0 (k + 1) (le x :: S) := by simp [ev, hke, h1, hpx, hx3]
      have hL : f_X3_reckon_L9 F p (fun y s => f_X3_reckon_j295 F p y s) (nI e) (f + 1) (nI S.length) (nI k) (nI c) σ = f_X3_reckon_L9 F p (fun y s => f_X3_reckon_j295 F p y s) (nI e) f (nI (S.length + 1)) (nI (k + 1)) (nI (c + 1)) (zs σ (p + 7) S.length (le x)) := by
        have : (Int32.ofNat 10) = (10 : Int32) := rfl
        simp [f_X3_reckon_L9, q1, q2, q3, q4, q5, q6, q7, q8, q9, q10, lt_eq, e_taken, bnd_some, h1, t40, tl0, z0, cl0, p0, hpx, hx0, hx1, hx2, hx3, h13 x hx]
      rw [hev, hL]
      obtain ⟨σ', g1, g2, g3⟩ := ih (m - 1) (by omega) f f0 (k + 1) (c + 1) (le x :: S) (zs σ (p + 7) S.length (le x)) (by omega) (by omega) (by omega) (by omega) (by omega) (by rw [ht]; exact ⟨fun h => (by cases h), hty⟩) (stk_push hst) (r5 _ _) (r6 _ _) (r13 _ _)
      exact ⟨σ', g1, (hfr _ _).tr g2, g3⟩
    · rw [ht1] at hty
      obtain ⟨x, S', rfl, hx, hty'⟩ := tyS_cons hty
      simp only [List.length_cons] at hl hl39 t40 tl tl0 ⊢
      have tl1 : ¬ nI (S'.length + 1) < 1 := tl 1 (by omega)
      have m1 : nI (S'.length + 1) - 1 = nI S'.length := nI_pred _
      have z1 : zin (nI S'.length) 40 = true := zin_n (by omega) (by omega)
      have cl1 : (nI S'.length).toNatClampNeg = S'.length := nI_clamp (by omega)
      have hs1 := hst.1
      have hev : ev st pt le e (f0 + 1) k (x :: S') = ev st pt le e f0 (k + 1) ((1 - x) :: S') := by simp [ev, hke, h1]
      have hL : f_X3_reckon_L9 F p (fun y s => f_X3_reckon_j295 F p y s) (nI e) (f + 1) (nI (S'.length + 1)) (nI k) (nI c) σ = f_X3_reckon_L9 F p (fun y s => f_X3_reckon_j295 F p y s) (nI e) f (nI (S'.length + 1)) (nI (k + 1)) (nI (c + 1)) (zs σ (p + 7) S'.length (1 - x)) := by
        simp [f_X3_reckon_L9, q1, q2, q3, q4, q5, q6, q7, q8, q9, q10, lt_eq, e_taken, bnd_some, h1, t40, tl1, m1, z1, cl1, hs1]
      rw [hev, hL]
      obtain ⟨σ', g1, g2, g3⟩ := ih (m - 1) (by omega) f f0 (k + 1) (c + 1) ((1 - x) :: S') (zs σ (p + 7) S'.length (1 - x)) (by omega) (by omega) (by omega) (by omega) (by omega) (by rw [ht2]; exact ⟨fun _ => by rcases hx rfl with rfl | rfl <;> decide, hty'⟩) (stk_push hst.2) (r5 _ _) (r6 _ _) (r13 _ _)
      exact ⟨σ', g1, (hfr _ _).tr g2, g3⟩
    · rw [ht1] at hty
      obtain ⟨x, S', rfl, hx, hty'⟩ := tyS_cons hty
      simp only [List.length_cons] at hl hl39 t40 tl tl0 ⊢
      have tl1 : ¬ nI (S'.length + 1) < 1 := tl 1 (by omega)
      have hmx : (if nI (k + 1) < nI v then nI v else nI (k + 1)) = nI v := by
        split
        · rfl
        · rename_i h; rw [nI_ltI (by omega) (by omega)] at h; rw [show v = k + 1 by omega]
      have go0 := ih (e - v) (by omega) f f0 v (c + 1) (x :: S') σ (by omega) (by omega) (by omega) (by omega) (by omega) (by rw [ht3]; exact hty) hst h5 h6 h13
      have go1 := ih (m - 1) (by omega) f f0 (k + 1) (c + 1) S' σ (by omega) (by omega) (by omega) (by omega) (by omega) (by rw [ht2]; exact hty') hst.2 h5 h6 h13
      simp only [List.length_cons] at go0
      have hv3 : (nI v).toNatClampNeg = v := nI_clamp (by omega)
      have hj : ∀ s : Int32, (s = 38 ∨ s = 124) → f_X3_reckon_j180 F p (f_X3_reckon_L9 F p (fun y s => f_X3_reckon_j295 F p y s) (nI e) f) (nI e) (nI (S'.length + 1)) (nI (k + 1)) (nI c) s (nI v) σ = (if (x = 0) = (s = 38) then f_X3_reckon_L9 F p (fun y s => f_X3_reckon_j295 F p y s) (nI e) f (nI (S'.length + 1)) (nI v) (nI (c + 1)) σ else f_X3_reckon_L9 F p (fun y s => f_X3_reckon_j295 F p y s) (nI e) f (nI S'.length) (nI (k + 1)) (nI (c + 1)) σ) := by
        intro s hs
        unfold f_X3_reckon_j180 f_X3_reckon_j197 f_X3_reckon_j209
        rw [show nI (S'.length + 1) - 1 = nI S'.length from nI_pred _, show nI (S'.length + 1) + (-1) = nI S'.length from pk_m1 _, if_pos (zin_n (by omega) (by omega)), nI_clamp (by omega), hst.1]
        simp only [lt_eq, nI_1, hmx]
        rcases hs with rfl | rfl <;> by_cases h0 : x = 0 <;> simp [h0]
      rcases h1 with h1 | h1
      · have hL : f_X3_reckon_L9 F p (fun y s => f_X3_reckon_j295 F p y s) (nI e) (f + 1) (nI (S'.length + 1)) (nI k) (nI c) σ = f_X3_reckon_j180 F p (f_X3_reckon_L9 F p (fun y s => f_X3_reckon_j295 F p y s) (nI e) f) (nI e) (nI (S'.length + 1)) (nI (k + 1)) (nI c) 38 (nI v) σ := by
          simp [f_X3_reckon_L9, q1, q2, q3, q4, q5, q6, q7, q9, q10, lt_eq, e_taken, bnd_some, h1, t40, tl1, hpv]
        rw [hL, hj 38 (Or.inl rfl)]
        by_cases h0 : x = 0
        · have hev : ev st pt le e (f0 + 1) k (x :: S') = ev st pt le e f0 v (x :: S') := by simp [ev, hke, h1, hpv, h0, hv3]
          rw [hev, if_pos (by simp [h0])]; exact go0
        · have hev : ev st pt le e (f0 + 1) k (x :: S') = ev st pt le e f0 (k + 1) S' := by simp [ev, hke, h1, h0]
          rw [hev, if_neg (by simp [h0])]; exact go1
      · have hL : f_X3_reckon_L9 F p (fun y s => f_X3_reckon_j295 F p y s) (nI e) (f + 1) (nI (S'.length + 1)) (nI k) (nI c) σ = f_X3_reckon_j180 F p (f_X3_reckon_L9 F p (fun y s => f_X3_reckon_j295 F p y s) (nI e) f) (nI e) (nI (S'.length + 1)) (nI (k + 1)) (nI c) 124 (nI v) σ := by
          simp [f_X3_reckon_L9, q1, q2, q3, q4, q5, q6, q7, q9, q10, lt_eq, e_taken, bnd_some, h1, t40, tl1, hpv]
        rw [hL, hj 124 (Or.inr rfl)]
        by_cases h0 : x = 0
        · have hev : ev st pt le e (f0 + 1) k (x :: S') = ev st pt le e f0 (k + 1) S' := by simp [ev, hke, h1, h0]
          rw [hev, if_neg (by simp [h0])]; exact go1
        · have hev : ev st pt le e (f0 + 1) k (x :: S') = ev st pt le e f0 v (x :: S') := by simp [ev, hke, h1, hpv, h0, hv3]
          rw [hev, if_pos (by simp [h0])]; exact go0
    all_goals
      rw [ht1] at hty
      obtain ⟨yv, S1, rfl, -, hty1⟩ := tyS_cons hty
      obtain ⟨xv, S', rfl, -, hty'⟩ := tyS_cons hty1
      simp only [List.length_cons] at hl hl39 t40 tl tl0 ⊢
      have tl2 : ¬ nI (S'.length + 1 + 1) < 2 := tl 2 (by omega)
      have hn : ¬ st k = 1 ∧ ¬ st k = 2 ∧ ¬ st k = 33 ∧ ¬ st k = 38 ∧ ¬ st k = 124 := by
        first
          | (rcases h1 with h | h | h | h | h <;> rw [h] <;> decide)
          | (rcases h1 with h | h | h <;> rw [h] <;> decide)
      obtain ⟨n1, n2, n33, n38, n124⟩ := hn
      have hac : isAr (st k) ∨ isCm (st k) := by first | exact Or.inl h1 | exact Or.inr h1
      have m1 : nI (S'.length + 1) - 1 = nI S'.length := nI_pred _
      have m2 : nI (S'.length + 1 + 1) + (-1) = nI (S'.length + 1) := pk_m1 _
      have z1 : zin (nI S'.length) 40 = true := zin_n (by omega) (by omega)
      have z2 : zin (nI (S'.length + 1)) 40 = true := zin_n (by omega) (by omega)
      have cl1 : (nI S'.length).toNatClampNeg = S'.length := nI_clamp (by omega)
      have cl2 : (nI (S'.length + 1)).toNatClampNeg = S'.length + 1 := nI_clamp (by omega)
      have hs1 : zg σ (p + 7) (S'.length + 1) = yv := hst.1
      have hs2 : zg σ (p + 7) S'.length = xv := hst.2.1
      have hL : f_X3_reckon_L9 F p (fun y s => f_X3_reckon_j295 F p y s) (nI e) (f + 1) (nI (S'.length + 1 + 1)) (nI k) (nI c) σ = if yv = 0 ∧ (st k = 47 ∨ st k = 37) then some (0, σ) else f_X3_reckon_j259 F p (f_X3_reckon_L9 F p (fun y s => f_X3_reckon_j295 F p y s) (nI e) f) (nI e) (nI (S'.length + 1)) (nI (k + 1)) (nI c) (st k) σ := by
        simp only [f_X3_reckon_L9, if_pos q1, if_neg q2, if_pos q3, if_pos q4, if_pos q5, q6, q7, q9, q10, lt_eq, e_taken, bnd_some, n1, n2, n33, n38, n124, or_self, if_false, if_pos t40, if_neg tl2, m2, if_pos z2, cl2, hs1]
        by_cases y0 : yv = 0 <;> by_cases h47 : st k = 47 <;> by_cases h37 : st k = 37 <;> simp [y0, h47, h37]
      have hc259 : ¬ (yv = 0 ∧ (st k = 47 ∨ st k = 37)) → f_X3_reckon_j259 F p (f_X3_reckon_L9 F p (fun y s => f_X3_reckon_j295 F p y s) (nI e) f) (nI e) (nI (S'.length + 1)) (nI (k + 1)) (nI c) (st k) σ = f_X3_reckon_L9 F p (fun y s => f_X3_reckon_j295 F p y s) (nI e) f (nI (S'.length + 1)) (nI (k + 1)) (nI (c + 1)) (zs σ (p + 7) S'.length (comb (st k) xv yv)) := by
        intro hz
        simp only [f_X3_reckon_j259, m1, if_pos z1, if_pos z2, cl1, cl2, hs1, hs2, e_combined σ hac hz, bnd_some, lt_eq, q8]
      rw [hL]
      by_cases hz : yv = 0 ∧ (st k = 47 ∨ st k = 37)
      · have hev : ev st pt le e (f0 + 1) k (yv :: xv :: S') = 0 := by simp [ev, hke, n1, n2, n33, n38, n124, hz]
        rw [hev, if_pos hz]
        exact ⟨σ, rfl, Fx.rf, fun _ => Or.inl rfl⟩
      · have hev : ev st pt le e (f0 + 1) k (yv :: xv :: S') = ev st pt le e f0 (k + 1) (comb (st k) xv yv :: S') := by simp [ev, hke, n1, n2, n33, n38, n124, hz]
        rw [hev, if_neg hz, hc259 hz]
        obtain ⟨σ', g1, g2, g3⟩ := ih (m - 1) (by omega) f f0 (k + 1) (c + 1) (comb (st k) xv yv :: S') (zs σ (p + 7) S'.length (comb (st k) xv yv)) (by omega) (by omega) (by omega) (by omega) (by omega) (by rw [ht2]; first | exact ⟨fun _ => comb_cm h1, hty'⟩ | exact ⟨fun h => (by cases h), hty'⟩) (stk_push hst.2.2) (r5 _ _) (r6 _ _) (r13 _ _)
        exact ⟨σ', g1, (hfr _ _).tr g2, g3⟩
  · have hke' : k = e := by omega
    subst hke'
    rw [hT.1] at hty
    obtain ⟨x, r, rfl, hx, hr⟩ := tyS_cons hty
    have hr0 : r = [] := by
      cases r with
      | nil => rfl
      | cons y t => exact hr.elim
    subst hr0
    have hev : ev st pt le k (f0 + 1) k [x] = x := by simp [ev]
    have hend : f_X3_reckon_j295 F p (nI 1) σ = some (x, σ) := by
      unfold f_X3_reckon_j295
      rw [if_pos (show nI 1 = (1 : Int32) from rfl), if_pos (show zin (0 : Int32) 40 = true by decide)]
      exact congrArg (fun z => some (z, σ)) hst.1
    have w1 : ¬ nI k < 0 := nI_pos (by omega)
    have w2 : ¬ nI k < nI k := by rw [nI_ltI (by omega) (by omega)]; omega
    rw [hev]
    refine ⟨σ, ?_, Fx.rf, fun hb => hx hb⟩
    simp only [List.length_cons, List.length_nil, Nat.zero_add, f_X3_reckon_L9, if_neg w1, if_neg w2, hend]
    split <;> rfl
