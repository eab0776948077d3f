/-! ===== told ones got up, told ones seated ===== -/
def lifA (tg : Nat → Nat) : Nat → zM → zM
  | 0, α => α
  | k + 1, α => plc (lifA tg k α) (tg k) (-1)
def seaA (tg pi : Nat → Nat) : Nat → zM → zM
  | 0, α => α
  | k + 1, α => plc (seaA tg pi k α) (tg k) (nI (pi k))
theorem lifA_fx (tg : Nat → Nat) (α : zM) : ∀ k, Fx ([6, 9], []) α (lifA tg k α) := by
  intro k
  induction k with
  | zero => exact Fx.rf
  | succ k ih => exact ih.tr (plc_fx _ _ _)
theorem seaA_fx (tg pi : Nat → Nat) (α : zM) : ∀ k, Fx ([6, 9], []) α (seaA tg pi k α) := by
  intro k
  induction k with
  | zero => exact Fx.rf
  | succ k ih => exact ih.tr (plc_fx _ _ _)
theorem lifA_6 {tg : Nat → Nat} {α : zM} : ∀ k g, ((∃ i, i < k ∧ g = tg i) → zg (lifA tg k α) 6 g = -1) ∧ ((∀ i, i < k → ¬ g = tg i) → zg (lifA tg k α) 6 g = zg α 6 g) := by
  intro k
  induction k with
  | zero => intro g; exact ⟨fun ⟨i, hi, _⟩ => by omega, fun _ => rfl⟩
  | succ k ih =>
    intro g
    rw [lifA, plc_6]
    refine ⟨fun ⟨i, hi, e⟩ => ?_, fun h => ?_⟩
    · by_cases q : g = tg k
      · rw [if_pos q]
      · rw [if_neg q]
        refine (ih g).1 ⟨i, ?_, e⟩
        by_cases qi : i = k
        · subst qi; exact absurd e q
        · omega
    · rw [if_neg (h k (by omega))]
      exact (ih g).2 (fun i hi => h i (by omega))
theorem seaA_6 {tg pi : Nat → Nat} {β : zM} {m : Nat} (hinj : ∀ i j, i < j → j < m → ¬ tg i = tg j) : ∀ k g, k ≤ m → ((∀ i, i < k → g = tg i → zg (seaA tg pi k β) 6 g = nI (pi i)) ∧ ((∀ i, i < k → ¬ g = tg i) → zg (seaA tg pi k β) 6 g = zg β 6 g)) := by
  intro k
  induction k with
  | zero => intro g _; exact ⟨fun i hi => by omega, fun _ => rfl⟩
  | succ k ih =>
    intro g hk
    rw [seaA, plc_6]
    refine ⟨fun i hi e => ?_, fun h => ?_⟩
    · by_cases q : i = k
      · subst q; rw [if_pos e]
      · rw [if_neg (fun w => hinj i k (by omega) (by omega) (by rw [← e, w]))]
        exact (ih g (by omega)).1 i (by omega) e
    · rw [if_neg (h k (by omega))]
      exact (ih g (by omega)).2 (fun i hi => h i (by omega))
theorem lifA_IG {n m : Nat} {tg : Nat → Nat} {α : zM} (hG : IG n α) (ht : ∀ i, i < m → tg i < n ∧ zg α 5 (tg i) = 1) : ∀ k, k ≤ m → IG n (lifA tg k α) := by
  intro k
  induction k with
  | zero => intro _; exact hG
  | succ k ih =>
    intro hk
    exact (ih (by omega)).plc (ht k (by omega)).1 ((lifA_fx tg α k 5 _ rfl).trans (ht k (by omega)).2) (Or.inl rfl)
def PiOK (n m : Nat) (pi : Nat → Nat) (β : zM) : Prop := (∀ i, i < m → pi i < 40 ∧ ∀ g, g < n → ¬ zg β 6 g = nI (pi i)) ∧ ∀ i j, i < m → j < m → pi i = pi j → i = j
theorem seaA_free {n m k : Nat} {tg pi : Nat → Nat} {β : zM} (hinj : ∀ i j, i < j → j < m → ¬ tg i = tg j) (hp : PiOK n m pi β) (hk : k < m) (hG : IG n (seaA tg pi k β)) : zg (seaA tg pi k β) 9 (pi k) = -1 := by
  obtain ⟨h40, hno⟩ := hp.1 k hk
  rcases hG.2.2.2.2.1 (pi k) h40 with h | ⟨g, hg, -, h6⟩
  · exact h
  · exfalso
    by_cases q : ∃ i, i < k ∧ g = tg i
    · obtain ⟨i, hi, e⟩ := q
      rw [(seaA_6 hinj k g (by omega)).1 i hi e, nI_eq (by have := (hp.1 i (by omega)).1; omega) (by omega)] at h6
      have := hp.2 i k (by omega) hk h6
      omega
    · rw [(seaA_6 hinj k g (by omega)).2 (fun i hi e => q ⟨i, hi, e⟩)] at h6
      exact hno g hg h6
theorem seaA_IG {n m : Nat} {tg pi : Nat → Nat} {β : zM} (hinj : ∀ i j, i < j → j < m → ¬ tg i = tg j) (hp : PiOK n m pi β) (hG : IG n β) (ht : ∀ i, i < m → tg i < n ∧ zg β 5 (tg i) = 1) : ∀ k, k ≤ m → IG n (seaA tg pi k β) := by
  intro k
  induction k with
  | zero => intro _; exact hG
  | succ k ih =>
    intro hk
    have hk' := ih (by omega)
    exact hk'.plc (ht k (by omega)).1 ((seaA_fx tg pi β k 5 _ rfl).trans (ht k (by omega)).2) (Or.inr ⟨pi k, (hp.1 k (by omega)).1, rfl, seaA_free hinj hp (by omega) hk'⟩)
/-! the sum then -/
theorem tv_add {α α' : zM} {p c n g s : Nat} (hL : sameL p c α α') (hg : g < n) (hs : s < 40) (h6 : zg α 6 g = -1) (h6' : zg α' 6 g = nI s) (ho : ∀ a, ¬ a = g → zg α' 6 a = zg α 6 a) : tv α' p c n 0 = tv α p c n 0 + cst α p c n g s 0 := by
  rw [tv_tri, tv_tri, tri_rm1 hg (qv_sym α' p c 0), cst_here h6' hs]
  have e1 : rmW (wv α' p c 0) g = wv α p c 0 := by
    funext a
    unfold rmW
    by_cases ha : a = g
    · rw [if_pos ha, ha]
      unfold wv
      rw [prs_no h6]; rfl
    · rw [if_neg ha]
      unfold wv
      rw [prs_eq (ho a ha), sN_eq (ho a ha), hL.1]
  have e2 : rmQ (qv α' p c 0) g = qv α p c 0 := by
    funext a b
    unfold rmQ qv
    by_cases ha : a = g
    · rw [if_pos (Or.inl ha), ha, prs_no h6]; simp
    · by_cases hb : b = g
      · rw [if_pos (Or.inr hb), hb, prs_no h6]; simp
      · rw [if_neg (by rintro (q | q); exact ha q; exact hb q), prs_eq (ho a ha), prs_eq (ho b hb), sN_eq (ho a ha), sN_eq (ho b hb), hL.2]
  have e3 : cst α' p c n g s 0 = cst α p c n g s 0 := by
    unfold cst
    rw [hL.1]
    congr 1
    refine rng_ext n 0 (fun h _ _ => ?_)
    unfold cq
    by_cases hh : h = g
    · rw [if_pos hh, if_pos hh]
    · rw [if_neg hh, if_neg hh, prs_eq (ho h hh), sN_eq (ho h hh), hL.2]
  rw [e1, e2, e3]
theorem cst_grow {α α' : zM} {p c n g s x y : Nat} (hL : sameL p c α α') (hx : x < n) (hy : y < 40) (hgx : ¬ x = g) (h6 : zg α 6 x = -1) (h6' : zg α' 6 x = nI y) (ho : ∀ a, ¬ a = x → zg α' 6 a = zg α 6 a) : cst α' p c n g s 0 = cst α p c n g s 0 + qrl α p c g s x y := by
  unfold cst
  rw [hL.1]
  have e : rng (cq α' p c g s 0) 0 n = rng (fun h => cq α p c g s 0 h + (if h = x then qrl α p c g s x y else 0)) 0 n := by
    refine rng_ext n 0 (fun h _ _ => ?_)
    unfold cq
    by_cases hh : h = x
    · subst hh
      rw [if_neg hgx, if_neg hgx, prs_nI h6' hy, prs_no h6, sN_n h6' hy, hL.2]
      simp
    · rw [if_neg hh]
      by_cases hg : h = g
      · rw [if_pos hg, if_pos hg]; simp
      · rw [if_neg hg, if_neg hg, prs_eq (ho h hh), sN_eq (ho h hh), hL.2]; simp
  rw [e, rng_add, rng_one (i := x) n 0 (by omega) (by omega) (fun k hk => if_neg hk), if_pos rfl]
  grind
def Told (W : Int32) (n m : Nat) (tg : Nat → Nat) : Prop := m ≤ 7 ∧ (∀ k, k < m → tg k < n ∧ bt W (tg k) = true) ∧ (∀ i j, i < j → j < m → tg i < tg j) ∧ ∀ g, g < n → bt W g = true → ∃ k, k < m ∧ g = tg k
theorem Told.inj {W : Int32} {n m : Nat} {tg : Nat → Nat} (h : Told W n m tg) : ∀ i j, i < j → j < m → ¬ tg i = tg j := fun i j h1 h2 e => by have := h.2.2.1 i j h1 h2; omega
theorem prs_lif {W : Int32} {n m : Nat} {tg : Nat → Nat} {α : zM} (hn : n ≤ 16) (h : Told W n m tg) {g : Nat} (hg : g < n) : prs (lifA tg m α) 0 g = prs α W g ∧ (prs α W g = true → zg (lifA tg m α) 6 g = zg α 6 g) := by
  by_cases q : bt W g = true
  · have h6 := (lifA_6 (α := α) m g).1 (h.2.2.2 g hg q)
    have e : prs α W g = false := by
      unfold prs
      rw [decide_eq_false (p := ((W >>> (nI g &&& 31)) &&& (1 : Int32)) = 0) (fun w => by rw [(b_ask0 W (show g < 32 by omega)).mp w] at q; cases q), Bool.and_false]
    rw [prs_no h6, e]
    exact ⟨rfl, fun w => by cases w⟩
  · have h6 := (lifA_6 (α := α) m g).2 (fun i hi e => q (by rw [e]; exact (h.2.1 i hi).2))
    have e : prs α W g = prs α 0 g := by
      rw [prs0]
      unfold prs
      rw [decide_eq_true ((b_ask0 W (show g < 32 by omega)).mpr (by simpa using q)), Bool.and_true]
    rw [prs_eq h6, e]
    exact ⟨rfl, fun _ => h6⟩
theorem tv_lif {W : Int32} {p c n m : Nat} {tg : Nat → Nat} {α : zM} (hn : n ≤ 16) (h : Told W n m tg) (hL : sameL p c α (lifA tg m α)) : tv (lifA tg m α) p c n 0 = tv α p c n W := by
  have ew : ∀ g, g < n → wv (lifA tg m α) p c 0 g = wv α p c W g := fun g hg => by
    obtain ⟨a, b⟩ := prs_lif (α := α) hn h hg
    unfold wv
    rw [a, hL.1]
    by_cases q : prs α W g = true
    · rw [if_pos q, if_pos q, sN_eq (b q)]
    · rw [if_neg q, if_neg q]
  have eq : ∀ g x, g < n → x < n → qv (lifA tg m α) p c 0 g x = qv α p c W g x := fun g x hg hx => by
    obtain ⟨a, b⟩ := prs_lif (α := α) hn h hg
    obtain ⟨a', b'⟩ := prs_lif (α := α) hn h hx
    unfold qv
    rw [a, a', hL.2]
    by_cases q : prs α W g = true ∧ prs α W x = true
    · rw [if_pos q, if_pos q, sN_eq (b q.1), sN_eq (b' q.2)]
    · rw [if_neg q, if_neg q]
  unfold tv
  refine rng_ext n 0 (fun g _ hg => ?_)
  rw [ew g (by omega), rng_ext (n - (g + 1)) (g + 1) (fun x h1 h2 => eq g x (by omega) (by omega))]
theorem cst_lif {W : Int32} {p c n m g s : Nat} {tg : Nat → Nat} {α : zM} (hn : n ≤ 16) (h : Told W n m tg) (hL : sameL p c α (lifA tg m α)) : cst (lifA tg m α) p c n g s 0 = cst α p c n g s W := by
  unfold cst
  rw [hL.1]
  congr 1
  refine rng_ext n 0 (fun x _ hx => ?_)
  obtain ⟨a, b⟩ := prs_lif (α := α) hn h (show x < n by omega)
  unfold cq
  rw [a, hL.2]
  by_cases hx : x = g
  · rw [if_pos hx, if_pos hx]
  · rw [if_neg hx, if_neg hx]
    by_cases q : prs α W x = true
    · rw [if_pos q, if_pos q, sN_eq (b q)]
    · rw [if_neg q, if_neg q]
/-! bounds -/
theorem rng_b {f : Nat → Int32} {lo hi : Int} (hlo : -100000 ≤ lo) (hhi : hi ≤ 100000) (hl0 : lo ≤ 0) (hh0 : 0 ≤ hi) : ∀ (m h : Nat), m ≤ 16 → (∀ k, h ≤ k → k < h + m → lo ≤ (f k).toInt ∧ (f k).toInt ≤ hi) → (m : Int) * lo ≤ (rng f h m).toInt ∧ (rng f h m).toInt ≤ (m : Int) * hi := by
  intro m
  induction m with
  | zero => intro h _ _; rw [rng]; simp
  | succ m ih =>
    intro h hm hb
    obtain ⟨a1, a2⟩ := ih (h + 1) (by omega) (fun k h1 h2 => hb k (by omega) (by omega))
    obtain ⟨b1, b2⟩ := hb h (by omega) (by omega)
    have e1 : ((m : Int) + 1) * lo = (m : Int) * lo + lo := by rw [Int.add_mul, Int.one_mul]
    have e2 : ((m : Int) + 1) * hi = (m : Int) * hi + hi := by rw [Int.add_mul, Int.one_mul]
    have m1 : (16 : Int) * lo ≤ (m : Int) * lo := Int.mul_le_mul_of_nonpos_right (by omega) hl0
    have m2 : (m : Int) * hi ≤ (16 : Int) * hi := Int.mul_le_mul_of_nonneg_right (by omega) hh0
    rw [rng, Int32.toInt_add, Int.bmod_eq_of_le (by omega) (by omega)]
    push_cast
    rw [e1, e2]
    omega
theorem tv_b {α : zM} {p c n : Nat} {W : Int32} (hn : n ≤ 16) : -100000 ≤ (tv α p c n W).toInt ∧ (tv α p c n W).toInt ≤ 100000 := by
  have hw : ∀ g, -99 ≤ (wv α p c W g).toInt ∧ (wv α p c W g).toInt ≤ 99 := by
    intro g
    unfold wv
    split
    · have h := amt_b (α := α) (p := p) (le := lett1 α g (sN α g)) (kind := 119) (lo := -99) (hi := 99) (by decide) (by decide) c 0
      rw [show ((-99 : Int32)).toInt = -99 from rfl, show ((99 : Int32)).toInt = 99 from rfl] at h
      rw [Int32.toInt_neg]
      unfold wrt
      rw [Int.bmod_eq_of_le (by omega) (by omega)]
      omega
    · decide
  have hq : ∀ g x, 0 ≤ (qv α p c W g x).toInt ∧ (qv α p c W g x).toInt ≤ 99 := by
    intro g x
    have hh : ∀ a b c' d, 0 ≤ (hrm α p c a b c' d).toInt ∧ (hrm α p c a b c' d).toInt ≤ 99 := by
      intro a b c' d
      obtain ⟨k, hk, e⟩ := hrm_n α p c a b c' d
      rw [e, nI_toInt (by omega)]; omega
    unfold qv qrl
    repeat' split
    all_goals first
      | exact hh _ _ _ _
      | decide
  unfold tv
  have inner : ∀ g, -99 ≤ (wv α p c W g + rng (qv α p c W g) (g + 1) (n - (g + 1))).toInt ∧ (wv α p c W g + rng (qv α p c W g) (g + 1) (n - (g + 1))).toInt ≤ 1700 := by
    intro g
    obtain ⟨a1, a2⟩ := rng_b (f := qv α p c W g) (lo := 0) (hi := 99) (by omega) (by omega) (by omega) (by omega) (n - (g + 1)) (g + 1) (by omega) (fun k _ _ => hq g k)
    obtain ⟨b1, b2⟩ := hw g
    have hle : ((n - (g + 1) : Nat) : Int) ≤ 16 := by omega
    rw [Int32.toInt_add, Int.bmod_eq_of_le (by omega) (by omega)]
    omega
  obtain ⟨a1, a2⟩ := rng_b (f := fun g => wv α p c W g + rng (qv α p c W g) (g + 1) (n - (g + 1))) (lo := -99) (hi := 1700) (by omega) (by omega) (by omega) (by omega) n 0 (by omega) (fun g _ _ => inner g)
  have hle : (n : Int) ≤ 16 := by omega
  omega
