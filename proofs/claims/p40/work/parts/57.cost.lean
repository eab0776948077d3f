/-! ===== what one costs at a seat ===== -/
def cq (α : zM) (p c : Nat) (g s : Nat) (W : Int32) (h : Nat) : Int32 := if h = g then 0 else if prs α W h = true then qrl α p c g s h (sN α h) else 0
def cst (α : zM) (p c n : Nat) (g s : Nat) (W : Int32) : Int32 := -(wrt α p c g s) + rng (cq α p c g s W) 0 n
theorem e_cost {F n p q c a g s : Nat} {W : Int32} {α σ : zM} (hF : 300 ≤ F) (hG : IG n α) (hW : IW p q c α) (hx : Fx mQ α σ) (hP : PM n p c a α σ) (hg : g < n) (hs : s < 40) : ∃ σ', f_X6_cost F (nI g) (nI s) W σ = some (cst α p c n g s W, σ') ∧ Fx mJ σ σ' ∧ PM n p c a α σ' := by
  have hn := hG.1
  have key : ∀ (m fu h : Nat) (acc : Int32) (σ : zM), h + m = n → m < fu → Fx mQ α σ → PM n p c a α σ → ∃ σ', f_X6_cost_L15 F (fun y16 s15 => some (y16, s15)) (nI g) (nI s) W fu acc (nI h) σ = some (acc + rng (cq α p c g s W) h m, σ') ∧ Fx mJ σ σ' ∧ PM n p c a α σ' := by
    intro m
    induction m with
    | zero =>
      intro fu h acc σ hh hfu hx hP
      obtain ⟨fu, rfl⟩ : ∃ f', fu = f' + 1 := ⟨fu - 1, by omega⟩
      refine ⟨σ, ?_, Fx.rf, hP⟩
      rw [f_X6_cost_L15, f_X0_number, bnd_some, hx 3 8 rfl, hG.2.1, if_neg (by rw [nI_ltI (by omega) (by omega)]; omega), rng]
      rw [show acc + 0 = acc by simp]
    | succ m ih =>
      intro fu h acc σ hh hfu hx hP
      obtain ⟨fu, rfl⟩ : ∃ f', fu = f' + 1 := ⟨fu - 1, by omega⟩
      have hGσ : IG n σ := hG.fx hx rfl
      have e6 : zg σ 6 h = zg α 6 h := hx 6 h rfl
      have skip : cq α p c g s W h = 0 → ∃ σ', f_X6_cost_L15 F (fun y16 s15 => some (y16, s15)) (nI g) (nI s) W fu acc (nI (h + 1)) σ = some (acc + (cq α p c g s W h + rng (cq α p c g s W) (h + 1) m), σ') ∧ Fx mJ σ σ' ∧ PM n p c a α σ' := by
        intro h0
        obtain ⟨σ', r1, r2, r3⟩ := ih fu (h + 1) acc σ (by omega) (by omega) hx hP
        exact ⟨σ', by rw [r1, h0]; congr 2; simp, r2, r3⟩
      rw [f_X6_cost_L15, f_X0_number, bnd_some, hx 3 8 rfl, hG.2.1, if_pos (by rw [nI_ltI (by omega) (by omega)]; omega), e_seatOf_n hn hGσ.2.1 (show h < n by omega), bnd_some, e6, rng]
      have eqg : (nI h = nI g) ↔ h = g := nI_eq (by omega) (by omega)
      rcases hG.seat (show h < n by omega) with h7 | ⟨t, ht, h7⟩
      · rw [if_pos h7, lt_eq, nI_1]
        exact skip (by unfold cq; rw [prs_no h7]; simp)
      · have n7 : ¬ zg α 6 h = -1 := by rw [h7]; exact nI_m1 (by omega)
        rw [if_neg n7]
        by_cases hgh : h = g
        · rw [if_pos (eqg.mpr hgh), lt_eq, nI_1]
          exact skip (by unfold cq; rw [if_pos hgh])
        rw [if_neg (fun q => hgh (eqg.mp q))]
        by_cases hb : ((W >>> (nI h &&& 31)) &&& (1 : Int32)) = 0
        · obtain ⟨σ1, k1, k2, k3⟩ := e_quarrel (F := F) hF hG hW hx hP hg (show h < n by omega) hs ht
          obtain ⟨σ', r1, r2, r3⟩ := ih fu (h + 1) (acc + qrl α p c g s h t) σ1 (by omega) (by omega) (hx.tr (k2.sub rfl)) k3
          refine ⟨σ', ?_, (k2.sub rfl).tr r2, r3⟩
          have : cq α p c g s W h = qrl α p c g s h t := by
            unfold cq
            rw [if_neg hgh, if_pos (by rw [prs_s n7]; simpa using hb), sN_n h7 ht]
          rw [if_pos hb, h7, k1, bnd_some, lt_eq, lt_eq, nI_1, r1, this]
          congr 2; grind
        · rw [if_neg hb, lt_eq, nI_1]
          exact skip (by unfold cq; rw [if_neg hgh, if_neg (fun q => by rw [prs_s n7] at q; exact hb (by simpa using q))])
  obtain ⟨σ1, k1, k2, k3⟩ := e_value (F := F) hF hG hW hx hP hg hs
  obtain ⟨σ', r1, r2, r3⟩ := key n F 0 (-(wrt α p c g s)) σ1 (by omega) (by omega) (hx.tr (k2.sub rfl)) k3
  refine ⟨σ', ?_, (k2.sub rfl).tr r2, r3⟩
  unfold f_X6_cost
  rw [k1, bnd_some, lt_eq]
  exact r1
/-! sums over all pairs -/
theorem rng_ext {f g : Nat → Int32} : ∀ m h, (∀ k, h ≤ k → k < h + m → f k = g k) → rng f h m = rng g h m := by
  intro m
  induction m with
  | zero => intro h _; rfl
  | succ m ih => intro h hk; rw [rng, rng, hk h (Nat.le_refl _) (by omega), ih (h + 1) (fun k h1 h2 => hk k (by omega) (by omega))]
theorem rng_add (f g : Nat → Int32) : ∀ m h, rng (fun k => f k + g k) h m = rng f h m + rng g h m := by
  intro m
  induction m with
  | zero => intro h; rfl
  | succ m ih => intro h; rw [rng, rng, rng, ih]; grind
theorem rng_zero : ∀ m h, rng (fun _ => 0) h m = 0 := by
  intro m
  induction m with
  | zero => intro h; rfl
  | succ m ih => intro h; rw [rng, ih]; rfl
theorem rng_one {f : Nat → Int32} {i : Nat} : ∀ m h, h ≤ i → i < h + m → (∀ k, ¬ k = i → f k = 0) → rng f h m = f i := by
  intro m
  induction m with
  | zero => intro h h1 h2; omega
  | succ m ih =>
    intro h h1 h2 h3
    rw [rng]
    by_cases q : h = i
    · subst q
      rw [rng_ext m (h + 1) (g := fun _ => 0) (fun k k1 k2 => h3 k (by omega)), rng_zero]; simp
    · rw [ih (h + 1) (by omega) (by omega) h3, h3 h q]; simp
theorem rng_split (f : Nat → Int32) : ∀ m h k, rng f h (m + k) = rng f h m + rng f (h + m) k := by
  intro m
  induction m with
  | zero => intro h k; rw [Nat.zero_add, rng, Nat.add_zero]; simp
  | succ m ih =>
    intro h k
    rw [show m + 1 + k = (m + k) + 1 by omega, rng, rng, ih, show h + 1 + m = h + (m + 1) by omega]
    grind
def tri (w : Nat → Int32) (q : Nat → Nat → Int32) (n : Nat) : Int32 := rng (fun g => w g + rng (q g) (g + 1) (n - (g + 1))) 0 n
/-- one taken away -/
theorem tri_rm {w w' : Nat → Int32} {q q' : Nat → Nat → Int32} {n i : Nat} (hi : i < n) (hsy : ∀ a b, q a b = q b a) (hw : ∀ a, ¬ a = i → w' a = w a) (hwi : w' i = 0) (hq : ∀ a b, ¬ a = i → ¬ b = i → q' a b = q a b) (hqi : ∀ a, q' i a = 0) (hqj : ∀ a, q' a i = 0) : tri w q n = tri w' q' n + (w i + rng (fun h => if h = i then 0 else q i h) 0 n) := by
  have row : ∀ a, a < n → w a + rng (q a) (a + 1) (n - (a + 1)) = (w' a + rng (q' a) (a + 1) (n - (a + 1))) + ((if a = i then w i + rng (q i) (i + 1) (n - (i + 1)) else 0) + (if a < i then q i a else 0)) := by
    intro a ha
    by_cases hai : a = i
    · subst hai
      rw [if_pos rfl, if_neg (by omega), hwi, rng_ext (n - (a + 1)) (a + 1) (f := q' a) (g := fun _ => 0) (fun k _ _ => hqi k), rng_zero]
      grind
    · rw [if_neg hai, hw a hai]
      by_cases hlt : a < i
      · rw [if_pos hlt]
        have e1 : rng (q a) (a + 1) (n - (a + 1)) = rng (q' a) (a + 1) (n - (a + 1)) + q i a := by
          have e2 : rng (fun k => if k = i then q i a else 0) (a + 1) (n - (a + 1)) = q i a := by
            rw [rng_one (i := i) (n - (a + 1)) (a + 1) (by omega) (by omega) (fun k hk => if_neg hk), if_pos rfl]
          rw [← e2, ← rng_add]
          refine rng_ext _ _ (fun k _ _ => ?_)
          by_cases hk : k = i
          · subst hk; rw [if_pos rfl, hqj, hsy]; simp
          · rw [if_neg hk, hq a k hai hk]; simp
        rw [e1]; grind
      · rw [if_neg hlt]
        have e1 : rng (q a) (a + 1) (n - (a + 1)) = rng (q' a) (a + 1) (n - (a + 1)) :=
          rng_ext _ _ (fun k k1 _ => (hq a k hai (by omega)).symm)
        rw [e1]; grind
  unfold tri
  rw [rng_ext n 0 (fun a _ ha => row a (by omega)), rng_add (fun a => w' a + rng (q' a) (a + 1) (n - (a + 1))) (fun a => (if a = i then w i + rng (q i) (i + 1) (n - (i + 1)) else 0) + (if a < i then q i a else 0)) n 0, rng_add (fun a => if a = i then w i + rng (q i) (i + 1) (n - (i + 1)) else 0) (fun a => if a < i then q i a else 0) n 0, rng_one (f := fun a => if a = i then w i + rng (q i) (i + 1) (n - (i + 1)) else 0) (i := i) n 0 (by omega) (by omega) (fun k hk => if_neg hk), if_pos rfl]
  have e3 : rng (fun h => if h = i then 0 else q i h) 0 n = rng (fun h => if h < i then q i h else 0) 0 n + rng (q i) (i + 1) (n - (i + 1)) := by
    have e4 : rng (fun h => if i < h then q i h else 0) 0 n = rng (q i) (i + 1) (n - (i + 1)) := by
      have := rng_split (fun h => if i < h then q i h else 0) (i + 1) 0 (n - (i + 1))
      rw [show i + 1 + (n - (i + 1)) = n by omega, Nat.zero_add] at this
      rw [this, rng_ext (i + 1) 0 (g := fun _ => 0) (fun k _ hk => if_neg (by omega)), rng_zero, rng_ext (n - (i + 1)) (i + 1) (fun k hk _ => if_pos (show i < k by omega))]
      simp
    rw [← e4, ← rng_add]
    refine rng_ext _ _ (fun k _ _ => ?_)
    by_cases h1 : k = i
    · rw [if_pos h1, if_neg (by omega), if_neg (by omega)]; simp
    · rw [if_neg h1]
      by_cases h2 : k < i
      · rw [if_pos h2, if_neg (by omega)]; simp
      · rw [if_neg h2, if_pos (by omega)]; simp
  rw [e3]; grind
