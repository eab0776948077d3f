/-! ===== the law's own loop ===== -/
theorem L18_ok {F D L : Nat} {xs : Nat → Int32} (hF : 6000 ≤ F) (hD : 40 ≤ D) (hL : L ≤ 3072) : ∀ (d fu i a : Nat) (σ : zM), i + d = L / 6 → d < fu → a ≤ i + 1 → RR a σ → ∃ σ', f_L_law_L18 F D xs L (fun s191 => some (1, s191)) fu (nI (6 * i)) σ = some (1, σ') := by
  intro d
  induction d with
  | zero =>
    intro fu i a σ hi hfu _ _
    obtain ⟨fu, rfl⟩ : ∃ f', fu = f' + 1 := ⟨fu - 1, by omega⟩
    refine ⟨σ, ?_⟩
    rw [f_L_law_L18, if_pos]
    rw [i_lt, nI_toInt (by omega), Int32.toInt_sub, nI_toInt (show L < 2 ^ 31 by omega), show (6 : Int32).toInt = 6 from rfl, Int.bmod_eq_of_le (by omega) (by omega)]
    omega
  | succ d ih =>
    intro fu i a σ hi hfu hai hR
    obtain ⟨fu, rfl⟩ : ∃ f', fu = f' + 1 := ⟨fu - 1, by omega⟩
    have hin : 6 * i + 6 ≤ L := by omega
    have ha : a < 1000 := by omega
    have z : ∀ c, c < 6 → zin (nI (6 * i + c)) L = true := fun c hc => zin_n (by omega) (by omega)
    have z0 : zin (nI (6 * i)) L = true := z 0 (by omega)
    have z1 : zin (nI (6 * i) + (1 : Int32)) L = true := by rw [nI_1]; exact z 1 (by omega)
    have z2 : zin (nI (6 * i) + (2 : Int32)) L = true := by rw [show (2 : Int32) = nI 2 from rfl, nI_add]; exact z 2 (by omega)
    have z3 : zin (nI (6 * i) + (3 : Int32)) L = true := by rw [show (3 : Int32) = nI 3 from rfl, nI_add]; exact z 3 (by omega)
    have z4 : zin (nI (6 * i) + (4 : Int32)) L = true := by rw [show (4 : Int32) = nI 4 from rfl, nI_add]; exact z 4 (by omega)
    have z5 : zin (nI (6 * i) + (5 : Int32)) L = true := by rw [show (5 : Int32) = nI 5 from rfl, nI_add]; exact z 5 (by omega)
    have e6 : nI (6 * i) + (6 : Int32) = nI (6 * (i + 1)) := by rw [show (6 : Int32) = nI 6 from rfl, nI_add]; rfl
    have hnl : ¬ nI L - (6 : Int32) < nI (6 * i) := by
      rw [i_lt, nI_toInt (by omega), Int32.toInt_sub, nI_toInt (show L < 2 ^ 31 by omega), show (6 : Int32).toInt = 6 from rfl, Int.bmod_eq_of_le (by omega) (by omega)]
      omega
    have go : ∀ a' σ2, a' ≤ a + 1 → RR a' σ2 → ∃ σ', f_L_law_L18 F D xs L (fun s191 => some (1, s191)) fu (nI (6 * (i + 1))) σ2 = some (1, σ') := fun a' σ2 h1 h2 => ih fu (i + 1) a' σ2 (by omega) (by omega) (by omega) h2
    rw [f_L_law_L18, if_neg hnl, if_pos z0]
    generalize xs (nI (6 * i)).toNatClampNeg &&& (63 : Int32) = W
    generalize xs (nI (6 * i) + (1 : Int32)).toNatClampNeg = x1
    generalize xs (nI (6 * i) + (2 : Int32)).toNatClampNeg = x2
    generalize xs (nI (6 * i) + (3 : Int32)).toNatClampNeg = x3
    generalize xs (nI (6 * i) + (4 : Int32)).toNatClampNeg = x4
    generalize xs (nI (6 * i) + (5 : Int32)).toNatClampNeg = x5
    by_cases c : W = (0 : Int32)
    · obtain ⟨r, σ1, σ2, h1, h2, a', h3, h4⟩ := op_guest (F := F) (by omega) x1 x2 a σ ha hR
      rw [if_pos c, if_pos z1, if_pos z2, h1, bnd_some, if_pos z1, if_pos z2, h2, bnd_some, if_pos rfl, lt_eq, e6]
      exact go a' σ2 h3 h4
    rw [if_neg c]
    clear c
    by_cases c : W = (1 : Int32)
    · obtain ⟨r, σ1, σ2, h1, h2, a', h3, h4⟩ := op_liking  x1 x2 x3 a σ ha hR
      rw [if_pos c, if_pos z1, if_pos z2, if_pos z3, h1, bnd_some, if_pos z1, if_pos z2, if_pos z3, h2, bnd_some, if_pos rfl, lt_eq, e6]
      exact go a' σ2 h3 h4
    rw [if_neg c]
    clear c
    by_cases c : W = (2 : Int32)
    · obtain ⟨r, σ1, σ2, h1, h2, a', h3, h4⟩ := op_sit (F := F) (by omega) x1 x2 a σ ha hR
      rw [if_pos c, if_pos z1, if_pos z2, h1, bnd_some, if_pos z1, if_pos z2, h2, bnd_some, if_pos rfl, lt_eq, e6]
      exact go a' σ2 h3 h4
    rw [if_neg c]
    clear c
    by_cases c : W = (3 : Int32)
    · obtain ⟨r, σ1, σ2, h1, h2, a', h3, h4⟩ := op_feed (F := F) (by omega) x1 x2 x3 x4 x5 a σ ha hR
      rw [if_pos c, if_pos z1, if_pos z2, if_pos z3, if_pos z4, if_pos z5, h1, bnd_some, if_pos z1, if_pos z2, if_pos z3, if_pos z4, if_pos z5, h2, bnd_some, if_pos rfl, lt_eq, e6]
      exact go a' σ2 h3 h4
    rw [if_neg c]
    clear c
    by_cases c : W = (4 : Int32)
    · obtain ⟨r, σ1, σ2, h1, h2, a', h3, h4⟩ := op_law (F := F) (D := D) (by omega) (by omega) x1 a σ ha hR
      rw [if_pos c, if_pos z1, h1, bnd_some, if_pos z1, h2, bnd_some, if_pos rfl, lt_eq, e6]
      exact go a' σ2 h3 h4
    rw [if_neg c]
    clear c
    by_cases c : W = (5 : Int32)
    · obtain ⟨r, σ1, σ2, h1, h2, a', h3, h4⟩ := op_two (F := F) (by omega) x1 x2 x3 a σ ha hR
      rw [if_pos c, if_pos z1, if_pos z2, if_pos z3, h1, bnd_some, if_pos z1, if_pos z2, if_pos z3, h2, bnd_some, if_pos rfl, lt_eq, e6]
      exact go a' σ2 h3 h4
    rw [if_neg c]
    clear c
    by_cases c : W = (6 : Int32)
    · obtain ⟨r, σ1, σ2, h1, h2, a', h3, h4⟩ := op_worth (F := F) (by omega) x1 x2 a σ ha hR
      rw [if_pos c, if_pos z1, if_pos z2, h1, bnd_some, if_pos z1, if_pos z2, h2, bnd_some, if_pos rfl, lt_eq, e6]
      exact go a' σ2 h3 h4
    rw [if_neg c]
    clear c
    by_cases c : W = (7 : Int32)
    · obtain ⟨r, σ1, σ2, h1, h2, a', h3, h4⟩ := op_rain  x1 x2 x3 a σ ha hR
      rw [if_pos c, if_pos z1, if_pos z2, if_pos z3, h1, bnd_some, if_pos z1, if_pos z2, if_pos z3, h2, bnd_some, if_pos rfl, lt_eq, e6]
      exact go a' σ2 h3 h4
    rw [if_neg c]
    clear c
    by_cases c : W = (8 : Int32)
    · obtain ⟨r, σ1, σ2, h1, h2, a', h3, h4⟩ := op_soonest (F := F) (by omega) x1 x2 x3 a σ ha hR
      rw [if_pos c, if_pos z1, if_pos z2, if_pos z3, h1, bnd_some, if_pos z1, if_pos z2, if_pos z3, h2, bnd_some, if_pos rfl, lt_eq, e6]
      exact go a' σ2 h3 h4
    rw [if_neg c]
    clear c
    by_cases c : W = (9 : Int32)
    · obtain ⟨r, σ1, σ2, h1, h2, a', h3, h4⟩ := op_rumour (F := F) (by omega) x1 x2 x3 a σ ha hR
      rw [if_pos c, if_pos z1, if_pos z2, if_pos z3, h1, bnd_some, if_pos z1, if_pos z2, if_pos z3, h2, bnd_some, if_pos rfl, lt_eq, e6]
      exact go a' σ2 h3 h4
    rw [if_neg c]
    clear c
    by_cases c : W = (10 : Int32)
    · obtain ⟨r, σ1, σ2, h1, h2, a', h3, h4⟩ := op_speech  x1 x2 x3 a σ ha hR
      rw [if_pos c, if_pos z1, if_pos z2, if_pos z3, h1, bnd_some, if_pos z1, if_pos z2, if_pos z3, h2, bnd_some, if_pos rfl, lt_eq, e6]
      exact go a' σ2 h3 h4
    rw [if_neg c]
    clear c
    by_cases c : W = (11 : Int32)
    · obtain ⟨r, σ1, σ2, h1, h2, a', h3, h4⟩ := op_heard (F := F) (by omega) x1 x2 a σ ha hR
      rw [if_pos c, if_pos z1, if_pos z2, h1, bnd_some, if_pos z1, if_pos z2, h2, bnd_some, if_pos rfl, lt_eq, e6]
      exact go a' σ2 h3 h4
    rw [if_neg c]
    clear c
    by_cases c : W = (12 : Int32)
    · obtain ⟨r, σ1, σ2, h1, h2, a', h3, h4⟩ := op_smuggled (F := F) (D := D) (by omega) (by omega) x1 x2 x3 a σ ha hR
      rw [if_pos c, if_pos z1, if_pos z2, if_pos z3, h1, bnd_some, if_pos z1, if_pos z2, if_pos z3, h2, bnd_some, if_pos (lg_0.mpr rfl), lt_eq, e6]
      exact go a' σ2 h3 h4
    rw [if_neg c]
    clear c
    by_cases c : W = (13 : Int32)
    · obtain ⟨r, σ1, σ2, h1, h2, a', h3, h4⟩ := op_sum (F := F) (by omega) a σ ha hR
      rw [if_pos c, h1, bnd_some, h2, bnd_some, if_pos rfl, lt_eq, e6]
      exact go a' σ2 h3 h4
    rw [if_neg c]
    clear c
    by_cases c : W = (14 : Int32)
    · obtain ⟨r, σ1, σ2, h1, h2, a', h3, h4⟩ := op_seating (F := F) (D := D) (by omega) (by omega) x1 x2 x3 a σ ha hR
      rw [if_pos c, if_pos z1, if_pos z2, if_pos z3, h1, bnd_some, if_pos z1, if_pos z2, if_pos z3, h2, bnd_some, if_pos rfl, lt_eq, e6]
      exact go a' σ2 h3 h4
    rw [if_neg c]
    clear c
    by_cases c : W = (15 : Int32)
    · obtain ⟨r, σ1, σ2, h1, h2, a', h3, h4⟩ := op_exchange (F := F) (by omega) x1 a σ ha hR
      rw [if_pos c, if_pos z1, h1, bnd_some, if_pos z1, h2, bnd_some, if_pos rfl, lt_eq, e6]
      exact go a' σ2 h3 h4
    rw [if_neg c]
    clear c
    by_cases c : W = (16 : Int32)
    · obtain ⟨r, σ1, σ2, h1, h2, a', h3, h4⟩ := op_exchanges (F := F) (by omega) a σ ha hR
      rw [if_pos c, h1, bnd_some, h2, bnd_some, if_pos rfl, lt_eq, e6]
      exact go a' σ2 h3 h4
    rw [if_neg c]
    clear c
    by_cases c : W = (17 : Int32)
    · obtain ⟨r, σ1, σ2, h1, h2, a', h3, h4⟩ := op_strays (F := F) (by omega) a σ ha hR
      rw [if_pos c, h1, bnd_some, h2, bnd_some, if_pos rfl, lt_eq, e6]
      exact go a' σ2 h3 h4
    rw [if_neg c]
    clear c
    by_cases c : W = (18 : Int32)
    · obtain ⟨r, σ1, σ2, h1, h2, a', h3, h4⟩ := op_home (F := F) (by omega) a σ ha hR
      rw [if_pos c, h1, bnd_some, h2, bnd_some, if_pos rfl, lt_eq, e6]
      exact go a' σ2 h3 h4
    rw [if_neg c]
    clear c
    by_cases c : W = (19 : Int32)
    · obtain ⟨r, σ1, σ2, h1, h2, a', h3, h4⟩ := op_heir  x1 x2 a σ ha hR
      rw [if_pos c, if_pos z1, if_pos z2, h1, bnd_some, if_pos z1, if_pos z2, h2, bnd_some, if_pos rfl, lt_eq, e6]
      exact go a' σ2 h3 h4
    rw [if_neg c]
    clear c
    by_cases c : W = (20 : Int32)
    · obtain ⟨r, σ1, σ2, h1, h2, a', h3, h4⟩ := op_dies (F := F) (by omega) x1 a σ ha hR
      rw [if_pos c, if_pos z1, h1, bnd_some, if_pos z1, h2, bnd_some, if_pos rfl, lt_eq, e6]
      exact go a' σ2 h3 h4
    rw [if_neg c]
    clear c
    by_cases c : W = (21 : Int32)
    · obtain ⟨r, σ1, σ2, h1, h2, a', h3, h4⟩ := op_knives  x1 x2 a σ ha hR
      rw [if_pos c, if_pos z1, if_pos z2, h1, bnd_some, if_pos z1, if_pos z2, h2, bnd_some, if_pos rfl, lt_eq, e6]
      exact go a' σ2 h3 h4
    rw [if_neg c]
    clear c
    by_cases c : W = (22 : Int32)
    · obtain ⟨r, σ1, σ2, h1, h2, a', h3, h4⟩ := op_put  x1 x2 x3 a σ ha hR
      rw [if_pos c, if_pos z1, if_pos z2, if_pos z3, h1, bnd_some, if_pos z1, if_pos z2, if_pos z3, h2, bnd_some, if_pos rfl, lt_eq, e6]
      exact go a' σ2 h3 h4
    rw [if_neg c]
    clear c
    by_cases c : W = (23 : Int32)
    · obtain ⟨r, σ1, σ2, h1, h2, a', h3, h4⟩ := op_counted  x1 x2 x3 x4 a σ ha hR
      rw [if_pos c, if_pos z1, if_pos z2, if_pos z3, if_pos z4, h1, bnd_some, if_pos z1, if_pos z2, if_pos z3, if_pos z4, h2, bnd_some, if_pos rfl, lt_eq, e6]
      exact go a' σ2 h3 h4
    rw [if_neg c]
    clear c
    by_cases c : W = (24 : Int32)
    · obtain ⟨r, σ1, σ2, h1, h2, a', h3, h4⟩ := op_missing (F := F) (by omega) x1 a σ ha hR
      rw [if_pos c, if_pos z1, h1, bnd_some, if_pos z1, h2, bnd_some, if_pos rfl, lt_eq, e6]
      exact go a' σ2 h3 h4
    rw [if_neg c]
    clear c
    by_cases c : W = (25 : Int32)
    · obtain ⟨r, σ1, σ2, h1, h2, a', h3, h4⟩ := op_wrong (F := F) (by omega) a σ ha hR
      rw [if_pos c, h1, bnd_some, h2, bnd_some, if_pos rfl, lt_eq, e6]
      exact go a' σ2 h3 h4
    rw [if_neg c]
    clear c
    by_cases c : W = (26 : Int32)
    · obtain ⟨r, σ1, σ2, h1, h2, a', h3, h4⟩ := op_gives  x1 x2 a σ ha hR
      rw [if_pos c, if_pos z1, if_pos z2, h1, bnd_some, if_pos z1, if_pos z2, h2, bnd_some, if_pos rfl, lt_eq, e6]
      exact go a' σ2 h3 h4
    rw [if_neg c]
    clear c
    by_cases c : W = (27 : Int32)
    · obtain ⟨r, σ1, σ2, h1, h2, a', h3, h4⟩ := op_passes (F := F) (by omega) x1 x2 x3 a σ ha hR
      rw [if_pos c, if_pos z1, if_pos z2, if_pos z3, h1, bnd_some, if_pos z1, if_pos z2, if_pos z3, h2, bnd_some, if_pos rfl, lt_eq, e6]
      exact go a' σ2 h3 h4
    rw [if_neg c]
    clear c
    by_cases c : W = (28 : Int32)
    · obtain ⟨r, σ1, σ2, h1, h2, a', h3, h4⟩ := op_eats  x1 x2 a σ ha hR
      rw [if_pos c, if_pos z1, if_pos z2, h1, bnd_some, if_pos z1, if_pos z2, h2, bnd_some, if_pos rfl, lt_eq, e6]
      exact go a' σ2 h3 h4
    rw [if_neg c]
    clear c
    by_cases c : W = (29 : Int32)
    · obtain ⟨r, σ1, σ2, h1, h2, a', h3, h4⟩ := op_fed  x1 x2 a σ ha hR
      rw [if_pos c, if_pos z1, if_pos z2, h1, bnd_some, if_pos z1, if_pos z2, h2, bnd_some, if_pos rfl, lt_eq, e6]
      exact go a' σ2 h3 h4
    rw [if_neg c]
    clear c
    by_cases c : W = (30 : Int32)
    · obtain ⟨r, σ1, σ2, h1, h2, a', h3, h4⟩ := op_led (F := F) (by omega) x1 x2 a σ ha hR
      rw [if_pos c, if_pos z1, if_pos z2, h1, bnd_some, if_pos z1, if_pos z2, h2, bnd_some, if_pos rfl, lt_eq, e6]
      exact go a' σ2 h3 h4
    rw [if_neg c]
    clear c
    by_cases c : W = (31 : Int32)
    · obtain ⟨r, σ1, σ2, h1, h2, a', h3, h4⟩ := op_seed  x1 a σ ha hR
      rw [if_pos c, if_pos z1, h1, bnd_some, if_pos z1, h2, bnd_some, if_pos rfl, lt_eq, e6]
      exact go a' σ2 h3 h4
    rw [if_neg c]
    clear c
    by_cases c : W = (32 : Int32)
    · obtain ⟨r, σ1, σ2, h1, h2, a', h3, h4⟩ := op_draw (F := F) (by omega) x1 a σ ha hR
      rw [if_pos c, if_pos z1, h1, bnd_some, if_pos z1, h2, bnd_some, if_pos rfl, lt_eq, e6]
      exact go a' σ2 h3 h4
    rw [if_neg c]
    clear c
    by_cases c : W = (33 : Int32)
    · obtain ⟨r, σ1, σ2, h1, h2, a', h3, h4⟩ := op_keep (F := F) (by omega) a σ ha hR
      rw [if_pos c, h1, bnd_some, h2, bnd_some, if_pos rfl, lt_eq, e6]
      exact go a' σ2 h3 h4
    rw [if_neg c]
    clear c
    by_cases c : W = (34 : Int32)
    · obtain ⟨r, σ1, σ2, h1, h2, a', h3, h4⟩ := op_undo (F := F) (by omega) a σ ha hR
      rw [if_pos c, h1, bnd_some, h2, bnd_some, if_pos rfl, lt_eq, e6]
      exact go a' σ2 h3 h4
    rw [if_neg c]
    clear c
    by_cases c : W = (35 : Int32)
    · obtain ⟨r, σ1, σ2, h1, h2, a', h3, h4⟩ := op_check (F := F) (by omega) x1 x2 a σ ha hR
      rw [if_pos c, if_pos z1, if_pos z2, h1, bnd_some, if_pos z1, if_pos z2, h2, bnd_some, if_pos rfl, lt_eq, e6]
      exact go a' σ2 h3 h4
    rw [if_neg c]
    clear c
    by_cases c : W = (36 : Int32)
    · obtain ⟨r, σ1, σ2, h1, h2, a', h3, h4⟩ := op_count  x1 a σ ha hR
      rw [if_pos c, if_pos z1, h1, bnd_some, if_pos z1, h2, bnd_some, if_pos rfl, lt_eq, e6]
      exact go a' σ2 h3 h4
    rw [if_neg c]
    clear c
    rw [lt_eq, e6]
    exact go a σ (by omega) hR
/-- on every script the law's text comes to 1 -/
theorem pure_law (xs : Nat → Int32) (L : Nat) (hL : L ≤ 3072) : ∃ (F D : Nat) (σ' : zM), D ≤ 64 ∧ f_L_law F D xs L (fun _ _ => 0, fun _ => 0) = some (1, σ') := by
  obtain ⟨τ1, τ2, a1, a2, a3⟩ := RR_0 (F := 6000) (by omega)
  obtain ⟨σ', h⟩ := L18_ok (F := 6000) (D := 40) (xs := xs) (Nat.le_refl _) (Nat.le_refl _) hL (L / 6) 6000 0 1 τ2 (by omega) (by omega) (by omega) a3
  refine ⟨6000, 40, σ', by omega, ?_⟩
  unfold f_L_law
  rw [lt_eq, a1, bnd_some, lt_eq, a2, bnd_some]
  exact h
