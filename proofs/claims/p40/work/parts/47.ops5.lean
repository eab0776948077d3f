/-! ===== ops: missing, put, strays, home, heard ===== -/
def knI (α : zM) (d : Nat) : Nat → Nat → Int32 → Int32
  | 0, _, acc => acc
  | m + 1, p, acc => knI α d m (p + 1) (acc + zg α 52 (2 * p + d))
theorem s_2pd {p d : Nat} : (2 : Int32) * nI p + nI d = nI (2 * p + d) := by
  rw [show (2 : Int32) = nI 2 from rfl, pk_mul, nI_add]
theorem e_between {F d f t kc : Nat} {σ : zM} (hF : 22 ≤ F) (hK : IK kc σ) (hd : d < 2) (hft : f ≤ t) (ht : t < 20) : f_X2_between F (nI d) (nI f) (nI t) σ = some (knI σ d (t + 1 - f) f 0, σ) := by
  have key : ∀ (m fu p : Nat) (acc : Int32), p + m = t + 1 → m < fu → f_X2_between_L6 F (fun y6 s5 => some (y6, s5)) (nI d) (nI t) fu acc (nI p) σ = some (knI σ d m p acc, σ) := by
    intro m
    induction m with
    | zero =>
      intro fu p acc hp hfu
      obtain ⟨fu, rfl⟩ : ∃ f', fu = f' + 1 := ⟨fu - 1, by omega⟩
      rw [f_X2_between_L6, if_pos (by rw [nI_ltI (by omega) (by omega)]; omega)]; rfl
    | succ m ih =>
      intro fu p acc hp hfu
      obtain ⟨fu, rfl⟩ : ∃ f', fu = f' + 1 := ⟨fu - 1, by omega⟩
      obtain ⟨y, hy, he⟩ := hK.2.2.1 (2 * p + d) (by omega)
      have hA : f_X2_at (nI (2 * p + d)) σ = some (zg σ 52 (2 * p + d), σ) := by
        unfold f_X2_at
        rw [e_isSeat_n (by omega), bnd_some, if_neg b1n, if_pos (zin_n (by omega) (by omega)), nI_clamp (by omega)]
      have hm : (if (0 : Int32) < zg σ 52 (2 * p + d) then zg σ 52 (2 * p + d) else (0 : Int32)) = zg σ 52 (2 * p + d) := by
        rw [he]
        have h00 : ((0 : Int32) < nI y) ↔ 0 < y := nI_ltI (a := 0) (by omega) (by omega)
        by_cases h0 : 0 < y
        · rw [if_pos (h00.mpr h0)]
        · rw [if_neg (fun q => h0 (h00.mp q)), show y = 0 by omega]; rfl
      rw [f_X2_between_L6, if_neg (by rw [nI_ltI (by omega) (by omega)]; omega), s_2pd, hA, bnd_some, hm, lt_eq, lt_eq, nI_1, knI]
      exact ih fu (p + 1) _ (by omega) (by omega)
  unfold f_X2_between
  exact key (t + 1 - f) F f 0 (by omega) (by omega)
theorem e_knivesFrom {F d f t kc : Nat} {α σ : zM} (hF : 22 ≤ F) (hB : BK kc α σ) (hd : d < 2) (hft : f ≤ t) (ht : t < 20) : f_X12_knivesFrom F (nI d) (nI f) (nI t) σ = some (knI α d (t + 1 - f) f 0, σ) := by
  have key : ∀ (m fu p : Nat) (acc : Int32), p + m = t + 1 → m < fu → f_X12_knivesFrom_L6 F (fun y4 s3 => some (y4, s3)) (nI d) (nI t) fu acc (nI p) σ = some (knI α d m p acc, σ) := by
    intro m
    induction m with
    | zero =>
      intro fu p acc hp hfu
      obtain ⟨fu, rfl⟩ : ∃ f', fu = f' + 1 := ⟨fu - 1, by omega⟩
      rw [f_X12_knivesFrom_L6, if_pos (by rw [nI_ltI (by omega) (by omega)]; omega)]; rfl
    | succ m ih =>
      intro fu p acc hp hfu
      obtain ⟨fu, rfl⟩ : ∃ f', fu = f' + 1 := ⟨fu - 1, by omega⟩
      rw [f_X12_knivesFrom_L6, if_neg (by rw [nI_ltI (by omega) (by omega)]; omega), s_2pd, if_pos (zin_n (by omega) (by omega)), lt_eq, lt_eq, nI_1, nI_clamp (by omega), hB.2.1 _ (by omega), knI]
      exact ih fu (p + 1) _ (by omega) (by omega)
  unfold f_X12_knivesFrom
  exact key (t + 1 - f) F f 0 (by omega) (by omega)
theorem e_hasCount {kc : Nat} {σ : zM} (hK : IK kc σ) (v : Int32) : f_X2_hasCount v σ = some (if gd kc v then 1 else 0, σ) := by
  obtain ⟨h1, h2, -⟩ := hK
  unfold f_X2_hasCount
  simp only [h2, i_lt, nI_toInt (show kc < 2 ^ 31 by omega)]
  have : (20 : Int32).toInt = 20 := rfl
  have : (0 : Int32).toInt = 0 := rfl
  repeat' split
  all_goals first | rfl | (exfalso; simp [gd] at *; omega)
theorem op_missing {F : Nat} (hF : 22 ≤ F) (v : Int32) : OP (f_X11_missing F v) (f_X12_missing F v) := by
  intro a σ ha ⟨n, t, r, p, kc, x, ko, pl, ql, cl, ⟨hG, hH, hT, hN, hK, hD, hX, hW⟩, ⟨bG, bH, bL, bT, bN, bK, bP, bD, bX, bW⟩, hP⟩
  by_cases hc : gd kc v
  · have k1 := hK.1
    obtain ⟨i, hi, rfl, ci⟩ := nI_of' hc (by omega)
    have z : zin (nI i) 20 = true := zin_n (by omega) (by omega)
    obtain ⟨hd, f, e, y, hfe, he, hy, h55, h56, h57⟩ := hK.2.2.2 i hi
    obtain ⟨c1, c2, c3⟩ := bK.2.2 i hi
    have bK' := bK.1
    obtain ⟨d, hd2, h54⟩ : ∃ d, d < 2 ∧ zg σ 54 i = nI d := by
      rcases hd with h | h
      · exact ⟨0, by omega, h⟩
      · exact ⟨1, by omega, h⟩
    refine OP.no ⟨n, t, r, p, kc, x, ko, pl, ql, cl, ⟨hG, hH, hT, hN, hK, hD, hX, hW⟩, ⟨bG, bH, bL, bT, bN, bK, bP, bD, bX, bW⟩, hP⟩ (knI σ d (e + 1 - f) f 0 - nI y) ?_ ?_
    · unfold f_X11_missing f_X2_moreThanSaid
      rw [e_hasCount hK, if_pos hc, bnd_some, if_neg b1n, e_hasCount hK, if_pos hc, bnd_some, if_neg b1n]
      simp only [if_pos z, ci]
      rw [h54, h55, h56, e_between hF hK hd2 hfe he, bnd_some, h57]; rfl
    · unfold f_X12_missing
      rw [if_neg (nI_pos (by omega)), bK', if_pos (by rw [nI_ltI (by omega) (by omega)]; exact hi)]
      simp only [if_pos z, ci]
      rw [c1, c2, c3.1, h54, h55, h56, e_knivesFrom hF bK hd2 hfe he, bnd_some, c3.2, h57]
  · refine OP.no ⟨n, t, r, p, kc, x, ko, pl, ql, cl, ⟨hG, hH, hT, hN, hK, hD, hX, hW⟩, ⟨bG, bH, bL, bT, bN, bK, bP, bD, bX, bW⟩, hP⟩ (-100000) ?_ ?_
    · unfold f_X11_missing
      rw [e_hasCount hK, if_neg hc, bnd_some, if_pos rfl]
    · unfold f_X12_missing
      have k1 := hK.1
      simp only [bK.1, i_lt, nI_toInt (show kc < 2 ^ 31 by omega)]
      have t0 : (0 : Int32).toInt = 0 := rfl
      by_cases h0 : v.toInt < (0 : Int32).toInt
      · rw [if_pos h0]
      · rw [if_neg h0, if_neg (fun q => hc ⟨by omega, q⟩)]
theorem op_put (v w u : Int32) : OP (f_X11_put v w u) (f_X12_put v w u) := by
  intro a σ ha ⟨n, t, r, p, kc, x, ko, pl, ql, cl, ⟨hG, hH, hT, hN, hK, hD, hX, hW⟩, ⟨bG, bH, bL, bT, bN, bK, bP, bD, bX, bW⟩, hP⟩
  have t1 : (1 : Int32).toInt = 1 := rfl
  by_cases hc : (0 ≤ v.toInt ∧ v.toInt < 40) ∧ (0 ≤ w.toInt ∧ w.toInt < 40) ∧ ¬ v = w ∧ 1 ≤ u.toInt
  · obtain ⟨f, hf, rfl, cf⟩ := nI_of' (n := 40) hc.1 (by omega)
    obtain ⟨g, hg, rfl, cg⟩ := nI_of' (n := 40) hc.2.1 (by omega)
    have hfg : ¬ f = g := fun q => hc.2.2.1 (by rw [q])
    obtain ⟨k1, k2, k3, k4⟩ := hK
    obtain ⟨c1, c2, c3⟩ := bK
    have hK : IK kc σ := ⟨k1, k2, k3, k4⟩
    have bK : BK kc σ σ := ⟨c1, c2, c3⟩
    have zf : zin (nI f) 40 = true := zin_n (by omega) (by omega)
    have zG : zin (nI g) 40 = true := zin_n (by omega) (by omega)
    have X : f_X11_put (nI f) (nI g) u σ = if zg σ 52 f < u then some (0, σ) else if (99 : Int32) < zg σ 52 g + u then some (0, σ) else some (1, zs (zs σ 52 f (zg σ 52 f - u)) 52 g (zg σ 52 g + u)) := by
      unfold f_X11_put f_X2_move
      simp only [e_isSeat_n hf, e_isSeat_n hg, bnd_some, if_neg b1n, if_neg hc.2.2.1, if_pos zf, if_pos zG, cf, cg, lt_eq]
      rw [if_neg (by rw [i_lt]; omega), zg_nj (fun q => hfg q.symm)]
      split
      · rfl
      · split <;> rfl
    have M : ∀ τ, (∀ s, s < 40 → zg τ 100 s = zg σ 52 s) → f_X12_put (nI f) (nI g) u τ = if zg σ 52 f < u then some (0, τ) else if (99 : Int32) < zg σ 52 g + u then some (0, τ) else some (1, zs (zs τ 100 f (zg σ 52 f - u)) 100 g (zg σ 52 g + u)) := by
      intro τ hτ
      unfold f_X12_put
      simp only [e_isSeatM_n hf, e_isSeatM_n hg, bnd_some, if_neg b1n, if_neg hc.2.2.1, if_pos zf, if_pos zG, cf, cg, lt_eq]
      rw [if_neg (by rw [i_lt]; omega), zg_nj (fun q => hfg q.symm), hτ f hf, hτ g hg]
    by_cases h1 : zg σ 52 f < u
    · rw [if_pos h1] at X
      exact OP.no ⟨n, t, r, p, kc, x, ko, pl, ql, cl, ⟨hG, hH, hT, hN, hK, hD, hX, hW⟩, ⟨bG, bH, bL, bT, bN, bK, bP, bD, bX, bW⟩, hP⟩ 0 X (by rw [M σ c2, if_pos h1])
    by_cases h2 : (99 : Int32) < zg σ 52 g + u
    · rw [if_neg h1, if_pos h2] at X
      exact OP.no ⟨n, t, r, p, kc, x, ko, pl, ql, cl, ⟨hG, hH, hT, hN, hK, hD, hX, hW⟩, ⟨bG, bH, bL, bT, bN, bK, bP, bD, bX, bW⟩, hP⟩ 0 X (by rw [M σ c2, if_neg h1, if_pos h2])
    rw [if_neg h1, if_neg h2] at X
    have hfx : Fx ([52], []) σ (zs (zs σ 52 f (zg σ 52 f - u)) 52 g (zg σ 52 g + u)) := (Fx.rf.zs rfl).zs rfl
    have M2 := M _ (fun s hs => (hfx 100 s rfl).trans (c2 s hs))
    rw [if_neg h1, if_neg h2] at M2
    refine ⟨1, _, _, X, M2, a, by omega, ?_⟩
    obtain ⟨x', hx', e52f⟩ := k3 f hf
    obtain ⟨y', hy', e52g⟩ := k3 g hg
    rw [e52f, i_lt, nI_toInt (by omega)] at h1
    obtain ⟨z, hz, rfl, -⟩ := nI_of' (v := u) (n := 100) ⟨by omega, by omega⟩ (by omega)
    rw [nI_toInt (by omega)] at h1
    rw [e52g, nI_add, show (99 : Int32) = nI 99 from rfl, nI_ltI (by omega) (by omega)] at h2
    rw [e52f, e52g, nI_add, pk_sub (show z ≤ x' by omega)]
    have hf' : Fx ([52, 100], []) σ (zs (zs (zs (zs σ 52 f (nI (x' - z))) 52 g (nI (y' + z))) 100 f (nI (x' - z))) 100 g (nI (y' + z))) := (((Fx.rf.zs rfl).zs rfl).zs rfl).zs rfl
    refine ⟨n, t, r, p, kc, x, ko, pl, ql, cl, ⟨hG.fx hf' rfl, hH.fx hf' rfl, hT.fx hf' rfl, hN.fx hf' rfl, ⟨k1, (hf' 51 8 rfl).trans k2, ?_, ?_⟩, hD.fx hf' rfl, hX.fx hf' rfl, hW.fx hf' rfl⟩, ⟨(bG.al hf' rfl).si hf' rfl, (bH.al hf' rfl).si hf' rfl, (bL.al hf' rfl).si hf' rfl, (bT.al hf' rfl).si hf' rfl, (bN.al hf' rfl).si hf' rfl, ⟨(hf' 69 50 rfl).trans c1, ?_, ?_⟩, (bP.al hf' rfl).si hf' rfl, (bD.al hf' rfl).si hf' rfl, (bX.al hf' rfl).si hf' rfl, (bW.al hW.or hf' rfl).si hf' rfl⟩, hP.fx hW.or hf' rfl hf' rfl⟩
    · intro s hs
      simp only [zg_zs]
      simp (config := { decide := true }) only [false_and, true_and, if_false]
      by_cases q1 : s = g
      · rw [if_pos q1]; exact ⟨y' + z, by omega, rfl⟩
      · rw [if_neg q1]
        by_cases q2 : s = f
        · rw [if_pos q2]; exact ⟨x' - z, by omega, rfl⟩
        · rw [if_neg q2]; exact k3 s hs
    · intro i hi
      rw [hf' 54 i rfl, hf' 55 i rfl, hf' 56 i rfl, hf' 57 i rfl]
      exact k4 i hi
    · intro s hs
      simp only [zg_zs]
      simp (config := { decide := true }) only [false_and, true_and, if_false]
      rw [c2 s hs]
    · intro i hi
      rw [hf' 54 i rfl, hf' 55 i rfl, hf' 56 i rfl, hf' 57 i rfl, hf' 101 i rfl, hf' 102 i rfl, hf' 103 i rfl, hf' 104 i rfl]
      exact c3 i hi
  · refine OP.no ⟨n, t, r, p, kc, x, ko, pl, ql, cl, ⟨hG, hH, hT, hN, hK, hD, hX, hW⟩, ⟨bG, bH, bL, bT, bN, bK, bP, bD, bX, bW⟩, hP⟩ 0 ?_ ?_
    · unfold f_X11_put
      rw [e_isSeat, bnd_some, b01]
      by_cases a1 : 0 ≤ v.toInt ∧ v.toInt < 40
      · rw [if_pos a1, e_isSeat, bnd_some, b01]
        by_cases a2 : 0 ≤ w.toInt ∧ w.toInt < 40
        · rw [if_pos a2]
          by_cases a3 : v = w
          · rw [if_pos a3]
          · rw [if_neg a3, if_pos (show u < 1 from (i_lt u 1).mpr (by
              rcases Int.lt_or_le u.toInt 1 with q | q
              · omega
              · exact absurd ⟨a1, a2, a3, q⟩ hc))]
        · rw [if_neg a2]
      · rw [if_neg a1]
    · unfold f_X12_put
      rw [e_isSeatM, bnd_some, b01]
      by_cases a1 : 0 ≤ v.toInt ∧ v.toInt < 40
      · rw [if_pos a1, e_isSeatM, bnd_some, b01]
        by_cases a2 : 0 ≤ w.toInt ∧ w.toInt < 40
        · rw [if_pos a2]
          by_cases a3 : v = w
          · rw [if_pos a3]
          · rw [if_neg a3, if_pos (show u < 1 from (i_lt u 1).mpr (by
              rcases Int.lt_or_le u.toInt 1 with q | q
              · omega
              · exact absurd ⟨a1, a2, a3, q⟩ hc))]
        · rw [if_neg a2]
      · rw [if_neg a1]
def strB (α : zM) (g : Nat) : Bool := !(decide (zg α 6 g = -1)) && !(decide (zg α 6 g &&& 1 = zg α 4 g))
theorem v_par : ∀ s, s < 40 → nI s &&& (1 : Int32) = nI s - nI s / (2 : Int32) * (2 : Int32) := by decide +kernel
theorem e_isStrayA {n g : Nat} {σ : zM} (hG : IG n σ) (hg : g < n) : f_X0_isStray (nI g) σ = some (if strB σ g = true then 1 else 0, σ) := by
  have hn := hG.1
  unfold f_X0_isStray strB
  have hs : f_X0_sits (nI g) σ = some (if zg σ 6 g = -1 then 0 else 1, σ) := by
    rw [e_sits hn hG.2.1, nI_clamp (by omega)]
    by_cases h : zg σ 6 g = -1
    · rw [if_neg (fun q => q.2 h), if_pos h]
    · rw [if_pos ⟨by rw [nI_toInt (by omega)]; omega, h⟩, if_neg h]
  rw [hs, bnd_some, b10]
  by_cases h : zg σ 6 g = -1
  · rw [if_pos h]; simp [h]
  · rw [if_neg h, e_seatOf_n hn hG.2.1 hg, bnd_some, e_landOf_n hn hG.2.1 hg, bnd_some]
    by_cases h2 : zg σ 6 g &&& 1 = zg σ 4 g
    · rw [if_pos h2]; simp [h2]
    · rw [if_neg h2]; simp [h, h2]
theorem e_isStrayM {n g : Nat} {α σ : zM} (hG : IG n α) (hB : BG n α σ) (hg : g < n) : f_X12_isStray (nI g) σ = some (if strB α g = true then 1 else 0, σ) := by
  have hn := hG.1
  have z : zin (nI g) 16 = true := zin_n (by omega) (by omega)
  unfold f_X12_isStray strB
  rw [e_sitsM hG hB hg, bnd_some, b10, if_pos z, if_pos z, nI_clamp (by omega), (hB.2 g hg).1]
  rcases hG.seat hg with h | ⟨s, hs, h⟩
  · rw [if_pos h]; simp [h]
  · have h' : ¬ zg α 6 g = -1 := by rw [h]; exact nI_m1 (by omega)
    rw [if_neg h', (hB.s71 hG hg hs).mpr h, ← v_par s hs, h]
    have hm : ¬ nI s = -1 := nI_m1 (by omega)
    by_cases h2 : nI s &&& 1 = zg α 4 g
    · rw [if_pos h2]; simp [h2]
    · rw [if_neg h2]; simp [hm, h2]
def strI (α : zM) : Nat → Nat → Int32 → Int32
  | 0, _, acc => acc
  | m + 1, g, acc => strI α m (g + 1) (if strB α g = true then acc ||| ((1 : Int32) <<< (nI g &&& 31)) else acc)
theorem op_strays {F : Nat} (hF : 22 ≤ F) : OP (f_X11_strays F) (f_X12_strays F) := by
  intro a σ ha ⟨n, t, r, p, kc, x, ko, pl, ql, cl, ⟨hG, hH, hT, hN, hK, hD, hX, hW⟩, ⟨bG, bH, bL, bT, bN, bK, bP, bD, bX, bW⟩, hP⟩
  have hn := hG.1
  have kX : ∀ (m fu g : Nat) (acc : Int32), g + m = n → m < fu → f_X11_strays_L4 F (fun y9 s8 => some (y9, s8)) fu acc (nI g) σ = some (strI σ m g acc, σ) := by
    intro m
    induction m with
    | zero =>
      intro fu g acc hg hfu
      obtain ⟨fu, rfl⟩ : ∃ f', fu = f' + 1 := ⟨fu - 1, by omega⟩
      rw [f_X11_strays_L4, f_X0_number, bnd_some, hG.2.1, if_neg (by rw [nI_ltI (by omega) (by omega)]; omega)]; rfl
    | succ m ih =>
      intro fu g acc hg hfu
      obtain ⟨fu, rfl⟩ : ∃ f', fu = f' + 1 := ⟨fu - 1, by omega⟩
      rw [f_X11_strays_L4, f_X0_number, bnd_some, hG.2.1, if_pos (by rw [nI_ltI (by omega) (by omega)]; omega), e_isStrayA hG (show g < n by omega), bnd_some, lt_eq, lt_eq, lt_eq, nI_1, strI, b01]
      split <;> exact ih fu (g + 1) _ (by omega) (by omega)
  have kM : ∀ (m fu g : Nat) (acc : Int32), g + m = n → m < fu → f_X12_strays_L4 F (fun y9 s8 => some (y9, s8)) fu acc (nI g) σ = some (strI σ m g acc, σ) := by
    intro m
    induction m with
    | zero =>
      intro fu g acc hg hfu
      obtain ⟨fu, rfl⟩ : ∃ f', fu = f' + 1 := ⟨fu - 1, by omega⟩
      rw [f_X12_strays_L4, bG.1, if_neg (by rw [nI_ltI (by omega) (by omega)]; omega)]; rfl
    | succ m ih =>
      intro fu g acc hg hfu
      obtain ⟨fu, rfl⟩ : ∃ f', fu = f' + 1 := ⟨fu - 1, by omega⟩
      rw [f_X12_strays_L4, bG.1, if_pos (by rw [nI_ltI (by omega) (by omega)]; omega), e_isStrayM hG bG (show g < n by omega), bnd_some, lt_eq, lt_eq, lt_eq, nI_1, strI, b01]
      split <;> exact ih fu (g + 1) _ (by omega) (by omega)
  exact OP.no ⟨n, t, r, p, kc, x, ko, pl, ql, cl, ⟨hG, hH, hT, hN, hK, hD, hX, hW⟩, ⟨bG, bH, bL, bT, bN, bK, bP, bD, bX, bW⟩, hP⟩ (strI σ n 0 0) (kX n F 0 0 (by omega) (by omega)) (kM n F 0 0 (by omega) (by omega))
def homI (α : zM) : Nat → Nat → Int32 → Int32 → Int32
  | 0, _, z, o => if z < o then o else z
  | m + 1, g, z, o => if strB α g = true then (if zg α 4 g = 0 then homI α m (g + 1) (z + 1) o else homI α m (g + 1) z (o + 1)) else homI α m (g + 1) z o
theorem op_home {F : Nat} (hF : 22 ≤ F) : OP (f_X11_home F) (f_X12_home F) := by
  intro a σ ha ⟨n, t, r, p, kc, x, ko, pl, ql, cl, ⟨hG, hH, hT, hN, hK, hD, hX, hW⟩, ⟨bG, bH, bL, bT, bN, bK, bP, bD, bX, bW⟩, hP⟩
  have hn := hG.1
  have add0 : ∀ v : Int32, v + 0 = v := fun v => by simp
  have kX : ∀ (m fu g : Nat) (z o : Int32), g + m = n → m < fu → f_X11_home_L6 F (fun y15 y16 s14 => some ((if y15 < y16 then y16 else y15), s14)) fu z o (nI g) σ = some (homI σ m g z o, σ) := by
    intro m
    induction m with
    | zero =>
      intro fu g z o hg hfu
      obtain ⟨fu, rfl⟩ : ∃ f', fu = f' + 1 := ⟨fu - 1, by omega⟩
      rw [f_X11_home_L6, f_X0_number, bnd_some, hG.2.1, if_neg (by rw [nI_ltI (by omega) (by omega)]; omega)]; rfl
    | succ m ih =>
      intro fu g z o hg hfu
      obtain ⟨fu, rfl⟩ : ∃ f', fu = f' + 1 := ⟨fu - 1, by omega⟩
      have hst := e_isStrayA hG (show g < n by omega)
      rw [f_X11_home_L6, f_X0_number, bnd_some, hG.2.1, if_pos (by rw [nI_ltI (by omega) (by omega)]; omega), hst, bnd_some, b01, homI]
      unfold f_X11_home_j45
      simp only [hst, bnd_some, b01, lt_eq, nI_1]
      rw [e_landOf_n hn hG.2.1 (show g < n by omega), bnd_some]
      by_cases h1 : strB σ g = true
      · simp only [if_pos h1]
        by_cases h2 : zg σ 4 g = 0
        · simp only [if_pos h2]; exact ih fu (g + 1) _ _ (by omega) (by omega)
        · simp only [if_neg h2, hst, bnd_some, b01, if_pos h1]; exact ih fu (g + 1) _ _ (by omega) (by omega)
      · simp only [if_neg h1]; exact ih fu (g + 1) _ _ (by omega) (by omega)
  have kM : ∀ (m fu g : Nat) (z o : Int32), g + m = n → m < fu → f_X12_home_L6 F (fun y13 y14 s12 => if y14 < y13 then some (y13, s12) else some (y14, s12)) fu z o (nI g) σ = some (homI σ m g z o, σ) := by
    intro m
    induction m with
    | zero =>
      intro fu g z o hg hfu
      obtain ⟨fu, rfl⟩ : ∃ f', fu = f' + 1 := ⟨fu - 1, by omega⟩
      rw [f_X12_home_L6, bG.1, if_neg (by rw [nI_ltI (by omega) (by omega)]; omega), homI]
      have h1 := i_lt z o
      have h2 := i_lt o z
      have h3 := i_eq z o
      by_cases q1 : z < o
      · rw [if_pos q1, if_neg (fun q => by rw [h2] at q; rw [h1] at q1; omega)]
      · rw [if_neg q1]
        by_cases q2 : o < z
        · rw [if_pos q2]
        · rw [if_neg q2, h3.mpr (by rw [h1] at q1; rw [h2] at q2; omega)]
    | succ m ih =>
      intro fu g z o hg hfu
      obtain ⟨fu, rfl⟩ : ∃ f', fu = f' + 1 := ⟨fu - 1, by omega⟩
      have hst := e_isStrayM hG bG (show g < n by omega)
      have z16 : zin (nI g) 16 = true := zin_n (by omega) (by omega)
      have hl := (bG.2 g (by omega)).1
      rw [f_X12_home_L6, bG.1, if_pos (by rw [nI_ltI (by omega) (by omega)]; omega), hst, bnd_some, b01, homI]
      unfold f_X12_home_j36 f_X12_home_j37
      simp only [hst, bnd_some, b01, lt_eq, nI_1, if_pos z16, nI_clamp (show g < 2 ^ 31 by omega), hl, add0]
      by_cases h1 : strB σ g = true
      · simp only [if_pos h1]
        rcases hG.2.2.1 g (by omega) with h2 | h2
        · simp only [h2, if_true, if_neg (show ¬ (0 : Int32) = 1 by decide)]; exact ih fu (g + 1) _ _ (by omega) (by omega)
        · simp only [h2, if_true, if_neg (show ¬ (1 : Int32) = 0 by decide)]; exact ih fu (g + 1) _ _ (by omega) (by omega)
      · simp only [if_neg h1]; exact ih fu (g + 1) _ _ (by omega) (by omega)
  exact OP.no ⟨n, t, r, p, kc, x, ko, pl, ql, cl, ⟨hG, hH, hT, hN, hK, hD, hX, hW⟩, ⟨bG, bH, bL, bT, bN, bK, bP, bD, bX, bW⟩, hP⟩ (homI σ n 0 0 0) (kX n F 0 0 0 (by omega) (by omega)) (kM n F 0 0 0 (by omega) (by omega))
