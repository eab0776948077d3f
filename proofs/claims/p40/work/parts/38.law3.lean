/-! ===== the law as both sides hold it; what it says ===== -/
def IW (p q c : Nat) (α : zM) : Prop := ((p = 16 ∧ q = 25) ∨ (p = 25 ∧ q = 16)) ∧ zg α 12 4 = nI p ∧ zg α 24 1 = nI q ∧ c ≤ 14 ∧ zg α p 7 = nI c ∧
  ∀ k, k < c → ∃ a m e, a ≤ m ∧ m ≤ e ∧ e ≤ 200 ∧ zg α (p + 2) k = nI a ∧ zg α (p + 3) k = nI m ∧ zg α (p + 4) k = nI e ∧
    (∀ j, j < e → ∃ v, v < 1048576 ∧ zg α (p + 6) j = nI v) ∧ (∃ τ, τ m = [] ∧ Typ (zg α (p + 5)) (zg α (p + 6)) m e true τ) ∧
    (zg α (p + 1) k = 112 ∨ ∃ τ, τ a = [] ∧ Typ (zg α (p + 5)) (zg α (p + 6)) a m false τ)
def BW (p c : Nat) (α σ : zM) : Prop := zg σ 69 16 = nI c ∧ ∀ k, k < c → zg σ 82 k = zg α (p + 1) k ∧ zg σ 83 k = zg α (p + 2) k ∧ zg σ 84 k = zg α (p + 3) k ∧ zg σ 85 k = zg α (p + 4) k ∧
  ∀ e, e ≤ 200 → zg α (p + 4) k = nI e → ∀ j v, j < e → v < 1048576 → zg α (p + 6) j = nI v → zg σ 81 j = nI (opN (zg α (p + 5) j) * 1048576 + v)
def cnd (α : zM) (p : Nat) (le : Nat → Int32) (k : Nat) : Int32 := ev (zg α (p + 5)) (zg α (p + 6)) le (zg α (p + 4) k).toNatClampNeg 300 (zg α (p + 3) k).toNatClampNeg []
def amv (α : zM) (p : Nat) (le : Nat → Int32) (k : Nat) : Int32 := ev (zg α (p + 5)) (zg α (p + 6)) le (zg α (p + 3) k).toNatClampNeg 300 (zg α (p + 2) k).toNatClampNeg []
def pmt (α : zM) (p : Nat) (le : Nat → Int32) : Nat → Nat → Bool → Bool
  | 0, _, any => !any
  | m + 1, k, any => if zg α (p + 1) k = 112 then (if cnd α p le k = 0 then pmt α p le m (k + 1) true else true) else pmt α p le m (k + 1) any
def clI (lo hi r : Int32) : Int32 := if r < lo then lo else if hi < r then hi else r
def amt (α : zM) (p : Nat) (le : Nat → Int32) (kind lo hi : Int32) : Nat → Nat → Int32
  | 0, _ => 0
  | m + 1, k => if zg α (p + 1) k = kind then (if cnd α p le k = 0 then amt α p le kind lo hi m (k + 1) else clI lo hi (amv α p le k)) else amt α p le kind lo hi m (k + 1)
abbrev scrL : zMk := ([13, 23, 32], [])
theorem IW.zLw {p q c : Nat} {α : zM} (h : IW p q c α) : zLw p = true := by rcases h.1 with ⟨rfl, -⟩ | ⟨rfl, -⟩ <;> rfl
/-- one clause's C, one clause's E, by the class -/
theorem e_cndA {F p q c k : Nat} {α σ : zM} {le : Nat → Int32} (hF : 300 ≤ F) (hW : IW p q c α) (hk : k < c) (hs : Fx scrL α σ) (hle : ∀ j, j < 10 → zg σ 13 j = le j) : ∃ σ', f_X3_reckon F p (zg σ (p + 3) k) (zg σ (p + 4) k) σ = some (cnd α p le k, σ') ∧ Fx ([23, 32], []) σ σ' ∧ (cnd α p le k = 0 ∨ cnd α p le k = 1) := by
  have hp := hW.zLw
  have hp' := zLw_or hp
  obtain ⟨-, -, -, -, -, hcl⟩ := hW
  obtain ⟨a, m, e, ham, hme, he, h2, h3, h4, h6, ⟨τ, hτ, hT⟩, -⟩ := hcl k hk
  have f3 : zg σ (p + 3) k = zg α (p + 3) k := hs _ _ (by rcases hp' with rfl | rfl <;> rfl)
  have f4 : zg σ (p + 4) k = zg α (p + 4) k := hs _ _ (by rcases hp' with rfl | rfl <;> rfl)
  obtain ⟨σ', g1, g2, g3⟩ := e_reckonL (F := F) (b := true) (a0 := m) hp he hT (e - m) F 300 m 0 [] σ (by omega) (by omega) (by omega) (Nat.le_refl _) (Nat.zero_le _) (by rw [hτ]; trivial) trivial (fun j _ => hs _ _ (by rcases hp' with rfl | rfl <;> rfl)) (fun j _ => hs _ _ (by rcases hp' with rfl | rfl <;> rfl)) hle
  have hc : cnd α p le k = ev (zg α (p + 5)) (zg α (p + 6)) le e 300 m [] := by
    unfold cnd; rw [h3, h4, nI_clamp (by omega), nI_clamp (by omega)]
  refine ⟨σ', ?_, g2.sub (by rcases hp' with rfl | rfl <;> rfl), ?_⟩
  · rw [f3, f4, h3, h4, hc, ← g1]; rfl
  · rw [hc]; exact g3 rfl
theorem e_amvA {F p q c k : Nat} {α σ : zM} {le : Nat → Int32} (hF : 300 ≤ F) (hW : IW p q c α) (hk : k < c) (hkind : ¬ zg α (p + 1) k = 112) (hs : Fx scrL α σ) (hle : ∀ j, j < 10 → zg σ 13 j = le j) : ∃ σ', f_X3_reckon F p (zg σ (p + 2) k) (zg σ (p + 3) k) σ = some (amv α p le k, σ') ∧ Fx ([23, 32], []) σ σ' := by
  have hp := hW.zLw
  have hp' := zLw_or hp
  obtain ⟨-, -, -, -, -, hcl⟩ := hW
  obtain ⟨a, m, e, ham, hme, he, h2, h3, h4, h6, -, hE⟩ := hcl k hk
  obtain ⟨τ, hτ, hT⟩ := hE.resolve_left hkind
  have f2 : zg σ (p + 2) k = zg α (p + 2) k := hs _ _ (by rcases hp' with rfl | rfl <;> rfl)
  have f3 : zg σ (p + 3) k = zg α (p + 3) k := hs _ _ (by rcases hp' with rfl | rfl <;> rfl)
  obtain ⟨σ', g1, g2, g3⟩ := e_reckonL (F := F) (b := false) (a0 := a) hp (show m ≤ 200 by omega) hT (m - a) F 300 a 0 [] σ (by omega) (by omega) (by omega) (Nat.le_refl _) (Nat.zero_le _) (by rw [hτ]; trivial) trivial (fun j _ => hs _ _ (by rcases hp' with rfl | rfl <;> rfl)) (fun j _ => hs _ _ (by rcases hp' with rfl | rfl <;> rfl)) hle
  have hc : amv α p le k = ev (zg α (p + 5)) (zg α (p + 6)) le m 300 a [] := by
    unfold amv; rw [h2, h3, nI_clamp (by omega), nI_clamp (by omega)]
  refine ⟨σ', ?_, g2.sub (by rcases hp' with rfl | rfl <;> rfl)⟩
  rw [f2, f3, h2, h3, hc, ← g1]; rfl
theorem le_kept {σ σ' : zM} {le : Nat → Int32} (h : Fx ([23, 32], []) σ σ') (hle : ∀ j, j < 10 → zg σ 13 j = le j) : ∀ j, j < 10 → zg σ' 13 j = le j := fun j hj => (h 13 j rfl).trans (hle j hj)
theorem e_permits {F p q c : Nat} {α σ : zM} {le : Nat → Int32} (hF : 300 ≤ F) (hW : IW p q c α) (hs : Fx scrL α σ) (hle : ∀ j, j < 10 → zg σ 13 j = le j) : ∃ σ', f_X3_permits F p σ = some (if pmt α p le c 0 false = true then 1 else 0, σ') ∧ Fx ([23, 32], []) σ σ' := by
  have hp' := zLw_or hW.zLw
  have hc14 := hW.2.2.2.1
  have hc7 := hW.2.2.2.2.1
  have key : ∀ (m f k : Nat) (any : Bool) (σ : zM), k + m = c → m < f → Fx scrL α σ → (∀ j, j < 10 → zg σ 13 j = le j) → ∃ σ', f_X3_permits_L4 F p (fun y6 s5 => if y6 = 0 then some ((1 : Int32), s5) else some ((0 : Int32), s5)) f (if any = true then 1 else 0) (nI k) σ = some (if pmt α p le m k any = true then 1 else 0, σ') ∧ Fx ([23, 32], []) σ σ' := by
    intro m
    induction m with
    | zero =>
      intro f k any σ hk hf hs hle
      obtain ⟨f, rfl⟩ : ∃ f', f = f' + 1 := ⟨f - 1, by omega⟩
      have f7 : zg σ p 7 = nI c := (hs p 7 (by rcases hp' with rfl | rfl <;> rfl)).trans hc7
      rw [f_X3_permits_L4, f7, if_neg (by rw [nI_ltI (by omega) (by omega)]; omega)]
      refine ⟨σ, ?_, Fx.rf⟩
      cases any <;> rfl
    | succ m ih =>
      intro f k any σ hk hf hs hle
      obtain ⟨f, rfl⟩ : ∃ f', f = f' + 1 := ⟨f - 1, by omega⟩
      have f7 : zg σ p 7 = nI c := (hs p 7 (by rcases hp' with rfl | rfl <;> rfl)).trans hc7
      have f1 : zg σ (p + 1) k = zg α (p + 1) k := hs _ _ (by rcases hp' with rfl | rfl <;> rfl)
      have z : zin (nI k) 14 = true := zin_n (by omega) (by omega)
      have l14 : nI k < (14 : Int32) := by rw [show (14 : Int32) = nI 14 from rfl, nI_ltI (by omega) (by omega)]; omega
      rw [f_X3_permits_L4, f7, if_pos (by rw [nI_ltI (by omega) (by omega)]; omega), if_pos l14, if_pos z, if_pos z, if_pos z, nI_clamp (by omega), f1, pmt]
      by_cases h112 : zg α (p + 1) k = 112
      · obtain ⟨σ1, g1, g2, g3⟩ := e_cndA hF hW (show k < c by omega) hs hle
        rw [if_pos h112, if_pos h112, g1, bnd_some]
        by_cases h0 : cnd α p le k = 0
        · rw [if_pos h0, if_pos h0, lt_eq, nI_1]
          obtain ⟨σ2, e1, e2⟩ := ih f (k + 1) true σ1 (by omega) (by omega) (hs.tr (g2.sub rfl)) (le_kept g2 hle)
          exact ⟨σ2, e1, g2.tr e2⟩
        · rw [if_neg h0, if_neg h0]
          exact ⟨σ1, rfl, g2⟩
      · rw [if_neg h112, if_neg h112, lt_eq, nI_1]
        exact ih f (k + 1) any σ (by omega) (by omega) hs hle
  exact key c F 0 false σ (by omega) (by omega) hs hle
theorem cl_max (lo hi r : Int32) (h : lo ≤ hi) : (if lo < (if r < hi then r else hi) then (if r < hi then r else hi) else lo) = clI lo hi r := by
  unfold clI
  simp only [i_lt, Int32.le_iff_toInt_le] at *
  by_cases h1 : r.toInt < hi.toInt
  · simp only [h1, if_true]
    by_cases h2 : lo.toInt < r.toInt
    · rw [if_pos h2, if_neg (by omega), if_neg (by omega)]
    · rw [if_neg h2]
      by_cases h3 : r.toInt < lo.toInt
      · rw [if_pos h3]
      · rw [if_neg h3, if_neg (by omega)]; exact Int32.toInt_inj.mp (by omega)
  · simp only [h1, if_false]
    by_cases h2 : lo.toInt < hi.toInt
    · rw [if_pos h2, if_neg (by omega)]
      by_cases h3 : hi.toInt < r.toInt
      · rw [if_pos h3]
      · rw [if_neg h3]; exact Int32.toInt_inj.mp (by omega)
    · rw [if_neg h2, if_neg (by omega)]
      by_cases h3 : hi.toInt < r.toInt
      · rw [if_pos h3]; exact Int32.toInt_inj.mp (by omega)
      · rw [if_neg h3]; exact Int32.toInt_inj.mp (by omega)
theorem e_amount {F p q c : Nat} {α σ : zM} {le : Nat → Int32} {kind lo hi : Int32} (hlh : lo ≤ hi) (hkd : ¬ kind = 112) (hF : 300 ≤ F) (hW : IW p q c α) (hs : Fx scrL α σ) (hle : ∀ j, j < 10 → zg σ 13 j = le j) : ∃ σ', f_X3_amount F p kind lo hi σ = some (amt α p le kind lo hi c 0, σ') ∧ Fx ([23, 32], []) σ σ' := by
  have hp' := zLw_or hW.zLw
  have hc14 := hW.2.2.2.1
  have hc7 := hW.2.2.2.2.1
  have key : ∀ (m f k : Nat) (σ : zM), k + m = c → m < f → Fx scrL α σ → (∀ j, j < 10 → zg σ 13 j = le j) → ∃ σ', f_X3_amount_L3 F p (fun s7 => some ((0 : Int32), s7)) kind lo hi f (nI k) σ = some (amt α p le kind lo hi m k, σ') ∧ Fx ([23, 32], []) σ σ' := by
    intro m
    induction m with
    | zero =>
      intro f k σ hk hf hs hle
      obtain ⟨f, rfl⟩ : ∃ f', f = f' + 1 := ⟨f - 1, by omega⟩
      have f7 : zg σ p 7 = nI c := (hs p 7 (by rcases hp' with rfl | rfl <;> rfl)).trans hc7
      rw [f_X3_amount_L3, f7, if_neg (by rw [nI_ltI (by omega) (by omega)]; omega)]
      exact ⟨σ, rfl, Fx.rf⟩
    | succ m ih =>
      intro f k σ hk hf hs hle
      obtain ⟨f, rfl⟩ : ∃ f', f = f' + 1 := ⟨f - 1, by omega⟩
      have f7 : zg σ p 7 = nI c := (hs p 7 (by rcases hp' with rfl | rfl <;> rfl)).trans hc7
      have f1 : zg σ (p + 1) k = zg α (p + 1) k := hs _ _ (by rcases hp' with rfl | rfl <;> rfl)
      have z : zin (nI k) 14 = true := zin_n (by omega) (by omega)
      have l14 : nI k < (14 : Int32) := by rw [show (14 : Int32) = nI 14 from rfl, nI_ltI (by omega) (by omega)]; omega
      have cl := nI_clamp (show k < 2 ^ 31 by omega)
      rw [f_X3_amount_L3, f7, if_pos (by rw [nI_ltI (by omega) (by omega)]; omega), if_pos l14, if_pos z]
      simp only [if_pos z, cl]
      rw [f1, amt]
      by_cases hkk : zg α (p + 1) k = kind
      · obtain ⟨σ1, g1, g2, g3⟩ := e_cndA hF hW (show k < c by omega) hs hle
        rw [if_pos hkk, if_pos hkk, g1, bnd_some]
        by_cases h0 : cnd α p le k = 0
        · rw [if_pos h0, if_pos h0, lt_eq, nI_1]
          obtain ⟨σ2, e1, e2⟩ := ih f (k + 1) σ1 (by omega) (by omega) (hs.tr (g2.sub rfl)) (le_kept g2 hle)
          exact ⟨σ2, e1, g2.tr e2⟩
        · obtain ⟨σ2, e1, e2⟩ := e_amvA hF hW (show k < c by omega) (by rw [hkk]; exact hkd) (hs.tr (g2.sub rfl)) (le_kept g2 hle)
          rw [if_neg h0, if_neg h0, e1, bnd_some, cl_max lo hi _ hlh]
          exact ⟨σ2, rfl, g2.tr e2⟩
      · rw [if_neg hkk, if_neg hkk, lt_eq, nI_1]
        exact ih f (k + 1) σ (by omega) (by omega) hs hle
  exact key c F 0 σ (by omega) (by omega) hs hle
