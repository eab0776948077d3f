/-! ===== what a run may change; what the two sides hold of one another ===== -/
abbrev zMk : Type := List Nat × List (Nat × Nat)
def inm (m : zMk) (k j : Nat) : Bool := m.1.contains k || m.2.contains (k, j)
/-- only these rows and places may differ -/
def Fx (m : zMk) (σ σ' : zM) : Prop := ∀ k j, inm m k j = false → zg σ' k j = zg σ k j
theorem Fx.rf {m : zMk} {σ : zM} : Fx m σ σ := fun _ _ _ => rfl
theorem Fx.tr {m : zMk} {σ σ1 σ2 : zM} (h1 : Fx m σ σ1) (h2 : Fx m σ1 σ2) : Fx m σ σ2 := fun k j h => (h2 k j h).trans (h1 k j h)
theorem Fx.zs {m : zMk} {σ σ' : zM} {k j : Nat} {v : Int32} (h : Fx m σ σ') (hin : inm m k j = true) : Fx m σ (zs σ' k j v) := by
  intro a b hab
  have : ¬ (a = k ∧ b = j) := by rintro ⟨rfl, rfl⟩; rw [hin] at hab; cases hab
  rw [← h a b hab]
  simp only [zg, _root_.Jvm.Pilot.@@N@@.zs]
  by_cases ha : a = k
  · by_cases hb : b = j
    · exact absurd ⟨ha, hb⟩ this
    · subst ha; simp [hb]
  · simp [ha]
theorem Fx.zsl {m : zMk} {σ σ' : zM} {x : Nat} {v : Int64} (h : Fx m σ σ') : Fx m σ (zsl σ' x v) := h
def msub (m m' : zMk) : Bool := m.1.all (fun k => m'.1.contains k) && m.2.all (fun f => inm m' f.1 f.2)
theorem Fx.sub {m m' : zMk} {σ σ' : zM} (h : Fx m σ σ') (hs : msub m m' = true) : Fx m' σ σ' := by
  intro k j hk
  refine h k j ?_
  simp only [msub, Bool.and_eq_true, List.all_eq_true] at hs
  cases hc : inm m k j with
  | false => rfl
  | true =>
    simp only [inm, Bool.or_eq_true, List.contains_iff_mem] at hc
    rcases hc with hc | hc
    · have := hs.1 k hc
      simp only [inm, this, Bool.true_or] at hk; cases hk
    · have := hs.2 (k, j) hc
      simp only [this] at hk; cases hk
theorem Fx.at {m : zMk} {σ σ' : zM} (h : Fx m σ σ') (k j : Nat) (hk : inm m k j = false) : zg σ' k j = zg σ k j := h k j hk
-- one side's cells
def FA (σ σ' : zM) : Prop := ∀ k j, 69 ≤ k → zg σ' k j = zg σ k j
def FB (σ σ' : zM) : Prop := ∀ k j, k < 69 → zg σ' k j = zg σ k j
theorem Fx.FA {m : zMk} {σ σ' : zM} (h : Fx m σ σ') (hm : (m.1.all (fun k => decide (k < 69)) && m.2.all (fun f => decide (f.1 < 69))) = true) : FA σ σ' := by
  intro k j hk
  refine h k j ?_
  simp only [Bool.and_eq_true, List.all_eq_true, decide_eq_true_eq] at hm
  cases hc : inm m k j with
  | false => rfl
  | true =>
    simp only [inm, Bool.or_eq_true, List.contains_iff_mem] at hc
    rcases hc with hc | hc
    · have := hm.1 k hc; omega
    · have := hm.2 (k, j) hc; simp at this; omega
theorem Fx.FB {m : zMk} {σ σ' : zM} (h : Fx m σ σ') (hm : (m.1.all (fun k => decide (69 ≤ k)) && m.2.all (fun f => decide (69 ≤ f.1))) = true) : FB σ σ' := by
  intro k j hk
  refine h k j ?_
  simp only [Bool.and_eq_true, List.all_eq_true, decide_eq_true_eq] at hm
  cases hc : inm m k j with
  | false => rfl
  | true =>
    simp only [inm, Bool.or_eq_true, List.contains_iff_mem] at hc
    rcases hc with hc | hc
    · have := hm.1 k hc; omega
    · have := hm.2 (k, j) hc; simp at this; omega
theorem FA.tr {σ σ1 σ2 : zM} (h1 : FA σ σ1) (h2 : FA σ1 σ2) : FA σ σ2 := fun k j h => (h2 k j h).trans (h1 k j h)
theorem FB.tr {σ σ1 σ2 : zM} (h1 : FB σ σ1) (h2 : FB σ1 σ2) : FB σ σ2 := fun k j h => (h2 k j h).trans (h1 k j h)
/-! guests -/
def IG (n : Nat) (α : zM) : Prop := n ≤ 16 ∧ zg α 3 8 = nI n ∧ (∀ g, g < n → zg α 4 g = 0 ∨ zg α 4 g = 1) ∧
  (∀ g, g < n → (zg α 5 g = 0 ∧ zg α 6 g = -1) ∨ (zg α 5 g = 1 ∧ (zg α 6 g = -1 ∨ ∃ s, s < 40 ∧ zg α 6 g = nI s ∧ zg α 9 s = nI g))) ∧
  (∀ s, s < 40 → zg α 9 s = -1 ∨ ∃ g, g < n ∧ zg α 9 s = nI g ∧ zg α 6 g = nI s) ∧ (∀ g, n ≤ g → g < 16 → zg α 6 g = -1)
def BG (n : Nat) (α σ : zM) : Prop := zg σ 69 0 = nI n ∧ ∀ g, g < n → zg σ 70 g = zg α 4 g ∧ zg σ 71 g = (if zg α 5 g = 0 then -2 else zg α 6 g)
def IH (n : Nat) (α : zM) : Prop := ∀ g, g < 16 → zg α 7 g = -1 ∨ ∃ h, h < n ∧ zg α 7 g = nI h
def BH (α σ : zM) : Prop := ∀ g, g < 16 → zg σ 73 g = zg α 7 g
def BL (α σ : zM) : Prop := ∀ i, i < 256 → zg σ 72 i = zg α 8 i
/-! the tape -/
def IT (t : Nat) (α : zM) : Prop := t ≤ 220 ∧ zg α 1 1 = nI t ∧ ∀ i, i < t → ∃ b, b < 256 ∧ zg α 2 i = nI b
def BT (t : Nat) (α σ : zM) : Prop := zg σ 69 7 = nI t ∧ ∀ i, i < t → zg σ 74 i = (zg α 2 i).toInt8.toInt32
/-! rain, speeches -/
def IN (r p : Nat) (α : zM) : Prop := r ≤ 10 ∧ p ≤ 10 ∧ zg α 33 10 = nI r ∧ zg α 33 11 = nI p ∧ (∀ k, k < r → (∃ x, x < 1000 ∧ zg α 34 k = nI x) ∧ (∃ x, x < 20 ∧ zg α 35 k = nI x) ∧ ∃ x, x < 20 ∧ zg α 36 k = nI x) ∧
  ∀ k, k < p → (∃ x, x < 20 ∧ zg α 37 k = nI x) ∧ (∃ x, x < 1000 ∧ zg α 38 k = nI x) ∧ ∃ x, 1 ≤ x ∧ x ≤ 5 ∧ zg α 39 k = nI x
def BN (r p : Nat) (α σ : zM) : Prop := zg σ 69 30 = nI r ∧ zg σ 69 31 = nI p ∧ (∀ k, k < r → zg σ 88 k = zg α 34 k ∧ zg σ 89 k = zg α 35 k ∧ zg σ 90 k = zg α 36 k) ∧ ∀ k, k < p → zg σ 91 k = zg α 37 k ∧ zg σ 92 k = zg α 38 k ∧ zg σ 93 k = zg α 39 k
/-! knives -/
def IK (c : Nat) (α : zM) : Prop := c ≤ 20 ∧ zg α 51 8 = nI c ∧ (∀ s, s < 40 → ∃ x, x ≤ 99 ∧ zg α 52 s = nI x) ∧
  ∀ i, i < c → (zg α 54 i = 0 ∨ zg α 54 i = 1) ∧ ∃ f t y, f ≤ t ∧ t < 20 ∧ y ≤ 999 ∧ zg α 55 i = nI f ∧ zg α 56 i = nI t ∧ zg α 57 i = nI y
def BK (c : Nat) (α σ : zM) : Prop := zg σ 69 50 = nI c ∧ (∀ s, s < 40 → zg σ 100 s = zg α 52 s) ∧ ∀ i, i < c → zg σ 101 i = zg α 54 i ∧ zg σ 102 i = zg α 55 i ∧ zg σ 103 i = zg α 56 i ∧ zg σ 104 i = zg α 57 i
/-! plates: what one got, what one gave -/
def sumI (f : Nat → Int32) : Nat → Int32
  | 0 => 0
  | n + 1 => sumI f n + f n
def BP (α σ : zM) : Prop := (∀ g, g < 16 → zg σ 107 g = zg α 61 g ∧ zg σ 108 g = zg α 62 g ∧ zg σ 109 g = zg α 63 g) ∧ (∀ i, i < 256 → zg σ 112 i = zg α 64 i) ∧
  ∀ g, g < 16 → zg σ 110 g = sumI (fun h => zg α 64 (16 * h + g)) 16 ∧ zg σ 111 g = sumI (fun h => zg α 64 (16 * g + h)) 16
/-! X -/
def ID (x : Nat) (α : zM) : Prop := x < 65536 ∧ zg α 0 9 = nI x
def BD (x : Nat) (_ σ : zM) : Prop := zg σ 69 1 = nI x
/-! what is kept: nothing, or of so many guests -/
def IX (k : Option Nat) (α : zM) : Prop := match k with
  | none => zg α 0 11 = -1
  | some n => n ≤ 16 ∧ zg α 0 11 = nI n ∧ (∃ x, x < 65536 ∧ zg α 0 10 = nI x) ∧ (∀ g, g < n → (zg α 10 g = 0 ∧ zg α 11 g = -1) ∨ (zg α 10 g = 1 ∧ (zg α 11 g = -1 ∨ ∃ s, s < 40 ∧ zg α 11 g = nI s))) ∧
      (∀ g h, g < n → h < n → zg α 11 g = zg α 11 h → zg α 11 g ≠ -1 → g = h) ∧ ∀ s, s < 40 → ∃ x, x ≤ 99 ∧ zg α 53 s = nI x
def BX (k : Option Nat) (α σ : zM) : Prop := match k with
  | none => zg σ 69 64 = 0
  | some n => zg σ 69 64 = 1 ∧ zg σ 69 65 = nI n ∧ zg σ 69 66 = zg α 0 10 ∧ (∀ g, g < n → zg σ 113 g = (if zg α 10 g = 0 then -2 else zg α 11 g)) ∧ (∀ s, s < 40 → zg σ 114 s = zg α 53 s) ∧
      (∀ g, g < 16 → zg σ 115 g = zg α 65 g ∧ zg σ 116 g = zg α 66 g ∧ zg σ 117 g = zg α 67 g) ∧ (∀ i, i < 256 → zg σ 120 i = zg α 68 i) ∧
      ∀ g, g < 16 → zg σ 118 g = sumI (fun h => zg α 68 (16 * h + g)) 16 ∧ zg σ 119 g = sumI (fun h => zg α 68 (16 * g + h)) 16
