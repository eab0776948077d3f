/-! ===== how a text is read: pure ===== -/
abbrev zLs : Type := Nat × Nat × (Nat → Int32 × Nat)
abbrev zPR : Type := zLs ⊕ Int32
def bndP (r : zPR) (f : zLs → zPR) : zPR := match r with
  | .inl st => f st
  | .inr e => .inr e
def flP (k pos : Nat) : zPR := .inr ((-1000 : Int32) * nI k - nI pos)
def adv (st : zLs) : zLs := (st.1 + 1, st.2.1, st.2.2)
def emi (st : zLs) (s : Int32) (v : Nat) : zLs := (st.1, st.2.1 + 1, fun j => if j = st.2.1 then (s, v) else st.2.2 j)
def lnd (st : zLs) (a : Nat) : zLs := (st.1, st.2.1, fun j => if j = a then ((st.2.2 a).1, st.2.1) else st.2.2 j)
def dg (c : Int32) : Bool := decide (48 ≤ c.toInt ∧ c.toInt ≤ 57)
def isPl (c : Int32) : Bool := decide (c = 43 ∨ c = 45)
def isTi (c : Int32) : Bool := decide (c = 42 ∨ c = 47 ∨ c = 37)
def letP (v : Int32) : Int32 := if v = 97 then 2 else if v = 98 then 3 else if v = 100 then 8 else if v = 102 then 0 else if v = 103 then 1 else if v = 108 then 6 else if v = 109 then 7 else if v = 111 then 9 else if v = 115 then 4 else if v = 116 then 5 else -1
def pNum (tx : Nat → Int32) : Nat → Nat → zLs → zPR
  | 0, num, st => if dg (tx st.1) = true then flP 2 st.1 else .inl (emi st 1 num)
  | k + 1, num, st => if dg (tx st.1) = true then pNum tx k (10 * num + ((tx st.1).toNatClampNeg - 48)) (adv st) else .inl (emi st 1 num)
def pFac (tx : Nat → Int32) (rec : Nat → zLs → zPR) (o : Nat) (st : zLs) : zPR :=
  if dg (tx st.1) = true then pNum tx 5 0 st
  else if tx st.1 = 91 then (if o < 6 then bndP (rec (o + 1) (adv st)) (fun st1 => if tx st1.1 = 93 then .inl (adv st1) else flP 1 st1.1) else flP 5 st.1)
  else if letP (tx st.1) = -1 then flP 1 st.1 else .inl (emi (adv st) 2 (letP (tx st.1)).toNatClampNeg)
def chL (tx : Nat → Int32) (isOp : Int32 → Bool) (p : zLs → zPR) : Nat → zLs → zPR
  | 0, st => .inl st
  | k + 1, st => if isOp (tx st.1) = true then bndP (p (adv st)) (fun st1 => chL tx isOp p k (emi st1 (tx st.1) 0)) else .inl st
def chn (tx : Nat → Int32) (isOp : Int32 → Bool) (p : zLs → zPR) (st : zLs) : zPR := bndP (p st) (chL tx isOp p 200)
def pS (tx : Nat → Int32) : Nat → Nat → zLs → zPR
  | 0, _, st => flP 5 st.1
  | d + 1, o, st => chn tx isPl (chn tx isTi (pFac tx (pS tx d) o)) st
def jL (tx : Nat → Int32) (c : Int32) (p : zLs → zPR) : Nat → zLs → zPR
  | 0, st => .inl st
  | k + 1, st => if tx st.1 = c then bndP (p (emi (adv st) c 0)) (fun st1 => jL tx c p k (lnd st1 st.2.1)) else .inl st
def jch (tx : Nat → Int32) (c : Int32) (p : zLs → zPR) (st : zLs) : zPR := bndP (p st) (jL tx c p 200)
def pCn (tx : Nat → Int32) (p : zLs → zPR) (st : zLs) : zPR := jch tx 124 (jch tx 38 p) st
def pPi (tx : Nat → Int32) (rec : Nat → zLs → zPR) (o : Nat) (st : zLs) : zPR :=
  if tx st.1 = 33 ∨ tx st.1 = 40 then
    (if o < 6 then (if tx st.1 = 40 then bndP (pCn tx (rec (o + 1)) (adv st)) (fun st1 => if tx st1.1 = 41 then .inl (adv st1) else flP 1 st1.1)
      else bndP (rec (o + 1) (adv st)) (fun st1 => .inl (emi st1 33 0))) else flP 5 st.1)
  else bndP (pS tx (7 - o) o st) (fun st1 => if tx st1.1 = 60 ∨ tx st1.1 = 62 ∨ tx st1.1 = 61 then bndP (pS tx (7 - o) o (adv st1)) (fun st2 => .inl (emi st2 (tx st1.1) 0)) else flP 1 st1.1)
def pP (tx : Nat → Int32) : Nat → Nat → zLs → zPR
  | 0, _, st => flP 5 st.1
  | d + 1, o, st => pPi tx (pP tx d) o st
/-! what is read is well made -/
def okC (C : Nat → Int32 × Nat) (τ : Nat → List Bool) (e k : Nat) : Prop := okStep (fun j => (C j).1) (fun j => nI (C j).2) τ e k
theorem okC_cg {C C' : Nat → Int32 × Nat} {τ τ' : Nat → List Bool} {e e' k : Nat} (h : okC C τ e k) (hk : k < e) (hC : C' k = C k) (ht : ∀ j, k ≤ j → j ≤ e → τ' j = τ j) (he : e ≤ e') : okC C' τ' e' k := by
  unfold okC okStep at h ⊢
  simp only [hC, ht k (Nat.le_refl k) (by omega), ht (k + 1) (by omega) (by omega)]
  rcases h with h | h | h | ⟨h1, r, v, h2, h3, h4, h5, h6, h7⟩ | h | h
  · exact Or.inl h
  · exact Or.inr (Or.inl h)
  · exact Or.inr (Or.inr (Or.inl h))
  · exact Or.inr (Or.inr (Or.inr (Or.inl ⟨h1, r, v, h2, h3, by omega, h5, h6, by rw [ht v (by omega) h4]; exact h7⟩)))
  · exact Or.inr (Or.inr (Or.inr (Or.inr (Or.inl h))))
  · exact Or.inr (Or.inr (Or.inr (Or.inr (Or.inr h))))
def Seg (C : Nat → Int32 × Nat) (a e : Nat) (b : Bool) (K : Nat) : Prop := a < e ∧ (∀ r : List Bool, ∃ τ : Nat → List Bool, τ a = r ∧ τ e = b :: r ∧ (∀ k, a ≤ k → k < e → okC C τ e k) ∧ ∀ k, a ≤ k → k ≤ e → (τ k).length ≤ r.length + K) ∧ ∀ j, a ≤ j → j < e → (C j).2 < 1048576
theorem Seg.cg {C C' : Nat → Int32 × Nat} {a e : Nat} {b : Bool} {K : Nat} (h : Seg C a e b K) (hC : ∀ j, a ≤ j → j < e → C' j = C j) : Seg C' a e b K := by
  obtain ⟨h1, h2, h3⟩ := h
  refine ⟨h1, fun r => ?_, fun j ha he => by rw [hC j ha he]; exact h3 j ha he⟩
  obtain ⟨τ, t1, t2, t3, t4⟩ := h2 r
  exact ⟨τ, t1, t2, fun k ha he => okC_cg (t3 k ha he) he (hC k ha he) (fun _ _ _ => rfl) (Nat.le_refl e), t4⟩
theorem Seg.up {C : Nat → Int32 × Nat} {a e : Nat} {b : Bool} {K K' : Nat} (h : Seg C a e b K) (hK : K ≤ K') : Seg C a e b K' := by
  obtain ⟨h1, h2, h3⟩ := h
  refine ⟨h1, fun r => ?_, h3⟩
  obtain ⟨τ, t1, t2, t3, t4⟩ := h2 r
  exact ⟨τ, t1, t2, t3, fun k ha he => by have := t4 k ha he; omega⟩
theorem Seg.leaf {C : Nat → Int32 × Nat} {a : Nat} (h : (C a).1 = 1 ∨ ((C a).1 = 2 ∧ (C a).2 < 10)) (hv : (C a).2 < 1048576) : Seg C a (a + 1) false 1 := by
  refine ⟨by omega, fun r => ⟨fun k => if k = a then r else false :: r, if_pos rfl, if_neg (by omega), fun k h1 h2 => ?_, fun k h1 h2 => ?_⟩, fun j h1 h2 => by rw [show j = a by omega]; exact hv⟩
  · have : k = a := by omega
    subst this
    unfold okC okStep
    dsimp only
    rw [if_pos rfl, if_neg (by omega)]
    rcases h with h | ⟨h, h'⟩
    · exact Or.inl ⟨h, rfl⟩
    · exact Or.inr (Or.inl ⟨h, ⟨_, h', rfl⟩, rfl⟩)
  · dsimp only
    split
    · omega
    · simp
theorem Seg.bin {C : Nat → Int32 × Nat} {a m e : Nat} {x y b : Bool} {K1 K2 K : Nat} (h1 : Seg C a m x K1) (h2 : Seg C m e y K2) (hs : (isAr (C e).1 ∧ b = false) ∨ (isCm (C e).1 ∧ b = true)) (hv : (C e).2 < 1048576) (hK1 : K1 ≤ K) (hK2 : K2 + 1 ≤ K) : Seg C a (e + 1) b K := by
  obtain ⟨p1, p2, p3⟩ := h1
  obtain ⟨q1, q2, q3⟩ := h2
  refine ⟨by omega, fun r => ?_, fun j ha he => ?_⟩
  · obtain ⟨τ, t1, t2, t3, t4⟩ := p2 r
    obtain ⟨ρ, u1, u2, u3, u4⟩ := q2 (x :: r)
    have lo : ∀ j, j ≤ m → (if j ≤ m then τ j else if j ≤ e then ρ j else b :: r) = τ j := fun j hj => if_pos hj
    have mi : ∀ j, m ≤ j → j ≤ e → (if j ≤ m then τ j else if j ≤ e then ρ j else b :: r) = ρ j := by
      intro j hj hj2
      by_cases q : j ≤ m
      · have : j = m := by omega
        subst this
        rw [if_pos q, t2, u1]
      · rw [if_neg q, if_pos hj2]
    have hi : (if e + 1 ≤ m then τ (e + 1) else if e + 1 ≤ e then ρ (e + 1) else b :: r) = b :: r := by rw [if_neg (by omega), if_neg (by omega)]
    refine ⟨fun j => if j ≤ m then τ j else if j ≤ e then ρ j else b :: r, (lo a (by omega)).trans t1, hi, fun k ha he => ?_, fun k ha he => ?_⟩
    · by_cases c1 : k < m
      · exact okC_cg (t3 k ha c1) c1 rfl (fun j _ hj => lo j hj) (by omega)
      · by_cases c2 : k < e
        · exact okC_cg (u3 k (by omega) c2) c2 rfl (fun j h1 h2 => mi j (by omega) h2) (by omega)
        · have : k = e := by omega
          subst this
          unfold okC okStep
          dsimp only
          rw [mi k (by omega) (by omega), hi, u2]
          rcases hs with ⟨hs, rfl⟩ | ⟨hs, rfl⟩
          · exact Or.inr (Or.inr (Or.inr (Or.inr (Or.inl ⟨hs, y, x, r, rfl, rfl⟩))))
          · exact Or.inr (Or.inr (Or.inr (Or.inr (Or.inr ⟨hs, y, x, r, rfl, rfl⟩))))
    · dsimp only
      by_cases c1 : k ≤ m
      · rw [lo k c1]; have := t4 k ha c1; omega
      · by_cases c2 : k ≤ e
        · rw [mi k (by omega) c2]
          have := u4 k (by omega) c2
          simp only [List.length_cons] at this; omega
        · have : k = e + 1 := by omega
          subst this
          rw [hi, List.length_cons]; omega
  · by_cases c1 : j < m
    · exact p3 j ha c1
    · by_cases c2 : j < e
      · exact q3 j (by omega) c2
      · rw [show j = e by omega]; exact hv
theorem Seg.not {C : Nat → Int32 × Nat} {a e : Nat} {K : Nat} (h : Seg C a e true K) (hs : (C e).1 = 33) (hv : (C e).2 < 1048576) (hK : 1 ≤ K) : Seg C a (e + 1) true K := by
  obtain ⟨p1, p2, p3⟩ := h
  refine ⟨by omega, fun r => ?_, fun j ha he => ?_⟩
  · obtain ⟨τ, t1, t2, t3, t4⟩ := p2 r
    have lo : ∀ j, j ≤ e → (if j ≤ e then τ j else true :: r) = τ j := fun j hj => if_pos hj
    have hi : (if e + 1 ≤ e then τ (e + 1) else true :: r) = true :: r := if_neg (by omega)
    refine ⟨fun j => if j ≤ e then τ j else true :: r, (lo a (by omega)).trans t1, hi, fun k ha he => ?_, fun k ha he => ?_⟩
    · by_cases c1 : k < e
      · exact okC_cg (t3 k ha c1) c1 rfl (fun j _ hj => lo j hj) (by omega)
      · have : k = e := by omega
        subst this
        unfold okC okStep
        dsimp only
        rw [lo k (by omega), hi, t2]
        exact Or.inr (Or.inr (Or.inl ⟨hs, r, rfl, rfl⟩))
    · dsimp only
      by_cases c1 : k ≤ e
      · rw [lo k c1]; exact t4 k ha c1
      · rw [show k = e + 1 by omega, hi, List.length_cons]; omega
  · by_cases c1 : j < e
    · exact p3 j ha c1
    · rw [show j = e by omega]; exact hv
theorem Seg.jmp {C : Nat → Int32 × Nat} {a m e : Nat} {K : Nat} (h1 : Seg C a m true K) (h2 : Seg C (m + 1) e true K) (hs : (C m).1 = 38 ∨ (C m).1 = 124) (hv : (C m).2 = e) (he : e < 1048576) : Seg C a e true K := by
  obtain ⟨p1, p2, p3⟩ := h1
  obtain ⟨q1, q2, q3⟩ := h2
  refine ⟨by omega, fun r => ?_, fun j ha hje => ?_⟩
  · obtain ⟨τ, t1, t2, t3, t4⟩ := p2 r
    obtain ⟨ρ, u1, u2, u3, u4⟩ := q2 r
    have lo : ∀ j, j ≤ m → (if j ≤ m then τ j else ρ j) = τ j := fun j hj => if_pos hj
    have hi : ∀ j, m < j → (if j ≤ m then τ j else ρ j) = ρ j := fun j hj => if_neg (by omega)
    refine ⟨fun j => if j ≤ m then τ j else ρ j, (lo a (by omega)).trans t1, (hi e (by omega)).trans u2, fun k ha hke => ?_, fun k ha hke => ?_⟩
    · by_cases c1 : k < m
      · exact okC_cg (t3 k ha c1) c1 rfl (fun j _ hj => lo j hj) (by omega)
      · by_cases c2 : k = m
        · subst c2
          unfold okC okStep
          dsimp only
          rw [lo k (Nat.le_refl k), hi (k + 1) (by omega), t2, u1, hv]
          exact Or.inr (Or.inr (Or.inr (Or.inl ⟨hs, r, e, rfl, by omega, Nat.le_refl e, rfl, rfl, by rw [if_neg (by omega)]; exact u2⟩)))
        · exact okC_cg (u3 k (by omega) hke) hke rfl (fun j h1 _ => hi j (by omega)) (Nat.le_refl e)
    · dsimp only
      by_cases c1 : k ≤ m
      · rw [lo k c1]; exact t4 k ha c1
      · rw [hi k (by omega)]; exact u4 k (by omega) hke
  · by_cases c1 : j < m
    · exact p3 j ha c1
    · by_cases c2 : j = m
      · rw [c2, hv]; exact he
      · exact q3 j (by omega) (by omega)
