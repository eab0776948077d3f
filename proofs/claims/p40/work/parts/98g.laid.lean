/-! ===== the likings, the tape, the law ===== -/
section ZLZ
variable {xs : Nat → Int32} {L : Nat}
def RT {β : Type} (v : β) (o : Option (β × zM)) : Prop := ∀ r t, o = some (r, t) → r = v
theorem rt_none {β : Type} {v : β} : RT v (none : Option (β × zM)) := fun _ _ h => by cases h
theorem rt_some {β : Type} {v : β} {t : zM} : RT v (some (v, t)) := fun _ _ h => by cases h; rfl
theorem rt_bnd {α β : Type} {v : β} {o : Option (α × zM)} {f : α → zM → Option (β × zM)} (h : ∀ r s, RT v (f r s)) : RT v (bnd o f) := by
  intro r t e
  cases ho : o with
  | none => rw [ho] at e; cases e
  | some x => rw [ho] at e; exact h x.1 x.2 r t e
theorem rt_ite {β : Type} {v : β} {p : Prop} [Decidable p] {A B : Option (β × zM)} (h1 : RT v A) (h2 : RT v B) : RT v (if p then A else B) := by
  by_cases h : p
  · rw [if_pos h]; exact h1
  · rw [if_neg h]; exact h2
def wvq (xs : Nat → Int32) (L q : Nat) : Int32 := if nI (q / 8 + 1) < nI L then xs (q / 8 + 1) else (11 : Int32) * nI q
def lkq (xs : Nat → Int32) (L q : Nat) : Int32 := if q / 8 = q % 8 then 0 else ((wvq xs L q >>> (((8 : Int32) + ((2 : Int32) * nI (q % 8))) &&& 31)) &&& (15 : Int32)) - (7 : Int32)
def GK (xs : Nat → Int32) (L : Nat) (m : zM) : Nat → zM
  | 0 => m
  | q + 1 => if q / 8 = q % 8 then GK xs L m q else gs (f_X12_liking (nI (q / 8)) (nI (q % 8)) (lkq xs L q)) (GK xs L m q)
theorem v_div8 : ∀ q, q < 64 → nI q / (8 : Int32) = nI (q / 8) ∧ nI q - nI q / (8 : Int32) * (8 : Int32) = nI (q % 8) := by decide +kernel
theorem v_lk : ∀ b, b < 16 → ¬ (nI b - (7 : Int32) < -9) ∧ ¬ ((9 : Int32) < nI b - (7 : Int32)) := by decide +kernel
/-- a liking told, and heard -/
theorem v_liking {n f g : Nat} {v : Int32} {σ : zM} (hG : IG n σ) (hf : f < n) (hg : g < n) (hfg : ¬ f = g) (h1 : ¬ v < -9) (h2 : ¬ (9 : Int32) < v) : RT 1 (f_X11_liking (nI f) (nI g) v σ) := by
  have hn := hG.1
  unfold f_X11_liking
  rw [e_areTwo hn hG.2.1, if_pos ⟨fun w => hfg ((nI_eq (by omega) (by omega)).mp w), ⟨by rw [nI_toInt (by omega)]; omega, by rw [nI_toInt (by omega)]; omega⟩, by rw [nI_toInt (by omega)]; omega, by rw [nI_toInt (by omega)]; omega⟩, bnd_some, if_neg b1n, if_neg h1, if_neg h2]
  exact rt_bnd fun _ _ => rt_bnd fun _ _ => rt_some
theorem ly_177 {F D t : Nat} {σ0 m : zM} {K : zM → Option (Int32 × zM)} (hF : 6000 ≤ F) (ht : t < 2) (hL : L < 2 ^ 31) : ∀ (d fu q A : Nat) (c σ : zM), q + d = 64 → d < fu → A + d < 999 → LY t 8 A σ0 c (GK xs L m q) σ → ∃ c' σ', f_L_lay_L177 F D t xs L K fu (nI q) σ = K σ' ∧ LY t 8 (A + d) σ0 c' (GK xs L m 64) σ' ∧ zg c' 1 1 = zg c 1 1 := by
  intro d
  induction d with
  | zero =>
    intro fu q A c σ hq hfu hA h
    obtain ⟨fu, rfl⟩ : ∃ f', fu = f' + 1 := ⟨fu - 1, by omega⟩
    have hq8 : q = 64 := by omega
    subst hq8
    exact ⟨c, σ, by rw [f_L_lay_L177, if_neg (by decide)], h, rfl⟩
  | succ d ih =>
    intro fu q A c σ hq hfu hA h
    obtain ⟨fu, rfl⟩ : ∃ f', fu = f' + 1 := ⟨fu - 1, by omega⟩
    obtain ⟨d1, d2⟩ := v_div8 q (by omega)
    have z64 : zin (nI q) 64 = true := zin_n (by omega) (by omega)
    have h' := h.arr (k := 140) (j := q) (v := lkq xs L q) ht (by omega) (by omega)
    -- the step itself, whatever the bits are read from
    have step : ∃ c1 σ1, f_L_lay_j213 F D t xs L (f_L_lay_L177 F D t xs L K fu) (nI q) (wvq xs L q) σ = f_L_lay_L177 F D t xs L K fu (nI (q + 1)) σ1 ∧ LY t 8 (A + 1) σ0 c1 (GK xs L m (q + 1)) σ1 ∧ zg c1 1 1 = zg c 1 1 := by
      unfold f_L_lay_j213 f_L_lay_j255
      rw [d2, d1]
      by_cases e : q / 8 = q % 8
      · refine ⟨c, zs σ 140 q (lkq xs L q), ?_, ?_, rfl⟩
        · have e0 : lkq xs L q = 0 := by unfold lkq; rw [if_pos e]
          rw [if_pos (by rw [e]), if_pos z64, nI_clamp (by omega), lt_eq, if_pos (by rw [e]), lt_eq, nI_1, e0]
        · rw [GK, if_pos e]
          obtain ⟨a1, ⟨a, a2, a3⟩, a4⟩ := h'
          exact ⟨a1, ⟨a, by omega, a3⟩, a4⟩
      · have ne : ¬ nI (q / 8) = nI (q % 8) := fun w => e ((nI_eq (by omega) (by omega)).mp w)
        obtain ⟨b, hb, eb⟩ := and15 (wvq xs L q >>> (((8 : Int32) + ((2 : Int32) * nI (q % 8))) &&& 31))
        have el : lkq xs L q = nI b - (7 : Int32) := by unfold lkq; rw [if_neg e, eb]
        obtain ⟨r, s1, e1, e2, e3, e4⟩ := LY.call ([8], [(12, 5)]) (op_liking (nI (q / 8)) (nI (q % 8)) (lkq xs L q)) (fun s => fx_f_X11_liking _ _ _ (by decide +kernel) s) (fun c c' m => cg_f_X12_liking c c' _ _ _ m) (by decide +kernel) (by decide +kernel) ht (by omega) h'
        have hr : r = 1 := v_liking (h'.ig (by omega)) (by omega) (by omega) e (by rw [el]; exact (v_lk b hb).1) (by rw [el]; exact (v_lk b hb).2) _ _ e1
        subst hr
        refine ⟨s1, put t (zs σ 140 q (lkq xs L q)) (zmx s1 (gs (f_X12_liking (nI (q / 8)) (nI (q % 8)) (lkq xs L q)) (GK xs L m q))), ?_, by rw [GK, if_neg e]; exact e4 8 ((e3 3 8 rfl).trans ((zg_mlo (by decide)).trans h.2.2.1)), (e3 1 1 rfl).trans (zg_mlo (by decide))⟩
        · have el2 : ((wvq xs L q >>> (((8 : Int32) + ((2 : Int32) * nI (q % 8))) &&& 31)) &&& (15 : Int32)) - (7 : Int32) = lkq xs L q := by unfold lkq; rw [if_neg e]
          rw [if_neg ne, if_pos z64, nI_clamp (by omega), lt_eq, if_neg ne, if_pos z64, el2, zg_eq, e2, bnd_some, if_neg b1n, lt_eq, nI_1]
    obtain ⟨c1, σ1, e1, e2, e11⟩ := step
    obtain ⟨c', σ', g1, g2, g11⟩ := ih fu (q + 1) (A + 1) c1 σ1 (by omega) (by omega) (by omega) e2
    refine ⟨c', σ', ?_, by rw [show A + (d + 1) = A + 1 + d by omega]; exact g2, g11.trans e11⟩
    rw [f_L_lay_L177, if_pos (show nI q < (64 : Int32) by rw [show (64 : Int32) = nI 64 from rfl, nI_ltI (by omega) (by omega)]; omega), d1, nI_1, ← g1, ← e1]
    by_cases w : nI (q / 8 + 1) < nI L
    · have w' := (nI_ltI (by omega) hL).mp w
      rw [if_pos w, if_pos (zin_n (by omega) (by omega)), nI_clamp (by omega), show wvq xs L q = xs (q / 8 + 1) from if_pos w]
    · rw [if_neg w, show wvq xs L q = (11 : Int32) * nI q from if_neg w]
/-! the tape -/
def byt (v : Int32) (i : Nat) : Int32 := (v >>> (nI (24 - 8 * i) &&& 31)) &&& (255 : Int32)
def TC (t : Nat) (f : Nat → Int32) (σ : zM) : Prop := IT t σ ∧ ∀ j, j < t → zg σ 2 j = f j
theorem psA_2 {α : zM} {t j : Nat} {b : Int32} : zg (psA α t b) 2 j = if j = t then b else zg α 2 j := by
  unfold psA
  rw [zg_ne (by decide), zg_row]
theorem v_add {F t : Nat} {v : Int32} {f : Nat → Int32} {α : zM} (hF : 22 ≤ F) (h : TC t f α) (ht : t + 4 ≤ 220) (hf : ∀ i, i < 4 → f (t + i) = byt v i) : ∃ α', f_X10_add F v α = some ((), α') ∧ TC (t + 4) f α' := by
  obtain ⟨F', rfl⟩ : ∃ f', F = f' + 5 := ⟨F - 5, by omega⟩
  obtain ⟨h, hc⟩ := h
  obtain ⟨b3, hb3, e3⟩ := v_255 (v >>> ((24 : Int32) &&& 31))
  obtain ⟨b2, hb2, e2⟩ := v_255 (v >>> ((16 : Int32) &&& 31))
  obtain ⟨b1, hb1, e1⟩ := v_255 (v >>> ((8 : Int32) &&& 31))
  obtain ⟨b0, hb0, e0⟩ := v_255 (v >>> ((0 : Int32) &&& 31))
  have f3 : f t = nI b3 := (hf 0 (by omega)).trans e3
  have f2 : f (t + 1) = nI b2 := (hf 1 (by omega)).trans e2
  have f1 : f (t + 2) = nI b1 := (hf 2 (by omega)).trans e1
  have f0 : f (t + 3) = nI b0 := (hf 3 (by omega)).trans e0
  have i1 := h.ps (by omega) hb3
  have i2 := i1.ps (by omega) hb2
  have i3 := i2.ps (by omega) hb1
  have i4 := i3.ps (by omega) hb0
  refine ⟨_, ?_, i4, fun j hj => ?_⟩
  · unfold f_X10_add
    rw [a_byte h (by omega) (by decide), e3, show (24 : Int32) + (-8) = 16 from rfl, a_byte i1 (by omega) (by decide), e2, show (16 : Int32) + (-8) = 8 from rfl, a_byte i2 (by omega) (by decide), e1, show (8 : Int32) + (-8) = 0 from rfl, a_byte i3 (by omega) (by decide), e0, show (0 : Int32) + (-8) = -8 from rfl, f_X10_add_L3, if_pos (by decide)]
  · rw [psA_2, psA_2, psA_2, psA_2]
    by_cases q0 : j = t + 1 + 1 + 1
    · rw [if_pos q0, q0, show t + 1 + 1 + 1 = t + 3 by omega, f0]
    rw [if_neg q0]
    by_cases q1 : j = t + 1 + 1
    · rw [if_pos q1, q1, show t + 1 + 1 = t + 2 by omega, f1]
    rw [if_neg q1]
    by_cases q2 : j = t + 1
    · rw [if_pos q2, q2, f2]
    rw [if_neg q2]
    by_cases q3 : j = t
    · rw [if_pos q3, q3, f3]
    rw [if_neg q3]
    exact hc j (by omega)
theorem v_feed {F t : Nat} {v1 v2 v3 v4 v5 : Int32} {f : Nat → Int32} {α : zM} (hF : 22 ≤ F) (h : TC t f α) (ht : t + 20 ≤ 220) (hf : ∀ i, i < 4 → f (t + i) = byt v1 i ∧ f (t + 4 + i) = byt v2 i ∧ f (t + 4 + 4 + i) = byt v3 i ∧ f (t + 4 + 4 + 4 + i) = byt v4 i ∧ f (t + 4 + 4 + 4 + 4 + i) = byt v5 i) : ∃ α', f_X11_feed F v1 v2 v3 v4 v5 α = some (nI (t + 20), α') ∧ TC (t + 20) f α' := by
  obtain ⟨α1, x1, h1⟩ := v_add (v := v1) hF h (by omega) (fun i hi => (hf i hi).1)
  obtain ⟨α2, x2, h2⟩ := v_add (v := v2) hF h1 (by omega) (fun i hi => (hf i hi).2.1)
  obtain ⟨α3, x3, h3⟩ := v_add (v := v3) hF h2 (by omega) (fun i hi => (hf i hi).2.2.1)
  obtain ⟨α4, x4, h4⟩ := v_add (v := v4) hF h3 (by omega) (fun i hi => (hf i hi).2.2.2.1)
  obtain ⟨α5, x5, h5⟩ := v_add (v := v5) hF h4 (by omega) (fun i hi => (hf i hi).2.2.2.2)
  refine ⟨α5, ?_, h5⟩
  unfold f_X11_feed f_X10_hasRoom f_X10_length
  rw [h.1.2.1, show (20 : Int32) = nI 20 from rfl, nI_add, if_neg (by rw [show (220 : Int32) = nI 220 from rfl, nI_ltI (by omega) (by omega)]; omega), bnd_some, if_neg b1n, x1, bnd_some, x2, bnd_some, x3, bnd_some, x4, bnd_some, x5, bnd_some, h5.1.2.1, bnd_some]
/-- the text that is told, byte by byte -/
def conc (i : Nat) : Int32 := nI ([112, 40, 108, 62, 109, 45, 52, 124, 111, 61, 49, 41, 59, 119, 53, 45, 102, 40, 97, 61, 48, 41, 59, 104, 57, 45, 108, 45, 109, 40, 100, 60, 50, 41, 59, 104, 100, 40, 49, 61, 49, 41, 59, 118, 57, 48, 42, 111, 43, 116, 40, 49, 61, 49, 41].getD i 0)
def ctx (i : Nat) : Int32 := if i < 55 then conc i else -1
theorem five : (match pAll ctx 55 15 0 st0 R0c with | .inl x => x.1 == 5 | .inr _ => false) = true := by decide +kernel
theorem v_law {F D p q c : Nat} {σ : zM} (hF : 210 ≤ F) (hD : 21 ≤ D) (hW : IW p q c σ) (h : TC 60 conc σ) : RT 5 (f_X11_law F D 55 σ) := by
  have w := e_read (F := F) (D := D) (n := 55) hF hD h.1 hW (by omega) (by omega) (by omega)
  have ht : txc σ 55 = ctx := by
    funext i
    unfold txc ctx
    by_cases q : i < 55
    · rw [if_pos q, if_pos q, h.2 i (by omega)]
    · rw [if_neg q, if_neg q]
  rw [ht] at w
  have f5 := five
  have : ∃ σ', f_X4_read F D (nI 55) σ = some (5, σ') := by
    cases hp : pAll ctx 55 15 0 st0 R0c with
    | inr e => rw [hp] at f5; cases f5
    | inl x =>
      rw [hp] at f5 w
      have hx : x.1 = 5 := by simpa using f5
      obtain ⟨σ', w1, -⟩ := w
      rw [hx] at w1
      exact ⟨σ', w1⟩
  obtain ⟨σ', e⟩ := this
  have e' : f_X4_read F D 55 σ = some (5, σ') := e
  unfold f_X11_law f_X10_length
  rw [if_neg (by decide), if_neg (by decide), bnd_some, h.1.2.1, if_neg (by decide), e', bnd_some]
  refine rt_bnd fun _ _ => rt_ite (rt_bnd fun _ _ => rt_ite (rt_bnd fun _ _ => rt_ite (rt_bnd fun _ _ => rt_some) rt_none) rt_none) rt_some
end ZLZ
