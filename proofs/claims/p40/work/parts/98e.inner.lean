/-! ===== the law's questions to the one table ===== -/
section ZIN
variable {F D L : Nat} {xs : Nat → Int32} {r pp p q c a : Nat} {α σ0 : zM}
theorem sumI_swap (f : Nat → Nat → Int32) : ∀ n m, sumI (fun g => sumI (fun h => f h g) m) n = sumI (fun h => sumI (fun g => f h g) n) m := by
  have add : ∀ (m : Nat) (u v : Nat → Int32), sumI (fun h => u h + v h) m = sumI u m + sumI v m := by
    intro m u v
    induction m with
    | zero => rfl
    | succ m ih => rw [sumI, sumI, sumI, ih]; ac_rfl
  intro n m
  induction n with
  | zero =>
    show (0 : Int32) = sumI (fun h => (0 : Int32)) m
    induction m with
    | zero => rfl
    | succ m ih => rw [sumI, ← ih]; rfl
  | succ n ih =>
    rw [sumI, ih, ← add]
    rfl
theorem sumI_cut {f : Nat → Int32} (h : ∀ k, 8 ≤ k → k < 16 → f k = 0) : sumI f 16 = sumI f 8 := by
  have key : ∀ m, m ≤ 8 → sumI f (8 + m) = sumI f 8 := by
    intro m
    induction m with
    | zero => intro _; rfl
    | succ m ih => intro hm; rw [show 8 + (m + 1) = (8 + m) + 1 by omega, sumI, ih (by omega), h (8 + m) (by omega) (by omega), Int32.add_zero]
  exact key 8 (by omega)
/-- what the eight got of one another is what the eight gave -/
theorem got_gave {h e s d : Nat → Int32} (H : PQ h e s d) : sumI (fun g => sumI (fun x => d (16 * x + g)) 16) 8 = sumI (fun g => sumI (fun x => d (16 * g + x)) 16) 8 := by
  rw [sumI_ex2 (g := fun g => sumI (fun x => d (16 * x + g)) 8) 8 (fun g hg => sumI_cut (fun k h1 h2 => H.2 k g h2 (by omega) (Or.inl h1))), sumI_ex2 (g := fun g => sumI (fun x => d (16 * g + x)) 8) 8 (fun g hg => sumI_cut (fun k h1 h2 => H.2 g k (by omega) h2 (Or.inr h1)))]
  exact sumI_swap (fun x g => d (16 * x + g)) 8 8
theorem OW.led (hF : 6000 ≤ F) {σ : zM} (h : OW 8 r pp p q c a α σ0 σ) {g : Nat} (hg : g < 8) (w : Nat) (hw : w < 5) : inT 0 (f_X11_led F (nI g) (nI w)) σ = some (if w = 0 then zg α 61 g else if w = 1 then zg α 62 g else if w = 2 then zg α 63 g else if w = 3 then sumI (fun h => zg α 64 (16 * h + g)) 16 else sumI (fun h => zg α 64 (16 * g + h)) 16, σ) := by
  have := w_led hF h hg w hw
  rw [put_sub (by decide)] at this
  exact this
theorem OW.two1 (hF : 6000 ≤ F) {σ : zM} (h : OW 8 r pp p q c a α σ0 σ) {g k : Nat} (hg : g < 8) (hk : k < 8) (hgk : ¬ g = k) : ∃ σ', inT 0 (f_X11_two F (nI g) (nI k) 1) σ = some (hvO α p c g k, σ') ∧ OW 8 r pp p q c a α σ0 σ' := by
  obtain ⟨τ', e1, e2⟩ := q_two1 (F := F) (by omega) h.1 hg hk hgk
  exact h.step e1 (fx_f_X11_two F _ _ _ (m := ([13, 23, 32], [])) (by decide +kernel) _ _ _ e1).2 e2
theorem OW.rum (hF : 6000 ≤ F) {σ : zM} (h : OW 8 r pp p q c a α σ0 σ) {g k : Nat} (hg : g < 8) (hk : k < 8) : ∃ σ', inT 0 (f_X11_rumour F (nI g) 2 (nI k)) σ = some (RV α p c 8 r g k 2, σ') ∧ OW 8 r pp p q c a α σ0 σ' := by
  obtain ⟨τ', e1, e2⟩ := q_rumour (F := F) (mi := 2) (by omega) h.1 hg hk (by omega)
  exact h.step e1 (fx_f_X11_rumour F _ _ _ (m := ([13, 23, 32, 40, 41], [])) (by decide +kernel) _ _ _ e1).2 e2
theorem OW.soon (hF : 6000 ≤ F) {σ : zM} (h : OW 8 r pp p q c a α σ0 σ) {g k x : Nat} (hg : g < 8) (hk : k < 8) (h6 : ¬ zg α 6 g = -1) (h7 : ¬ zg α 6 k = -1) (hx : (SR α p c 8 r g 2).1 k = some x) : ∃ σ', inT 0 (f_X11_soonest F (nI g) (nI k) 2) σ = some (nI x, σ') ∧ OW 8 r pp p q c a α σ0 σ' := by
  obtain ⟨τ', e1, e2⟩ := q_soonest (F := F) (mi := 2) (by omega) h.1 hg hk (by omega) h6 h7
  rw [hx, if_neg (by simp)] at e1
  exact h.step e1 (fx_f_X11_soonest F _ _ _ (m := ([13, 23, 32, 40, 41], [])) (by decide +kernel) _ _ _ e1).2 e2
theorem OW.two0 (hF : 6000 ≤ F) {σ : zM} (h : OW 8 r pp p q c a α σ0 σ) {f k : Nat} (hf : f < 8) (hk : k < 8) (hfk : ¬ f = k) (h6 : ¬ zg α 6 f = -1) (h7 : ¬ zg α 6 k = -1) (hx : nxt (sN α f) (sN α k) = true) (hA : alw α p c f (sN α f) k (sN α k) = true) : ∃ σ', inT 0 (f_X11_two F (nI f) (nI k) 0) σ = some (1, σ') ∧ OW 8 r pp p q c a α σ0 σ' := by
  rcases h.1.1.seat hf with w | ⟨s, hs, w6⟩
  · exact absurd w h6
  rcases h.1.1.seat hk with w | ⟨t, ht, w7⟩
  · exact absurd w h7
  rw [sN_n w6 hs, sN_n w7 ht] at hx hA
  obtain ⟨τ', e1, e2⟩ := q_two0 (F := F) (by omega) h.1 hf hk hfk hs ht w6 w7 hx hA
  exact h.step e1 (fx_f_X11_two F _ _ _ (m := ([13, 23, 32], [])) (by decide +kernel) _ _ _ e1).2 e2
theorem in_693 (hF : 6000 ≤ F) {K : Int32 → Int32 → zM → Option (Int32 × zM)} {v7 v8 v9 : Int32} {g k : Nat} {σ : zM} (h : OW 8 r pp p q c a α σ0 σ) (hg : g < 8) (hk : k < 8) : ∃ σ', f_L_law_j693 F D xs L K v7 v8 v9 (nI g) (nI k) (RV α p c 8 r g k 2) σ = K 1 (nI (k + 1)) σ' ∧ OW 8 r pp p q c a α σ0 σ' := by
  unfold f_L_law_j693
  by_cases h0 : RV α p c 8 r g k 2 < 0
  · rw [if_pos h0, lt_eq, nI_1]
    exact ⟨σ, rfl, h⟩
  · rw [if_neg h0]
    obtain ⟨f, b1, b2, b3, b4, b5, b6, ⟨y, m, b7, b8, b9, b10⟩, b11, b12⟩ := tell_ok (by omega) h.1.1 hg (by omega) h0
    obtain ⟨σ1, c1, h1⟩ := h.soon hF hg b1 b4 b5 b7
    obtain ⟨σ2, c2, h2⟩ := h1.soon hF hg hk b4 b6 b8
    obtain ⟨σ3, c3, h3⟩ := h2.two0 hF b1 hk b3 b5 b6 b11 b12
    refine ⟨σ3, ?_, h3⟩
    rw [b2, c1, bnd_some, c2, bnd_some, if_pos (by rw [nI_ltI (by omega) (by omega)]; omega), c3, bnd_some, if_pos rfl, lt_eq, nI_1]
theorem in_642 (hF : 6000 ≤ F) {K : Int32 → zM → Option (Int32 × zM)} {v7 v8 v9 : Int32} {g : Nat} (hg : g < 8) : ∀ (d fu k : Nat) (σ : zM), k + d = 8 → d < fu → OW 8 r pp p q c a α σ0 σ → ∃ σ', f_L_law_L642 F D xs L K v7 v8 v9 (nI g) fu 1 (nI k) σ = K 1 σ' ∧ OW 8 r pp p q c a α σ0 σ' := by
  intro d
  induction d with
  | zero =>
    intro fu k σ hk hfu h
    obtain ⟨fu, rfl⟩ : ∃ f', fu = f' + 1 := ⟨fu - 1, by omega⟩
    have hk8 : k = 8 := by omega
    subst hk8
    exact ⟨σ, by rw [f_L_law_L642, if_neg (by decide)], h⟩
  | succ d ih =>
    intro fu k σ hk hfu h
    obtain ⟨fu, rfl⟩ : ∃ f', fu = f' + 1 := ⟨fu - 1, by omega⟩
    have hk8 : k < 8 := by omega
    have l8 : nI k < (8 : Int32) := by rw [show (8 : Int32) = nI 8 from rfl, nI_ltI (by omega) (by omega)]; omega
    obtain ⟨σ1, c1, h1⟩ := h.rum hF hg hk8
    rw [f_L_law_L642, if_pos l8, c1, bnd_some, if_neg b1n]
    by_cases e : g = k
    · obtain ⟨σ2, c2, h2⟩ := in_693 (D := D) (xs := xs) (L := L) (K := f_L_law_L642 F D xs L K v7 v8 v9 (nI g) fu) (v7 := v7) (v8 := v8) (v9 := v9) hF h1 hg hk8
      obtain ⟨σ', g1, g2⟩ := ih fu (k + 1) σ2 (by omega) (by omega) h2
      refine ⟨σ', ?_, g2⟩
      rw [if_pos (by rw [e]), c2]; exact g1
    · obtain ⟨σ2, c2, h2⟩ := h1.two1 hF hg hk8 e
      obtain ⟨σ3, c3, h3⟩ := h2.two1 hF hk8 hg (fun w => e w.symm)
      obtain ⟨σ4, c4, h4⟩ := in_693 (D := D) (xs := xs) (L := L) (K := f_L_law_L642 F D xs L K v7 v8 v9 (nI g) fu) (v7 := v7) (v8 := v8) (v9 := v9) hF h3 hg hk8
      obtain ⟨σ', g1, g2⟩ := ih fu (k + 1) σ4 (by omega) (by omega) h4
      refine ⟨σ', ?_, g2⟩
      rw [if_neg (fun w => e ((nI_eq (by omega) (by omega)).mp w)), c2, bnd_some, c3, bnd_some, if_pos (hvO_sym e), c4]; exact g1
theorem in_555 (hF : 6000 ≤ F) {K : Int32 → Int32 → Int32 → zM → Option (Int32 × zM)} {v7 : Int32} (hQ : PQ (zg α 61) (zg α 62) (zg α 63) (zg α 64)) : ∀ (d fu g : Nat) (σ : zM), g + d = 8 → d < fu → OW 8 r pp p q c a α σ0 σ → ∃ σ', f_L_law_L555 F D xs L K v7 fu 1 (sumI (fun g => sumI (fun x => zg α 64 (16 * x + g)) 16) g) (sumI (fun g => sumI (fun x => zg α 64 (16 * g + x)) 16) g) (nI g) σ = K 1 (sumI (fun g => sumI (fun x => zg α 64 (16 * x + g)) 16) 8) (sumI (fun g => sumI (fun x => zg α 64 (16 * g + x)) 16) 8) σ' ∧ OW 8 r pp p q c a α σ0 σ' := by
  intro d
  induction d with
  | zero =>
    intro fu g σ hg hfu h
    obtain ⟨fu, rfl⟩ : ∃ f', fu = f' + 1 := ⟨fu - 1, by omega⟩
    have hg8 : g = 8 := by omega
    subst hg8
    exact ⟨σ, by rw [f_L_law_L555, if_neg (by decide)], h⟩
  | succ d ih =>
    intro fu g σ hg hfu h
    obtain ⟨fu, rfl⟩ : ∃ f', fu = f' + 1 := ⟨fu - 1, by omega⟩
    have hg8 : g < 8 := by omega
    have l8 : nI g < (8 : Int32) := by rw [show (8 : Int32) = nI 8 from rfl, nI_ltI (by omega) (by omega)]; omega
    have l0 := h.led hF hg8 0 (by omega)
    have l1 := h.led hF hg8 1 (by omega)
    have l2 := h.led hF hg8 2 (by omega)
    have l3 := h.led hF hg8 3 (by omega)
    have l4 := h.led hF hg8 4 (by omega)
    rw [if_pos rfl] at l0
    rw [if_neg (by decide), if_pos rfl] at l1
    rw [if_neg (by decide), if_neg (by decide), if_pos rfl] at l2
    rw [if_neg (by decide), if_neg (by decide), if_neg (by decide), if_pos rfl] at l3
    rw [if_neg (by decide), if_neg (by decide), if_neg (by decide), if_neg (by decide)] at l4
    rw [show nI 0 = (0 : Int32) from rfl] at l0
    rw [show nI 1 = (1 : Int32) from rfl] at l1
    rw [show nI 2 = (2 : Int32) from rfl] at l2
    rw [show nI 3 = (3 : Int32) from rfl] at l3
    rw [show nI 4 = (4 : Int32) from rfl] at l4
    have hq := hQ.1 g (by omega)
    rw [f_L_law_L555, if_pos l8, l3, bnd_some, lt_eq, l4, bnd_some, lt_eq, if_neg b1n, l2, bnd_some, l3, bnd_some, l0, bnd_some, l1, bnd_some, l4, bnd_some, if_pos hq]
    obtain ⟨σ1, c1, h1⟩ := in_642 (D := D) (xs := xs) (L := L) (K := fun y131 s130 => lt (nI g + (1 : Int32)) (fun y132 => f_L_law_L555 F D xs L K v7 fu y131 (sumI (fun g => sumI (fun x => zg α 64 (16 * x + g)) 16) g + sumI (fun h => zg α 64 (16 * h + g)) 16) (sumI (fun g => sumI (fun x => zg α 64 (16 * g + x)) 16) g + sumI (fun h => zg α 64 (16 * g + h)) 16) y132 s130)) (v7 := v7) (v8 := sumI (fun g => sumI (fun x => zg α 64 (16 * x + g)) 16) g + sumI (fun h => zg α 64 (16 * h + g)) 16) (v9 := sumI (fun g => sumI (fun x => zg α 64 (16 * g + x)) 16) g + sumI (fun h => zg α 64 (16 * g + h)) 16) hF hg8 8 F 0 σ (by omega) (by omega) h
    obtain ⟨σ', g1, g2⟩ := ih fu (g + 1) σ1 (by omega) (by omega) h1
    refine ⟨σ', ?_, g2⟩
    refine c1.trans ?_
    rw [lt_eq, nI_1]
    exact g1
/-! exchange and sum -/
theorem cst_q {τ : zM} (h : QI 8 r pp p q c a α τ) (g s : Nat) (W : Int32) : cst τ p c 8 g s W = cst α p c 8 g s W := by
  have f := h.2.2.2.1
  unfold cst
  rw [wrt_fx f rfl h.2.2.1.or]
  congr 1
  refine rng_ext 8 0 (fun k _ _ => ?_)
  unfold cq
  rw [prs_eq (h.s6 k), sN_eq (h.s6 k), (sameL_fx f rfl h.2.2.1.or).2]
theorem XB_q {τ : zM} (h : QI 8 r pp p q c a α τ) : XB τ p c 8 = XB α p c 8 := by
  have f := h.2.2.2.1
  have hc : ∀ g s v, xcand τ p c 8 g s v = xcand α p c 8 g s v := by
    intro g s v
    unfold xcand xchg
    simp only [f 9 v rfl, h.tv, cst_q h, (sameL_fx f rfl h.2.2.1.or).2]
  have hr : ∀ m g s v b, xrow τ p c 8 g s m v b = xrow α p c 8 g s m v b := by
    intro m
    induction m with
    | zero => intros; rfl
    | succ m ih =>
      intro g s v b
      rw [xrow, xrow, ih]
      unfold xstp
      rw [hc]
  have ha : ∀ m g b, xall τ p c 8 m g b = xall α p c 8 m g b := by
    intro m
    induction m with
    | zero => intros; rfl
    | succ m ih =>
      intro g b
      rw [xall, xall, ih, h.s6, sN_eq (h.s6 g), hr]
  unfold XB
  rw [ha, h.tv]
theorem OW.find (hF : 6000 ≤ F) {σ : zM} (h : OW 8 r pp p q c a α σ0 σ) : (∃ σ', inT 0 (f_X11_exchange F 0) σ = some (if (XB α p c 8).2.1 = -1 then -2 else (XB α p c 8).2.1, σ') ∧ OW 8 r pp p q c a α σ0 σ') ∧ ∃ σ', inT 0 (f_X11_exchange F 2) σ = some ((XB α p c 8).1, σ') ∧ OW 8 r pp p q c a α σ0 σ' := by
  obtain ⟨τ', b, -, e1, e2, e3, rfl⟩ := q_find (F := F) (by omega) h.1
  rw [XB_q h.1] at e1 e2
  exact ⟨h.step e1 (fx_f_X11_exchange F _ (m := ([13, 14, 15, 23, 32], [(45, 2), (45, 3), (45, 4)])) (by decide +kernel) _ _ _ e1).2 e3, h.step e2 (fx_f_X11_exchange F _ (m := ([13, 14, 15, 23, 32], [(45, 2), (45, 3), (45, 4)])) (by decide +kernel) _ _ _ e2).2 e3⟩
theorem OW.sum (hF : 6000 ≤ F) {σ : zM} (h : OW 8 r pp p q c a α σ0 σ) : ∃ σ', inT 0 (f_X11_sum F) σ = some (tv α p c 8 0, σ') ∧ OW 8 r pp p q c a α σ0 σ' := by
  obtain ⟨τ', e1, e2⟩ := q_sum (F := F) (by omega) h.1
  exact h.step e1 (fx_f_X11_sum F (m := ([13, 14, 15, 23, 32], [])) (by decide +kernel) _ _ _ e1).2 e2
theorem in_800 (hF : 6000 ≤ F) {K : Int32 → Int32 → zM → Option (Int32 × zM)} {v7 : Int32} {σ : zM} (h : OW 8 r pp p q c a α σ0 σ) : f_L_law_j800 F D xs L K v7 σ = K 1 (v7 + 2) σ := by
  have hG := h.1.g
  have hs : inT 0 (f_X11_strays F) σ = some (strI (sub 0 σ) 8 0 0, σ) := by
    unfold inT; rw [v_strays (by omega) hG]; show some (_, put 0 σ (sub 0 σ)) = _; rw [put_sub (by decide)]
  have hh : inT 0 (f_X11_home F) σ = some (homI (sub 0 σ) 8 0 0 0, σ) := by
    unfold inT; rw [v_home (by omega) hG]; show some (_, put 0 σ (sub 0 σ)) = _; rw [put_sub (by decide)]
  have hb : inT 0 (f_J6_bitCount_0f7a4 (strI (sub 0 σ) 8 0 0)) σ = some (nI (cnt (strB (sub 0 σ)) 8 0), σ) := by
    unfold inT; rw [v_count]; show some (_, put 0 σ (sub 0 σ)) = _; rw [put_sub (by decide)]
  obtain ⟨x, e1, e2, e3, e4⟩ := v_homes (sub 0 σ)
  have l8 := cnt_le (strB (sub 0 σ)) 8 0
  unfold f_L_law_j800
  rw [hh, bnd_some, hs, bnd_some, hb, bnd_some, e1, if_neg (by rw [nI_ltI (by omega) (by omega)]; omega), hh, bnd_some, hs, bnd_some, hb, bnd_some, e1, show (2 : Int32) = nI 2 from rfl, pk_mul, if_neg (by rw [nI_ltI (by omega) (by omega)]; omega), lt_eq]
def tlK (F D : Nat) (xs : Nat → Int32) (L : Nat) (K : Int32 → Int32 → zM → Option (Int32 × zM)) (v7 : Int32) (y v w : Int32) (s : zM) : Option (Int32 × zM) :=
  if y = 0 then
    lt (v7 + (2 : Int32)) (fun y194 =>
    K (0 : Int32) y194 s)
  else
    if v = w then
      bnd (inT 0 (f_X11_exchange F (0 : Int32)) s) (fun r197 s196 =>
      if r197 = (-2 : Int32) then
        bnd (inT 0 (f_X11_exchange F (2 : Int32)) s196) (fun r204 s203 =>
        bnd (inT 0 (f_X11_sum F) s203) (fun r206 s205 =>
        if r204 = r206 then
          f_L_law_j800 F D xs L K v7 s205
        else
          lt (v7 + (2 : Int32)) (fun y207 =>
          K (0 : Int32) y207 s205)))
      else
        bnd (inT 0 (f_X11_exchange F (2 : Int32)) s196) (fun r199 s198 =>
        bnd (inT 0 (f_X11_sum F) s198) (fun r201 s200 =>
        if r199 < r201 then
          f_L_law_j800 F D xs L K v7 s200
        else
          lt (v7 + (2 : Int32)) (fun y202 =>
          K (0 : Int32) y202 s200))))
    else
      lt (v7 + (2 : Int32)) (fun y195 =>
      K (0 : Int32) y195 s)
theorem in_tl (hF : 6000 ≤ F) {K : Int32 → Int32 → zM → Option (Int32 × zM)} {v7 v w : Int32} (hvw : v = w) {σ : zM} (h : OW 8 r pp p q c a α σ0 σ) : ∃ σ', tlK F D xs L K v7 1 v w σ = K 1 (v7 + 2) σ' ∧ OW 8 r pp p q c a α σ0 σ' := by
  have good := XB_good (α := α) (p := p) (c := c) (n := 8) (by omega)
  obtain ⟨⟨σ1, c1, h1⟩, -⟩ := h.find hF
  obtain ⟨-, σ2, c2, h2⟩ := h1.find hF
  obtain ⟨σ3, c3, h3⟩ := h2.sum hF
  refine ⟨σ3, ?_, h3⟩
  unfold tlK
  rw [if_neg b1n, if_pos hvw, c1, bnd_some]
  rcases good with ⟨g1, g2⟩ | ⟨⟨g, hg, g1⟩, g2⟩
  · rw [if_pos g1, if_pos rfl, c2, bnd_some, c3, bnd_some, if_pos g2]
    exact in_800 hF h3
  · have n1 : ¬ (XB α p c 8).2.1 = -1 := by rw [g1]; exact nI_m1 (by omega)
    have n2 : ¬ (XB α p c 8).2.1 = -2 := by
      rw [g1, i_eq, nI_toInt (by omega)]
      have e : (-2 : Int32).toInt = -2 := rfl
      omega
    rw [if_neg n1, if_neg n2, c2, bnd_some, c3, bnd_some, if_pos g2]
    exact in_800 hF h3
end ZIN
