/-! ===== the class: passing on ===== -/
def cA : Option Nat → Int32
  | none => -1
  | some x => nI x
def aR (S : zR) (σ : zM) : Prop := ∀ g, g < 16 → zg σ 40 g = cA (S.1 g) ∧ zg σ 41 g = S.2 g
abbrev mSp : zMk := ([13, 23, 32, 40, 41], [])
/-- told again or not, and somebody new if so -/
def PW (n : Nat) (S S' : zR) (y y' : Int32) : Prop := (y' = y ∧ S' = S) ∨ (y' = 1 ∧ ∃ g, g < n ∧ S.1 g = none ∧ ¬ S'.1 g = none)
theorem PW.tr {n m : Nat} {S S1 S2 : zR} {y y1 y2 : Int32} (h1 : PW n S S1 y y1) (h2 : PW n S1 S2 y1 y2) (g1 : GR m S S1) (g2 : GR m S1 S2) : PW n S S2 y y2 := by
  rcases h1 with ⟨a, b⟩ | ⟨a, g, hg, b, c⟩
  · subst a; subst b; exact h2
  · rcases h2 with ⟨d, e⟩ | ⟨d, g', hg', e, f⟩
    · subst e; exact Or.inr ⟨d.trans a, g, hg, b, c⟩
    · exact Or.inr ⟨d, g', hg', g1.none e, f⟩
theorem cA_no {o : Option Nat} (h : ∀ x, o = some x → x ≤ 1000) : cA o = -1 ↔ o = none := by
  cases o with
  | none => exact ⟨fun _ => rfl, fun _ => rfl⟩
  | some x => exact ⟨fun q => absurd q (nI_m1 (by have := h x rfl; omega)), fun q => by cases q⟩
theorem e_way {F n r pp p q c f m w fu : Nat} {K : Int32 → zM → Option (Int32 × zM)} {y : Int32} {S : zR} {α τ : zM} (hF : 300 ≤ F) (hG : IG n α) (hN : IN r pp α) (hW : IW p q c α) (hx : Fx mSp α τ) (hS : aR S τ) (hb : ∀ g x, S.1 g = some x → x ≤ 1000) (hf : f < n) (hm : m < 1000) (hw : w < 3) : ∃ y' τ', f_X5_passOn_L5 F K (nI f) (nI m) (fu + 1) y (nI w) τ = f_X5_passOn_L5 F K (nI f) (nI m) fu y' (nI (w + 1)) τ' ∧ Fx mSp τ τ' ∧ aR (upR (fun g => canp α p c n r f g m && decide (besI (sN α f) w = zg α 6 g)) f m S) τ' ∧ PW n S (upR (fun g => canp α p c n r f g m && decide (besI (sN α f) w = zg α 6 g)) f m S) y y' := by
  have hn := hG.1
  have hGτ : IG n τ := hG.fx hx rfl
  have hw3 : nI w < (3 : Int32) := by rw [show (3 : Int32) = nI 3 from rfl, nI_ltI (by omega) (by omega)]; exact hw
  have e6 : zg τ 6 f = zg α 6 f := hx 6 f rfl
  rw [f_X5_passOn_L5, if_pos hw3, e_seatOf_n hn hGτ.2.1 hf, bnd_some, e6]
  have skip : (∀ g, S.1 g = none → (canp α p c n r f g m && decide (besI (sN α f) w = zg α 6 g)) = false) → ∀ τ', Fx mSp τ τ' → aR S τ' → ∃ y' τ'', f_X5_passOn_L5 F K (nI f) (nI m) fu y (nI (w + 1)) τ' = f_X5_passOn_L5 F K (nI f) (nI m) fu y' (nI (w + 1)) τ'' ∧ Fx mSp τ τ'' ∧ aR (upR (fun g => canp α p c n r f g m && decide (besI (sN α f) w = zg α 6 g)) f m S) τ'' ∧ PW n S (upR (fun g => canp α p c n r f g m && decide (besI (sN α f) w = zg α 6 g)) f m S) y y' := by
    intro h τ' hx' hS'
    rw [upR_no h]
    exact ⟨y, τ', rfl, hx', hS', Or.inl ⟨rfl, rfl⟩⟩
  have mneg : (-1 : Int32) < 0 := by decide
  rcases hG.seat hf with h6 | ⟨s, hs, h6⟩
  · rw [h6, e_beside_m1, bnd_some, e_at_m1, bnd_some, if_pos mneg, lt_eq, nI_1]
    exact skip (fun g _ => by unfold canp; rw [h6]; simp) τ Fx.rf hS
  · have hsn := sN_n h6 hs
    rw [hsn] at skip ⊢
    rw [h6, e_beside hs hw, bnd_some]
    rcases besI_or hs hw with hbe | ⟨t, ht, hbe⟩
    · rw [hbe, e_at_m1, bnd_some, if_pos mneg, lt_eq, nI_1]
      rw [hbe] at skip
      refine skip (fun g _ => ?_) τ Fx.rf hS
      by_cases h7 : zg α 6 g = -1
      · unfold canp; rw [h7]; simp
      · rw [decide_eq_false (fun q => h7 q.symm)]; simp
    · rw [hbe] at skip ⊢
      rw [e_at_n ht, bnd_some, hx 9 t rfl]
      rcases hG.2.2.2.2.1 t ht with h9 | ⟨o, ho, h9, h7⟩
      · rw [h9, if_pos mneg, lt_eq, nI_1]
        refine skip (fun g _ => ?_) τ Fx.rf hS
        by_cases hgn : g < n
        · rw [decide_eq_false (p := nI t = zg α 6 g) (fun q => by
            have := hG.sit9 hgn ht q.symm
            rw [h9] at this; exact nI_m1 (n := g) (by omega) this.symm)]
          simp
        · unfold canp; rw [decide_eq_false hgn]; simp
      · have hsno := sN_n h7 ht
        have only : ∀ g, (canp α p c n r f g m && decide (nI t = zg α 6 g)) = true → g = o := by
          intro g h
          simp only [Bool.and_eq_true, decide_eq_true_eq] at h
          exact hG.inj (canp_g f g m h.1) ho ht h.2.symm h7
        have hnx : nxt s t = true := (v_nxt s hs t ht).mpr (by
          have : w = 0 ∨ w = 1 ∨ w = 2 := by omega
          rcases this with rfl | rfl | rfl <;> simp [hbe])
        have hval : canp α p c n r f o m = (dryL α s m r 0 && (dryL α t m r 0 && alw α p c f s o t)) := by
          unfold canp
          have n6 : ¬ zg α 6 f = -1 := by rw [h6]; exact nI_m1 (by omega)
          have n7 : ¬ zg α 6 o = -1 := by rw [h7]; exact nI_m1 (by omega)
          rw [hsn, hsno, hnx, decide_eq_true hf, decide_eq_true ho, decide_eq_false n6, decide_eq_false n7]
          simp
        have skip2 : (S.1 o = none → canp α p c n r f o m = false) → ∀ τ', Fx mSp τ τ' → aR S τ' → _ := fun h τ' hx' hS' => skip (fun g hg => by
          cases hc : (canp α p c n r f g m && decide (nI t = zg α 6 g)) with
          | false => rfl
          | true =>
            have := only g hc
            subst this
            rw [h hg] at hc; cases hc) τ' hx' hS'
        have hNτ : IN r pp τ := hN.fx hx rfl
        have hWτ : IW p q c τ := hW.fx hx rfl
        have z : zin (nI o) 16 = true := zin_n (by omega) (by omega)
        rw [h9, if_neg (nI_pos (by omega)), if_pos (show nI o < (16 : Int32) by rw [show (16 : Int32) = nI 16 from rfl, nI_ltI (by omega) (by omega)]; omega), if_pos z, nI_clamp (by omega), (hS o (by omega)).1]
        by_cases hso : S.1 o = none
        · rw [if_pos ((cA_no (hb o)).mpr hso), e_seatOf_n hn hGτ.2.1 hf, bnd_some, e6, h6, e_isDry (by omega) hNτ hs, bnd_some, b01, dryL_fx hx rfl]
          by_cases d1 : dryL α s m r 0 = true
          · rw [if_pos d1, e_isDry (by omega) hNτ ht, bnd_some, b01, dryL_fx hx rfl]
            by_cases d2 : dryL α t m r 0 = true
            · obtain ⟨τ1, k1, k2⟩ := e_allows (F := F) hF hGτ hWτ hf ho hs ht (e6.trans h6) ((hx 6 o rfl).trans h7)
              have ha : alw τ p c f s o t = alw α p c f s o t := alw_fx hx rfl hW.or c f s o t
              rw [if_pos d2, k1, bnd_some, b01, ha]
              have hS1 : aR S τ1 := fun g hg => by rw [k2 40 g rfl, k2 41 g rfl]; exact hS g hg
              by_cases d3 : alw α p c f s o t = true
              · rw [if_pos d3, if_pos z, lt_eq, if_pos z, lt_eq, lt_eq, nI_1, nI_1]
                have hco : (canp α p c n r f o m && decide (nI t = zg α 6 o)) = true := by rw [hval, d1, d2, d3, h7]; simp
                refine ⟨1, zs (zs τ1 40 o (nI (m + 1))) 41 o (nI f), rfl, ((k2.sub rfl).zs rfl).zs rfl, fun g hg => ?_, Or.inr ⟨rfl, o, ho, hso, ?_⟩⟩
                · unfold upR
                  dsimp only
                  by_cases hgo : g = o
                  · subst hgo
                    rw [if_pos ⟨hso, hco⟩, if_pos ⟨hso, hco⟩, zg_ne (by decide), zg_eq, zg_eq]
                    exact ⟨rfl, rfl⟩
                  · have hno : ¬ (S.1 g = none ∧ (canp α p c n r f g m && decide (nI t = zg α 6 g)) = true) := fun q => hgo (only g q.2)
                    rw [if_neg hno, if_neg hno, zg_ne (by decide), zg_row, if_neg hgo, zg_row, if_neg hgo, zg_ne (by decide)]
                    exact hS1 g hg
                · unfold upR
                  dsimp only
                  rw [if_pos ⟨hso, hco⟩]; simp
              · rw [if_neg d3, lt_eq, nI_1]
                exact skip2 (fun _ => by rw [hval]; simp [d3]) τ1 (k2.sub rfl) hS1
            · rw [if_neg d2, lt_eq, nI_1]
              exact skip2 (fun _ => by rw [hval]; simp [d2]) τ Fx.rf hS
          · rw [if_neg d1, lt_eq, nI_1]
            exact skip2 (fun _ => by rw [hval]; simp [d1]) τ Fx.rf hS
        · rw [if_neg (fun q => hso ((cA_no (hb o)).mp q)), lt_eq, nI_1]
          exact skip2 (fun q => absurd q hso) τ Fx.rf hS
theorem e_passOn {F n r pp p q c f m : Nat} {S : zR} {α τ : zM} (hF : 300 ≤ F) (hG : IG n α) (hN : IN r pp α) (hW : IW p q c α) (hx : Fx mSp α τ) (hS : aR S τ) (b0 : ∀ g x, S.1 g = some x → x ≤ m + 1) (hf : f < n) (hm : m < 999) : ∃ y' τ', f_X5_passOn F (nI f) (nI m) τ = some (y', τ') ∧ Fx mSp τ τ' ∧ aR (upR (fun g => canp α p c n r f g m) f m S) τ' ∧ PW n S (upR (fun g => canp α p c n r f g m) f m S) 0 y' := by
  obtain ⟨F', hF'⟩ : ∃ F', F = F' + 1 + 1 + 1 + 1 := ⟨F - 4, by omega⟩
  have up1 : ∀ (C : Nat → Bool) (S : zR), (∀ g x, S.1 g = some x → x ≤ m + 1) → ∀ g x, (upR C f m S).1 g = some x → x ≤ m + 1 := by
    intro C S h g x hg
    rcases GR.up C f m S g with ⟨a, -⟩ | ⟨-, a⟩
    · exact h g x (by rw [← a]; exact hg)
    · rw [hg] at a; cases a; omega
  unfold f_X5_passOn
  generalize hK : (fun (y25 : Int32) (s24 : zM) => if y25 = 0 then some ((0 : Int32), s24) else if y25 = 1 then some ((1 : Int32), s24) else none) = K
  obtain ⟨y1, τ1, a1, a2, a3, a4⟩ := e_way (m := m) (fu := F' + 1 + 1 + 1) (K := K) (y := 0) (w := 0) hF hG hN hW hx hS (fun g x h => by have := b0 g x h; omega) hf (by omega) (by omega)
  have b1 := up1 (fun g => canp α p c n r f g m && decide (besI (sN α f) 0 = zg α 6 g)) S b0
  obtain ⟨y2, τ2, c1, c2, c3, c4⟩ := e_way (m := m) (fu := F' + 1 + 1) (K := K) (y := y1) (w := 1) hF hG hN hW (hx.tr a2) a3 (fun g x h => by have := b1 g x h; omega) hf (by omega) (by omega)
  have b2 := up1 (fun g => canp α p c n r f g m && decide (besI (sN α f) 1 = zg α 6 g)) _ b1
  obtain ⟨y3, τ3, d1, d2, d3, d4⟩ := e_way (m := m) (fu := F' + 1) (K := K) (y := y2) (w := 2) hF hG hN hW ((hx.tr a2).tr c2) c3 (fun g x h => by have := b2 g x h; omega) hf (by omega) (by omega)
  have hall : upR (fun g => canp α p c n r f g m && decide (besI (sN α f) 2 = zg α 6 g)) f m (upR (fun g => canp α p c n r f g m && decide (besI (sN α f) 1 = zg α 6 g)) f m (upR (fun g => canp α p c n r f g m && decide (besI (sN α f) 0 = zg α 6 g)) f m S)) = upR (fun g => canp α p c n r f g m) f m S := by
    rw [upR_two, upR_two]
    congr 1
    funext g
    cases hc : canp α p c n r f g m with
    | false => rfl
    | true =>
      have hg := canp_g f g m hc
      unfold canp at hc
      simp only [Bool.and_eq_true, Bool.not_eq_true', decide_eq_true_eq, decide_eq_false_iff_not] at hc
      obtain ⟨-, -, q1, q2, q3, -⟩ := hc
      rcases hG.seat hf with h6 | ⟨s, hs, h6⟩
      · exact absurd h6 q1
      rcases hG.seat hg with h7 | ⟨t, ht, h7⟩
      · exact absurd h7 q2
      rw [sN_n h6 hs, sN_n h7 ht] at q3
      have := (v_nxt s hs t ht).mp q3
      rw [sN_n h6 hs, h7]
      rcases this with h | h | h <;> simp [h]
  have hpw := (a4.tr c4 (GR.up _ f m _) (GR.up _ f m _)).tr d4 ((GR.up _ f m _).tr (GR.up _ f m _)) (GR.up _ f m _)
  rw [hall] at hpw d3
  refine ⟨y3, τ3, ?_, (a2.tr c2).tr d2, d3, hpw⟩
  rw [show f_X5_passOn_L5 F K (nI f) (nI m) F (0 : Int32) (0 : Int32) τ = f_X5_passOn_L5 F K (nI f) (nI m) (F' + 1 + 1 + 1 + 1) (0 : Int32) (nI 0) τ by rw [← hF']; rfl, a1, c1, d1, f_X5_passOn_L5, if_neg (by decide), ← hK]
  rcases hpw with ⟨h, -⟩ | ⟨h, -⟩
  · rw [h]; rfl
  · rw [h]; rfl
theorem e_roundA {F n r pp p q c mi kk : Nat} {K : Int32 → zM → Option (Unit × zM)} {α : zM} (hF : 300 ≤ F) (hG : IG n α) (hN : IN r pp α) (hW : IW p q c α) (hm : mi + kk < 999) : ∀ (j fu f : Nat) (y : Int32) (S : zR) (τ : zM), f + j = n → j < fu → Fx mSp α τ → aR S τ → (∀ g x, S.1 g = some x → x ≤ mi + kk + 1) → ∃ y' τ', f_X5_spread_L58 F K (nI mi) (nI kk) fu y (nI f) τ = K y' τ' ∧ Fx mSp τ τ' ∧ aR (rowA (canp α p c n r) (mi + kk) j f S) τ' ∧ PW n S (rowA (canp α p c n r) (mi + kk) j f S) y y' := by
  have hn := hG.1
  intro j
  induction j with
  | zero =>
    intro fu f y S τ hj hfu hx hS hb
    obtain ⟨fu, rfl⟩ : ∃ f', fu = f' + 1 := ⟨fu - 1, by omega⟩
    refine ⟨y, τ, ?_, Fx.rf, hS, Or.inl ⟨rfl, rfl⟩⟩
    rw [f_X5_spread_L58, f_X0_number, bnd_some, hx 3 8 rfl, hG.2.1, if_neg (by rw [nI_ltI (by omega) (by omega)]; omega)]
  | succ j ih =>
    intro fu f y S τ hj hfu hx hS hb
    obtain ⟨fu, rfl⟩ : ∃ f', fu = f' + 1 := ⟨fu - 1, by omega⟩
    rw [f_X5_spread_L58, f_X0_number, bnd_some, hx 3 8 rfl, hG.2.1, if_pos (by rw [nI_ltI (by omega) (by omega)]; omega), if_pos (show nI f < (16 : Int32) by rw [show (16 : Int32) = nI 16 from rfl, nI_ltI (by omega) (by omega)]; omega), if_pos (zin_n (by omega) (by omega)), nI_clamp (by omega), (hS f (by omega)).1, nI_add, rowA]
    by_cases hc : S.1 f = some (mi + kk)
    · rw [if_pos (by rw [hc]; rfl), if_pos hc]
      obtain ⟨y1, τ1, a1, a2, a3, a4⟩ := e_passOn hF hG hN hW hx hS hb (show f < n by omega) hm
      rw [a1, bnd_some]
      have b1 : ∀ g x, (upR (fun g => canp α p c n r f g (mi + kk)) f (mi + kk) S).1 g = some x → x ≤ mi + kk + 1 := by
        intro g x hg
        rcases GR.up (fun g => canp α p c n r f g (mi + kk)) f (mi + kk) S g with ⟨a, -⟩ | ⟨-, a⟩
        · exact hb g x (by rw [← a]; exact hg)
        · rw [hg] at a; cases a; omega
      by_cases h0 : y1 = 0
      · have e : upR (fun g => canp α p c n r f g (mi + kk)) f (mi + kk) S = S := by
          rcases a4 with ⟨-, e⟩ | ⟨e, -⟩
          · exact e
          · rw [h0] at e; exact absurd e (by decide)
        rw [e] at a3 ⊢
        obtain ⟨y', τ', e1, e2, e3, e4⟩ := ih fu (f + 1) y S τ1 (by omega) (by omega) (hx.tr a2) a3 hb
        refine ⟨y', τ', ?_, a2.tr e2, e3, e4⟩
        rw [if_pos h0, lt_eq, nI_1]; exact e1
      · have h1 : ∃ g, g < n ∧ S.1 g = none ∧ ¬ (upR (fun g => canp α p c n r f g (mi + kk)) f (mi + kk) S).1 g = none := by
          rcases a4 with ⟨e, -⟩ | ⟨-, e⟩
          · exact absurd e h0
          · exact e
        obtain ⟨y', τ', e1, e2, e3, e4⟩ := ih fu (f + 1) 1 _ τ1 (by omega) (by omega) (hx.tr a2) a3 b1
        refine ⟨y', τ', ?_, a2.tr e2, e3, PW.tr (m := mi + kk) (y1 := 1) (Or.inr ⟨rfl, h1⟩) e4 (GR.up _ _ _ _) (GR.A _ _ _ _ _)⟩
        rw [if_neg h0, lt_eq, nI_1]; exact e1
    · have hne : ¬ cA (S.1 f) = nI (mi + kk) := by
        intro h
        cases hq : S.1 f with
        | none => rw [hq] at h; exact nI_m1 (n := mi + kk) (by omega) h.symm
        | some x =>
          rw [hq] at h hc
          have := hb f x hq
          have : x = mi + kk := (nI_eq (by omega) (by omega)).mp h
          exact hc (by rw [this])
      rw [if_neg hne, if_neg hc, lt_eq, nI_1]
      exact ih fu (f + 1) y S τ (by omega) (by omega) hx hS hb
/-- who has it at first -/
def stR (f mi : Nat) : zR := (fun g => if g = f then some mi else none, fun _ => -1)
theorem e_spread0 {F f mi : Nat} {K : zM → Option (Unit × zM)} (hf : f < 16) : ∀ (j fu k : Nat) (τ : zM), k + j = 16 → j < fu → (∀ g, g < k → zg τ 40 g = cA ((stR f mi).1 g) ∧ zg τ 41 g = -1) → ∃ τ', f_X5_spread_L2 F K (nI f) (nI mi) fu (nI k) τ = K τ' ∧ Fx mSp τ τ' ∧ aR (stR f mi) τ' := by
  intro j
  induction j with
  | zero =>
    intro fu k τ hk hfu h
    obtain ⟨fu, rfl⟩ : ∃ f', fu = f' + 1 := ⟨fu - 1, by omega⟩
    have : k = 16 := by omega
    subst this
    exact ⟨τ, by rw [f_X5_spread_L2, if_neg (by decide)], Fx.rf, h⟩
  | succ j ih =>
    intro fu k τ hk hfu h
    obtain ⟨fu, rfl⟩ : ∃ f', fu = f' + 1 := ⟨fu - 1, by omega⟩
    have z : zin (nI k) 16 = true := zin_n (by omega) (by omega)
    have fin : ∀ v, v = cA ((stR f mi).1 k) → ∃ τ', f_X5_spread_L2 F K (nI f) (nI mi) fu (nI (k + 1)) (zs (zs τ 40 k v) 41 k (-1)) = K τ' ∧ Fx mSp τ τ' ∧ aR (stR f mi) τ' := by
      intro v hv
      obtain ⟨τ', a1, a2, a3⟩ := ih fu (k + 1) (zs (zs τ 40 k v) 41 k (-1)) (by omega) (by omega) (fun g hg => by
        rw [zg_ne (by decide), zg_row, zg_row, zg_ne (by decide)]
        by_cases hgk : g = k
        · subst hgk; rw [if_pos rfl, if_pos rfl]; exact ⟨hv, rfl⟩
        · rw [if_neg hgk, if_neg hgk]; exact h g (by omega))
      exact ⟨τ', a1, ((Fx.rf.zs rfl).zs rfl).tr a2, a3⟩
    rw [f_X5_spread_L2, if_pos (show nI k < (16 : Int32) by rw [show (16 : Int32) = nI 16 from rfl, nI_ltI (by omega) (by omega)]; omega), nI_clamp (by omega)]
    simp only [if_pos z, lt_eq, nI_1, nI_eq (show k < 2 ^ 31 by omega) (show f < 2 ^ 31 by omega)]
    by_cases hkf : k = f
    · rw [if_pos hkf]; exact fin (nI mi) (by unfold stR; simp [hkf, cA])
    · rw [if_neg hkf]; exact fin (-1) (by unfold stR; simp [hkf, cA])
theorem e_rounds {F n r pp p q c mi : Nat} {α : zM} (hF : 300 ≤ F) (hG : IG n α) (hN : IN r pp α) (hW : IW p q c α) (hm : mi < 100) : ∀ (j fu k : Nat) (y : Int32) (S : zR) (τ : zM), k + j = 16 → j < fu → Fx mSp α τ → aR S τ → (∀ g x, S.1 g = some x → x ≤ mi + k) → Stale (canp α p c n r) (mi + k) S → (y = 0 ∧ (∀ g x, S.1 g = some x → x < mi + k) ∨ y = 1 ∧ unR S n + k ≤ 15) → ∃ τ', f_X5_spread_L42 F (fun s18 => some ((), s18)) (nI mi) fu y (nI k) τ = some ((), τ') ∧ Fx mSp τ τ' ∧ aR (itM (canp α p c n r) n (999 - (mi + k)) (mi + k) S) τ' := by
  have hn := hG.1
  intro j
  induction j with
  | zero =>
    intro fu k y S τ hk hfu hx hS hb hst hy
    obtain ⟨fu, rfl⟩ : ∃ f', fu = f' + 1 := ⟨fu - 1, by omega⟩
    have : k = 16 := by omega
    subst this
    rcases hy with ⟨-, hlt⟩ | ⟨-, h⟩
    · refine ⟨τ, by rw [f_X5_spread_L42, if_neg (by decide)], Fx.rf, ?_⟩
      rw [it_idle canp_anti _ _ (by omega) hst hlt]; exact hS
    · omega
  | succ j ih =>
    intro fu k y S τ hk hfu hx hS hb hst hy
    obtain ⟨fu, rfl⟩ : ∃ f', fu = f' + 1 := ⟨fu - 1, by omega⟩
    rw [f_X5_spread_L42, if_pos (show nI k < (16 : Int32) by rw [show (16 : Int32) = nI 16 from rfl, nI_ltI (by omega) (by omega)]; omega)]
    rcases hy with ⟨rfl, hlt⟩ | ⟨rfl, hu⟩
    · rw [if_pos rfl, it_idle canp_anti _ _ (by omega) hst hlt]
      exact ⟨τ, rfl, Fx.rf, hS⟩
    · rw [if_neg b1n]
      obtain ⟨y', τ1, a1, a2, a3, a4⟩ := e_roundA (F := F) (kk := k) (mi := mi) (K := fun y16 s15 => lt (nI k + (1 : Int32)) (fun y17 => f_X5_spread_L42 F (fun s18 => some ((), s18)) (nI mi) fu y16 y17 s15)) hF hG hN hW (by omega) n F 0 0 S τ (by omega) (by omega) hx hS (fun g x h => by have := hb g x h; omega)
      have e0 : rowA (canp α p c n r) (mi + k) n 0 S = rowM (canp α p c n r) (mi + k) n 0 S := row_eq hst n 0 S GR.rf
      rw [e0] at a3 a4
      have g1 := GR.M (canp α p c n r) (mi + k) n 0 S
      have hst' : Stale (canp α p c n r) (mi + k + 1) (rowM (canp α p c n r) (mi + k) n 0 S) := stale_next canp_f canp_anti (by omega)
      have hy' : y' = 0 ∧ (∀ g x, (rowM (canp α p c n r) (mi + k) n 0 S).1 g = some x → x < mi + (k + 1)) ∨ y' = 1 ∧ unR (rowM (canp α p c n r) (mi + k) n 0 S) n + (k + 1) ≤ 15 := by
        rcases a4 with ⟨h1, h2⟩ | ⟨h1, g, hg, h2, h3⟩
        · exact Or.inl ⟨h1, fun g x h => by rw [h2] at h; have := hb g x h; omega⟩
        · exact Or.inr ⟨h1, by have := unR_lt g1 h2 h3 n hg; omega⟩
      obtain ⟨τ2, c1, c2, c3⟩ := ih fu (k + 1) y' _ τ1 (by omega) (by omega) (hx.tr a2) a3 (fun g x h => by have := g1.bd hb g x h; omega) hst' hy'
      refine ⟨τ2, ?_, a2.tr c2, ?_⟩
      · rw [show (0 : Int32) = nI 0 from rfl] at a1 ⊢
        rw [a1, lt_eq, nI_1]; exact c1
      · rw [show 999 - (mi + k) = 999 - (mi + (k + 1)) + 1 by omega, itM]
        exact c3
/-- the class: when each has it, and by whom -/
theorem e_spread {F n r pp p q c f mi : Nat} {α : zM} (hF : 300 ≤ F) (hG : IG n α) (hN : IN r pp α) (hW : IW p q c α) (hf : f < n) (hm : mi < 100) : ∃ τ', f_X5_spread F (nI f) (nI mi) α = some ((), τ') ∧ Fx mSp α τ' ∧ aR (itM (canp α p c n r) n (999 - mi) mi (stR f mi)) τ' := by
  have hn := hG.1
  unfold f_X5_spread
  obtain ⟨τ1, a1, a2, a3⟩ := e_spread0 (F := F) (f := f) (mi := mi) (K := fun s7 => f_X5_spread_L42 F (fun s18 => some ((), s18)) (nI mi) F (1 : Int32) (0 : Int32) s7) (by omega) 16 F 0 α (by omega) (by omega) (fun g hg => absurd hg (by omega))
  have hb' : ∀ g x, (stR f mi).1 g = some x → x = mi := by
    intro g x h
    unfold stR at h
    dsimp only at h
    split at h
    · cases h; rfl
    · cases h
  have hb : ∀ g x, (stR f mi).1 g = some x → x ≤ mi + 0 := fun g x h => by have := hb' g x h; omega
  obtain ⟨τ2, c1, c2, c3⟩ := e_rounds (F := F) (p := p) (q := q) (c := c) (mi := mi) hF hG hN hW hm 16 F 0 1 (stR f mi) τ1 (by omega) (by omega) a2 a3 hb (fun f x g h1 h2 => by have := hb' f x h1; omega) (Or.inr ⟨rfl, by
    have := unR_1 (S := stR f mi) (g := f) (by unfold stR; simp) n hf; omega⟩)
  exact ⟨τ2, a1.trans c1, a2.tr c2, c3⟩
