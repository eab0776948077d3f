/-! ===== the model: passing on, minute by minute ===== -/
def cM : Option Nat → Int32
  | none => 1000000000
  | some x => nI x
def bR (S : zR) (σ : zM) : Prop := ∀ g, g < 16 → zg σ 94 g = cM (S.1 g) ∧ zg σ 95 g = S.2 g
abbrev mLp : zMk := ([86, 87, 94, 95], [])
theorem cM_lt {o : Option Nat} (h : ∀ x, o = some x → x ≤ 1000) : cM o < (1000000000 : Int32) ↔ ¬ o = none := by
  cases o with
  | none => exact ⟨fun q => absurd q (by decide), fun q => absurd rfl q⟩
  | some x =>
    have hx := h x rfl
    have e : nI x < (1000000000 : Int32) := by
      rw [show (1000000000 : Int32) = nI 1000000000 from rfl, nI_ltI (by omega) (by omega)]
      omega
    exact ⟨fun _ q => by simp at q, fun _ => e⟩
theorem cM_eq {o : Option Nat} (h : ∀ x, o = some x → x ≤ 1000) : cM o = (1000000000 : Int32) ↔ o = none := by
  cases o with
  | none => exact ⟨fun _ => rfl, fun _ => rfl⟩
  | some x =>
    have hx := h x rfl
    have e : ¬ nI x = nI 1000000000 := by
      rw [nI_eq (by omega) (by omega)]
      omega
    exact ⟨fun q => absurd q e, fun q => by simp at q⟩
theorem e_inM {F n r pp p q c f m : Nat} {K : zM → Option (Unit × zM)} {S : zR} {α σ : zM} (hF : 300 ≤ F) (hG : IG n α) (hN : IN r pp α) (hW : IW p q c α) (hB : BG n α σ) (hL : BL α σ) (hV : BW p c α σ) (bN : BN r pp α σ) (hf : f < n) (hm : m < 999) (hb : ∀ g x, S.1 g = some x → x ≤ 1000) : ∀ (j fu k : Nat) (τ : zM), k + j = n → j < fu → Fx mLp σ τ → bR (upR (fun g => canp α p c n r f g m && decide (g < k)) f m S) τ → ∃ τ', f_X12_laysPassing_L75 F K (nI m) (nI f) fu (nI k) τ = K τ' ∧ Fx mLp τ τ' ∧ bR (upR (fun g => canp α p c n r f g m) f m S) τ' := by
  have hn := hG.1
  intro j
  induction j with
  | zero =>
    intro fu k τ hk hfu hx hS
    obtain ⟨fu, rfl⟩ : ∃ f', fu = f' + 1 := ⟨fu - 1, by omega⟩
    have e : (fun g => canp α p c n r f g m && decide (g < k)) = fun g => canp α p c n r f g m := by
      funext g
      cases hc : canp α p c n r f g m with
      | false => rfl
      | true => have := canp_g f g m hc; rw [decide_eq_true (show g < k by omega)]; rfl
    rw [e] at hS
    refine ⟨τ, ?_, Fx.rf, hS⟩
    rw [f_X12_laysPassing_L75, hx 69 0 rfl, hB.1, if_neg (by rw [nI_ltI (by omega) (by omega)]; omega)]
  | succ j ih =>
    intro fu k τ hk hfu hx hS
    obtain ⟨fu, rfl⟩ : ∃ f', fu = f' + 1 := ⟨fu - 1, by omega⟩
    have z : zin (nI k) 16 = true := zin_n (by omega) (by omega)
    have bt : BG n α τ := hB.si hx rfl
    have bNt : BN r pp α τ := bN.si hx rfl
    -- what the next one's state is
    have same : ∀ τ1, Fx mLp τ τ1 → bR (upR (fun g => canp α p c n r f g m && decide (g < k)) f m S) τ1 → (S.1 k = none → canp α p c n r f k m = false) → ∃ τ', f_X12_laysPassing_L75 F K (nI m) (nI f) fu (nI (k + 1)) τ1 = K τ' ∧ Fx mLp τ τ' ∧ bR (upR (fun g => canp α p c n r f g m) f m S) τ' := by
      intro τ1 h1 h2 h3
      have e : upR (fun g => canp α p c n r f g m && decide (g < k + 1)) f m S = upR (fun g => canp α p c n r f g m && decide (g < k)) f m S := by
        unfold upR
        have hc : ∀ g, (S.1 g = none ∧ (canp α p c n r f g m && decide (g < k + 1)) = true) ↔ (S.1 g = none ∧ (canp α p c n r f g m && decide (g < k)) = true) := by
          intro g
          simp only [Bool.and_eq_true, decide_eq_true_eq]
          constructor
          · rintro ⟨q1, q2, q3⟩
            refine ⟨q1, q2, ?_⟩
            by_cases hgk : g = k
            · subst hgk; rw [h3 q1] at q2; cases q2
            · omega
          · rintro ⟨q1, q2, q3⟩
            exact ⟨q1, q2, by omega⟩
        simp only [hc]
      obtain ⟨τ', a1, a2, a3⟩ := ih fu (k + 1) τ1 (by omega) (by omega) (hx.tr h1) (by rw [e]; exact h2)
      exact ⟨τ', a1, h1.tr a2, a3⟩
    have old : (upR (fun g => canp α p c n r f g m && decide (g < k)) f m S).1 k = S.1 k := by
      unfold upR
      exact if_neg (fun q => by have := q.2; simp at this)
    rw [f_X12_laysPassing_L75, hx 69 0 rfl, hB.1, if_pos (by rw [nI_ltI (by omega) (by omega)]; omega), if_pos z, nI_clamp (by omega), (hS k (by omega)).1, old]
    by_cases hs : S.1 k = none
    · rw [if_neg (fun q => (cM_lt (hb k)).mp q hs)]
      rcases hG.seat hf with h6 | ⟨s, hs6, h6⟩
      · have e1 : f_X12_sitNext F (nI f) (nI k) τ = some (0, τ) := by
          unfold f_X12_sitNext
          rw [e_sitsM hG bt hf, h6, if_pos rfl, bnd_some, if_pos rfl]
        rw [e1, bnd_some, if_pos rfl, lt_eq, nI_1]
        exact same τ Fx.rf hS (fun _ => by unfold canp; rw [h6]; simp)
      · have n6 : ¬ zg α 6 f = -1 := by rw [h6]; exact nI_m1 (by omega)
        rcases hG.seat (show k < n by omega) with h7 | ⟨t, ht, h7⟩
        · have e1 : f_X12_sitNext F (nI f) (nI k) τ = some (0, τ) := by
            unfold f_X12_sitNext
            rw [e_sitsM hG bt hf, if_neg n6, bnd_some, if_neg b1n, e_sitsM hG bt (show k < n by omega), h7, if_pos rfl, bnd_some, if_pos rfl]
          rw [e1, bnd_some, if_pos rfl, lt_eq, nI_1]
          exact same τ Fx.rf hS (fun _ => by unfold canp; rw [h7]; simp)
        · have n7 : ¬ zg α 6 k = -1 := by rw [h7]; exact nI_m1 (by omega)
          have hval : canp α p c n r f k m = (nxt s t && (dryL α s m r 0 && (dryL α t m r 0 && alw α p c f s k t))) := by
            unfold canp
            rw [sN_n h6 hs6, sN_n h7 ht, decide_eq_true hf, decide_eq_true (show k < n by omega), decide_eq_false n6, decide_eq_false n7]
            simp
          rw [e_sitNextM (by omega) hG bt hf (show k < n by omega) hs6 ht h6 h7, bnd_some, b01]
          by_cases d0 : nxt s t = true
          · rw [if_pos d0, e_isWet (by omega) hG bt hN bNt hf hs6 h6, bnd_some]
            by_cases d1 : dryL α s m r 0 = true
            · rw [if_pos d1, if_pos rfl, e_isWet (by omega) hG bt hN bNt (show k < n by omega) ht h7, bnd_some]
              by_cases d2 : dryL α t m r 0 = true
              · obtain ⟨τ1, k1, k2⟩ := e_lets (F := F) hF hG bt (hL.si hx rfl) hW (hV.si hx rfl) hf (show k < n by omega) hs6 ht h6 h7
                have hS1 : bR (upR (fun g => canp α p c n r f g m && decide (g < k)) f m S) τ1 := fun g hg => by rw [k2 94 g rfl, k2 95 g rfl]; exact hS g hg
                rw [if_pos d2, if_pos rfl, k1, bnd_some, b01]
                by_cases d3 : alw α p c f s k t = true
                · have hck : canp α p c n r f k m = true := by rw [hval, d0, d1, d2, d3]; rfl
                  rw [if_pos d3, if_pos z, lt_eq, if_pos z, lt_eq, lt_eq, nI_1, nI_1]
                  obtain ⟨τ', a1, a2, a3⟩ := ih fu (k + 1) (zs (zs τ1 94 k (nI (m + 1))) 95 k (nI f)) (by omega) (by omega) ((hx.tr (k2.sub rfl)).tr ((Fx.rf.zs rfl).zs rfl)) (fun g hg => by
                    rw [zg_ne (by decide), zg_row, zg_row, zg_ne (by decide)]
                    by_cases hgk : g = k
                    · subst hgk
                      unfold upR
                      dsimp only
                      have hq : S.1 g = none ∧ (canp α p c n r f g m && decide (g < g + 1)) = true := ⟨hs, by rw [hck]; simp⟩
                      rw [if_pos rfl, if_pos rfl, if_pos hq, if_pos hq]
                      exact ⟨rfl, rfl⟩
                    · rw [if_neg hgk, if_neg hgk]
                      have hd : decide (g < k + 1) = decide (g < k) := by by_cases h : g < k <;> simp [h] <;> omega
                      have := hS1 g hg
                      unfold upR at this ⊢
                      dsimp only at this ⊢
                      simp only [hd]; exact this)
                  exact ⟨τ', a1, ((k2.sub rfl).tr ((Fx.rf.zs rfl).zs rfl)).tr a2, a3⟩
                · rw [if_neg d3, lt_eq, nI_1]
                  exact same τ1 (k2.sub rfl) hS1 (fun _ => by rw [hval]; simp [d3])
              · rw [if_neg d2, if_neg b1n, lt_eq, nI_1]
                exact same τ Fx.rf hS (fun _ => by rw [hval]; simp [d2])
            · rw [if_neg d1, if_neg b1n, lt_eq, nI_1]
              exact same τ Fx.rf hS (fun _ => by rw [hval]; simp [d1])
          · rw [if_neg d0, lt_eq, nI_1]
            exact same τ Fx.rf hS (fun _ => by rw [hval]; simp [d0])
    · rw [if_pos ((cM_lt (hb k)).mpr hs), lt_eq, nI_1]
      exact same τ Fx.rf hS (fun q => absurd q hs)
theorem e_roundM {F n r pp p q c m : Nat} {K : zM → Option (Unit × zM)} {α σ : zM} (hF : 300 ≤ F) (hG : IG n α) (hN : IN r pp α) (hW : IW p q c α) (hB : BG n α σ) (hL : BL α σ) (hV : BW p c α σ) (bN : BN r pp α σ) (hm : m < 999) : ∀ (j fu f : Nat) (S : zR) (τ : zM), f + j = n → j < fu → Fx mLp σ τ → bR S τ → (∀ g x, S.1 g = some x → x ≤ m + 1) → ∃ τ', f_X12_laysPassing_L49 F K (nI m) fu (nI f) τ = K τ' ∧ Fx mLp τ τ' ∧ bR (rowM (canp α p c n r) m j f S) τ' := by
  have hn := hG.1
  intro j
  induction j with
  | zero =>
    intro fu f S τ hj hfu hx hS hb
    obtain ⟨fu, rfl⟩ : ∃ f', fu = f' + 1 := ⟨fu - 1, by omega⟩
    refine ⟨τ, ?_, Fx.rf, hS⟩
    rw [f_X12_laysPassing_L49, hx 69 0 rfl, hB.1, if_neg (by rw [nI_ltI (by omega) (by omega)]; omega)]
  | succ j ih =>
    intro fu f S τ hj hfu hx hS hb
    obtain ⟨fu, rfl⟩ : ∃ f', fu = f' + 1 := ⟨fu - 1, by omega⟩
    have h1000 : ∀ g x, S.1 g = some x → x ≤ 1000 := fun g x h => by have := hb g x h; omega
    rw [f_X12_laysPassing_L49, hx 69 0 rfl, hB.1, if_pos (by rw [nI_ltI (by omega) (by omega)]; omega), if_pos (zin_n (by omega) (by omega)), nI_clamp (by omega), (hS f (by omega)).1, rowM]
    have hlt : (nI m < cM (S.1 f)) ↔ ¬ heM S f m = true := by
      unfold heM
      cases hq : S.1 f with
      | none =>
        refine ⟨fun _ => by simp, fun _ => ?_⟩
        show nI m < (1000000000 : Int32)
        rw [show (1000000000 : Int32) = nI 1000000000 from rfl, nI_ltI (by omega) (by omega)]
        omega
      | some x =>
        have := hb f x hq
        show nI m < nI x ↔ _
        rw [nI_ltI (by omega) (by omega)]
        simp
    by_cases hh : heM S f m = true
    · rw [if_neg (fun q => hlt.mp q hh), if_pos hh]
      have h0 : upR (fun g => canp α p c n r f g m && decide (g < 0)) f m S = S := upR_no fun g _ => by simp
      obtain ⟨τ1, a1, a2, a3⟩ := e_inM (F := F) (S := S) (K := fun s22 => lt (nI f + (1 : Int32)) (fun y23 => f_X12_laysPassing_L49 F K (nI m) fu y23 s22)) hF hG hN hW hB hL hV bN (show f < n by omega) hm h1000 n F 0 τ (by omega) (by omega) hx (by rw [h0]; exact hS)
      obtain ⟨τ', c1, c2, c3⟩ := ih fu (f + 1) _ τ1 (by omega) (by omega) (hx.tr a2) a3 (by
        intro g x hg
        rcases GR.up (fun g => canp α p c n r f g m) f m S g with ⟨a, -⟩ | ⟨-, a⟩
        · exact hb g x (by rw [← a]; exact hg)
        · rw [hg] at a; cases a; omega)
      refine ⟨τ', ?_, a2.tr c2, c3⟩
      rw [show (0 : Int32) = nI 0 from rfl, a1, lt_eq, nI_1]; exact c1
    · rw [if_pos (hlt.mpr hh), if_neg hh, lt_eq, nI_1]
      exact ih fu (f + 1) S τ (by omega) (by omega) hx hS hb
theorem e_itM {F n r pp p q c : Nat} {α σ : zM} (hF : 300 ≤ F) (hG : IG n α) (hN : IN r pp α) (hW : IW p q c α) (hB : BG n α σ) (hL : BL α σ) (hV : BW p c α σ) (bN : BN r pp α σ) : ∀ (j fu m : Nat) (S : zR) (τ : zM), m + j = 999 → j < fu → Fx mLp σ τ → bR S τ → (∀ g x, S.1 g = some x → x ≤ m) → ∃ τ', f_X12_laysPassing_L39 F (fun s27 => some ((), s27)) fu (nI m) τ = some ((), τ') ∧ Fx mLp τ τ' ∧ bR (itM (canp α p c n r) n j m S) τ' := by
  have hn := hG.1
  intro j
  induction j with
  | zero =>
    intro fu m S τ hj hfu hx hS hb
    obtain ⟨fu, rfl⟩ : ∃ f', fu = f' + 1 := ⟨fu - 1, by omega⟩
    have : m = 999 := by omega
    subst this
    exact ⟨τ, by rw [f_X12_laysPassing_L39, if_neg (by decide)], Fx.rf, hS⟩
  | succ j ih =>
    intro fu m S τ hj hfu hx hS hb
    obtain ⟨fu, rfl⟩ : ∃ f', fu = f' + 1 := ⟨fu - 1, by omega⟩
    rw [f_X12_laysPassing_L39, if_pos (show nI m < (999 : Int32) by rw [show (999 : Int32) = nI 999 from rfl, nI_ltI (by omega) (by omega)]; omega), itM]
    obtain ⟨τ1, a1, a2, a3⟩ := e_roundM (F := F) (m := m) (K := fun s25 => lt (nI m + (1 : Int32)) (fun y26 => f_X12_laysPassing_L39 F (fun s27 => some ((), s27)) fu y26 s25)) hF hG hN hW hB hL hV bN (by omega) n F 0 S τ (by omega) (by omega) hx hS (fun g x h => by have := hb g x h; omega)
    obtain ⟨τ', c1, c2, c3⟩ := ih fu (m + 1) _ τ1 (by omega) (by omega) (hx.tr a2) a3 ((GR.M _ _ _ _ _).bd hb)
    refine ⟨τ', ?_, a2.tr c2, c3⟩
    rw [show (0 : Int32) = nI 0 from rfl, a1, lt_eq, nI_1]; exact c1
theorem e_passing {F n r pp p q c f mi : Nat} {α σ : zM} (hF : 1100 ≤ F) (hG : IG n α) (hN : IN r pp α) (hW : IW p q c α) (hB : BG n α σ) (hL : BL α σ) (hV : BW p c α σ) (bN : BN r pp α σ) (hf : f < n) (hm : mi < 100) : ∃ τ', f_X12_laysPassing F (nI f) (nI mi) σ = some ((), τ') ∧ Fx mLp σ τ' ∧ bR (itM (canp α p c n r) n (999 - mi) mi (stR f mi)) τ' := by
  have hn := hG.1
  have first : ∀ (K : zM → Option (Unit × zM)) (j fu k : Nat) (τ : zM), k + j = 16 → j < fu → (∀ g, g < k → zg τ 94 g = (1000000000 : Int32) ∧ zg τ 95 g = -1) → ∃ τ', f_X12_laysPassing_L2 F K (nI f) (nI mi) fu (nI k) τ = K τ' ∧ Fx mLp τ τ' ∧ ∀ g, g < 16 → zg τ' 94 g = (1000000000 : Int32) ∧ zg τ' 95 g = -1 := by
    intro K j
    induction j with
    | zero =>
      intro fu k τ hk hfu h
      obtain ⟨fu, rfl⟩ : ∃ f', fu = f' + 1 := ⟨fu - 1, by omega⟩
      have : k = 16 := by omega
      subst this
      exact ⟨τ, by rw [f_X12_laysPassing_L2, if_neg (by decide)], Fx.rf, h⟩
    | succ j ih =>
      intro fu k τ hk hfu h
      obtain ⟨fu, rfl⟩ : ∃ f', fu = f' + 1 := ⟨fu - 1, by omega⟩
      have z : zin (nI k) 16 = true := zin_n (by omega) (by omega)
      obtain ⟨τ', a1, a2, a3⟩ := ih fu (k + 1) (zs (zs τ 94 k 1000000000) 95 k (-1)) (by omega) (by omega) (fun g hg => by
        rw [zg_ne (by decide), zg_row, zg_row, zg_ne (by decide)]
        by_cases hgk : g = k
        · subst hgk; rw [if_pos rfl, if_pos rfl]; exact ⟨rfl, rfl⟩
        · rw [if_neg hgk, if_neg hgk]; exact h g (by omega))
      refine ⟨τ', ?_, ((Fx.rf.zs rfl).zs rfl).tr a2, a3⟩
      rw [f_X12_laysPassing_L2, if_pos (show nI k < (16 : Int32) by rw [show (16 : Int32) = nI 16 from rfl, nI_ltI (by omega) (by omega)]; omega), if_pos z, nI_clamp (by omega), lt_eq, if_pos z, lt_eq, lt_eq, nI_1]
      exact a1
  unfold f_X12_laysPassing
  obtain ⟨τ1, a1, a2, a3⟩ := first (fun s4 => if zin (nI f) 16 = true then lt (zs s4 94 (nI f).toNatClampNeg (nI mi)) (fun s5 => f_X12_laysPassing_L39 F (fun s27 => some ((), s27)) F (nI mi) s5) else none) 16 F 0 σ (by omega) (by omega) (fun g hg => absurd hg (by omega))
  obtain ⟨τ2, c1, c2, c3⟩ := e_itM (F := F) (p := p) (q := q) (c := c) (by omega) hG hN hW hB hL hV bN (999 - mi) F mi (stR f mi) (zs τ1 94 f (nI mi)) (by omega) (by omega) (a2.tr (Fx.rf.zs rfl)) (fun g hg => by
    rw [zg_row, zg_ne (by decide)]
    unfold stR
    dsimp only
    by_cases hgf : g = f
    · subst hgf; rw [if_pos rfl, if_pos rfl]; exact ⟨rfl, (a3 g hg).2⟩
    · rw [if_neg hgf, if_neg hgf]; exact a3 g hg) (fun g x h => by
      unfold stR at h
      dsimp only at h
      split at h
      · cases h; omega
      · cases h)
  refine ⟨τ2, ?_, (a2.tr (Fx.rf.zs rfl)).tr c2, c3⟩
  refine a1.trans ?_
  rw [if_pos (zin_n (by omega) (by omega)), nI_clamp (by omega), lt_eq]
  exact c1
