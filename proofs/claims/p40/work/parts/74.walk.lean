/-! ===== the model: a way by its code ===== -/
def Good (α : zM) (n a b n0 code : Nat) (f : Nat → Nat) : Prop := Val α n a b n0 f ∧ ∀ i, i < n0 → besI (sN α (f i)) (code / 3 ^ i % 3) = nI (sN α (f (i + 1)))
abbrev mWk : zMk := ([86, 87, 96], [(69, 42)])
theorem tail_L {F n0 : Nat} {v2 : Int32} {K : zM → Option (Int32 × zM)} : ∀ (d fu k x : Nat) (v5 v6 : Int32) (τ : zM), k + d = 6 → d < fu → n0 ≤ k → zgl τ 1 = lN x → ∃ τ', f_X12_walks_L29 F K v2 (nI n0) fu v5 v6 (nI k) τ = K τ' ∧ (∀ i j, zg τ' i j = zg τ i j) ∧ zgl τ' 1 = lN (x * 1000 ^ d) ∧ zgl τ' 2 = zgl τ 2 := by
  intro d
  induction d with
  | zero =>
    intro fu k x v5 v6 τ hk hfu hn hx
    obtain ⟨fu, rfl⟩ : ∃ f', fu = f' + 1 := ⟨fu - 1, by omega⟩
    have : k = 6 := by omega
    subst this
    refine ⟨τ, ?_, fun _ _ => rfl, by rw [hx]; simp, rfl⟩
    rw [f_X12_walks_L29, if_neg (by decide)]
  | succ d ih =>
    intro fu k x v5 v6 τ hk hfu hn hx
    obtain ⟨fu, rfl⟩ : ∃ f', fu = f' + 1 := ⟨fu - 1, by omega⟩
    obtain ⟨τ', a1, a2, a3, a4⟩ := ih fu (k + 1) (x * 1000) v5 v6 (zsl τ 1 (zgl τ 1 * (1000 : Int64))) (by omega) (by omega) (by omega) (by rw [zgl_eq, hx, show (1000 : Int64) = lN 1000 from rfl, lN_mul])
    refine ⟨τ', ?_, fun i j => (a2 i j).trans zg_sl, ?_, a4.trans (zgl_ne (by decide))⟩
    · rw [f_X12_walks_L29, if_pos (show nI k < (6 : Int32) by rw [show (6 : Int32) = nI 6 from rfl, nI_ltI (by omega) (by omega)]; omega), if_neg (by rw [nI_ltI (by omega) (by omega)]; omega), lt_eq, lt_eq, nI_1]
      exact a1
    · rw [a3, Nat.pow_succ, Nat.mul_assoc, Nat.mul_comm 1000]
theorem walk_L {F n p q c a b n0 code : Nat} {α τ0 : zM} (hF : 300 ≤ F) (hG : IG n α) (hW : IW p q c α) (hB : BG n α τ0) (hL : BL α τ0) (hV : BW p c α τ0) (hb : b < n) (h1 : 1 ≤ n0) (h6 : n0 ≤ 6) (hcode : code < 2 ^ 30) : ∀ (d fu k : Nat) (f : Nat → Nat) (M : Int32) (τ : zM), k + d = n0 → 6 - k < fu → Fx mWk τ0 τ → zg τ 69 42 = nI n0 → Pth α n a b k f → (f k = b ↔ k = n0) → (∀ i, i ≤ k → zg τ 96 i = nI (f i)) → Met2 M k f → zgl τ 1 = lN (odf α p c f k) → (∀ h, Good α n a b n0 code h → ∀ i, i ≤ k → h i = f i) → (∀ i, i < k → besI (sN α (f i)) (code / 3 ^ i % 3) = nI (sN α (f (i + 1)))) → ∃ ok τ', f_X12_walks_L29 F (fun s18 => some ((1 : Int32), s18)) (nI b) (nI n0) fu (nI (code / 3 ^ k)) M (nI k) τ = some (ok, τ') ∧ Fx mWk τ0 τ' ∧ zg τ' 69 42 = nI n0 ∧ zgl τ' 2 = zgl τ 2 ∧ ((ok = 0 ∧ ∀ f, ¬ Good α n a b n0 code f) ∨ (ok = 1 ∧ ∃ f, Good α n a b n0 code f ∧ (∀ i, i ≤ n0 → zg τ' 96 i = nI (f i)) ∧ zgl τ' 1 = lN (OD α p c n0 f))) := by
  have hn := hG.1
  intro d
  induction d with
  | zero =>
    intro fu k f M τ hk hfu hx h42 hp hfb hrow hM hod huq hdir
    have : k = n0 := by omega
    subst this
    obtain ⟨τ', a1, a2, a3, a4⟩ := tail_L (F := F) (n0 := k) (v2 := nI b) (K := fun s18 => some ((1 : Int32), s18)) (6 - k) fu k (odf α p c f k) (nI (code / 3 ^ k)) M τ (by omega) (by omega) (Nat.le_refl k) hod
    refine ⟨1, τ', a1, fun i j hij => (a2 i j).trans (hx i j hij), (a2 _ _).trans h42, a4, Or.inr ⟨rfl, f, ⟨⟨h1, h6, hp, hfb.mpr rfl⟩, hdir⟩, fun i hi => (a2 _ _).trans (hrow i hi), a3⟩⟩
  | succ d ih =>
    intro fu k f M τ hk hfu hx h42 hp hfb hrow hM hod huq hdir
    obtain ⟨fu, rfl⟩ : ∃ f', fu = f' + 1 := ⟨fu - 1, by omega⟩
    obtain ⟨hkn, hks⟩ := hp.2.1 k (Nat.le_refl k)
    rcases hG.seat hkn with q7 | ⟨s, hs, q7⟩
    · exact absurd q7 hks
    have sf := sN_n q7 hs
    have hbt : BG n α τ := hB.si hx rfl
    have cd : code / 3 ^ k < 2 ^ 30 := Nat.lt_of_le_of_lt (Nat.div_le_self _ _) hcode
    have cd3 : code / 3 ^ k / 3 = code / 3 ^ (k + 1) := by rw [Nat.div_div_eq_div_mul, Nat.pow_succ]
    have no : (∀ h, Good α n a b n0 code h → (∀ i, i ≤ k → h i = f i) → False) → ∃ ok τ', some ((0 : Int32), τ) = some (ok, τ') ∧ Fx mWk τ0 τ' ∧ zg τ' 69 42 = nI n0 ∧ zgl τ' 2 = zgl τ 2 ∧ ((ok = 0 ∧ ∀ f, ¬ Good α n a b n0 code f) ∨ (ok = 1 ∧ ∃ f, Good α n a b n0 code f ∧ (∀ i, i ≤ n0 → zg τ' 96 i = nI (f i)) ∧ zgl τ' 1 = lN (OD α p c n0 f))) :=
      fun h => ⟨0, τ, rfl, hx, h42, rfl, Or.inl ⟨rfl, fun g hg => h g hg (huq g hg)⟩⟩
    rw [f_X12_walks_L29, if_pos (show nI k < (6 : Int32) by rw [show (6 : Int32) = nI 6 from rfl, nI_ltI (by omega) (by omega)]; omega), if_pos (by rw [nI_ltI (by omega) (by omega)]; omega), if_pos (zin_n (by omega) (by omega)), nI_clamp (by omega), hrow k (Nat.le_refl k), if_pos (zin_n (by omega) (by omega)), nI_clamp (by omega), (hbt.s71 hG hkn hs).mpr q7, show (3 : Int32) = nI 3 from rfl, pk_rem (by omega) (by omega) (by omega), e_besideM hs (by omega), bnd_some, lt_eq, pk_div (by omega) (by omega) (by omega), cd3]
    -- who would be next, if it were good
    have hnext : ∀ h, Good α n a b n0 code h → (∀ i, i ≤ k → h i = f i) → h (k + 1) < n ∧ ¬ zg α 6 (h (k + 1)) = -1 ∧ besI s (code / 3 ^ k % 3) = nI (sN α (h (k + 1))) := by
      intro h hg he
      have w := hg.1.2.2.1.2.1 (k + 1) (by omega)
      have w2 := hg.2 k (by omega)
      rw [he k (Nat.le_refl k), sf] at w2
      exact ⟨w.1, w.2, w2⟩
    rcases besI_or hs (show code / 3 ^ k % 3 < 3 by omega) with hbe | ⟨t, ht, hbe⟩
    · rw [hbe, if_pos rfl]
      unfold f_X12_walks_j100
      rw [if_pos rfl]
      refine no (fun h hg he => ?_)
      obtain ⟨w1, w2, w3⟩ := hnext h hg he
      rw [hbe] at w3
      rcases hG.seat w1 with w4 | ⟨u, hu, w4⟩
      · exact w2 w4
      · rw [sN_n w4 hu] at w3; exact nI_m1 (by omega) w3.symm
    · rw [hbe, if_neg (nI_m1 (by omega)), e_guestAt (by omega) hG hbt ht, bnd_some]
      -- who sits there
      have hwho : ∀ h, Good α n a b n0 code h → (∀ i, i ≤ k → h i = f i) → zg α 6 (h (k + 1)) = nI t ∧ h (k + 1) < n := by
        intro h hg he
        obtain ⟨w1, w2, w3⟩ := hnext h hg he
        rw [hbe] at w3
        rcases hG.seat w1 with w4 | ⟨u, hu, w4⟩
        · exact absurd w4 w2
        · rw [sN_n w4 hu] at w3
          rw [w4, w3]; exact ⟨rfl, w1⟩
      unfold f_X12_walks_j100
      rcases hG.2.2.2.2.1 t ht with h9 | ⟨o, ho, h9, h7⟩
      · rw [h9, if_pos rfl]
        refine no (fun h hg he => ?_)
        obtain ⟨w1, w2⟩ := hwho h hg he
        have := hG.sit9 w2 ht w1
        rw [h9] at this
        exact nI_m1 (n := h (k + 1)) (by omega) this.symm
      · have hso := sN_n h7 ht
        have huo : ∀ h, Good α n a b n0 code h → (∀ i, i ≤ k → h i = f i) → h (k + 1) = o := by
          intro h hg he
          obtain ⟨w1, w2⟩ := hwho h hg he
          exact hG.inj w2 ho ht w1 h7
        rw [h9, if_neg (nI_m1 (by omega))]
        by_cases hbit : bt M o = true
        · rw [if_pos ((b_ask1 M (show o < 32 by omega)).mpr hbit)]
          obtain ⟨i, hi, hio⟩ := (hM o (by omega)).mp hbit
          refine no (fun h hg he => ?_)
          exact hg.1.2.2.1.2.2.2.1 i (k + 1) (by omega) (by omega) (by rw [he i hi, huo h hg he, hio])
        · rw [if_neg (fun q => hbit ((b_ask1 M (show o < 32 by omega)).mp q))]
          have hfar : ∀ i, i ≤ k → ¬ f i = o := fun i hi q => hbit ((hM o (by omega)).mpr ⟨i, hi, q⟩)
          have hno : ¬ zg α 6 o = -1 := by rw [h7]; exact nI_m1 (by omega)
          have hnk : nI k = nI n0 - (1 : Int32) ↔ k + 1 = n0 := by
            rw [show nI n0 - (1 : Int32) = nI (n0 - 1) from (by rw [show n0 = (n0 - 1) + 1 by omega, ← nI_1]; simp), nI_eq (by omega) (by omega)]
            omega
          -- it goes on
          have yes : (o = b ↔ k + 1 = n0) → ∀ w, ∃ ok τ', f_X12_walks_j143 F (f_X12_walks_L29 F (fun s18 => some ((1 : Int32), s18)) (nI b) (nI n0) fu) (nI b) (nI n0) (nI (code / 3 ^ (k + 1))) M (nI k) (nI o) w w τ = some (ok, τ') ∧ Fx mWk τ0 τ' ∧ zg τ' 69 42 = nI n0 ∧ zgl τ' 2 = zgl τ 2 ∧ ((ok = 0 ∧ ∀ f, ¬ Good α n a b n0 code f) ∨ (ok = 1 ∧ ∃ f, Good α n a b n0 code f ∧ (∀ i, i ≤ n0 → zg τ' 96 i = nI (f i)) ∧ zgl τ' 1 = lN (OD α p c n0 f))) := by
            intro hob w
            obtain ⟨τ1, k1, k2⟩ := e_seenBy (F := F) hF hG hbt (hL.si hx rfl) hW (hV.si hx rfl) hkn ho hs ht q7 h7
            obtain ⟨v1, v2⟩ := vv_n α p c (f k) o
            rw [sf, hso] at v2
            have l1 : zgl τ1 1 = zgl τ 1 := congrFun (ql_f_X12_seenBy F _ _ _ _ _ k1) 1
            have l2 : zgl τ1 2 = zgl τ 2 := congrFun (ql_f_X12_seenBy F _ _ _ _ _ k1) 2
            unfold f_X12_walks_j143
            rw [if_pos rfl, lt_eq, if_pos (zin_n (by omega) (by omega)), nI_clamp (by omega), hrow k (Nat.le_refl k), k1, bnd_some, lt_eq, if_pos (by rw [nI_1]; exact zin_n (by omega) (by omega)), nI_1, nI_clamp (by omega), lt_eq, lt_eq]
            have nx' : nxt (sN α (f k)) (sN α o) = true := by
              rw [sf, hso]
              refine (v_nxt s hs t ht).mpr ?_
              have : code / 3 ^ k % 3 = 0 ∨ code / 3 ^ k % 3 = 1 ∨ code / 3 ^ k % 3 = 2 := by omega
              rcases this with q | q | q <;> rw [q] at hbe <;> simp [hbe]
            have hx' : Fx mWk τ0 (zs (zsl τ1 1 (zgl τ1 1 * ((1000 : Int32) - see α p c (f k) s o t).toInt64)) 96 (k + 1) (nI o)) := Fx.zs (Fx.zsl (hx.tr (k2.sub rfl))) rfl
            obtain ⟨ok, τ', a1, a2, a3, a4, a5⟩ := ih fu (k + 1) (stp f k o) (M ||| ((1 : Int32) <<< (nI o &&& 31))) (zs (zsl τ1 1 (zgl τ1 1 * ((1000 : Int32) - see α p c (f k) s o t).toInt64)) 96 (k + 1) (nI o)) (by omega) (by omega) hx' (by rw [zg_ne (by decide), zg_sl, k2 69 42 rfl]; exact h42) (hp.on (fun q => by have := hfb.mp q; omega) ho hno nx' hfar) (by rw [stp_hi]; exact hob) (fun i hi => by
              rw [zg_row, zg_sl]
              by_cases q : i = k + 1
              · subst q; rw [if_pos rfl, stp_hi]
              · rw [if_neg q, stp_lo (show i ≤ k by omega), k2 96 i rfl]; exact hrow i (by omega)) (by
              intro x hx16
              rw [b_with M (show x < 32 by omega) (show o < 32 by omega), Bool.or_eq_true, decide_eq_true_eq]
              constructor
              · rintro (q | q)
                · obtain ⟨i, hi, q⟩ := (hM x hx16).mp q
                  exact ⟨i, by omega, (stp_lo hi).trans q⟩
                · exact ⟨k + 1, Nat.le_refl _, stp_hi.trans q.symm⟩
              · rintro ⟨i, hi, q⟩
                by_cases qi : i = k + 1
                · subst qi; rw [stp_hi] at q; exact Or.inr q.symm
                · rw [stp_lo (show i ≤ k by omega)] at q
                  exact Or.inl ((hM x hx16).mpr ⟨i, by omega, q⟩)) (by
              rw [zgl_s, zgl_eq, l1, hod, v2, show (1000 : Int32) = nI 1000 from rfl, pk_sub v1, nI_l (by omega), lN_mul, odf, odf_ext α p c k (fun i hi => stp_lo (f := f) (g := o) hi), stp_hi, stp_lo (Nat.le_refl k)]) (fun h hg i hi => by
              have he := huq h hg
              by_cases q : i = k + 1
              · subst q; rw [stp_hi]; exact huo h hg he
              · rw [stp_lo (show i ≤ k by omega)]; exact he i (by omega)) (fun i hi => by
              rw [stp_lo (show i ≤ k by omega)]
              by_cases q : i = k
              · subst q; rw [stp_hi, sf, hso]; exact hbe
              · rw [stp_lo (show i + 1 ≤ k by omega)]; exact hdir i (by omega))
            rw [zgl_s, zgl_ne (show (2 : Nat) ≠ 1 by decide), l2] at a4
            rw [l1] at a1
            refine ⟨ok, τ', ?_, a2, a3, a4, a5⟩
            rw [a1]
          by_cases hob : o = b
          · rw [if_pos (by rw [hob])]
            unfold f_X12_walks_j130
            by_cases hk1 : k + 1 = n0
            · rw [if_pos (hnk.mpr hk1)]; exact yes ⟨fun _ => hk1, fun _ => hob⟩ 1
            · rw [if_neg (fun q => hk1 (hnk.mp q))]
              unfold f_X12_walks_j143
              rw [if_neg (by decide)]
              refine no (fun h hg he => ?_)
              exact hg.1.2.2.1.2.2.2.2 (k + 1) (by omega) (by rw [huo h hg he]; exact hob)
          · rw [if_neg (by rw [nI_eq (by omega) (by omega)]; exact hob)]
            unfold f_X12_walks_j130
            by_cases hk1 : k + 1 = n0
            · rw [if_pos (hnk.mpr hk1)]
              unfold f_X12_walks_j143
              rw [if_neg (by decide)]
              refine no (fun h hg he => hob ?_)
              rw [← huo h hg he, hk1]; exact hg.1.2.2.2
            · rw [if_neg (fun q => hk1 (hnk.mp q))]; exact yes ⟨fun q => absurd q hob, fun q => absurd q hk1⟩ 0
theorem e_walks {F n p q c a b n0 code : Nat} {α τ : zM} (hF : 300 ≤ F) (hG : IG n α) (hW : IW p q c α) (hB : BG n α τ) (hL : BL α τ) (hV : BW p c α τ) (ha : a < n) (hb : b < n) (h6a : ¬ zg α 6 a = -1) (hab : ¬ a = b) (h1 : 1 ≤ n0) (h6 : n0 ≤ 6) (hcode : code < 2 ^ 30) : ∃ ok τ', f_X12_walks F (nI a) (nI b) (nI n0) (nI code) τ = some (ok, τ') ∧ Fx mWk τ τ' ∧ zg τ' 69 42 = nI n0 ∧ zgl τ' 2 = zgl τ 2 ∧ ((ok = 0 ∧ ∀ f, ¬ Good α n a b n0 code f) ∨ (ok = 1 ∧ ∃ f, Good α n a b n0 code f ∧ (∀ i, i ≤ n0 → zg τ' 96 i = nI (f i)) ∧ zgl τ' 1 = lN (OD α p c n0 f))) := by
  have hn := hG.1
  unfold f_X12_walks
  rw [lt_eq, if_pos (by decide), lt_eq, lt_eq, lt_eq, cl_0]
  have hx : Fx mWk τ (zsl (zs (zs τ 96 0 (nI a)) 69 42 (nI n0)) 1 (1 : Int64)) := Fx.zsl ((Fx.rf.zs rfl).zs rfl)
  obtain ⟨ok, τ', a1, a2, a3, a4, a5⟩ := walk_L (F := F) (τ0 := τ) hF hG hW hB hL hV hb h1 h6 hcode n0 F 0 (fun _ => a) ((1 : Int32) <<< (nI a &&& 31)) (zsl (zs (zs τ 96 0 (nI a)) 69 42 (nI n0)) 1 (1 : Int64)) (by omega) (by omega) hx (by rw [zg_sl, zg_eq]) ⟨rfl, fun _ _ => ⟨ha, h6a⟩, fun i hi => by omega, fun i j hi hj => by omega, fun i hi => by omega⟩ ⟨fun q => absurd q hab, fun q => by omega⟩ (fun i hi => by rw [zg_sl, zg_ne (by decide), show i = 0 by omega, zg_eq]) (by
    intro x hx16
    rw [b_one (show x < 32 by omega) (show a < 32 by omega), decide_eq_true_eq]
    exact ⟨fun q => ⟨0, Nat.le_refl 0, q.symm⟩, fun ⟨_, _, q⟩ => q.symm⟩) (by rw [zgl_eq]; rfl) (fun h hg i hi => by rw [show i = 0 by omega]; exact hg.1.2.2.1.1) (fun i hi => by omega)
  refine ⟨ok, τ', ?_, a2, a3, a4.trans ((zgl_ne (by decide)).trans zgl_s), a5⟩
  rw [show code / 3 ^ 0 = code by simp] at a1
  exact a1
