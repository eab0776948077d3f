theorem s_n7 {a b : Nat} : nI a * (7 : Int32) + nI b = nI (a * 7 + b) := by
  rw [show (7 : Int32) = nI 7 from rfl, pk_mul, nI_add]
theorem e_choose {F n m p q c a : Nat} {W : Int32} {tg fs : Nat → Nat} {α : zM} (hF : 300 ≤ F) (hS : SC n m p q c W tg fs α) : ∀ (r k Dd : Nat) (pm : zPm) (v3 : Int32) (u : Nat → Bool) (B : zBst) (σ : zM), k + r = m → r < Dd → StC n m p c a W tg fs α σ → CB m fs B σ → (∀ j, j < k → pm j < m ∧ zg σ 49 j = nI (fs (pm j))) → (∀ i, i < m → bt v3 i = u i) → ∃ σ', f_X6_choose F Dd (nI k) (cK (lifA tg m α) p c n tg fs k pm) v3 σ = some ((), σ') ∧ Fx mCh σ σ' ∧ PM n p c a α σ' ∧ CB m fs (dfs m (stpS (lifA tg m α) p c n m tg fs) r k u pm B) σ' ∧ ∀ j, j < k → zg σ' 49 j = zg σ 49 j := by
  have h7 := hS.2.2.1.1
  have hn := hS.1.1
  intro r
  induction r with
  | zero =>
    intro k Dd pm v3 u B σ hk hD hSt hB h49 hu
    obtain ⟨Dd, rfl⟩ : ∃ f', Dd = f' + 1 := ⟨Dd - 1, by omega⟩
    have : k = m := by omega
    subst this
    obtain ⟨x, hx⟩ : ∃ x, x = cK (lifA tg k α) p c n tg fs k pm := ⟨_, rfl⟩
    have e0 : f_X6_choose F (Dd + 1) (nI k) x v3 σ = bnd (f_X6_noteIfLess x σ) (fun _ s2 => some ((), s2)) := by
      rw [f_X6_choose, b_X6_choose, if_neg (nI_pos (by omega)), hSt.1, if_neg (by rw [nI_ltI (by omega) (by omega)]; omega)]
    obtain ⟨τ, hτ⟩ : ∃ τ, τ = zcp (zs (zs σ 45 13 1) 45 12 x) 49 50 7 := ⟨_, rfl⟩
    have f1 : Fx mCh σ (zs (zs σ 45 13 1) 45 12 x) := (Fx.rf.zs rfl).zs rfl
    have f2 : Fx mCh σ τ := by rw [hτ]; exact f1.cp rfl
    have pm' : ∀ {τ}, Fx ([50], [(45, 12), (45, 13)]) σ τ → PM n p c a α τ := fun h => hSt.2.2.2.2.2.fx hS.2.1.or (Fx.rf (m := ([], []))) rfl h rfl
    have f3 : Fx ([50], [(45, 12), (45, 13)]) σ τ := by rw [hτ]; exact ((Fx.rf.zs rfl).zs rfl).cp rfl
    have cb : CB k fs (some (x, pm)) τ := by
      refine ⟨?_, ?_, fun j hj => ?_⟩
      · rw [hτ, zg_cpn (by decide), zg_nj (by decide), zg_eq]
      · rw [hτ, zg_cpn (by decide), zg_eq]
      · rw [hτ, zg_cp, if_pos rfl, if_pos (by omega), zg_ne (by decide), zg_ne (by decide)]; exact (h49 j hj).2
    have k9 : ∀ j, j < k → zg τ 49 j = zg σ 49 j := fun j _ => f3 49 j rfl
    have j33 : f_X6_noteIfLess_j15 x σ = some ((), τ) := by
      unfold f_X6_noteIfLess_j15
      rw [lt_eq, lt_eq, lt_eq, ← hτ]
    rw [← hx, e0, dfs]
    unfold f_X6_noteIfLess stpS
    rw [← hx]
    cases B with
    | none =>
      rw [if_pos (show zg σ 45 13 = 0 from hB), j33, bnd_some]
      exact ⟨τ, rfl, f2, pm' f3, cb, k9⟩
    | some lq =>
      obtain ⟨l, qq⟩ := lq
      rw [if_neg (by rw [hB.1]; decide), hB.2.1]
      by_cases ql : x < l
      · rw [if_pos ql, j33, bnd_some]
        refine ⟨τ, rfl, f2, pm' f3, ?_, k9⟩
        show CB k fs (if x < l then _ else _) τ
        rw [if_pos ql]; exact cb
      · rw [if_neg ql, bnd_some]
        refine ⟨σ, rfl, Fx.rf, hSt.2.2.2.2.2, ?_, fun j _ => rfl⟩
        show CB k fs (if x < l then _ else _) σ
        rw [if_neg ql]; exact hB
  | succ r ih =>
    intro k Dd pm v3 u B σ hk hD hSt hB h49 hu
    obtain ⟨Dd, rfl⟩ : ∃ f', Dd = f' + 1 := ⟨Dd - 1, by omega⟩
    have hkm : k < m := by omega
    obtain ⟨x, hx⟩ : ∃ x, x = cK (lifA tg m α) p c n tg fs k pm := ⟨_, rfl⟩
    have e0 : f_X6_choose F (Dd + 1) (nI k) x v3 σ = f_X6_choose_L27 F (f_X6_choose F Dd) (fun s10 => some ((), s10)) (nI k) x v3 F (nI 0) σ := by
      rw [f_X6_choose, b_X6_choose, if_neg (nI_pos (by omega)), hSt.1, if_pos (show nI k < nI m from (nI_ltI (by omega) (by omega)).mpr hkm), if_pos (show nI k < (7 : Int32) from (nI_ltI (b := 7) (by omega) (by omega)).mpr (by omega))]; rfl
    have key : ∀ (d fu i : Nat) (B : zBst) (σ : zM), i + d = m → d < fu → StC n m p c a W tg fs α σ → CB m fs B σ → (∀ j, j < k → pm j < m ∧ zg σ 49 j = nI (fs (pm j))) → ∃ σ', f_X6_choose_L27 F (f_X6_choose F Dd) (fun s10 => some ((), s10)) (nI k) x v3 fu (nI i) σ = some ((), σ') ∧ Fx mCh σ σ' ∧ PM n p c a α σ' ∧ CB m fs (iter (fun i B => if u i = true then B else dfs m (stpS (lifA tg m α) p c n m tg fs) r (k + 1) (ad u i) (pput pm k i) B) i d B) σ' ∧ ∀ j, j < k → zg σ' 49 j = zg σ 49 j := by
      intro d
      induction d with
      | zero =>
        intro fu i B σ hi hfu hSt hB h49
        obtain ⟨fu, rfl⟩ : ∃ f', fu = f' + 1 := ⟨fu - 1, by omega⟩
        refine ⟨σ, ?_, Fx.rf, hSt.2.2.2.2.2, hB, fun j _ => rfl⟩
        rw [f_X6_choose_L27, hSt.1, if_neg (by rw [nI_ltI (by omega) (by omega)]; omega)]
      | succ d ihd =>
        intro fu i B σ hi hfu hSt hB h49
        obtain ⟨fu, rfl⟩ : ∃ f', fu = f' + 1 := ⟨fu - 1, by omega⟩
        have him : i < m := by omega
        have c1 : nI i < nI m := (nI_ltI (by omega) (by omega)).mpr him
        have c2 : nI i < (7 : Int32) := (nI_ltI (b := 7) (by omega) (by omega)).mpr (by omega)
        rw [f_X6_choose_L27, hSt.1, if_pos c1, if_pos c2, iter]
        by_cases qu : u i = true
        · rw [if_neg (fun w => by rw [← hu i him, (b_ask0 v3 (by omega)).mp w] at qu; cases qu), lt_eq, nI_1, if_pos qu]
          exact ihd fu (i + 1) B σ (by omega) (by omega) hSt hB h49
        · have hb0 : bt v3 i = false := by rw [hu i him]; simpa using qu
          obtain ⟨σ1, hσ1⟩ : ∃ σ1, σ1 = zs σ 49 k (nI (fs i)) := ⟨_, rfl⟩
          have f1 : Fx ([49], []) σ σ1 := by rw [hσ1]; exact Fx.rf.zs rfl
          have P1 : PM n p c a α σ1 := hSt.2.2.2.2.2.fx hS.2.1.or (Fx.rf (m := ([], []))) rfl f1 rfl
          have S1 := hSt.fx (f1.sub rfl) P1
          have n9 : ∀ j, j < k + 1 → pput pm k i j < m ∧ zg σ1 49 j = nI (fs (pput pm k i j)) := fun j hj => by
            rw [hσ1, zg_row]
            by_cases q : j = k
            · subst q; rw [if_pos rfl, put_eq]; exact ⟨him, rfl⟩
            · rw [if_neg q, put_ne q]; exact h49 j (by omega)
          obtain ⟨pi, hpi⟩ : ∃ pi : Nat → Nat, ∀ j, pi j = fs (pput pm k i j) := ⟨_, fun _ => rfl⟩
          have n49 : ∀ j, j ≤ k → pi j < 40 ∧ zg σ1 49 j = nI (pi j) := fun j hj => by
            have h := n9 j (by omega)
            rw [hpi]
            exact ⟨hS.s40 h.1, h.2⟩
          have hq0 := S1.2.2.2.2.1
          have hq1 := S1.2.1
          obtain ⟨σ2, b1, b2, b3⟩ := e_quarrels (F := F) (k := k) (pi := pi) (W := W) (fs := fs) (f_X6_choose F Dd) (x + zg σ1 48 (k * 7 + i)) (v3 ||| ((1 : Int32) <<< (nI i &&& 31))) hF hS hkm hq1 n49 hq0 P1
          have S2 := S1.fx (b2.sub rfl) b3
          have hsum : ∀ z, z ≤ k → sumI (fun j => qrl α p c (tg j) (pi j) (tg k) (pi k)) z = sumI (fun j => qrl α p c (tg j) (fs (pm j)) (tg k) (fs i)) z := by
            intro z
            induction z with
            | zero => intro _; rw [sumI, sumI]
            | succ z ihz =>
              intro hz
              have e1 : pi k = fs i := by rw [hpi, put_eq]
              have e2 : pi z = fs (pm z) := by rw [hpi, put_ne (show ¬ z = k by omega)]
              rw [sumI, sumI, ihz (by omega), e1, e2]
          have hc : (x + zg σ1 48 (k * 7 + i)) + sumI (fun j => qrl α p c (tg j) (pi j) (tg k) (pi k)) k = cK (lifA tg m α) p c n tg fs (k + 1) (pput pm k i) := by
            have h1 := cK_step (pm := pm) hS hkm him (fun j hj => (h49 j hj).1)
            have h2 := S1.2.2.2.1 k i hkm him
            have h3 := hsum k (Nat.le_refl k)
            rw [← hx] at h1
            rw [h2, h3]
            exact h1.symm
          have B1 : CB m fs B σ2 := (hB.fx f1 rfl rfl (fun _ => rfl)).fx b2 rfl rfl (fun _ => rfl)
          obtain ⟨σ3, d1, d2, d3, d4, d5⟩ := ih (k + 1) Dd (pput pm k i) (v3 ||| ((1 : Int32) <<< (nI i &&& 31))) (ad u i) B σ2 (by omega) (by omega) S2 B1 (fun j hj => ⟨(n9 j hj).1, (b2 49 j rfl).trans (n9 j hj).2⟩) (fun g hg => by rw [b_with v3 (by omega) (by omega), hu g hg]; rfl)
          have hso : b_X6_seatOthers F (f_X6_choose F Dd) (nI k) (x + zg σ1 48 (k * 7 + i)) (v3 ||| ((1 : Int32) <<< (nI i &&& 31))) σ1 = some ((), σ3) := by
            refine (b1 _).trans ?_
            rw [hc, nI_1, d1, bnd_some]
          have k9 : ∀ j, j < k → zg σ3 49 j = zg σ 49 j := fun j hj => by
            rw [d5 j (by omega), b2 49 j rfl, hσ1, zg_nj (by omega)]
          have f3 : Fx mCh σ σ3 := ((f1.sub rfl).tr (b2.sub rfl)).tr d2
          obtain ⟨σ4, g1, g2, g3, g4, g5⟩ := ihd fu (i + 1) _ σ3 (by omega) (by omega) (hSt.fx f3 d3) d4 (fun j hj => ⟨(h49 j hj).1, (k9 j hj).trans (h49 j hj).2⟩)
          refine ⟨σ4, ?_, f3.tr g2, g3, ?_, fun j hj => (g5 j hj).trans (k9 j hj)⟩
          · rw [if_pos ((b_ask0 v3 (by omega)).mpr hb0), if_pos (zin_n (by omega) (by omega)), if_pos (zin_n (by omega) (by omega)), nI_clamp (by omega), nI_clamp (by omega), hSt.2.2.1 i him, lt_eq, ← hσ1, s_n7, if_pos (zin_n (by omega) (by omega)), nI_clamp (by omega), hso, bnd_some, lt_eq, nI_1]
            exact g1
          · rw [if_neg qu]; exact g4
    rw [← hx, e0, dfs]
    exact key m F 0 B σ (by omega) (by omega) hSt hB h49
