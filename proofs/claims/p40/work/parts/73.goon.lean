/-! ===== the class: all ways, one after the other ===== -/
abbrev mD0 : zMk := ([13, 23, 32, 43, 44], [(42, 4), (42, 6)])
theorem nb_ext {α : zM} {p c k : Nat} {f h : Nat → Nat} {B : zB2} (e : ∀ i, i ≤ k → h i = f i) (hb : nb α p c (k, f) B) : nb α p c (k, h) B := by
  unfold nb btr at *
  dsimp only at *
  rw [OD_ext α p c e, lkf_ext k e]; exact hb
theorem goOn_S (F D : Nat) : f_X9_goOn F (D + 1) = b_X9_goOn F (f_X9_goOn F D) := by
  funext v1 v2 v4 s; rfl
theorem goC {F n p q c a b : Nat} {α : zM} (hF : 300 ≤ F) (hG : IG n α) (hW : IW p q c α) (hbn : b < n) : ∀ (d k D : Nat) (f : Nat → Nat) (M : Int32) (B : zB2) (τ : zM), k + d = 6 → d < D → Fx mD0 α τ → zg τ 42 6 = nI b → OKB α n a b B → sB α p c B τ → Pth α n a b k f → (∀ i, i ≤ k → zg τ 43 i = nI (f i)) → Met2 M k f → (¬ B.1 = 0 → LB B k f) → (f k = b → 1 ≤ k) → ∃ τ' B', f_X9_goOn F D (nI k) (lN (OD α p c k f)) M τ = some ((), τ') ∧ Fx mDf τ τ' ∧ (∀ i, i ≤ k → zg τ' 43 i = zg τ 43 i) ∧ sB α p c B' τ' ∧ OKB α n a b B' ∧ (¬ B.1 = 0 → nb α p c B B') ∧ (∀ m h, Val α n a b m h → Ext k f m h → nb α p c (m, h) B') ∧ (B' = B ∨ Ext k f B'.1 B'.2) := by
  have hn := hG.1
  intro d
  induction d with
  | zero =>
    intro k D f M B τ hk hD hx h42 hB hS hf hrow hM hLB h1
    obtain ⟨D, rfl⟩ : ∃ D', D = D' + 1 := ⟨D - 1, by omega⟩
    have hk6 : k = 6 := by omega
    subst hk6
    rw [goOn_S]
    unfold b_X9_goOn
    rw [if_neg (nI_pos (by omega)), if_neg (by decide), if_pos (zin_n (by omega) (by omega)), nI_clamp (by omega), hrow 6 (by omega), h42]
    by_cases e : f 6 = b
    · obtain ⟨τ', B', a1, a2, a3, a4, a5, a6, a7, a8⟩ := e_note hB hS (by omega) (Nat.le_refl 6) hf e hn hrow hLB
      refine ⟨τ', B', ?_, a2, fun i _ => a3 i, a4, a5, a6, fun m h hv he => ?_, a8⟩
      · rw [if_pos (by rw [e]), a1, bnd_some]
      · have : m = 6 := by have := hv.2.1; have := he.1; omega
        subst this
        exact nb_ext he.2 a7
    · refine ⟨τ, B, ?_, Fx.rf, fun _ _ => rfl, hS, hB, fun q => nb.rf q, fun m h hv he => ?_, Or.inl rfl⟩
      · rw [if_neg (by rw [nI_eq (by have := (hf.2.1 6 (by omega)).1; omega) (by omega)]; exact e), if_neg (show ¬ nI 6 < (6 : Int32) by decide)]
      · have : m = 6 := by have := hv.2.1; have := he.1; omega
        subst this
        exact absurd ((he.2 6 (by omega)).symm.trans hv.2.2.2) e
  | succ d ih =>
    intro k D f M B τ hk hD hx h42 hB hS hf hrow hM hLB h1
    obtain ⟨D, rfl⟩ : ∃ D', D = D' + 1 := ⟨D - 1, by omega⟩
    have hfk := hf.2.1 k (Nat.le_refl k)
    rw [goOn_S]
    unfold b_X9_goOn
    rw [if_neg (nI_pos (by omega)), if_neg (show ¬ (6 : Int32) < nI k by rw [show (6 : Int32) = nI 6 from rfl, nI_ltI (by omega) (by omega)]; omega), if_pos (zin_n (by omega) (by omega)), nI_clamp (by omega), hrow k (Nat.le_refl k), h42]
    by_cases e : f k = b
    · obtain ⟨τ', B', a1, a2, a3, a4, a5, a6, a7, a8⟩ := e_note hB hS (h1 e) (by omega) hf e hn hrow hLB
      refine ⟨τ', B', ?_, a2, fun i _ => a3 i, a4, a5, a6, fun m h hv he => ?_, a8⟩
      · rw [if_pos (by rw [e]), a1, bnd_some]
      · have : m = k := by
          by_cases q : m = k
          · exact q
          · exact absurd ((he.2 k (Nat.le_refl k)).trans e) (hv.2.2.1.2.2.2.2 k (by have := he.1; omega))
        subst this
        exact nb_ext he.2 a7
    · have k6 : nI k < (6 : Int32) := by rw [show (6 : Int32) = nI 6 from rfl, nI_ltI (by omega) (by omega)]; omega
      rw [if_neg (by rw [nI_eq (by omega) (by omega)]; exact e), if_pos k6]
      have loop : ∀ (j fu g : Nat) (B1 : zB2) (τ1 : zM), g + j = n → j < fu → Fx mDf τ τ1 → (∀ i, i ≤ k → zg τ1 43 i = nI (f i)) → OKB α n a b B1 → sB α p c B1 τ1 → (¬ B1.1 = 0 → LB B1 k f ∨ (Ext k f B1.1 B1.2 ∧ k + 1 ≤ B1.1 ∧ B1.2 (k + 1) < g)) → (∀ m h, Val α n a b m h → Ext k f m h → h (k + 1) < g → nb α p c (m, h) B1) → ∃ τ' B', f_X9_tryNext_L22 F (f_X9_goOn F D) (fun s20 => some ((), s20)) (nI k) (lN (OD α p c k f)) M (nI (f k)) fu (nI g) τ1 = some ((), τ') ∧ Fx mDf τ1 τ' ∧ (∀ i, i ≤ k → zg τ' 43 i = zg τ1 43 i) ∧ sB α p c B' τ' ∧ OKB α n a b B' ∧ (¬ B1.1 = 0 → nb α p c B1 B') ∧ (∀ m h, Val α n a b m h → Ext k f m h → nb α p c (m, h) B') ∧ (B' = B1 ∨ Ext k f B'.1 B'.2) := by
        intro j
        induction j with
        | zero =>
          intro fu g B1 τ1 hg hfu hx1 hr1 hB1 hS1 hL1 hN1
          obtain ⟨fu, rfl⟩ : ∃ f', fu = f' + 1 := ⟨fu - 1, by omega⟩
          have h38 : zg τ1 3 8 = nI n := ((hx1 3 8 rfl).trans (hx 3 8 rfl)).trans hG.2.1
          refine ⟨τ1, B1, ?_, Fx.rf, fun _ _ => rfl, hS1, hB1, fun q => nb.rf q, fun m h hv he => ?_, Or.inl rfl⟩
          · rw [f_X9_tryNext_L22, f_X0_number, bnd_some, h38, if_neg (by rw [nI_ltI (by omega) (by omega)]; omega)]
          · by_cases q : m = k
            · subst q
              exact absurd ((he.2 m (Nat.le_refl m)).symm.trans hv.2.2.2) e
            · refine hN1 m h hv he ?_
              have := (hv.2.2.1.2.1 (k + 1) (by have := he.1; omega)).1
              omega
        | succ j jh =>
          intro fu g B1 τ1 hg hfu hx1 hr1 hB1 hS1 hL1 hN1
          obtain ⟨fu, rfl⟩ : ∃ f', fu = f' + 1 := ⟨fu - 1, by omega⟩
          have hxx : Fx mD0 α τ1 := hx.tr (hx1.sub rfl)
          have h38 : zg τ1 3 8 = nI n := (hxx 3 8 rfl).trans hG.2.1
          have hG1 : IG n τ1 := hG.fx hxx rfl
          have e6 : ∀ x, zg τ1 6 x = zg α 6 x := fun x => hxx 6 x rfl
          have km : ∀ m h, Val α n a b m h → Ext k f m h → k + 1 ≤ m := by
            intro m h hv he
            by_cases q : m = k
            · subst q
              exact absurd ((he.2 m (Nat.le_refl m)).symm.trans hv.2.2.2) e
            · have := he.1; omega
          -- this one isn't to be asked
          have skip : (∀ m h, Val α n a b m h → Ext k f m h → h (k + 1) = g → False) → ∃ τ' B', f_X9_tryNext_L22 F (f_X9_goOn F D) (fun s20 => some ((), s20)) (nI k) (lN (OD α p c k f)) M (nI (f k)) fu (nI (g + 1)) τ1 = some ((), τ') ∧ Fx mDf τ1 τ' ∧ (∀ i, i ≤ k → zg τ' 43 i = zg τ1 43 i) ∧ sB α p c B' τ' ∧ OKB α n a b B' ∧ (¬ B1.1 = 0 → nb α p c B1 B') ∧ (∀ m h, Val α n a b m h → Ext k f m h → nb α p c (m, h) B') ∧ (B' = B1 ∨ Ext k f B'.1 B'.2) := by
            intro hno
            refine jh fu (g + 1) B1 τ1 (by omega) (by omega) hx1 hr1 hB1 hS1 (fun q => ?_) (fun m h hv he hlt => ?_)
            · rcases hL1 q with q1 | ⟨q1, q2, q3⟩
              · exact Or.inl q1
              · exact Or.inr ⟨q1, q2, by omega⟩
            · by_cases qq : h (k + 1) = g
              · exact absurd (hno m h hv he qq) id
              · exact hN1 m h hv he (by omega)
          rw [f_X9_tryNext_L22, f_X0_number, bnd_some, h38, if_pos (by rw [nI_ltI (by omega) (by omega)]; omega)]
          by_cases hbit : bt M g = true
          · rw [if_neg (fun q => by rw [(b_ask0 M (show g < 32 by omega)).mp q] at hbit; cases hbit), lt_eq, nI_1]
            obtain ⟨i, hi, hig⟩ := (hM g (by omega)).mp hbit
            refine skip (fun m h hv he hq => hv.2.2.1.2.2.2.1 i (k + 1) (by omega) (km m h hv he) ?_)
            rw [he.2 i hi, hq, hig]
          · rw [if_pos ((b_ask0 M (show g < 32 by omega)).mpr (by cases hq : bt M g; rfl; exact absurd hq hbit)), e_sits_n hG1 (show g < n by omega), bnd_some, b10, e6]
            have hfar : ∀ i, i ≤ k → ¬ f i = g := fun i hi q => hbit ((hM g (by omega)).mpr ⟨i, hi, q⟩)
            by_cases h6 : zg α 6 g = -1
            · rw [if_pos h6, lt_eq, nI_1]
              refine skip (fun m h hv he hq => (hv.2.2.1.2.1 (k + 1) (km m h hv he)).2 ?_)
              rw [hq]; exact h6
            · rcases hG.seat (show g < n by omega) with q6 | ⟨t, ht, q6⟩
              · exact absurd q6 h6
              rcases hG.seat hfk.1 with q7 | ⟨s, hs, q7⟩
              · exact absurd q7 hfk.2
              rw [if_neg h6, e_seatOf_n hn hG1.2.1 hfk.1, bnd_some, e_seatOf_n hn hG1.2.1 (show g < n by omega), bnd_some, e6, e6, q6, q7, e_areNext hs ht, bnd_some, b01]
              have sf := sN_n q7 hs
              have sg := sN_n q6 ht
              by_cases hnx : nxt s t = true
              · have zk : zin (nI k + 1) 7 = true := by rw [nI_1]; exact zin_n (by omega) (by omega)
                rw [if_pos hnx, if_pos zk, nI_1, nI_clamp (by omega), lt_eq]
                have hx2 : Fx mD0 α (zs τ1 43 (k + 1) (nI g)) := hxx.zs rfl
                obtain ⟨τ2, k1, k2⟩ := e_seen (F := F) hF (hG.fx hx2 rfl) (hW.fx hx2 rfl) hfk.1 (show g < n by omega) hs ht ((hx2 6 _ rfl).trans q7) ((hx2 6 _ rfl).trans q6)
                have hsee : see (zs τ1 43 (k + 1) (nI g)) p c (f k) s g t = see α p c (f k) (sN α (f k)) g (sN α g) := by rw [sf, sg]; exact see_fx hx2 rfl hW.or c (f k) s g t
                rw [k1, bnd_some, hsee, od_step (by omega)]
                have hx3 : Fx mDf τ1 τ2 := (Fx.rf.zs rfl).tr (k2.sub rfl)
                have r43 : ∀ i, zg τ2 43 i = if i = k + 1 then nI g else zg τ1 43 i := fun i => (k2 43 i rfl).trans zg_row
                have gl : zgl τ2 0 = zgl τ1 0 := congrFun (ql_f_X1_seen F _ _ _ _ _ k1) 0
                have r44 : ∀ i, zg τ2 44 i = zg τ1 44 i := fun i => (k2 44 i rfl).trans (zg_ne (by decide))
                have r42 : ∀ i, zg τ2 42 i = zg τ1 42 i := fun i => (k2 42 i rfl).trans (zg_ne (by decide))
                have hS2 : sB α p c B1 τ2 := by
                  refine ⟨fun q => ?_, fun q => ?_⟩
                  · rw [r42, gl]; exact hS1.1 q
                  · rw [r42, gl]
                    obtain ⟨w1, w2, w3⟩ := hS1.2 q
                    exact ⟨w1, w2, fun i hi => by rw [r44]; exact w3 i hi⟩
                have hf' : Pth α n a b (k + 1) (stp f k g) := hf.on e (show g < n by omega) h6 (by rw [sf, sg]; exact hnx) hfar
                have hrow' : ∀ i, i ≤ k + 1 → zg τ2 43 i = nI (stp f k g i) := by
                  intro i hi
                  rw [r43]
                  by_cases q : i = k + 1
                  · subst q; rw [if_pos rfl, stp_hi]
                  · rw [if_neg q, stp_lo (show i ≤ k by omega)]; exact hr1 i (by omega)
                have hM' : Met2 (M ||| ((1 : Int32) <<< (nI g &&& 31))) (k + 1) (stp f k g) := by
                  intro x hx16
                  rw [b_with M (show x < 32 by omega) (show g < 32 by omega), Bool.or_eq_true, decide_eq_true_eq]
                  constructor
                  · rintro (q | q)
                    · obtain ⟨i, hi, q⟩ := (hM x hx16).mp q
                      exact ⟨i, by omega, (stp_lo hi).trans q⟩
                    · exact ⟨k + 1, Nat.le_refl _, stp_hi.trans q.symm⟩
                  · rintro ⟨i, hi, q⟩
                    by_cases qi : i = k + 1
                    · subst qi; rw [stp_hi] at q; exact Or.inr q.symm
                    · rw [stp_lo (show i ≤ k by omega)] at q
                      exact Or.inl ((hM x hx16).mpr ⟨i, by omega, q⟩)
                obtain ⟨τ3, B2, c1, c2, c3, c4, c5, c6, c7, c8⟩ := ih (k + 1) D (stp f k g) (M ||| ((1 : Int32) <<< (nI g &&& 31))) B1 τ2 (by omega) (by omega) (hxx.tr (hx3.sub rfl)) ((hx3 42 6 rfl).trans ((hx1 42 6 rfl).trans h42)) hB1 hS2 hf' hrow' hM' (fun q => by
                  rcases hL1 q with q1 | ⟨q1, q2, q3⟩
                  · exact LB.on hB1 hn (fun _ => q1) q
                  · exact LB.ext q1 q3) (fun _ => by omega)
                obtain ⟨τ4, B3, d1, d2, d3, d4, d5, d6, d7, d8⟩ := jh fu (g + 1) B2 τ3 (by omega) (by omega) (hx1.tr (hx3.tr c2)) (fun i hi => by rw [c3 i (by omega), r43, if_neg (by omega)]; exact hr1 i hi) c5 c4 (fun q => by
                  rcases c8 with q1 | q1
                  · rw [q1] at q ⊢
                    rcases hL1 q with q1 | ⟨q1, q2, q3⟩
                    · exact Or.inl q1
                    · exact Or.inr ⟨q1, q2, by omega⟩
                  · refine Or.inr ⟨⟨by have := q1.1; omega, fun i hi => (q1.2 i (by omega)).trans (stp_lo hi)⟩, q1.1, ?_⟩
                    rw [q1.2 (k + 1) (Nat.le_refl _), stp_hi]; omega) (fun m h hv he hlt => by
                  by_cases qq : h (k + 1) = g
                  · refine c7 m h hv ⟨km m h hv he, fun i hi => ?_⟩
                    by_cases qi : i = k + 1
                    · subst qi; rw [stp_hi]; exact qq
                    · rw [stp_lo (show i ≤ k by omega)]; exact he.2 i (by omega)
                  · have w := hN1 m h hv he (by omega)
                    exact w.tr (c6 w.1))
                refine ⟨τ4, B3, ?_, hx3.tr (c2.tr d2), fun i hi => ?_, d4, d5, fun q => ?_, d7, ?_⟩
                · rw [c1, bnd_some, lt_eq, nI_1]; exact d1
                · rw [d3 i hi, c3 i (by omega), r43, if_neg (by omega)]
                · have w := c6 q
                  exact w.tr (d6 w.1)
                · rcases d8 with q | q
                  · rw [q]
                    rcases c8 with q1 | q1
                    · exact Or.inl q1
                    · exact Or.inr ⟨by have := q1.1; omega, fun i hi => (q1.2 i (by omega)).trans (stp_lo hi)⟩
                  · exact Or.inr q
              · rw [if_neg hnx, lt_eq, nI_1]
                refine skip (fun m h hv he hq => hnx ?_)
                have := hv.2.2.1.2.2.1 k (by have := km m h hv he; omega)
                rw [he.2 k (Nat.le_refl k), hq, sf, sg] at this
                exact this
      obtain ⟨τ', B', a1, a2, a3, a4, a5, a6, a7, a8⟩ := loop n F 0 B τ (by omega) (by omega) Fx.rf hrow hB hS (fun q => Or.inl (hLB q)) (fun m h _ _ q => absurd q (by omega))
      refine ⟨τ', B', ?_, a2, a3, a4, a5, a6, a7, a8⟩
      unfold b_X9_tryNext
      rw [if_neg (nI_pos (by omega)), if_pos k6, if_pos (zin_n (by omega) (by omega)), lt_eq, nI_clamp (by omega), hrow k (Nat.le_refl k)]
      rw [show nI 0 = (0 : Int32) from rfl] at a1
      rw [a1, bnd_some]
