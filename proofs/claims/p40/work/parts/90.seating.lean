/-! ===== seating ===== -/
theorem op_seating {F D : Nat} (hF : 6000 ≤ F) (hDD : 10 ≤ D) (v1 v2 v3 : Int32) : OP (f_X11_seating F D v1 v2 v3) (f_X12_seating F v1 v2 v3) := by
  intro a σ ha ⟨n, t, r, p, kc, x, ko, pl, ql, cl, ⟨hG, hH, hT, hN, hK, hD, hX, hW⟩, ⟨bG, bH, bL, bT, bN, bK, bP, bD, bX, bW⟩, hP⟩
  have hn := hG.1
  by_cases hC : ∃ m, Cnd n v1 v2 m
  · obtain ⟨m, hC⟩ := hC
    have hC' := hC
    obtain ⟨c1, c7, rfl, w, rfl, hw, hfm⟩ := hC'
    obtain ⟨s1, s2⟩ := seatC (F := F) (D := D) (v3 := v3) hn hG.2.1 hT.2.1 hT.1 hC
    obtain ⟨t1, t2⟩ := seatM_yes (F := F) (v3 := v3) (by omega) hn bG.1 bT.1 hT.1 hC
    by_cases hA : m ≤ t ∧ Asks n (nI w) v3
    · obtain ⟨W, hWw⟩ : ∃ W, W = nI w := ⟨_, rfl⟩
      have xs : ∀ y, f_X11_seating_j52 F D W v3 σ = some y → f_X11_seating F D (nI w) (nI m) v3 σ = some y := fun y h => by rw [s1 hA, ← hWw]; exact h
      have hmt := hA.1
      have hask : Asks n W v3 := by rw [hWw]; exact hA.2
      have hfn : fre (nbW W) n = m := by rw [hWw]; exact (fre_n hn hw).symm.trans hfm
      have hW16 : ∀ i, n ≤ i → i < 32 → bt W i = false := fun i h1 h2 => by
        rw [hWw, bt_nI h2]
        exact Nat.testBit_lt_two_pow (Nat.lt_of_lt_of_le hw (Nat.pow_le_pow_right (by omega) h1))
      have hTd : Told W n m (tgf W) := told_of hn hfn c7
      obtain ⟨b, hb⟩ : ∃ b : Nat → Nat, ∀ i, i < t → b i < 256 ∧ zg σ 2 i = nI (b i) := ⟨fun i => (zg σ 2 i).toNatClampNeg, fun i hi => by
        obtain ⟨x, hx, e⟩ := hT.2.2 i hi
        change (zg σ 2 i).toNatClampNeg < 256 ∧ zg σ 2 i = nI (zg σ 2 i).toNatClampNeg
        rw [e, nI_clamp (by omega)]; exact ⟨hx, rfl⟩⟩
      obtain ⟨σc, fc, hc⟩ := seat_cls (F := F) (by omega) hG hfn c7 hmt hT.1 hT.2.1 hb
      have hmod := seat_mod (F := F) (W := W) (by omega) hG bG hW16 c7 hmt hT.1 hb bT.2
      obtain ⟨σd, hσd⟩ : ∃ σd, σd = zs σc 1 1 0 := ⟨_, rfl⟩
      have fd : Fx ([45, 46, 47], [(1, 1)]) σ σd := by rw [hσd]; exact (fc.sub rfl).zs rfl
      have d11 : zg σd 1 1 = nI 0 := by rw [hσd, zg_eq]; rfl
      have clr : f_X10_clear σc = some ((), σd) := by unfold f_X10_clear; rw [lt_eq, ← hσd]
      by_cases hgood : ∃ f, insA b (okS σ W) m = some f ∧ alv n W σ
      · rcases hc with ⟨hbad, -⟩ | ⟨fs, i1, i2, i3, i4, i5, i6, i7⟩
        · exact absurd hgood hbad
        · obtain ⟨o1, o2⟩ := insA_ok m fs i1
          obtain ⟨α, hα⟩ : ∃ α, α = zs σ 1 1 0 := ⟨_, rfl⟩
          have fα : Fx ([], [(1, 1)]) σ α := by rw [hα]; exact Fx.rf.zs rfl
          have hGα : IG n α := hG.fx fα rfl
          have hWα : IW pl ql cl α := hW.fx fα rfl
          have hS : SC n m pl ql cl W (tgf W) fs α := ⟨hGα, hWα, hTd, fun k hk => (fα 5 _ rfl).trans (i2 _ (hTd.2.1 k hk).1 (hTd.2.1 k hk).2), fun i hi => by
            have := o1 i hi
            unfold okS at this ⊢
            rw [fα 9 (fs i) rfl]; exact this, o2⟩
          have fαd : Fx ([45, 46, 47], []) α σd := fun k j hk => by
            by_cases q : k = 1 ∧ j = 1
            · rw [q.1, q.2, d11, hα, zg_eq]; rfl
            · have hne : inm ([45, 46, 47], [(1, 1)]) k j = false := by
                cases hcc : inm ([45, 46, 47], [(1, 1)]) k j with
                | false => rfl
                | true =>
                  exfalso
                  simp only [inm, List.contains_cons, List.contains_nil, Bool.or_false, Bool.or_eq_true] at hcc hk
                  rcases hcc with h | h
                  · simp [inm] at hk; simp at h; omega
                  · simp at h; exact q h
              have hne2 : inm ([], [(1, 1)]) k j = false := by simp [inm]; exact fun h1 h2 => q ⟨h1, h2⟩
              rw [fd k j hne, fα k j hne2]
          have hPd : PM n pl cl a α σd := hP.fx hW.or fα rfl fd rfl
          obtain ⟨σe, e1, e2, e3, e4⟩ := e_seatBest (F := F) (D := D) (by omega) hDD hS ((by rw [hσd, zg_ne (by decide)]; exact i4) : zg σd 45 10 = nI m) (by rw [hσd, zg_ne (by decide)]; exact i5) (fun j hj => by rw [hσd, zg_ne (by decide)]; exact i6 j hj) (fun j hj => by rw [hσd, zg_ne (by decide)]; exact i7 j hj) (fαd.sub rfl) hPd
          have fde : Fx mY σ σe := (fd.sub rfl).tr (e2.sub rfl)
          obtain ⟨τb, m1, m2⟩ := hmod σe fde
          rcases m2 with ⟨hbad, -⟩ | ⟨f', j1, -, m3, m4⟩
          · exact absurd hgood hbad
          rw [i1] at j1
          have ef : fs = f' := Option.some.inj j1
          subst ef
          have bGα : BG n α σ := bG.al fα rfl
          have bLα : BL α σ := bL.al fα rfl
          have bWα : BW pl cl α σ := bW.al hW.or fα rfl
          obtain ⟨cd, l, τc, τe, r1, r2, r3, r4, r5, r6, r7, r8, r9, r10, r11, r12⟩ := seat_mrun (v3 := v3) hF hS c1 hfn hW16 (bGα.si fde rfl) (bLα.si fde rfl) (bWα.si fde rfl) m1 m3 m4
          obtain ⟨d1, d2⟩ := dcd_ok (m := m) m 0 (fun _ => false) (fun _ => 0) cd (by omega) (fre_0 m) r2 (fun j hj => by omega) (fun i j hi => by omega)
          change ∀ j, j < m → zP0 m cd j < m at d1
          obtain ⟨P, hPz⟩ : ∃ P : zPm, P = zP0 m cd := ⟨_, rfl⟩
          rw [r1] at e4
          rw [← hPz] at d1 e4 r3 r4 r10 r11 r12
          obtain ⟨b13, b12, b50⟩ := e4
          have hval : tv α pl cl n W + zg σe 45 12 = tv (seaA (tgf W) (fun j => fs (P j)) m (lifA (tgf W) m α)) pl cl n 0 := by
            rw [b12, r3, ← tv_lif hn hTd (sameL_fx (lifA_fx (tgf W) α m) rfl hW.or)]
            unfold cK
            exact i_bk _ _
          have h10 : zg σe 45 10 = nI m := by rw [e2 45 10 rfl, hσd, zg_ne (by decide)]; exact i4
          have h46 : ∀ j, j < m → zg σe 46 j = nI (tgf W j) := fun j hj => by rw [e2 46 j rfl, hσd, zg_ne (by decide)]; exact i6 j hj
          have h11e : zg σe 1 1 = nI 0 := (e2 1 1 rfl).trans d11
          have cls : f_X11_seating_j52 F D W v3 σ = if v3 = (16 : Int32) then bnd (f_X6_moveAll F σe) (fun _ s12 => f_X11_seating_j103 F D v3 (tv (seaA (tgf W) (fun j => fs (P j)) m (lifA (tgf W) m α)) pl cl n 0) s12) else f_X11_seating_j103 F D v3 (tv (seaA (tgf W) (fun j => fs (P j)) m (lifA (tgf W) m α)) pl cl n 0) σe := by
            unfold f_X11_seating_j52
            rw [i3, bnd_some, clr, bnd_some, if_neg b1n, e1, bnd_some, hval]
          have mdl : ∀ σy, zg σy 69 0 = nI n → zg σy 69 7 = nI t → f_X12_seating F (nI w) (nI m) v3 σy = f_X12_seating_j74 F W (nI m) v3 σy := fun σy q1 q2 => by
            obtain ⟨u1, -⟩ := seatM_yes (F := F) (v3 := v3) (s := σy) (by omega) hn q1 q2 hT.1 hC
            rw [u1 hA, ← hWw]
          by_cases q16 : v3 = 16
          · subst q16
            have fdx : Fx ([13, 14, 15, 23, 32, 45, 46, 47, 48, 49, 50], [(1, 1), (45, 12), (45, 13)]) σ σe := (fd.sub rfl).tr (e2.sub rfl)
            have hGe : IG n σe := hG.fx fdx rfl
            have h5e : ∀ i, i < m → zg σe 5 (tgf W i) = 1 := fun i hi => (fdx 5 _ rfl).trans (i2 _ (hTd.2.1 i hi).1 (hTd.2.1 i hi).2)
            have mv := e_moveAll (F := F) (P := P) (σ := σe) (by omega) hS hGe h5e h10 h46 b50 d1
            obtain ⟨σm, hσm⟩ : ∃ σm, σm = seaA (tgf W) (fun j => fs (P j)) m (lifA (tgf W) m σe) := ⟨_, rfl⟩
            have fem : Fx ([6, 9], []) σe σm := by rw [hσm]; exact (lifA_fx _ _ m).tr (seaA_fx _ _ _ m)
            have fαe : Fx ([13, 14, 15, 23, 32, 45, 46, 47, 48, 49, 50], [(1, 1), (45, 12), (45, 13)]) α σe := fun k j h => (fdx k j h).trans ((fα.sub (m' := ([13, 14, 15, 23, 32, 45, 46, 47, 48, 49, 50], [(1, 1), (45, 12), (45, 13)])) rfl) k j h).symm
            have cong : Fx ([13, 14, 15, 23, 32, 45, 46, 47, 48, 49, 50], [(1, 1), (45, 12), (45, 13)]) (seaA (tgf W) (fun j => fs (P j)) m (lifA (tgf W) m α)) σm := by
              rw [hσm]
              exact seaA_cg (lifA_cg fαe (fun _ => rfl) m) (fun _ => rfl) m
            rw [← hσm] at mv
            have fym : Fx mY σ σm := fde.tr (fem.sub rfl)
            obtain ⟨τb', m1', m2'⟩ := hmod σm fym
            rcases m2' with ⟨hbad, -⟩ | ⟨f', j1', -, m3', m4'⟩
            · exact absurd hgood hbad
            rw [i1] at j1'
            have ef' : fs = f' := Option.some.inj j1'
            subst ef'
            obtain ⟨cd2, l2, τc', τf, r1', -, -, r4', r5', r6', -, r8', -, -, r11', r12'⟩ := seat_mrun (v3 := 16) hF hS c1 hfn hW16 (bGα.si fym rfl) (bLα.si fym rfl) (bWα.si fym rfl) m1' m3' m4'
            have eP : zP0 m cd2 = P := by
              rw [r1] at r1'
              rw [hPz]
              exact (Prod.mk.inj (Option.some.inj r1')).2.symm
            rw [eP] at r4' r11' r12'
            have fmf : Fx ([71, 86, 87, 98, 99], [(69, 7)]) σm τf := (r5'.sub rfl).tr (r8'.sub rfl)
            have nG : IG n τf := (r11'.fx cong rfl).fx fmf rfl
            have nBG : BG n τf τf := (r12'.al cong rfl).al fmf rfl
            have fef : Fx ([6, 9, 71, 86, 87, 98, 99], [(69, 7)]) σe τf := (fem.sub rfl).tr (fmf.sub rfl)
            have hf : Fx ([6, 9, 71, 13, 14, 15, 23, 32, 45, 46, 47, 48, 49, 50, 86, 87, 98, 99], [(1, 1), (69, 7), (45, 12), (45, 13)]) σ τf := (fdx.sub rfl).tr (fef.sub rfl)
            have fατ : Fx ([6, 9, 71, 13, 14, 15, 23, 32, 45, 46, 47, 48, 49, 50, 86, 87, 98, 99], [(1, 1), (69, 7), (45, 12), (45, 13)]) α τf := (fαe.sub rfl).tr (fef.sub rfl)
            have nP : PM n pl cl a τf τf := e3.fx hW.or fατ rfl fef rfl
            have nT : IT 0 τf := ⟨by omega, (fef 1 1 rfl).trans h11e, fun i hi => by omega⟩
            have nbT : BT 0 τf τf := ⟨by rw [r8' 69 7 rfl, r6']; rfl, fun i hi => by omega⟩
            have rr : RR a τf := ⟨n, 0, r, p, kc, x, ko, pl, ql, cl, ⟨nG, hH.fx hf rfl, nT, hN.fx hf rfl, hK.fx hf rfl, hD.fx hf rfl, hX.fx hf rfl, hW.fx hf rfl⟩, ⟨nBG, (bH.al hf rfl).si hf rfl, (bL.al hf rfl).si hf rfl, nbT, (bN.al hf rfl).si hf rfl, (bK.al hf rfl).si hf rfl, (bP.al hf rfl).si hf rfl, (bD.al hf rfl).si hf rfl, (bX.al hf rfl).si hf rfl, (bW.al hW.or hf rfl).si hf rfl⟩, nP⟩
            rw [if_pos rfl, mv, bnd_some] at cls
            have md := mdl σm ((fym 69 0 rfl).trans bG.1) ((fym 69 7 rfl).trans bT.1)
            rw [r4'] at md
            refine ⟨tv (seaA (tgf W) (fun j => fs (P j)) m (lifA (tgf W) m α)) pl cl n 0, σm, τf, xs _ (cls.trans ?_), md.trans ?_, a, by omega, rr⟩
            · unfold f_X11_seating_j103
              rw [if_neg (by decide), if_pos rfl]
            · unfold kEnd
              rw [e_in, bnd_some, if_neg (show ¬ (((0 : Int32)).toInt ≤ ((16 : Int32)).toInt ∧ ((16 : Int32)).toInt ≤ ((15 : Int32)).toInt) by decide), if_pos rfl]
              obtain ⟨fu, hfu⟩ : ∃ fu, F = fu + 1 := ⟨F - 1, by omega⟩
              rw [show f_X12_seating_L241 F (fun s34 => some (tv (seaA (tgf W) (fun j => fs (P j)) m (lifA (tgf W) m α)) pl cl n 0, s34)) 16 (tv (seaA (tgf W) (fun j => fs (P j)) m (lifA (tgf W) m α)) pl cl n 0) F 0 τf = f_X12_seating_L241 F (fun s34 => some (tv (seaA (tgf W) (fun j => fs (P j)) m (lifA (tgf W) m α)) pl cl n 0, s34)) 16 (tv (seaA (tgf W) (fun j => fs (P j)) m (lifA (tgf W) m α)) pl cl n 0) (fu + 1) 0 τf by rw [← hfu], f_X12_seating_L241, if_pos (by decide), if_pos rfl]
          · obtain ⟨τf, g1, g2, g3, g4⟩ : ∃ τf, (∀ y, f_X12_seating_L241 F (fun s34 => some (y, s34)) v3 y F (nI 0) τe = some (y, τf)) ∧ Fx ([71], []) τe τf ∧ (∀ x, x < 16 → zg τf 71 x = zg τe 99 x) ∧ ∀ x, 16 ≤ x → zg τf 71 x = zg τe 71 x := by
              obtain ⟨τf, y1, y2, y3, y4⟩ := e_s241 (F := F) q16 16 F 0 τe (by omega) (by omega)
              exact ⟨τf, fun y => y1 _ _, y2, fun x hx => y3 x (by omega) hx, fun x hx => y4 x (Or.inr hx)⟩
            have fef : Fx ([71, 86, 87, 98, 99], [(69, 7)]) σe τf := ((r5.sub rfl).tr (r8.sub rfl)).tr (g2.sub rfl)
            have fbig : Fx ([71, 13, 14, 15, 23, 32, 45, 46, 47, 48, 49, 50, 86, 87, 98, 99], [(1, 1), (69, 7), (45, 12), (45, 13)]) σ τf := ((fd.sub rfl).tr (e2.sub rfl)).tr (fef.sub rfl)
            have hf : Fx ([13, 14, 15, 23, 32, 45, 46, 47, 48, 49, 50, 86, 87, 98, 99], [(1, 1), (69, 7), (45, 12), (45, 13)]) σ τf := fun k j hk => by
              by_cases q : k = 71
              · subst q
                by_cases qj : j < 16
                · rw [g3 j qj, r8 99 j rfl, r7 j qj, r5 71 j rfl, fde 71 j rfl]
                · rw [g4 j (by omega), r9 j (fun w => qj w.1), r5 71 j rfl, fde 71 j rfl]
              · refine fbig k j ?_
                rw [← hk]
                unfold inm
                dsimp only
                rw [List.contains_cons, beq_false_of_ne q, Bool.false_or]
            have fατ : Fx ([13, 14, 15, 23, 32, 45, 46, 47, 48, 49, 50, 86, 87, 98, 99], [(1, 1), (69, 7), (45, 12), (45, 13)]) α τf := fun k j h => (hf k j h).trans ((fα.sub (m' := ([13, 14, 15, 23, 32, 45, 46, 47, 48, 49, 50, 86, 87, 98, 99], [(1, 1), (69, 7), (45, 12), (45, 13)])) rfl) k j h).symm
            have nP : PM n pl cl a τf τf := e3.fx hW.or fατ rfl fef rfl
            have nT : IT 0 τf := ⟨by omega, (fef 1 1 rfl).trans h11e, fun i hi => by omega⟩
            have nbT : BT 0 τf τf := ⟨by rw [g2 69 7 rfl, r8 69 7 rfl, r6]; rfl, fun i hi => by omega⟩
            have rr : RR a τf := ⟨n, 0, r, p, kc, x, ko, pl, ql, cl, ⟨hG.fx hf rfl, hH.fx hf rfl, nT, hN.fx hf rfl, hK.fx hf rfl, hD.fx hf rfl, hX.fx hf rfl, hW.fx hf rfl⟩, ⟨(bG.al hf rfl).si hf rfl, (bH.al hf rfl).si hf rfl, (bL.al hf rfl).si hf rfl, nbT, (bN.al hf rfl).si hf rfl, (bK.al hf rfl).si hf rfl, (bP.al hf rfl).si hf rfl, (bD.al hf rfl).si hf rfl, (bX.al hf rfl).si hf rfl, (bW.al hW.or hf rfl).si hf rfl⟩, nP⟩
            rw [if_neg q16] at cls
            have md := mdl σe ((fde 69 0 rfl).trans bG.1) ((fde 69 7 rfl).trans bT.1)
            rw [r4] at md
            rcases hask with q | q | ⟨g, hg, q, hbg⟩
            · subst q
              refine ⟨tv (seaA (tgf W) (fun j => fs (P j)) m (lifA (tgf W) m α)) pl cl n 0, σe, τf, xs _ (cls.trans ?_), md.trans ?_, a, by omega, rr⟩
              · unfold f_X11_seating_j103
                rw [if_pos rfl]
              · unfold kEnd
                rw [e_in, bnd_some, if_neg (show ¬ (((0 : Int32)).toInt ≤ ((-1 : Int32)).toInt ∧ ((-1 : Int32)).toInt ≤ ((15 : Int32)).toInt) by decide), if_pos rfl]
                exact g1 _
            · exact absurd q q16
            · subst q
              obtain ⟨k, hk, ek⟩ := hTd.2.2.2 g hg hbg
              refine ⟨nI (fs (P k)), σe, τf, xs _ (cls.trans ?_), md.trans ?_, a, by omega, rr⟩
              · unfold f_X11_seating_j103
                rw [if_neg (nI_m1 (by omega)), if_neg q16, ek, e_seatFor (by omega) hn hTd h10 h46 hk (b50 k hk), bnd_some]
              · unfold kEnd
                rw [e_in, bnd_some, nI_toInt (show g < 2 ^ 31 by omega), if_pos (show ((0 : Int32)).toInt ≤ (g : Int) ∧ (g : Int) ≤ ((15 : Int32)).toInt by rw [show ((0 : Int32)).toInt = 0 from rfl, show ((15 : Int32)).toInt = 15 from rfl]; omega), if_neg b1n, if_pos (zin_n (by omega) (by omega)), lt_eq, nI_clamp (by omega), ek, r10 k hk, ← ek]
                exact g1 _
      · rcases hc with ⟨-, hk⟩ | ⟨f, i1, i2, -⟩
        · obtain ⟨τb, m1, m2⟩ := hmod σd (fd.sub rfl)
          rcases m2 with ⟨-, m3⟩ | ⟨f, i1, i2, -⟩
          · have hf : Fx ([45, 46, 47, 98], [(1, 1), (69, 7)]) σ τb := (fd.sub rfl).tr ((Fx.rf.zs rfl).tr (m1.sub rfl))
            have nT : IT 0 τb := ⟨by omega, by rw [m1 1 1 rfl, zg_ne (by decide)]; exact d11, fun i hi => by omega⟩
            have nbT : BT 0 τb τb := ⟨by rw [m1 69 7 rfl, zg_eq]; rfl, fun i hi => by omega⟩
            refine ⟨-999999, σd, τb, xs _ ?_, ?_, a, by omega, ⟨n, 0, r, p, kc, x, ko, pl, ql, cl, ⟨hG.fx hf rfl, hH.fx hf rfl, nT, hN.fx hf rfl, hK.fx hf rfl, hD.fx hf rfl, hX.fx hf rfl, hW.fx hf rfl⟩, ⟨(bG.al hf rfl).si hf rfl, (bH.al hf rfl).si hf rfl, (bL.al hf rfl).si hf rfl, nbT, (bN.al hf rfl).si hf rfl, (bK.al hf rfl).si hf rfl, (bP.al hf rfl).si hf rfl, (bD.al hf rfl).si hf rfl, (bX.al hf rfl).si hf rfl, (bW.al hW.or hf rfl).si hf rfl⟩, hP.fx hW.or hf rfl hf rfl⟩⟩
            · unfold f_X11_seating_j52
              rw [hk, bnd_some, clr, bnd_some, if_pos rfl]
            · have hcn : Cnd n (nI w) (nI m) m := hC
              obtain ⟨u1, -⟩ := seatM_yes (F := F) (v3 := v3) (s := σd) (by omega) hn ((fd 69 0 rfl).trans bG.1) ((fd 69 7 rfl).trans bT.1) hT.1 hcn
              rw [u1 hA, ← hWw]
              unfold f_X12_seating_j74
              rw [lt_eq, m3, bnd_some, if_pos rfl]
          · exact absurd ⟨f, i1, i2⟩ hgood
        · exact absurd ⟨f, i1, i2⟩ hgood
    · exact OP.no ⟨n, t, r, p, kc, x, ko, pl, ql, cl, ⟨hG, hH, hT, hN, hK, hD, hX, hW⟩, ⟨bG, bH, bL, bT, bN, bK, bP, bD, bX, bW⟩, hP⟩ (-1000000) (s2 hA) (t2 hA)
  · refine OP.no ⟨n, t, r, p, kc, x, ko, pl, ql, cl, ⟨hG, hH, hT, hN, hK, hD, hX, hW⟩, ⟨bG, bH, bL, bT, bN, bK, bP, bD, bX, bW⟩, hP⟩ (-1000000) ?_ (seatM_no (by omega) hn bG.1 (fun m h => hC ⟨m, h⟩))
    unfold f_X11_seating
    rw [canT_no hn hG.2.1 (fun m h => hC ⟨m, h⟩), bnd_some, if_pos rfl]
