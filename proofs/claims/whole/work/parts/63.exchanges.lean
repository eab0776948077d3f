/-! ===== exchanges ===== -/
def xok (α : zM) (p c n : Nat) (b : zB) : Prop := b.2.1 = -1 ∨ ∃ g s v, g < n ∧ s < 40 ∧ v < 40 ∧ zg α 6 g = nI s ∧ b.2.1 = nI g ∧ b.2.2 = nI v ∧ ¬ xcand α p c n g s v = none
theorem xrow_ok {α : zM} {p c n g s : Nat} (hg : g < n) (hs : s < 40) (h6 : zg α 6 g = nI s) : ∀ m v b, v + m = 40 → xok α p c n b → xok α p c n (xrow α p c n g s m v b) := by
  intro m
  induction m with
  | zero => intro v b _ h; exact h
  | succ m ih =>
    intro v b hv h
    rw [xrow]
    refine ih (v + 1) _ (by omega) ?_
    unfold xstp
    split
    · rename_i t ht
      split
      · exact Or.inr ⟨g, s, v, hg, hs, by omega, h6, rfl, rfl, by rw [ht]; exact fun q => by cases q⟩
      · exact h
    · exact h
theorem xall_ok {α : zM} {p c n : Nat} (hG : IG n α) : ∀ m g b, g + m = n → xok α p c n b → xok α p c n (xall α p c n m g b) := by
  intro m
  induction m with
  | zero => intro g b _ h; exact h
  | succ m ih =>
    intro g b hg h
    rw [xall]
    refine ih (g + 1) _ (by omega) ?_
    split
    · exact h
    · rename_i n6
      rcases hG.seat (show g < n by omega) with q | ⟨s, hs, q⟩
      · exact absurd q n6
      · rw [sN_n q hs]; exact xrow_ok (by omega) hs q 40 0 b (by omega) h
theorem e_swap0 {n g v s : Nat} {α : zM} (hG : IG n α) (hg : g < n) (hv : v < 40) (hs : s < 40) (h6 : zg α 6 g = nI s) (h9 : zg α 9 v = -1) : f_X0_swap (nI g) (nI v) α = some ((), swp α g v) := by
  have hn := hG.1
  unfold f_X0_swap f_X0_swap_j26 swp
  rw [e_seatOf_n hn hG.2.1 hg, bnd_some, e_at_n hv, bnd_some, if_pos h9, e_place hn hG.2.1 hg (hG.seat hg) (Or.inr ⟨v, hv, rfl⟩), bnd_some, if_pos h9, if_pos h9]
theorem e_swap1 {n g v s o : Nat} {α : zM} (hG : IG n α) (hg : g < n) (hv : v < 40) (hs : s < 40) (h6 : zg α 6 g = nI s) (ho : o < n) (h9 : zg α 9 v = nI o) (hgo : ¬ g = o) : f_X0_swap (nI g) (nI v) α = some ((), swp α g v) := by
  have hn := hG.1
  have n9 : ¬ zg α 9 v = -1 := by rw [h9]; exact nI_m1 (by omega)
  have r3 : ∀ x y τ, zg (plc τ x y) 3 8 = zg τ 3 8 := fun x y τ => plc_fx τ x y 3 8 rfl
  have o1 : zg (plc α o (-1)) 6 g = -1 ∨ ∃ k, k < 40 ∧ zg (plc α o (-1)) 6 g = nI k := by rw [plc_6, if_neg hgo]; exact hG.seat hg
  have o2 : zg (plc (plc α o (-1)) g (nI v)) 6 o = -1 := by rw [plc_6, if_neg (fun q => hgo q.symm), plc_6, if_pos rfl]
  unfold f_X0_swap f_X0_swap_j26 swp
  rw [e_seatOf_n hn hG.2.1 hg, bnd_some, e_at_n hv, bnd_some, if_neg n9, h9, e_place hn hG.2.1 ho (hG.seat ho) (Or.inl rfl), bnd_some, e_place hn (by rw [r3]; exact hG.2.1) hg o1 (Or.inr ⟨v, hv, rfl⟩), bnd_some, if_neg (nI_m1 (by omega)), if_neg (nI_m1 (by omega)), nI_clamp (by omega), e_place hn (by rw [r3, r3]; exact hG.2.1) ho (Or.inl o2) (by rw [h6]; exact Or.inr ⟨s, hs, rfl⟩), bnd_some]
abbrev mE : zMk := ([6, 9, 13, 14, 15, 23, 32], [(45, 2), (45, 3), (45, 4)])
abbrev mEM : zMk := ([71, 86, 87], [(69, 48), (69, 49)])
theorem exsK {F n p q c a : Nat} (hF : 300 ≤ F) : ∀ (m fu fu' k : Nat) (σ : zM), k + m = 50 → m < fu → m < fu' → IG n σ → IW p q c σ → PM n p c a σ σ → ∃ r σ', f_X11_exchanges_L2 F (fun y10 s9 => some (y10, s9)) fu (nI k) σ = some (r, σ') ∧ IG n σ' ∧ Fx mE σ σ' ∧ PM n p c a σ' σ' ∧ ∀ τ, BG n σ τ → BL σ τ → BW p c σ τ → bsm (xall σ p c n n 0 (tv σ p c n 0, -1, -1)) τ → ∃ τ', f_X12_exchanges_L7 F (fun y8 s7 => some (y8, s7)) fu' (nI k) τ = some (r, τ') ∧ Fx mEM τ τ' ∧ BG n σ' τ' := by
  intro m
  induction m with
  | zero =>
    intro fu fu' k σ hk hfu hfu' hG hW hP
    obtain ⟨fu, rfl⟩ : ∃ f', fu = f' + 1 := ⟨fu - 1, by omega⟩
    obtain ⟨fu', rfl⟩ : ∃ f', fu' = f' + 1 := ⟨fu' - 1, by omega⟩
    have hk50 : k = 50 := by omega
    subst hk50
    refine ⟨nI 50, σ, ?_, hG, Fx.rf, hP, fun τ bG _ _ _ => ⟨τ, ?_, Fx.rf, bG⟩⟩
    · rw [f_X11_exchanges_L2, if_neg (by decide)]
    · rw [f_X12_exchanges_L7, if_neg (by decide)]
  | succ m ih =>
    intro fu fu' k σ hk hfu hfu' hG hW hP
    obtain ⟨fu, rfl⟩ : ∃ f', fu = f' + 1 := ⟨fu - 1, by omega⟩
    obtain ⟨fu', rfl⟩ : ∃ f', fu' = f' + 1 := ⟨fu' - 1, by omega⟩
    have hn := hG.1
    have h50 : nI k < (50 : Int32) := by rw [show (50 : Int32) = nI 50 from rfl, nI_ltI (by omega) (by omega)]; omega
    obtain ⟨σ1, a1, b1, c1, d1⟩ := e_find (F := F) hF hG hW Fx.rf hP
    have hok := xall_ok (p := p) (c := c) hG n 0 (tv σ p c n 0, -1, -1) (by omega) (Or.inl rfl)
    generalize hb : xall σ p c n n 0 (tv σ p c n 0, -1, -1) = b at a1 d1 hok
    have hG1 : IG n σ1 := hG.fx b1 rfl
    have hW1 : IW p q c σ1 := hW.fx b1 rfl
    have hP1 : PM n p c a σ1 σ1 := c1.fx hW.or b1 rfl (Fx.rf (m := ([], []))) rfl
    rcases hok with hno | ⟨g, s, v, hg, hs, hv, h6, eg, ev, hxc⟩
    · refine ⟨nI k, σ1, ?_, hG1, b1.sub rfl, hP1, fun τ bG _ _ hbs => ⟨τ, ?_, Fx.rf, bG.al b1 rfl⟩⟩
      · rw [f_X11_exchanges_L2, if_pos h50, a1, bnd_some, if_pos hno, if_pos rfl]
      · rw [f_X12_exchanges_L7, if_pos h50, hbs.1, if_pos hno]
    · have ng : ¬ b.2.1 = -1 := by rw [eg]; exact nI_m1 (by omega)
      have h61 : zg σ1 6 g = nI s := (b1 6 g rfl).trans h6
      have r9 : zg σ1 9 v = zg σ 9 v := b1 9 v rfl
      -- both sides move alike
      have mv : f_X0_swap (nI g) (nI v) σ1 = some ((), swp σ1 g v) ∧ IG n (swp σ1 g v) ∧ ∀ τ, BG n σ1 τ → ∃ τ1, f_X12_changes F (nI g) (nI v) τ = some ((), τ1) ∧ Fx ([71], []) τ τ1 ∧ BG n (swp σ1 g v) τ1 := by
        rcases hG1.2.2.2.2.1 v hv with h9 | ⟨o, ho, h9, -⟩
        · exact ⟨e_swap0 hG1 hg hv hs h61 h9, (swp_0 hG1 hg hv hs h61 h9).1, fun τ bt => ⟨_, e_changes0 (by omega) hG1 bt hg hv h9, Fx.rf.zs rfl, BG.swp0 hG1 bt hg hv hs h61 h9⟩⟩
        · have hgo : ¬ g = o := by
            rintro rfl
            apply hxc
            unfold xcand
            rw [← r9, h9, if_neg (nI_m1 (by omega)), if_neg (by rw [i_lt]; omega)]
          exact ⟨e_swap1 hG1 hg hv hs h61 ho h9 hgo, (swp_1 hG1 hg hv hs h61 ho h9 hgo).1, fun τ bt => ⟨_, e_changes1 (by omega) hG1 bt hg hv hs h61 ho h9, (Fx.rf.zs rfl).zs rfl, BG.swp1 hG1 bt hg hv hs h61 ho h9 hgo⟩⟩
      obtain ⟨w1, w2, w3⟩ := mv
      have fs := swp_fx σ1 g v
      have hP2 : PM n p c a (swp σ1 g v) (swp σ1 g v) := hP1.fx hW.or fs rfl fs rfl
      have hW2 : IW p q c (swp σ1 g v) := hW1.fx fs rfl
      obtain ⟨r, σ', e1, e2, e3, e4, e5⟩ := ih fu fu' (k + 1) (swp σ1 g v) (by omega) (by omega) (by omega) w2 hW2 hP2
      have f12 : Fx mE σ (swp σ1 g v) := (b1.sub rfl).tr (fs.sub rfl)
      refine ⟨r, σ', ?_, e2, f12.tr e3, e4, fun τ bG bL bW hbs => ?_⟩
      · rw [f_X11_exchanges_L2, if_pos h50, a1, bnd_some, if_neg ng, if_neg b1n, f_X6_guestToMove, bnd_some, f_X6_seatToTake, bnd_some, d1.2.1, d1.2.2, eg, ev, w1, bnd_some, lt_eq, nI_1]
        exact e1
      · obtain ⟨τ1, t1, t2, t3⟩ := w3 τ (bG.al b1 rfl)
        have bL1 : BL (swp σ1 g v) τ1 := (bL.al f12 rfl).si t2 rfl
        have bW1 : BW p c (swp σ1 g v) τ1 := (bW.al hW.or f12 rfl).si t2 rfl
        obtain ⟨τ2, l1, l2, l3⟩ := e_lays (F := F) hF w2 hW2 t3 bL1 bW1
        obtain ⟨τ', x1, x2, x3⟩ := e5 τ2 (t3.si l2 rfl) (bL1.si l2 rfl) (bW1.si l2 rfl) l3
        refine ⟨τ', ?_, (t2.sub rfl).tr ((l2.sub rfl).tr x2), x3⟩
        rw [f_X12_exchanges_L7, if_pos h50, hbs.1, if_neg ng, hbs.2, eg, ev, t1, bnd_some, lt_eq, l1, bnd_some, nI_1]
        exact x1
theorem op_exchanges {F : Nat} (hF : 300 ≤ F) : OP (f_X11_exchanges F) (f_X12_exchanges F) := by
  intro a σ ha ⟨n, t, r, p, kc, x, ko, pl, ql, cl, ⟨hG, hH, hT, hN, hK, hD, hX, hW⟩, ⟨bG, bH, bL, bT, bN, bK, bP, bD, bX, bW⟩, hP⟩
  obtain ⟨rr, σ1, e1, e2, e3, e4, e5⟩ := exsK (F := F) (p := pl) (q := ql) (c := cl) hF 50 F F 0 σ (by omega) (by omega) (by omega) hG hW hP
  obtain ⟨τ1, l1, l2, l3⟩ := e_lays (F := F) (α := σ) (τ := σ1) hF hG hW ⟨(e3 69 0 rfl).trans bG.1, fun k hk => by rw [e3 70 k rfl, e3 71 k rfl]; exact bG.2 k hk⟩ (bL.si e3 rfl) (bW.si e3 rfl)
  obtain ⟨σ2, x1, x2, x3⟩ := e5 τ1 ((bG.si e3 rfl).si l2 rfl) ((bL.si e3 rfl).si l2 rfl) ((bW.si e3 rfl).si l2 rfl) l3
  have fm : Fx mEM σ1 σ2 := (l2.sub rfl).tr x2
  have hf : Fx ([6, 9, 13, 14, 15, 23, 32, 71, 86, 87], [(45, 2), (45, 3), (45, 4), (69, 48), (69, 49)]) σ σ2 := (e3.sub rfl).tr (fm.sub rfl)
  refine ⟨rr, σ1, σ2, e1, ?_, a, by omega, ⟨n, t, r, p, kc, x, ko, pl, ql, cl, ⟨e2.fx fm rfl, hH.fx hf rfl, hT.fx hf rfl, hN.fx hf rfl, hK.fx hf rfl, hD.fx hf rfl, hX.fx hf rfl, hW.fx hf rfl⟩, ⟨x3.al fm rfl, (bH.al hf rfl).si hf rfl, (bL.al hf rfl).si hf rfl, (bT.al hf rfl).si hf rfl, (bN.al hf rfl).si hf rfl, (bK.al hf rfl).si hf rfl, (bP.al hf rfl).si hf rfl, (bD.al hf rfl).si hf rfl, (bX.al hf rfl).si hf rfl, (bW.al hW.or hf rfl).si hf rfl⟩, e4.fx hW.or fm rfl fm rfl⟩⟩
  unfold f_X12_exchanges
  rw [l1, bnd_some]
  exact x1
