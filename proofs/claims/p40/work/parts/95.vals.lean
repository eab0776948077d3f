/-! ===== what the calls that change nothing answer, of the class alone ===== -/
abbrev mQA : zMk := ([13, 14, 15, 23, 32, 40, 41], [(45, 2), (45, 3), (45, 4)])
/-- the base memory, and one that differs from it in scratch alone -/
def QI (n r pp p q c a : Nat) (α τ : zM) : Prop := IG n α ∧ IN r pp α ∧ IW p q c α ∧ Fx mQA α τ ∧ PM n p c a α τ
section ZVQ
variable {n r pp p q c a : Nat} {α τ : zM}
theorem QI.g (h : QI n r pp p q c a α τ) : IG n τ := h.1.fx h.2.2.2.1 rfl
theorem QI.rn (h : QI n r pp p q c a α τ) : IN r pp τ := h.2.1.fx h.2.2.2.1 rfl
theorem QI.w (h : QI n r pp p q c a α τ) : IW p q c τ := h.2.2.1.fx h.2.2.2.1 rfl
theorem QI.m (h : QI n r pp p q c a α τ) : PM n p c a τ τ := h.2.2.2.2.fx h.2.2.1.or h.2.2.2.1 rfl (Fx.rf (m := ([], []))) rfl
theorem QI.s6 (h : QI n r pp p q c a α τ) (g : Nat) : zg τ 6 g = zg α 6 g := h.2.2.2.1 6 g rfl
/-- a step of scratch -/
theorem QI.to {τ' : zM} (h : QI n r pp p q c a α τ) (hf : Fx ([13, 23, 32, 40, 41], []) τ τ') : QI n r pp p q c a α τ' := ⟨h.1, h.2.1, h.2.2.1, h.2.2.2.1.tr (hf.sub rfl), h.2.2.2.2.fx h.2.2.1.or (Fx.rf (m := ([], []))) rfl hf rfl⟩
/-- a step that remembers -/
theorem QI.tm {τ' : zM} (h : QI n r pp p q c a α τ) (hf : Fx mQA τ τ') (hP : PM n p c a τ τ') : QI n r pp p q c a α τ' := ⟨h.1, h.2.1, h.2.2.1, h.2.2.2.1.tr hf, hP.fx h.2.2.1.or (m := mQA) (fun k j hk => (h.2.2.2.1 k j hk).symm) rfl (Fx.rf (m := ([], []))) rfl⟩
/-! plates -/
theorem q_led {F g : Nat} (hF : 17 ≤ F) (h : QI n r pp p q c a α τ) (hg : g < n) :
    f_X11_led F (nI g) 0 τ = some (zg α 61 g, τ) ∧ f_X11_led F (nI g) 1 τ = some (zg α 62 g, τ) ∧ f_X11_led F (nI g) 2 τ = some (zg α 63 g, τ) ∧ f_X11_led F (nI g) 3 τ = some (sumI (fun h => zg α 64 (16 * h + g)) 16, τ) ∧ f_X11_led F (nI g) 4 τ = some (sumI (fun h => zg α 64 (16 * g + h)) 16, τ) := by
  have hG := h.g
  have hn := hG.1
  have z : zin (nI g) 16 = true := zin_n (by omega) (by omega)
  have cg : (nI g).toNatClampNeg = g := nI_clamp (by omega)
  have X : ∀ w, f_X11_led F (nI g) w τ = bnd (f_X7_told F (nI g) w τ) (fun r4 s3 => some (r4, s3)) := by
    intro w
    unfold f_X11_led; rw [e_knows_n hn hG.2.1 hg, bnd_some, if_neg b1n]
  have f := h.2.2.2.1
  have e64 : ∀ x, zg τ 64 x = zg α 64 x := fun x => f 64 x rfl
  refine ⟨?_, ?_, ?_, ?_, ?_⟩
  · rw [X]; unfold f_X7_told
    rw [e_isGuestP (show g < 16 by omega), bnd_some, if_neg b1n, if_neg (by decide), if_neg (by decide), if_pos rfl, if_pos z, cg, bnd_some, f 61 g rfl]
  · rw [X]; unfold f_X7_told
    rw [e_isGuestP (show g < 16 by omega), bnd_some, if_neg b1n, if_neg (by decide), if_neg (by decide), if_neg (by decide), if_neg (by decide), if_pos rfl, if_pos z, cg, bnd_some, f 62 g rfl]
  · rw [X]; unfold f_X7_told
    rw [e_isGuestP (show g < 16 by omega), bnd_some, if_neg b1n, if_neg (by decide), if_neg (by decide), if_neg (by decide), if_neg (by decide), if_neg (by decide), if_pos z, cg, bnd_some, f 63 g rfl]
  · rw [X]; unfold f_X7_told
    rw [e_isGuestP (show g < 16 by omega), bnd_some, if_neg b1n, if_neg (by decide), if_neg (by decide), if_neg (by decide), if_pos (by decide), e_told34 hF (by omega), if_pos rfl, bnd_some]
    simp only [e64]
  · rw [X]; unfold f_X7_told
    rw [e_isGuestP (show g < 16 by omega), bnd_some, if_neg b1n, if_neg (by decide), if_neg (by decide), if_neg (by decide), if_pos (by decide), e_told34 hF (by omega), if_neg (by decide), bnd_some]
    simp only [e64]
/-! two -/
def hvO (α : zM) (p c f g : Nat) : Int32 := if zg α 6 f = -1 then -2 else if zg α 6 g = -1 then -2 else if f < g then hrm α p c f (sN α f) g (sN α g) else hrm α p c g (sN α g) f (sN α f)
theorem hvO_sym {f g : Nat} (h : ¬ f = g) : hvO α p c f g = hvO α p c g f := by
  unfold hvO
  by_cases h1 : zg α 6 f = -1
  · rw [if_pos h1, if_pos h1]; split <;> rfl
  · rw [if_neg h1, if_neg h1]
    by_cases h2 : zg α 6 g = -1
    · rw [if_pos h2, if_pos h2]
    · rw [if_neg h2, if_neg h2]
      by_cases h3 : f < g
      · rw [if_pos h3, if_neg (by omega)]
      · rw [if_neg h3, if_pos (by omega)]
theorem q_two1 {F f g : Nat} (hF : 300 ≤ F) (h : QI n r pp p q c a α τ) (hf : f < n) (hg : g < n) (hfg : ¬ f = g) : ∃ τ', f_X11_two F (nI f) (nI g) 1 τ = some (hvO α p c f g, τ') ∧ QI n r pp p q c a α τ' := by
  have hG := h.g
  have hn := hG.1
  have X : f_X11_two F (nI f) (nI g) 1 τ = if zg τ 6 f = -1 then some ((-2 : Int32), τ) else if zg τ 6 g = -1 then some ((-2 : Int32), τ) else f_X11_two_j70 F (nI f) (nI g) 1 τ := by
    unfold f_X11_two
    rw [if_neg (by decide), if_neg (by decide), e_areTwo hn hG.2.1, if_pos ⟨fun w => hfg ((nI_eq (by omega) (by omega)).mp w), ⟨by rw [nI_toInt (by omega)]; omega, by rw [nI_toInt (by omega)]; omega⟩, by rw [nI_toInt (by omega)]; omega, by rw [nI_toInt (by omega)]; omega⟩, bnd_some, if_neg b1n, e_seatOf_n hn hG.2.1 hf, bnd_some, e_seatOf_n hn hG.2.1 hg, bnd_some, if_pos rfl]
  rw [h.s6, h.s6] at X
  unfold hvO
  by_cases h1 : zg α 6 f = -1
  · rw [if_pos h1] at X
    exact ⟨τ, by rw [X, if_pos h1], h⟩
  by_cases h2 : zg α 6 g = -1
  · rw [if_neg h1, if_pos h2] at X
    exact ⟨τ, by rw [X, if_neg h1, if_pos h2], h⟩
  rw [if_neg h1, if_neg h2] at X
  rcases h.1.seat hf with h6 | ⟨s, hs, h6⟩
  · exact absurd h6 h1
  rcases h.1.seat hg with h7 | ⟨t, ht, h7⟩
  · exact absurd h7 h2
  obtain ⟨τ', e1, e2⟩ := e_harm (F := F) hF hG h.w hf hg hfg hs ht ((h.s6 f).trans h6) ((h.s6 g).trans h7)
  refine ⟨τ', ?_, h.to (e2.sub rfl)⟩
  rw [X, if_neg h1, if_neg h2, sN_n h6 hs, sN_n h7 ht]
  unfold f_X11_two_j70
  rw [if_pos rfl, e1, bnd_some, hrm_fx h.2.2.2.1 rfl h.2.2.1.or, hrm_fx h.2.2.2.1 rfl h.2.2.1.or]
theorem q_two0 {F f g s t : Nat} (hF : 300 ≤ F) (h : QI n r pp p q c a α τ) (hf : f < n) (hg : g < n) (hfg : ¬ f = g) (hs : s < 40) (ht : t < 40) (h6 : zg α 6 f = nI s) (h7 : zg α 6 g = nI t) (hx : nxt s t = true) (hA : alw α p c f s g t = true) : ∃ τ', f_X11_two F (nI f) (nI g) 0 τ = some (1, τ') ∧ QI n r pp p q c a α τ' := by
  have hG := h.g
  have hn := hG.1
  have k6 := (h.s6 f).trans h6
  have k7 := (h.s6 g).trans h7
  obtain ⟨τ', e1, e2⟩ := e_allows (F := F) hF hG h.w hf hg hs ht k6 k7
  refine ⟨τ', ?_, h.to (e2.sub rfl)⟩
  unfold f_X11_two
  rw [if_neg (by decide), if_neg (by decide), e_areTwo hn hG.2.1, if_pos ⟨fun w => hfg ((nI_eq (by omega) (by omega)).mp w), ⟨by rw [nI_toInt (by omega)]; omega, by rw [nI_toInt (by omega)]; omega⟩, by rw [nI_toInt (by omega)]; omega, by rw [nI_toInt (by omega)]; omega⟩, bnd_some, if_neg b1n, e_seatOf_n hn hG.2.1 hf, bnd_some, e_seatOf_n hn hG.2.1 hg, bnd_some, if_neg (by rw [k6]; exact nI_m1 (by omega)), if_neg (by rw [k7]; exact nI_m1 (by omega)), if_neg (by decide), k6, k7, e_areNext hs ht, if_pos hx, bnd_some, if_neg b1n]
  unfold f_X11_two_j70
  rw [if_neg (by decide), if_neg (by decide), e1, alw_fx h.2.2.2.1 rfl h.2.2.1.or, if_pos hA, bnd_some]
  rfl
/-! soonest, rumour -/
theorem canp_fx {m : zMk} {α α' : zM} {p c n r : Nat} (hf : Fx m α α') (h1 : dis m mLW = true) (h2 : dis m ([6, 34, 35, 36], []) = true) (hp : p = 16 ∨ p = 25) : canp α' p c n r = canp α p c n r := by
  have e6 : ∀ x, zg α' 6 x = zg α 6 x := fun x => hf 6 x (dis_row h2 (by simp) x)
  have d : dis m ([34, 35, 36], []) = true := by
    simp only [dis, Bool.and_eq_true, List.all_eq_true] at h2 ⊢
    exact ⟨fun k hk => h2.1 k (List.mem_cons_of_mem _ hk), fun f hf => by cases hf⟩
  funext f g m
  unfold canp
  rw [e6, e6, sN_eq (e6 f), sN_eq (e6 g), dryL_fx hf d, dryL_fx hf d, alw_fx hf h1 hp]
def SR (α : zM) (p c n r f mi : Nat) : zR := itM (canp α p c n r) n (999 - mi) mi (stR f mi)
theorem QI.sr (h : QI n r pp p q c a α τ) (f mi : Nat) : SR τ p c n r f mi = SR α p c n r f mi := by
  unfold SR; rw [canp_fx h.2.2.2.1 rfl rfl h.2.2.1.or]
theorem q_soonest {F f b mi : Nat} (hF : 300 ≤ F) (h : QI n r pp p q c a α τ) (hf : f < n) (hb : b < n) (hm : mi < 100) (h6 : ¬ zg α 6 f = -1) (h7 : ¬ zg α 6 b = -1) : ∃ τ', f_X11_soonest F (nI f) (nI b) (nI mi) τ = some (if (SR α p c n r f mi).1 b = none then -2 else cA ((SR α p c n r f mi).1 b), τ') ∧ QI n r pp p q c a α τ' := by
  have hG := h.g
  have hn := hG.1
  have z : zin (nI b) 16 = true := zin_n (by omega) (by omega)
  obtain ⟨σ1, a1, a2, a3⟩ := e_spread (F := F) (c := c) (mi := mi) hF hG h.rn h.w hf hm
  have hbd := st_bd (can := canp τ p c n r) (n := n) (f := f) hm b
  have hsr := h.sr f mi
  unfold SR at hsr
  rw [hsr] at a3 hbd
  refine ⟨σ1, ?_, h.to (a2.sub rfl)⟩
  have c3 : gd 100 (nI mi) := ⟨by rw [nI_toInt (by omega)]; omega, by rw [nI_toInt (by omega)]; omega⟩
  unfold f_X11_soonest SR
  rw [e_isStart, if_pos c3, bnd_some, if_neg b1n, e_sits_n hG hf, h.s6, if_neg h6, bnd_some, if_neg b1n, e_sits_n hG hb, h.s6, if_neg h7, bnd_some, if_neg b1n, a1, bnd_some]
  unfold f_X5_minuteOf
  rw [if_neg (nI_pos (by omega)), if_pos (show nI b < (16 : Int32) by rw [show (16 : Int32) = nI 16 from rfl, nI_ltI (by omega) (by omega)]; omega), if_pos z, bnd_some, nI_clamp (by omega), (a3 b (by omega)).1]
  generalize (itM (canp α p c n r) n (999 - mi) mi (stR f mi)).1 b = o at hbd
  by_cases hs : o = none
  · rw [if_pos ((cA_no hbd).mpr hs), if_pos hs]
  · rw [if_neg (fun w => hs ((cA_no hbd).mp w)), if_neg hs]
def RV (α : zM) (p c n r f g mi : Nat) : Int32 := if zg α 6 f = -1 then -3 else if (SR α p c n r f mi).1 g = none then -2 else (SR α p c n r f mi).2 g
theorem q_rumour {F f g mi : Nat} (hF : 300 ≤ F) (h : QI n r pp p q c a α τ) (hf : f < n) (hg : g < n) (hm : mi < 100) : ∃ τ', f_X11_rumour F (nI f) (nI mi) (nI g) τ = some (RV α p c n r f g mi, τ') ∧ QI n r pp p q c a α τ' := by
  have hG := h.g
  have hn := hG.1
  have c3 : gd 100 (nI mi) := ⟨by rw [nI_toInt (by omega)]; omega, by rw [nI_toInt (by omega)]; omega⟩
  have c4 : gd n (nI g) := ⟨by rw [nI_toInt (by omega)]; omega, by rw [nI_toInt (by omega)]; omega⟩
  have z : zin (nI g) 16 = true := zin_n (by omega) (by omega)
  have l16 : nI g < (16 : Int32) := by rw [show (16 : Int32) = nI 16 from rfl, nI_ltI (by omega) (by omega)]; omega
  have q1 : ¬ nI g = (-1 : Int32) := nI_m1 (by omega)
  have q2 : ¬ nI g = (20 : Int32) := by rw [show (20 : Int32) = nI 20 from rfl, nI_eq (by omega) (by omega)]; omega
  unfold RV
  have X : f_X11_rumour F (nI f) (nI mi) (nI g) τ = f_X11_rumour_j27 F (nI f) (nI mi) (nI g) 1 τ := by
    unfold f_X11_rumour f_X11_rumour_j22
    rw [e_knows hn hG.2.1, bnd_some, b01, if_neg q1, if_neg q2, if_pos c4]
  by_cases h6 : zg α 6 f = -1
  · refine ⟨τ, ?_, h⟩
    rw [X, if_pos h6]
    unfold f_X11_rumour_j27
    rw [if_neg b1n, e_isStart, if_pos c3, bnd_some, if_neg b1n, e_sits_n hG hf, h.s6, if_pos h6, bnd_some, if_pos rfl]
  · obtain ⟨σ1, a1, a2, a3⟩ := e_spread (F := F) (c := c) (mi := mi) hF hG h.rn h.w hf hm
    have hbd := st_bd (can := canp τ p c n r) (n := n) (f := f) hm g
    have hsr := h.sr f mi
    unfold SR at hsr
    rw [hsr] at a3 hbd
    refine ⟨σ1, ?_, h.to (a2.sub rfl)⟩
    rw [X, if_neg h6]
    unfold f_X11_rumour_j27 SR
    rw [if_neg b1n, e_isStart, if_pos c3, bnd_some, if_neg b1n, e_sits_n hG hf, h.s6, if_neg h6, bnd_some, if_neg b1n, a1, bnd_some, if_neg q1, if_neg q2]
    unfold f_X5_minuteOf f_X5_teller
    rw [if_neg (nI_pos (by omega)), if_pos l16, if_pos z, bnd_some, nI_clamp (by omega), (a3 g (by omega)).1, if_neg (nI_pos (by omega)), if_pos l16, if_pos z, (a3 g (by omega)).2, bnd_some]
    generalize (itM (canp α p c n r) n (999 - mi) mi (stR f mi)).1 g = o at hbd
    by_cases hs : o = none
    · rw [if_pos ((cA_no hbd).mpr hs), if_pos hs]
    · rw [if_neg (fun w => hs ((cA_no hbd).mp w)), if_neg hs]
/-! exchange, sum -/
def XB (α : zM) (p c n : Nat) : zB := xall α p c n n 0 (tv α p c n 0, -1, -1)
theorem QI.tv (h : QI n r pp p q c a α τ) : tv τ p c n 0 = _root_.Jvm.Pilot.@@N@@.tv α p c n 0 := by
  have e6 := h.s6
  have f := h.2.2.2.1
  unfold _root_.Jvm.Pilot.@@N@@.tv
  refine rng_ext n 0 (fun g _ _ => ?_)
  have w1 : wv τ p c 0 g = wv α p c 0 g := by unfold wv; rw [prs_eq (e6 g), sN_eq (e6 g), wrt_fx f rfl h.2.2.1.or]
  have w2 : ∀ k, qv τ p c 0 g k = qv α p c 0 g k := fun k => by unfold qv; rw [prs_eq (e6 g), prs_eq (e6 k), sN_eq (e6 g), sN_eq (e6 k), (sameL_fx f rfl h.2.2.1.or).2]
  rw [w1, rng_ext _ _ (fun k _ _ => w2 k)]
theorem q_sum {F : Nat} (hF : 300 ≤ F) (h : QI n r pp p q c a α τ) : ∃ τ', f_X11_sum F τ = some (_root_.Jvm.Pilot.@@N@@.tv α p c n 0, τ') ∧ QI n r pp p q c a α τ' := by
  obtain ⟨σ1, e1, e2, e3⟩ := e_total (F := F) (W := 0) hF h.g h.w Fx.rf h.m
  refine ⟨σ1, ?_, h.tm (e2.sub rfl) e3⟩
  unfold f_X11_sum; rw [e1, h.tv]; rfl
/-- what find leaves behind: as it was, or less -/
def xgood (T : Int32) (b : zB) : Prop := (b.2.1 = -1 ∧ b.1 = T) ∨ (∃ g, g < 16 ∧ b.2.1 = nI g) ∧ b.1 < T
theorem xstp_good {g s v : Nat} {T : Int32} {b : zB} (hg : g < 16) (h : xgood T b) : xgood T (xstp α p c n g s v b) := by
  unfold xstp
  split
  · split
    · rename_i t _ hlt
      refine Or.inr ⟨⟨g, hg, rfl⟩, ?_⟩
      rcases h with ⟨-, h⟩ | ⟨-, h⟩
      · rw [← h]; exact hlt
      · exact Int32.lt_trans hlt h
    · exact h
  · exact h
theorem xrow_good {g s : Nat} {T : Int32} (hg : g < 16) : ∀ (m v : Nat) (b : zB), xgood T b → xgood T (xrow α p c n g s m v b) := by
  intro m
  induction m with
  | zero => intro v b h; exact h
  | succ m ih => intro v b h; exact ih (v + 1) _ (xstp_good hg h)
theorem xall_good {T : Int32} : ∀ (m g : Nat) (b : zB), g + m ≤ 16 → xgood T b → xgood T (xall α p c n m g b) := by
  intro m
  induction m with
  | zero => intro g b _ h; exact h
  | succ m ih =>
    intro g b hg h
    rw [xall]
    refine ih (g + 1) _ (by omega) ?_
    split
    · exact h
    · exact xrow_good (by omega) 40 0 b h
theorem XB_good (hn : n ≤ 16) : xgood (_root_.Jvm.Pilot.@@N@@.tv α p c n 0) (XB α p c n) := xall_good n 0 _ (by omega) (Or.inl ⟨rfl, rfl⟩)
theorem q_find {F : Nat} (hF : 300 ≤ F) (h : QI n r pp p q c a α τ) : ∃ τ' b, xgood (_root_.Jvm.Pilot.@@N@@.tv α p c n 0) b ∧ (f_X11_exchange F 0 τ = some (if b.2.1 = -1 then -2 else b.2.1, τ')) ∧ f_X11_exchange F 2 τ = some (b.1, τ') ∧ QI n r pp p q c a α τ' ∧ b = XB τ p c n := by
  obtain ⟨σ1, a1, b1, c1, d1⟩ := e_find (F := F) hF h.g h.w Fx.rf h.m
  refine ⟨σ1, XB τ p c n, ?_, ?_, ?_, h.tm (b1.sub rfl) c1, rfl⟩
  · rw [← h.tv]; exact XB_good h.1.1
  · unfold f_X11_exchange f_X6_guestToMove f_X6_seatToTake XB
    rw [if_neg (by decide), if_neg (by decide), a1, bnd_some, b10, d1.2.1]
    rw [if_neg (by decide)]
    split
    · rfl
    · rfl
  · unfold f_X11_exchange f_X6_sumThen XB
    rw [if_neg (by decide), if_neg (by decide), a1, bnd_some, if_pos rfl, d1.1]
    rfl
end ZVQ
