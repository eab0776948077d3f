/-! ===== plates that are passed: passes, draw ===== -/
def hndA (α : zM) (f g : Nat) (u : Int32) : zM := zs (zs (zs α 61 f (zg α 61 f - u)) 61 g (zg α 61 g + u)) 64 (16 * f + g) (zg α 64 (16 * f + g) + u)
def hndB (τ : zM) (f g : Nat) (u : Int32) : zM := zs (zs (zs (zs (zs τ 107 f (zg τ 107 f - u)) 107 g (zg τ 107 g + u)) 111 f (zg τ 111 f + u)) 110 g (zg τ 110 g + u)) 112 (16 * f + g) (zg τ 112 (16 * f + g) + u)
theorem hndA_fx (α : zM) (f g : Nat) (u : Int32) : Fx ([61, 64], []) α (hndA α f g u) := ((Fx.rf.zs rfl).zs rfl).zs rfl
theorem hndB_fx (α : zM) (f g : Nat) (u : Int32) : Fx ([107, 110, 111, 112], []) α (hndB α f g u) := ((((Fx.rf.zs rfl).zs rfl).zs rfl).zs rfl).zs rfl
theorem sumI_ext {f g : Nat → Int32} : ∀ n, (∀ h, h < n → f h = g h) → sumI f n = sumI g n := by
  intro n
  induction n with
  | zero => intro _; rfl
  | succ n ih => intro h; rw [sumI, sumI, ih (fun k hk => h k (by omega)), h n (by omega)]
theorem sumI_up {f f' : Nat → Int32} {i : Nat} {u : Int32} (hi : f' i = f i + u) (ho : ∀ h, ¬ h = i → f' h = f h) : ∀ n, i < n → sumI f' n = sumI f n + u := by
  intro n
  induction n with
  | zero => intro h; omega
  | succ n ih =>
    intro h
    rw [sumI, sumI]
    by_cases hn : i = n
    · subst hn
      rw [hi, sumI_ext i (fun k hk => ho k (by omega))]
      grind
    · rw [ih (by omega), ho n (by omega)]
      grind
theorem BP.hand {α τ : zM} {f g : Nat} {u : Int32} (h : BP α τ) (hf : f < 16) (hg : g < 16) (hfg : ¬ f = g) : BP (hndA α f g u) (hndB τ f g u) := by
  obtain ⟨h1, h2, h3⟩ := h
  have a64 : ∀ j, zg (hndA α f g u) 64 j = if j = 16 * f + g then zg α 64 j + u else zg α 64 j := by
    intro j
    unfold hndA
    rw [zg_row, zg_ne (by decide), zg_ne (by decide)]
    split
    · rename_i hj; rw [hj]
    · rfl
  have a61 : ∀ j, zg (hndA α f g u) 61 j = if j = g then zg α 61 g + u else if j = f then zg α 61 f - u else zg α 61 j := by
    intro j
    unfold hndA
    rw [zg_ne (by decide), zg_row, zg_row]
  have b107 : ∀ j, zg (hndB τ f g u) 107 j = if j = g then zg τ 107 g + u else if j = f then zg τ 107 f - u else zg τ 107 j := by
    intro j
    unfold hndB
    rw [zg_ne (by decide), zg_ne (by decide), zg_ne (by decide), zg_row, zg_row]
  have b111 : ∀ j, zg (hndB τ f g u) 111 j = if j = f then zg τ 111 j + u else zg τ 111 j := by
    intro j
    unfold hndB
    rw [zg_ne (by decide), zg_ne (by decide), zg_row, zg_ne (by decide), zg_ne (by decide)]
    split
    · rename_i hj; rw [hj]
    · rfl
  have b110 : ∀ j, zg (hndB τ f g u) 110 j = if j = g then zg τ 110 j + u else zg τ 110 j := by
    intro j
    unfold hndB
    rw [zg_ne (by decide), zg_row, zg_ne (by decide), zg_ne (by decide), zg_ne (by decide)]
    split
    · rename_i hj; rw [hj]
    · rfl
  have b112 : ∀ j, zg (hndB τ f g u) 112 j = if j = 16 * f + g then zg τ 112 j + u else zg τ 112 j := by
    intro j
    unfold hndB
    rw [zg_row, zg_ne (by decide), zg_ne (by decide), zg_ne (by decide), zg_ne (by decide)]
    split
    · rename_i hj; rw [hj]
    · rfl
  refine ⟨fun k hk => ⟨?_, ?_, ?_⟩, fun i hi => ?_, fun k hk => ⟨?_, ?_⟩⟩
  · rw [b107, a61, (h1 g hg).1, (h1 f hf).1, (h1 k hk).1]
  · rw [hndB_fx τ f g u 108 k rfl, hndA_fx α f g u 62 k rfl]; exact (h1 k hk).2.1
  · rw [hndB_fx τ f g u 109 k rfl, hndA_fx α f g u 63 k rfl]; exact (h1 k hk).2.2
  · rw [b112, a64, h2 i hi]
  · rw [b110, (h3 k hk).1]
    by_cases hkg : k = g
    · subst hkg
      rw [if_pos rfl]
      refine (sumI_up (i := f) ?_ (fun h hh => ?_) 16 hf).symm
      · rw [a64, if_pos rfl]
      · rw [a64, if_neg (by omega)]
    · rw [if_neg hkg]
      refine sumI_ext 16 (fun h hh => ?_)
      rw [a64, if_neg (by omega)]
  · rw [b111, (h3 k hk).2]
    by_cases hkf : k = f
    · subst hkf
      rw [if_pos rfl]
      refine (sumI_up (i := g) ?_ (fun h hh => ?_) 16 hg).symm
      · rw [a64, if_pos rfl]
      · rw [a64, if_neg (by omega)]
    · rw [if_neg hkf]
      refine sumI_ext 16 (fun h hh => ?_)
      rw [a64, if_neg (by omega)]
theorem e_hand {f g : Nat} {u : Int32} (hf : f < 16) (hg : g < 16) (hfg : ¬ f = g) (α : zM) : f_X7_hand (nI f) (nI g) u α = some ((), hndA α f g u) := by
  have zf : zin (nI f) 16 = true := zin_n (by omega) hf
  have zG : zin (nI g) 16 = true := zin_n (by omega) hg
  have zfg : zin (nI (16 * f + g)) 256 = true := zin_n (by omega) (by omega)
  unfold f_X7_hand hndA
  simp only [e_isGuestP hf, e_isGuestP hg, bnd_some, if_neg b1n, s_n16, if_pos zf, if_pos zG, if_pos zfg, lt_eq, nI_clamp (show f < 2 ^ 31 by omega), nI_clamp (show g < 2 ^ 31 by omega), nI_clamp (show 16 * f + g < 2 ^ 31 by omega)]
  rw [zg_nj (fun q => hfg q.symm), zg_ne (k' := 64) (by decide), zg_ne (k' := 64) (by decide)]
theorem e_hands {f g : Nat} {u : Int32} (hf : f < 16) (hg : g < 16) (hfg : ¬ f = g) (τ : zM) : f_X12_hands (nI f) (nI g) u τ = some ((), hndB τ f g u) := by
  have zf : zin (nI f) 16 = true := zin_n (by omega) hf
  have zG : zin (nI g) 16 = true := zin_n (by omega) hg
  have zfg : zin (nI (16 * f + g)) 256 = true := zin_n (by omega) (by omega)
  unfold f_X12_hands hndB
  simp only [s_16n, if_pos zf, if_pos zG, if_pos zfg, lt_eq, nI_clamp (show f < 2 ^ 31 by omega), nI_clamp (show g < 2 ^ 31 by omega), nI_clamp (show 16 * f + g < 2 ^ 31 by omega)]
  have hgf : ¬ g = f := fun q => hfg q.symm
  simp [zg_zs, hgf]
theorem hand_step {F n p q c f g : Nat} {u : Int32} {α : zM} (hF : 300 ≤ F) (hG : IG n α) (hW : IW p q c α) (hf : f < n) (hg : g < n) (hfg : ¬ f = g) : ∃ (b : Bool) (α1 : zM), Fx scrL α α1 ∧ f_X11_handOver F (nI f) (nI g) u α = (if b = false then some (-2, α1) else if zg α 61 f < u then some (-3, α1) else some (zg α 61 f - u, hndA α1 f g u)) ∧ ∀ τ, BG n α τ → BL α τ → BW p c α τ → BP α τ → ∃ τ1, Fx ([86, 87], []) τ τ1 ∧ f_X12_mayPass F (nI f) (nI g) u τ = some (if b = true then 1 else 0, τ1) := by
  have hn := hG.1
  have zG : zin (nI g) 16 = true := zin_n (by omega) (by omega)
  have zfg : zin (nI (16 * f + g)) 256 = true := zin_n (by omega) (by omega)
  have S : ∀ τ, BG n α τ → zg α 6 f = -1 ∨ zg α 6 g = -1 → f_X12_mayPass F (nI f) (nI g) u τ = some (0, τ) := by
    intro τ bG h
    unfold f_X12_mayPass f_X12_sitNext
    rw [e_sitsM hG bG hf, bnd_some, b10, e_sitsM hG bG hg, bnd_some, b10]
    by_cases h6 : zg α 6 f = -1
    · rw [if_pos h6, bnd_some, if_pos rfl]
    · rw [if_neg h6, if_pos (h.resolve_left h6), bnd_some, if_pos rfl]
  have X : f_X11_handOver F (nI f) (nI g) u α = if zg α 6 f = -1 then some ((-2 : Int32), α) else if zg α 6 g = -1 then some ((-2 : Int32), α) else bnd (f_X8_areNext (zg α 6 f) (zg α 6 g) α) (fun r6 s5 => if r6 = 0 then some ((-2 : Int32), s5) else bnd (f_X1_allows F (nI f) (nI g) s5) (fun r8 s7 => if r8 = 0 then some ((-2 : Int32), s7) else bnd (f_X7_hasRoom (nI g) u s7) (fun r10 s9 => if r10 = 0 then some ((-2 : Int32), s9) else bnd (f_X7_handed (nI f) (nI g) s9) (fun r12 s11 => if (9999 : Int32) < (r12 + u) then some ((-2 : Int32), s11) else bnd (f_X7_had (nI f) s11) (fun r14 s13 => if r14 < u then some ((-3 : Int32), s13) else bnd (f_X7_hand (nI f) (nI g) u s13) (fun _ s15 => bnd (f_X7_had (nI f) s15) (fun r17 s16 => some (r17, s16)))))))) := by
    unfold f_X11_handOver
    rw [e_seatOf_n hn hG.2.1 hf, bnd_some, e_seatOf_n hn hG.2.1 hg, bnd_some]
  rcases hG.seat hf with h6 | ⟨s, hs, h6⟩
  · exact ⟨false, α, Fx.rf, by rw [X, if_pos h6, if_pos rfl], fun τ bG _ _ _ => ⟨τ, Fx.rf, S τ bG (Or.inl h6)⟩⟩
  have n6 : ¬ zg α 6 f = -1 := by rw [h6]; exact nI_m1 (by omega)
  rcases hG.seat hg with h7 | ⟨t, ht, h7⟩
  · exact ⟨false, α, Fx.rf, by rw [X, if_neg n6, if_pos h7, if_pos rfl], fun τ bG _ _ _ => ⟨τ, Fx.rf, S τ bG (Or.inr h7)⟩⟩
  have n7 : ¬ zg α 6 g = -1 := by rw [h7]; exact nI_m1 (by omega)
  rw [if_neg n6, if_neg n7, h6, h7, e_areNext hs ht, bnd_some] at X
  by_cases hx : nxt s t = true
  · rw [if_pos hx, if_neg b1n] at X
    obtain ⟨α1, e1, e2⟩ := e_allows (F := F) hF hG hW hf hg hs ht h6 h7
    rw [e1, bnd_some] at X
    have L : ∀ τ, BG n α τ → BL α τ → BW p c α τ → BP α τ → ∃ τ1, Fx ([86, 87], []) τ τ1 ∧ f_X12_mayPass F (nI f) (nI g) u τ = if alw α p c f s g t = true then (if (9999 : Int32) < zg α 61 g + u then some (0, τ1) else if (9999 : Int32) < zg α 64 (16 * f + g) + u then some (0, τ1) else some (1, τ1)) else some (0, τ1) := by
      intro τ bG bL bW bP
      obtain ⟨τ1, g1, g2⟩ := e_lets (F := F) hF hG bG bL hW bW hf hg hs ht h6 h7
      refine ⟨τ1, g2, ?_⟩
      unfold f_X12_mayPass
      rw [e_sitNextM (by omega) hG bG hf hg hs ht h6 h7, if_pos hx, bnd_some, if_neg b1n, g1, bnd_some, b01, s_16n, if_pos zG, if_pos zfg, nI_clamp (by omega), nI_clamp (by omega), g2 107 g rfl, g2 112 _ rfl, (bP.1 g (by omega)).1, bP.2.1 _ (by omega)]
    by_cases ha : alw α p c f s g t = true
    · rw [if_pos ha, if_neg b1n, f_X7_hasRoom, e_had (by omega), bnd_some, e2 61 g rfl] at X
      by_cases h1 : (9999 : Int32) < zg α 61 g + u
      · rw [if_pos h1, bnd_some, if_pos rfl] at X
        refine ⟨false, α1, e2, by rw [X, if_pos rfl], fun τ a1 a2 a3 a4 => ?_⟩
        obtain ⟨τ1, q1, q2⟩ := L τ a1 a2 a3 a4
        exact ⟨τ1, q1, by rw [q2, if_pos ha, if_pos h1]; rfl⟩
      rw [if_neg h1, bnd_some, if_neg b1n, e_handed (by omega) (by omega), bnd_some, e2 64 _ rfl] at X
      by_cases h2 : (9999 : Int32) < zg α 64 (16 * f + g) + u
      · rw [if_pos h2] at X
        refine ⟨false, α1, e2, by rw [X, if_pos rfl], fun τ a1 a2 a3 a4 => ?_⟩
        obtain ⟨τ1, q1, q2⟩ := L τ a1 a2 a3 a4
        exact ⟨τ1, q1, by rw [q2, if_pos ha, if_neg h1, if_pos h2]; rfl⟩
      rw [if_neg h2, e_had (by omega), bnd_some, e2 61 f rfl] at X
      refine ⟨true, α1, e2, ?_, fun τ a1 a2 a3 a4 => ?_⟩
      · rw [if_neg (by decide), X, e_hand (by omega) (by omega) hfg, bnd_some, e_had (by omega), bnd_some]
        have : zg (hndA α1 f g u) 61 f = zg α 61 f - u := by
          unfold hndA
          rw [zg_ne (by decide), zg_nj hfg, zg_eq, e2 61 f rfl]
        rw [this]
      · obtain ⟨τ1, q1, q2⟩ := L τ a1 a2 a3 a4
        exact ⟨τ1, q1, by rw [q2, if_pos ha, if_neg h1, if_neg h2]; rfl⟩
    · rw [if_neg ha, if_pos rfl] at X
      refine ⟨false, α1, e2, by rw [X, if_pos rfl], fun τ a1 a2 a3 a4 => ?_⟩
      obtain ⟨τ1, q1, q2⟩ := L τ a1 a2 a3 a4
      exact ⟨τ1, q1, by rw [q2, if_neg ha]; rfl⟩
  · rw [if_neg hx, if_pos rfl] at X
    refine ⟨false, α, Fx.rf, by rw [X, if_pos rfl], fun τ bG _ _ _ => ⟨τ, Fx.rf, ?_⟩⟩
    unfold f_X12_mayPass
    rw [e_sitNextM (by omega) hG bG hf hg hs ht h6 h7, if_neg hx, bnd_some, if_pos rfl]; rfl
theorem op_passes {F : Nat} (hF : 300 ≤ F) (v w u : Int32) : OP (f_X11_passes F v w u) (f_X12_passes F v w u) := by
  intro a σ ha ⟨n, t, r, p, kc, x, ko, pl, ql, cl, ⟨hG, hH, hT, hN, hK, hD, hX, hW⟩, ⟨bG, bH, bL, bT, bN, bK, bP, bD, bX, bW⟩, hP⟩
  have hn := hG.1
  by_cases hc : ¬ v = w ∧ gd n v ∧ gd n w
  · obtain ⟨f, hf, rfl, cf⟩ := nI_of' hc.2.1 (by omega)
    obtain ⟨g, hg, rfl, cg⟩ := nI_of' hc.2.2 (by omega)
    have hfg : ¬ f = g := fun q => hc.1 (by rw [q])
    have zf : zin (nI f) 16 = true := zin_n (by omega) (by omega)
    by_cases hu : 1 ≤ u.toInt ∧ u.toInt < 100
    · obtain ⟨b, σ1, f1, X, M⟩ := hand_step (F := F) (u := u) hF hG hW hf hg hfg
      have X0 : f_X11_passes F (nI f) (nI g) u σ = f_X11_handOver F (nI f) (nI g) u σ := by
        unfold f_X11_passes
        rw [e_areTwo hn hG.2.1, if_pos hc, bnd_some, if_neg b1n, e_isHandful, if_pos hu, bnd_some, if_neg b1n]
        cases f_X11_handOver F (nI f) (nI g) u σ <;> rfl
      rw [X] at X0
      have M0 : ∀ τ τ1, BG n σ τ → f_X12_mayPass F (nI f) (nI g) u τ = some (if b = true then 1 else 0, τ1) → zg τ1 107 f = zg σ 61 f → f_X12_passes F (nI f) (nI g) u τ = if b = true then (if zg σ 61 f < u then some (-3, τ1) else some (zg (hndB τ1 f g u) 107 f, hndB τ1 f g u)) else some (-2, τ1) := by
        intro τ τ1 bt hm h7
        unfold f_X12_passes
        rw [isGuest_n hn bt.1 hf, bnd_some, if_neg b1n, isGuest_n hn bt.1 hg, bnd_some, if_neg b1n, if_neg hc.1, e_isMany, if_pos hu, bnd_some, if_neg b1n, hm, bnd_some, b01, if_pos zf, cf, h7, e_hands (by omega) (by omega) hfg, bnd_some, if_pos zf]
      have fin : ∀ τ0, Fx scrL σ τ0 → ∃ τ1, Fx ([86, 87], []) τ0 τ1 ∧ f_X12_passes F (nI f) (nI g) u τ0 = if b = true then (if zg σ 61 f < u then some (-3, τ1) else some (zg (hndB τ1 f g u) 107 f, hndB τ1 f g u)) else some (-2, τ1) := by
        intro τ0 h0
        obtain ⟨τ1, q1, q2⟩ := M τ0 (bG.si h0 rfl) (bL.si h0 rfl) (bW.si h0 rfl) (bP.si h0 rfl)
        exact ⟨τ1, q1, M0 τ0 τ1 (bG.si h0 rfl) q2 ((q1 107 f rfl).trans ((h0 107 f rfl).trans (bP.1 f (by omega)).1))⟩
      cases b with
      | false =>
        rw [if_pos rfl] at X0
        obtain ⟨τ1, q1, q2⟩ := fin σ1 f1
        rw [if_neg (by decide)] at q2
        exact ⟨-2, σ1, τ1, X0, q2, a, by omega, RR.scr ⟨n, t, r, p, kc, x, ko, pl, ql, cl, ⟨hG, hH, hT, hN, hK, hD, hX, hW⟩, ⟨bG, bH, bL, bT, bN, bK, bP, bD, bX, bW⟩, hP⟩ ((f1.sub rfl).tr (q1.sub rfl))⟩
      | true =>
        rw [if_neg (by decide)] at X0
        by_cases h3 : zg σ 61 f < u
        · rw [if_pos h3] at X0
          obtain ⟨τ1, q1, q2⟩ := fin σ1 f1
          rw [if_pos rfl, if_pos h3] at q2
          exact ⟨-3, σ1, τ1, X0, q2, a, by omega, RR.scr ⟨n, t, r, p, kc, x, ko, pl, ql, cl, ⟨hG, hH, hT, hN, hK, hD, hX, hW⟩, ⟨bG, bH, bL, bT, bN, bK, bP, bD, bX, bW⟩, hP⟩ ((f1.sub rfl).tr (q1.sub rfl))⟩
        · rw [if_neg h3] at X0
          have fA : Fx ([13, 23, 32, 61, 64], []) σ (hndA σ1 f g u) := (f1.sub rfl).tr ((hndA_fx σ1 f g u).sub rfl)
          obtain ⟨τ1, q1, q2⟩ := M (hndA σ1 f g u) (bG.si fA rfl) (bL.si fA rfl) (bW.si fA rfl) (bP.si fA rfl)
          have bP1 : BP σ τ1 := (bP.si fA rfl).si q1 rfl
          have h7 : zg τ1 107 f = zg σ 61 f := (bP1.1 f (by omega)).1
          have M1 := M0 _ τ1 (bG.si fA rfl) q2 h7
          rw [if_pos rfl, if_neg h3] at M1
          have e107 : zg (hndB τ1 f g u) 107 f = zg σ 61 f - u := by
            unfold hndB
            rw [zg_ne (by decide), zg_ne (by decide), zg_ne (by decide), zg_nj hfg, zg_eq, h7]
          rw [e107] at M1
          have fB := hndB_fx τ1 f g u
          have hf : Fx ([13, 23, 32, 61, 64, 86, 87, 107, 110, 111, 112], []) σ (hndB τ1 f g u) := (fA.sub rfl).tr ((q1.sub rfl).tr (fB.sub rfl))
          have bPn : BP (hndA σ1 f g u) (hndB τ1 f g u) := (bP1.al f1 rfl).hand (by omega) (by omega) hfg
          have fAB : Fx ([86, 87, 107, 110, 111, 112], []) (hndA σ1 f g u) (hndB τ1 f g u) := (q1.sub rfl).tr (fB.sub rfl)
          exact ⟨_, _, _, X0, M1, a, by omega, ⟨n, t, r, p, kc, x, ko, pl, ql, cl, ⟨hG.fx hf rfl, hH.fx hf rfl, hT.fx hf rfl, hN.fx hf rfl, hK.fx hf rfl, hD.fx hf rfl, hX.fx hf rfl, hW.fx hf rfl⟩, ⟨(bG.al hf rfl).si hf rfl, (bH.al hf rfl).si hf rfl, (bL.al hf rfl).si hf rfl, (bT.al hf rfl).si hf rfl, (bN.al hf rfl).si hf rfl, (bK.al hf rfl).si hf rfl, bPn.al fAB rfl, (bD.al hf rfl).si hf rfl, (bX.al hf rfl).si hf rfl, (bW.al hW.or hf rfl).si hf rfl⟩, hP.fx hW.or hf rfl hf rfl⟩⟩
    · refine OP.no ⟨n, t, r, p, kc, x, ko, pl, ql, cl, ⟨hG, hH, hT, hN, hK, hD, hX, hW⟩, ⟨bG, bH, bL, bT, bN, bK, bP, bD, bX, bW⟩, hP⟩ (-1) ?_ ?_
      · unfold f_X11_passes
        rw [e_areTwo hn hG.2.1, if_pos hc, bnd_some, if_neg b1n, e_isHandful, if_neg hu, bnd_some, if_pos rfl]
      · unfold f_X12_passes
        rw [isGuest_n hn bG.1 hf, bnd_some, if_neg b1n, isGuest_n hn bG.1 hg, bnd_some, if_neg b1n, if_neg hc.1, e_isMany, if_neg hu, bnd_some, if_pos rfl]
  · refine OP.no ⟨n, t, r, p, kc, x, ko, pl, ql, cl, ⟨hG, hH, hT, hN, hK, hD, hX, hW⟩, ⟨bG, bH, bL, bT, bN, bK, bP, bD, bX, bW⟩, hP⟩ (-1) ?_ ?_
    · unfold f_X11_passes
      rw [e_areTwo hn hG.2.1, if_neg hc, bnd_some, if_pos rfl]
    · unfold f_X12_passes
      rw [e_isGuest hn bG.1, bnd_some, b01]
      by_cases a1 : gd n v
      · rw [if_pos a1, e_isGuest hn bG.1, bnd_some, b01]
        by_cases a2 : gd n w
        · rw [if_pos a2, if_pos (by by_cases hh : v = w; · exact hh
                                    · exact absurd ⟨hh, a1, a2⟩ hc)]
        · rw [if_neg a2]
      · rw [if_neg a1]
