/-! ===== ops: rain, speeches, counts ===== -/
theorem op_rain (v w u : Int32) : OP (f_X11_rain v w u) (f_X12_rain v w u) := by
  intro a σ ha ⟨n, t, r, p, kc, x, ko, pl, ql, cl, ⟨hG, hH, hT, hN, hK, hD, hX, hW⟩, ⟨bG, bH, bL, bT, bN, bK, bP, bD, bX, bW⟩, hP⟩
  have hn := hG.1
  obtain ⟨n1, n2, n3, n4, n5, n6⟩ := hN
  obtain ⟨b1, b2, b3, b4⟩ := bN
  have hN : IN r p σ := ⟨n1, n2, n3, n4, n5, n6⟩
  have bN : BN r p σ σ := ⟨b1, b2, b3, b4⟩
  have X : f_X11_rain v w u σ = if gd 1000 v then (if 0 ≤ w.toInt ∧ w.toInt ≤ u.toInt ∧ u.toInt < 20 then f_X5_addRain v w u σ else some (-1, σ)) else some (-1, σ) := by
    unfold f_X11_rain
    rw [e_isMinute, bnd_some, b01, e_isRow, bnd_some, b01]
    split
    · split
      · cases f_X5_addRain v w u σ <;> rfl
      · rfl
    · rfl
  by_cases h1 : gd 1000 v
  · by_cases h2 : 0 ≤ w.toInt ∧ w.toInt ≤ u.toInt ∧ u.toInt < 20
    · rw [if_pos h1, if_pos h2] at X
      have M : ∀ τ, zg τ 69 30 = nI r → f_X12_rain v w u τ = if r = 10 then some (-1, τ) else some (nI (r + 1), zs (zs (zs (zs τ 88 r v) 89 r w) 90 r u) 69 30 (nI (r + 1))) := by
        intro τ hτ
        have q88 : ∀ (τ : zM) (k j : Nat) (x : Int32), ¬ k = 69 → zg τ 69 30 = nI r → zg (zs τ k j x) 69 30 = nI r := fun τ k j x hk h => by rw [zg_ne (fun q => hk q.symm)]; exact h
        unfold f_X12_rain
        rw [e_isMinuteM, if_pos h1, bnd_some, if_neg b1n, e_isPlaceM, if_pos ⟨h2.1, by omega⟩, bnd_some, if_neg b1n, e_isPlaceM, if_pos ⟨by omega, h2.2.2⟩, bnd_some, if_neg b1n]
        simp only [i_lt]
        rw [if_neg (by omega), hτ]
        by_cases hr : r = 10
        · subst hr; rw [if_pos (show nI 10 = (10 : Int32) from rfl)]; rfl
        · rw [if_neg (show ¬ nI r = 10 from fun q => hr ((nI_eq (b := 10) (by omega) (by omega)).mp q)), if_neg hr]
          have z : zin (nI r) 10 = true := zin_n (by omega) (by omega)
          rw [if_pos z, lt_eq, nI_clamp (by omega), q88 _ _ _ _ (by decide) hτ, if_pos z, lt_eq, nI_clamp (by omega), q88 _ _ _ _ (by decide) (q88 _ _ _ _ (by decide) hτ), if_pos z, lt_eq, lt_eq, nI_clamp (by omega), q88 _ _ _ _ (by decide) (q88 _ _ _ _ (by decide) (q88 _ _ _ _ (by decide) hτ)), nI_1, zg_eq]
      by_cases hr : r = 10
      · refine OP.no ⟨n, t, r, p, kc, x, ko, pl, ql, cl, ⟨hG, hH, hT, hN, hK, hD, hX, hW⟩, ⟨bG, bH, bL, bT, bN, bK, bP, bD, bX, bW⟩, hP⟩ (-1) (X.trans ?_) (by rw [M σ b1, if_pos hr])
        unfold f_X5_addRain
        rw [n3, if_neg (by rw [show (10 : Int32) = nI 10 from rfl, nI_ltI (by omega) (by omega)]; omega)]
      · have q33 : ∀ (τ : zM) (k j : Nat) (x : Int32), ¬ k = 33 → zg τ 33 10 = nI r → zg (zs τ k j x) 33 10 = nI r := fun τ k j x hk h => by rw [zg_ne (fun q => hk q.symm)]; exact h
        have z : zin (nI r) 10 = true := zin_n (by omega) (by omega)
        have X' : f_X5_addRain v w u σ = some (nI (r + 1), zs (zs (zs (zs σ 34 r v) 35 r w) 36 r u) 33 10 (nI (r + 1))) := by
          unfold f_X5_addRain
          rw [n3, if_pos (by rw [show (10 : Int32) = nI 10 from rfl, nI_ltI (by omega) (by omega)]; omega), if_pos z, lt_eq, nI_clamp (by omega), q33 _ _ _ _ (by decide) n3, if_pos z, lt_eq, nI_clamp (by omega), q33 _ _ _ _ (by decide) (q33 _ _ _ _ (by decide) n3), if_pos z, lt_eq, lt_eq, nI_clamp (by omega), q33 _ _ _ _ (by decide) (q33 _ _ _ _ (by decide) (q33 _ _ _ _ (by decide) n3)), nI_1, zg_eq]
        refine ⟨nI (r + 1), _, _, X.trans X', by rw [M _ (by simp [zg_zs, b1]), if_neg hr], a, by omega, ?_⟩
        obtain ⟨m, hm, rfl, -⟩ := nI_of' h1 (by omega)
        obtain ⟨y, hy, rfl, -⟩ := nI_of' (v := w) (n := 20) ⟨h2.1, by omega⟩ (by omega)
        obtain ⟨y', hy', rfl, -⟩ := nI_of' (v := u) (n := 20) ⟨by omega, h2.2.2⟩ (by omega)
        have hf : Fx ([34, 35, 36, 88, 89, 90], [(33, 10), (69, 30)]) σ (zs (zs (zs (zs (zs (zs (zs (zs σ 34 r (nI m)) 35 r (nI y)) 36 r (nI y')) 33 10 (nI (r + 1))) 88 r (nI m)) 89 r (nI y)) 90 r (nI y')) 69 30 (nI (r + 1))) := by
          repeat first | exact Fx.rf | refine Fx.zs ?_ rfl
        refine ⟨n, t, r + 1, p, kc, x, ko, pl, ql, cl, ⟨hG.fx hf rfl, hH.fx hf rfl, hT.fx hf rfl, ⟨by omega, n2, ?_, (hf 33 11 rfl).trans n4, ?_, ?_⟩, hK.fx hf rfl, hD.fx hf rfl, hX.fx hf rfl, hW.fx hf rfl⟩, ⟨(bG.al hf rfl).si hf rfl, (bH.al hf rfl).si hf rfl, (bL.al hf rfl).si hf rfl, (bT.al hf rfl).si hf rfl, ⟨?_, (hf 69 31 rfl).trans b2, ?_, ?_⟩, (bK.al hf rfl).si hf rfl, (bP.al hf rfl).si hf rfl, (bD.al hf rfl).si hf rfl, (bX.al hf rfl).si hf rfl, (bW.al hW.or hf rfl).si hf rfl⟩, hP.fx hW.or hf rfl hf rfl⟩
        · simp [zg_zs]
        · intro k hk
          by_cases hkr : k = r
          · subst hkr
            exact ⟨⟨m, hm, by simp [zg_zs]⟩, ⟨y, hy, by simp [zg_zs]⟩, ⟨y', hy', by simp [zg_zs]⟩⟩
          · have := n5 k (by omega)
            simpa [zg_zs, hkr] using this
        · intro k hk
          rw [hf 37 k rfl, hf 38 k rfl, hf 39 k rfl]
          exact n6 k hk
        · simp [zg_zs]
        · intro k hk
          by_cases hkr : k = r
          · subst hkr
            simp [zg_zs]
          · have := b3 k (by omega)
            simpa [zg_zs, hkr] using this
        · intro k hk
          rw [hf 37 k rfl, hf 38 k rfl, hf 39 k rfl, hf 91 k rfl, hf 92 k rfl, hf 93 k rfl]
          exact b4 k hk
    · rw [if_pos h1, if_neg h2] at X
      refine OP.no ⟨n, t, r, p, kc, x, ko, pl, ql, cl, ⟨hG, hH, hT, hN, hK, hD, hX, hW⟩, ⟨bG, bH, bL, bT, bN, bK, bP, bD, bX, bW⟩, hP⟩ (-1) X ?_
      unfold f_X12_rain
      simp only [e_isMinuteM, e_isPlaceM, bnd_some, b01, i_lt]
      rw [if_pos h1]
      split
      · split
        · rw [if_pos (by omega)]
        · rfl
      · rfl
  · rw [if_neg h1] at X
    refine OP.no ⟨n, t, r, p, kc, x, ko, pl, ql, cl, ⟨hG, hH, hT, hN, hK, hD, hX, hW⟩, ⟨bG, bH, bL, bT, bN, bK, bP, bD, bX, bW⟩, hP⟩ (-1) X ?_
    unfold f_X12_rain
    rw [e_isMinuteM, if_neg h1, bnd_some, if_pos rfl]
theorem op_speech (v w u : Int32) : OP (f_X11_speech v w u) (f_X12_speech v w u) := by
  intro a σ ha ⟨n, t, r, p, kc, x, ko, pl, ql, cl, ⟨hG, hH, hT, hN, hK, hD, hX, hW⟩, ⟨bG, bH, bL, bT, bN, bK, bP, bD, bX, bW⟩, hP⟩
  have hn := hG.1
  have t5 : (5 : Int32).toInt = 5 := rfl
  have t1 : (1 : Int32).toInt = 1 := rfl
  obtain ⟨n1, n2, n3, n4, n5, n6⟩ := hN
  obtain ⟨b1, b2, b3, b4⟩ := bN
  have hN : IN r p σ := ⟨n1, n2, n3, n4, n5, n6⟩
  have bN : BN r p σ σ := ⟨b1, b2, b3, b4⟩
  have X : f_X11_speech v w u σ = if (0 ≤ v.toInt ∧ v.toInt < 20) ∧ gd 1000 w ∧ 1 ≤ u.toInt ∧ u.toInt ≤ 5 then f_X5_addSpeech v w u σ else some (-1, σ) := by
    unfold f_X11_speech f_X11_speech_j28 f_X11_speech_j29
    rw [e_isPlace, bnd_some, b01, e_isMinute, bnd_some, b01]
    simp only [i_lt, if_true, if_neg b1n]
    by_cases q1 : 0 ≤ v.toInt ∧ v.toInt < 20
    · rw [if_pos q1]
      by_cases q2 : gd 1000 w
      · rw [if_pos q2]
        by_cases q3 : u.toInt < (1 : Int32).toInt
        · rw [if_pos q3, if_neg (fun q => by omega)]
        · rw [if_neg q3]
          by_cases q4 : (5 : Int32).toInt < u.toInt
          · rw [if_pos q4, if_neg (fun q => by omega)]
          · rw [if_neg q4, if_pos ⟨q1, q2, by omega, by omega⟩]
            cases f_X5_addSpeech v w u σ <;> rfl
      · rw [if_neg q2, if_neg (fun q => q2 q.2.1)]
    · rw [if_neg q1, if_neg (fun q => q1 q.1)]
  by_cases hc : (0 ≤ v.toInt ∧ v.toInt < 20) ∧ gd 1000 w ∧ 1 ≤ u.toInt ∧ u.toInt ≤ 5
  · rw [if_pos hc] at X
    have M : ∀ τ, zg τ 69 31 = nI p → f_X12_speech v w u τ = if p = 10 then some (-1, τ) else some (nI (p + 1), zs (zs (zs (zs τ 91 p v) 92 p w) 93 p u) 69 31 (nI (p + 1))) := by
      intro τ hτ
      have q88 : ∀ (τ : zM) (k j : Nat) (x : Int32), ¬ k = 69 → zg τ 69 31 = nI p → zg (zs τ k j x) 69 31 = nI p := fun τ k j x hk h => by rw [zg_ne (fun q => hk q.symm)]; exact h
      unfold f_X12_speech
      rw [e_isPlaceM, if_pos hc.1, bnd_some, if_neg b1n, e_isMinuteM, if_pos hc.2.1, bnd_some, if_neg b1n, e_in, if_pos (by omega), bnd_some, if_neg b1n, hτ]
      by_cases hr : p = 10
      · subst hr; rw [if_pos (show nI 10 = (10 : Int32) from rfl)]; rfl
      · rw [if_neg (show ¬ nI p = 10 from fun q => hr ((nI_eq (b := 10) (by omega) (by omega)).mp q)), if_neg hr]
        have z : zin (nI p) 10 = true := zin_n (by omega) (by omega)
        rw [if_pos z, lt_eq, nI_clamp (by omega), q88 _ _ _ _ (by decide) hτ, if_pos z, lt_eq, nI_clamp (by omega), q88 _ _ _ _ (by decide) (q88 _ _ _ _ (by decide) hτ), if_pos z, lt_eq, lt_eq, nI_clamp (by omega), q88 _ _ _ _ (by decide) (q88 _ _ _ _ (by decide) (q88 _ _ _ _ (by decide) hτ)), nI_1, zg_eq]
    by_cases hr : p = 10
    · refine OP.no ⟨n, t, r, p, kc, x, ko, pl, ql, cl, ⟨hG, hH, hT, hN, hK, hD, hX, hW⟩, ⟨bG, bH, bL, bT, bN, bK, bP, bD, bX, bW⟩, hP⟩ (-1) (X.trans ?_) (by rw [M σ b2, if_pos hr])
      unfold f_X5_addSpeech
      rw [n4, if_neg (by rw [show (10 : Int32) = nI 10 from rfl, nI_ltI (by omega) (by omega)]; omega)]
    · have q33 : ∀ (τ : zM) (k j : Nat) (x : Int32), ¬ k = 33 → zg τ 33 11 = nI p → zg (zs τ k j x) 33 11 = nI p := fun τ k j x hk h => by rw [zg_ne (fun q => hk q.symm)]; exact h
      have z : zin (nI p) 10 = true := zin_n (by omega) (by omega)
      have X' : f_X5_addSpeech v w u σ = some (nI (p + 1), zs (zs (zs (zs σ 37 p v) 38 p w) 39 p u) 33 11 (nI (p + 1))) := by
        unfold f_X5_addSpeech
        rw [n4, if_pos (by rw [show (10 : Int32) = nI 10 from rfl, nI_ltI (by omega) (by omega)]; omega), if_pos z, lt_eq, nI_clamp (by omega), q33 _ _ _ _ (by decide) n4, if_pos z, lt_eq, nI_clamp (by omega), q33 _ _ _ _ (by decide) (q33 _ _ _ _ (by decide) n4), if_pos z, lt_eq, lt_eq, nI_clamp (by omega), q33 _ _ _ _ (by decide) (q33 _ _ _ _ (by decide) (q33 _ _ _ _ (by decide) n4)), nI_1, zg_eq]
      refine ⟨nI (p + 1), _, _, X.trans X', by rw [M _ (by simp [zg_zs, b2]), if_neg hr], a, by omega, ?_⟩
      obtain ⟨m, hm, rfl, -⟩ := nI_of' hc.2.1 (by omega)
      obtain ⟨y, hy, rfl, -⟩ := nI_of' (v := v) (n := 20) hc.1 (by omega)
      obtain ⟨y', hy', rfl, -⟩ := nI_of' (v := u) (n := 6) ⟨by omega, by omega⟩ (by omega)
      have hy1 : 1 ≤ y' := by
        have := hc.2.2.1
        rw [nI_toInt (by omega)] at this; omega
      have hf : Fx ([37, 38, 39, 91, 92, 93], [(33, 11), (69, 31)]) σ (zs (zs (zs (zs (zs (zs (zs (zs σ 37 p (nI y)) 38 p (nI m)) 39 p (nI y')) 33 11 (nI (p + 1))) 91 p (nI y)) 92 p (nI m)) 93 p (nI y')) 69 31 (nI (p + 1))) := by
        repeat first | exact Fx.rf | refine Fx.zs ?_ rfl
      refine ⟨n, t, r, p + 1, kc, x, ko, pl, ql, cl, ⟨hG.fx hf rfl, hH.fx hf rfl, hT.fx hf rfl, ⟨n1, by omega, (hf 33 10 rfl).trans n3, ?_, ?_, ?_⟩, hK.fx hf rfl, hD.fx hf rfl, hX.fx hf rfl, hW.fx hf rfl⟩, ⟨(bG.al hf rfl).si hf rfl, (bH.al hf rfl).si hf rfl, (bL.al hf rfl).si hf rfl, (bT.al hf rfl).si hf rfl, ⟨(hf 69 30 rfl).trans b1, ?_, ?_, ?_⟩, (bK.al hf rfl).si hf rfl, (bP.al hf rfl).si hf rfl, (bD.al hf rfl).si hf rfl, (bX.al hf rfl).si hf rfl, (bW.al hW.or hf rfl).si hf rfl⟩, hP.fx hW.or hf rfl hf rfl⟩
      · simp [zg_zs]
      · intro k hk
        rw [hf 34 k rfl, hf 35 k rfl, hf 36 k rfl]
        exact n5 k hk
      · intro k hk
        by_cases hkr : k = p
        · subst hkr
          exact ⟨⟨y, hy, by simp [zg_zs]⟩, ⟨m, hm, by simp [zg_zs]⟩, ⟨y', hy1, by omega, by simp [zg_zs]⟩⟩
        · have := n6 k (by omega)
          simpa [zg_zs, hkr] using this
      · simp [zg_zs]
      · intro k hk
        rw [hf 34 k rfl, hf 35 k rfl, hf 36 k rfl, hf 88 k rfl, hf 89 k rfl, hf 90 k rfl]
        exact b3 k hk
      · intro k hk
        by_cases hkr : k = p
        · subst hkr
          simp [zg_zs]
        · have := b4 k (by omega)
          simpa [zg_zs, hkr] using this
  · rw [if_neg hc] at X
    refine OP.no ⟨n, t, r, p, kc, x, ko, pl, ql, cl, ⟨hG, hH, hT, hN, hK, hD, hX, hW⟩, ⟨bG, bH, bL, bT, bN, bK, bP, bD, bX, bW⟩, hP⟩ (-1) X ?_
    unfold f_X12_speech
    simp only [e_isMinuteM, e_isPlaceM, e_in, bnd_some, b01]
    split
    · split
      · rw [if_neg (fun q => hc ⟨by assumption, by assumption, by omega, by omega⟩)]
      · rfl
    · rfl
theorem op_counted (d v w u : Int32) : OP (f_X11_counted d v w u) (f_X12_counted d v w u) := by
  intro a σ ha ⟨n, t, r, p, kc, x, ko, pl, ql, cl, ⟨hG, hH, hT, hN, hK, hD, hX, hW⟩, ⟨bG, bH, bL, bT, bN, bK, bP, bD, bX, bW⟩, hP⟩
  have hn := hG.1
  have t0 : (0 : Int32).toInt = 0 := rfl
  have t1 : (1 : Int32).toInt = 1 := rfl
  have t9 : (999 : Int32).toInt = 999 := rfl
  obtain ⟨k1, k2, k3, k4⟩ := hK
  obtain ⟨c1, c2, c3⟩ := bK
  have hK : IK kc σ := ⟨k1, k2, k3, k4⟩
  have bK : BK kc σ σ := ⟨c1, c2, c3⟩
  have X : f_X11_counted d v w u σ = if (0 ≤ d.toInt ∧ d.toInt ≤ 1) ∧ (0 ≤ v.toInt ∧ v.toInt ≤ w.toInt ∧ w.toInt < 20) ∧ 0 ≤ u.toInt ∧ u.toInt ≤ 999 then f_X2_addCount d v w u σ else some (-1, σ) := by
    have J9 : f_X11_counted_j9 d v w u σ = if (0 ≤ v.toInt ∧ v.toInt ≤ w.toInt ∧ w.toInt < 20) ∧ 0 ≤ u.toInt ∧ u.toInt ≤ 999 then f_X2_addCount d v w u σ else some (-1, σ) := by
      unfold f_X11_counted_j9 f_X11_counted_j34 f_X11_counted_j35
      rw [e_isRow, bnd_some, b01]
      simp only [i_lt, if_true, if_neg b1n]
      by_cases q1 : 0 ≤ v.toInt ∧ v.toInt ≤ w.toInt ∧ w.toInt < 20
      · rw [if_pos q1]
        by_cases q3 : u.toInt < (0 : Int32).toInt
        · rw [if_pos q3, if_neg (fun q => by omega)]
        · rw [if_neg q3]
          by_cases q4 : (999 : Int32).toInt < u.toInt
          · rw [if_pos q4, if_neg (fun q => by omega)]
          · rw [if_neg q4, if_pos ⟨q1, by omega, by omega⟩]
            cases f_X2_addCount d v w u σ <;> rfl
      · rw [if_neg q1, if_neg (fun q => q1 q.1)]
    unfold f_X11_counted f_X11_counted_j34 f_X11_counted_j35
    rw [J9]
    by_cases d0 : d = 0
    · subst d0
      rw [if_pos rfl]
      by_cases q : (0 ≤ v.toInt ∧ v.toInt ≤ w.toInt ∧ w.toInt < 20) ∧ 0 ≤ u.toInt ∧ u.toInt ≤ 999
      · rw [if_pos q, if_pos ⟨by omega, q⟩]
      · rw [if_neg q, if_neg (fun p => q p.2)]
    · rw [if_neg d0]
      by_cases d1 : d = 1
      · subst d1
        rw [if_pos rfl]
        by_cases q : (0 ≤ v.toInt ∧ v.toInt ≤ w.toInt ∧ w.toInt < 20) ∧ 0 ≤ u.toInt ∧ u.toInt ≤ 999
        · rw [if_pos q, if_pos ⟨by omega, q⟩]
        · rw [if_neg q, if_neg (fun p => q p.2)]
      · rw [if_neg d1, if_pos rfl, if_neg (fun p => by rw [i_eq] at d0 d1; omega)]
  by_cases hc : (0 ≤ d.toInt ∧ d.toInt ≤ 1) ∧ (0 ≤ v.toInt ∧ v.toInt ≤ w.toInt ∧ w.toInt < 20) ∧ 0 ≤ u.toInt ∧ u.toInt ≤ 999
  · rw [if_pos hc] at X
    have M : ∀ τ, zg τ 69 50 = nI kc → f_X12_counted d v w u τ = if kc = 20 then some (-1, τ) else some (nI (kc + 1), zs (zs (zs (zs (zs τ 101 kc d) 102 kc v) 103 kc w) 104 kc u) 69 50 (nI (kc + 1))) := by
      intro τ hτ
      have q88 : ∀ (τ : zM) (k j : Nat) (x : Int32), ¬ k = 69 → zg τ 69 50 = nI kc → zg (zs τ k j x) 69 50 = nI kc := fun τ k j x hk h => by rw [zg_ne (fun q => hk q.symm)]; exact h
      unfold f_X12_counted
      rw [e_in, if_pos (by omega), bnd_some, if_neg b1n, e_isPlaceM, if_pos ⟨hc.2.1.1, by omega⟩, bnd_some, if_neg b1n, e_isPlaceM, if_pos ⟨by omega, hc.2.1.2.2⟩, bnd_some, if_neg b1n]
      simp only [i_lt]
      rw [if_neg (by omega), e_in, if_pos (by omega), bnd_some, if_neg b1n, hτ]
      by_cases hr : kc = 20
      · subst hr; rw [if_pos (show nI 20 = (20 : Int32) from rfl)]; rfl
      · rw [if_neg (show ¬ nI kc = 20 from fun q => hr ((nI_eq (b := 20) (by omega) (by omega)).mp q)), if_neg hr]
        have z : zin (nI kc) 20 = true := zin_n (by omega) (by omega)
        rw [if_pos z, lt_eq, nI_clamp (by omega), q88 _ _ _ _ (by decide) hτ, if_pos z, lt_eq, nI_clamp (by omega), q88 _ _ _ _ (by decide) (q88 _ _ _ _ (by decide) hτ), if_pos z, lt_eq, nI_clamp (by omega), q88 _ _ _ _ (by decide) (q88 _ _ _ _ (by decide) (q88 _ _ _ _ (by decide) hτ)), if_pos z, lt_eq, lt_eq, nI_clamp (by omega), q88 _ _ _ _ (by decide) (q88 _ _ _ _ (by decide) (q88 _ _ _ _ (by decide) (q88 _ _ _ _ (by decide) hτ))), nI_1, zg_eq]
    by_cases hr : kc = 20
    · refine OP.no ⟨n, t, r, p, kc, x, ko, pl, ql, cl, ⟨hG, hH, hT, hN, hK, hD, hX, hW⟩, ⟨bG, bH, bL, bT, bN, bK, bP, bD, bX, bW⟩, hP⟩ (-1) (X.trans ?_) (by rw [M σ c1, if_pos hr])
      unfold f_X2_addCount
      rw [k2, if_neg (by rw [show (20 : Int32) = nI 20 from rfl, nI_ltI (by omega) (by omega)]; omega)]
    · have q33 : ∀ (τ : zM) (k j : Nat) (x : Int32), ¬ k = 51 → zg τ 51 8 = nI kc → zg (zs τ k j x) 51 8 = nI kc := fun τ k j x hk h => by rw [zg_ne (fun q => hk q.symm)]; exact h
      have z : zin (nI kc) 20 = true := zin_n (by omega) (by omega)
      have X' : f_X2_addCount d v w u σ = some (nI (kc + 1), zs (zs (zs (zs (zs σ 54 kc d) 55 kc v) 56 kc w) 57 kc u) 51 8 (nI (kc + 1))) := by
        unfold f_X2_addCount
        rw [k2, if_pos (by rw [show (20 : Int32) = nI 20 from rfl, nI_ltI (by omega) (by omega)]; omega), if_pos z, lt_eq, nI_clamp (by omega), q33 _ _ _ _ (by decide) k2, if_pos z, lt_eq, nI_clamp (by omega), q33 _ _ _ _ (by decide) (q33 _ _ _ _ (by decide) k2), if_pos z, lt_eq, nI_clamp (by omega), q33 _ _ _ _ (by decide) (q33 _ _ _ _ (by decide) (q33 _ _ _ _ (by decide) k2)), if_pos z, lt_eq, lt_eq, nI_clamp (by omega), q33 _ _ _ _ (by decide) (q33 _ _ _ _ (by decide) (q33 _ _ _ _ (by decide) (q33 _ _ _ _ (by decide) k2))), nI_1, zg_eq]
      refine ⟨nI (kc + 1), _, _, X.trans X', by rw [M _ (by simp [zg_zs, c1]), if_neg hr], a, by omega, ?_⟩
      obtain ⟨yd, hyd, rfl, -⟩ := nI_of' (v := d) (n := 2) ⟨by omega, by omega⟩ (by omega)
      obtain ⟨y, hy, rfl, -⟩ := nI_of' (v := v) (n := 20) ⟨by omega, by omega⟩ (by omega)
      obtain ⟨y', hy', rfl, -⟩ := nI_of' (v := w) (n := 20) ⟨by omega, by omega⟩ (by omega)
      obtain ⟨m, hm, rfl, -⟩ := nI_of' (v := u) (n := 1000) ⟨by omega, by omega⟩ (by omega)
      have hyy : y ≤ y' := by
        have := hc.2.1.2.1
        rw [nI_toInt (by omega), nI_toInt (by omega)] at this; omega
      have hf : Fx ([54, 55, 56, 57, 101, 102, 103, 104], [(51, 8), (69, 50)]) σ (zs (zs (zs (zs (zs (zs (zs (zs (zs (zs σ 54 kc (nI yd)) 55 kc (nI y)) 56 kc (nI y')) 57 kc (nI m)) 51 8 (nI (kc + 1))) 101 kc (nI yd)) 102 kc (nI y)) 103 kc (nI y')) 104 kc (nI m)) 69 50 (nI (kc + 1))) := by
        repeat first | exact Fx.rf | refine Fx.zs ?_ rfl
      refine ⟨n, t, r, p, kc + 1, x, ko, pl, ql, cl, ⟨hG.fx hf rfl, hH.fx hf rfl, hT.fx hf rfl, hN.fx hf rfl, ⟨by omega, ?_, ?_, ?_⟩, hD.fx hf rfl, hX.fx hf rfl, hW.fx hf rfl⟩, ⟨(bG.al hf rfl).si hf rfl, (bH.al hf rfl).si hf rfl, (bL.al hf rfl).si hf rfl, (bT.al hf rfl).si hf rfl, (bN.al hf rfl).si hf rfl, ⟨?_, ?_, ?_⟩, (bP.al hf rfl).si hf rfl, (bD.al hf rfl).si hf rfl, (bX.al hf rfl).si hf rfl, (bW.al hW.or hf rfl).si hf rfl⟩, hP.fx hW.or hf rfl hf rfl⟩
      · simp [zg_zs]
      · intro s hs
        rw [hf 52 s rfl]; exact k3 s hs
      · intro k hk
        by_cases hkr : k = kc
        · subst hkr
          refine ⟨?_, y, y', m, hyy, hy', by omega, by simp [zg_zs], by simp [zg_zs], by simp [zg_zs]⟩
          rcases (show yd = 0 ∨ yd = 1 by omega) with rfl | rfl
          · exact Or.inl (by simp [zg_zs]; rfl)
          · exact Or.inr (by simp [zg_zs]; rfl)
        · have := k4 k (by omega)
          simpa [zg_zs, hkr] using this
      · simp [zg_zs]
      · intro s hs
        rw [hf 52 s rfl, hf 100 s rfl]; exact c2 s hs
      · intro k hk
        by_cases hkr : k = kc
        · subst hkr
          simp [zg_zs]
        · have := c3 k (by omega)
          simpa [zg_zs, hkr] using this
  · rw [if_neg hc] at X
    refine OP.no ⟨n, t, r, p, kc, x, ko, pl, ql, cl, ⟨hG, hH, hT, hN, hK, hD, hX, hW⟩, ⟨bG, bH, bL, bT, bN, bK, bP, bD, bX, bW⟩, hP⟩ (-1) X ?_
    unfold f_X12_counted
    simp only [e_isPlaceM, e_in, bnd_some, b01, i_lt]
    split
    · split
      · split
        · split
          · rfl
          · rw [if_neg (fun q => hc ⟨by omega, by omega, by omega, by omega⟩)]
        · rfl
      · rfl
    · rfl
