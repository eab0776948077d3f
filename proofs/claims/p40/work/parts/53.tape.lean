/-! ===== the tape: feed, check ===== -/
def psA (α : zM) (t : Nat) (b : Int32) : zM := zs (zs α 2 t b) 1 1 (nI (t + 1))
def psB (τ : zM) (t : Nat) (x : Int32) : zM := zs (zs τ 74 t x) 69 7 (nI (t + 1))
theorem psA_fx (α : zM) (t : Nat) (b : Int32) : Fx ([2], [(1, 1)]) α (psA α t b) := (Fx.rf.zs rfl).zs rfl
theorem psB_fx (α : zM) (t : Nat) (b : Int32) : Fx ([74], [(69, 7)]) α (psB α t b) := (Fx.rf.zs rfl).zs rfl
theorem IT.ps {t b : Nat} {α : zM} (h : IT t α) (ht : t < 220) (hb : b < 256) : IT (t + 1) (psA α t (nI b)) := by
  obtain ⟨h1, h2, h3⟩ := h
  refine ⟨by omega, zg_eq, fun i hi => ?_⟩
  unfold psA
  rw [zg_ne (by decide), zg_row]
  by_cases q : i = t
  · rw [if_pos q]; exact ⟨b, hb, rfl⟩
  · rw [if_neg q]; exact h3 i (by omega)
theorem BT.ps {t : Nat} {b x : Int32} {α τ : zM} (h : BT t α τ) (hx : x = b.toInt8.toInt32) : BT (t + 1) (psA α t b) (psB τ t x) := by
  obtain ⟨h1, h2⟩ := h
  refine ⟨zg_eq, fun i hi => ?_⟩
  unfold psA psB
  rw [zg_ne (by decide), zg_row, zg_ne (by decide), zg_row]
  by_cases q : i = t
  · rw [if_pos q, if_pos q, hx]
  · rw [if_neg q, if_neg q]; exact h2 i (by omega)
theorem v_byte (x : Int32) : x.toInt8.toInt32 = (x &&& (255 : Int32)).toInt8.toInt32 := by
  have h : (x &&& (255 : Int32)).toInt8 = x.toInt8 := by
    rw [Int32.toInt8_and]
    have : (255 : Int32).toInt8 = -1 := rfl
    rw [this]; simp
  rw [h]
theorem v_255 (x : Int32) : ∃ b, b < 256 ∧ x &&& (255 : Int32) = nI b := pk_andE x 8 rfl
theorem a_byte {F fu t : Nat} {v w : Int32} {α : zM} (h : IT t α) (ht : t < 220) (hw : ¬ w < 0) : f_X10_add_L3 F (fun s4 => some ((), s4)) v (fu + 1) w α = f_X10_add_L3 F (fun s4 => some ((), s4)) v fu (w + (-8 : Int32)) (psA α t ((v >>> (w &&& 31)) &&& (255 : Int32))) := by
  rw [f_X10_add_L3, if_neg hw, h.2.1, if_pos (by rw [show (220 : Int32) = nI 220 from rfl, nI_ltI (by omega) (by omega)]; omega), if_pos (zin_n (by omega) (by omega)), lt_eq, lt_eq, lt_eq, nI_clamp (by omega), zg_ne (by decide), h.2.1, nI_1]; rfl
theorem add_step {F t : Nat} {v : Int32} {α : zM} (hF : 22 ≤ F) (h : IT t α) (ht : t + 4 ≤ 220) : ∃ α', f_X10_add F v α = some ((), α') ∧ Fx ([2], [(1, 1)]) α α' ∧ IT (t + 4) α' ∧ ∀ τ, BT t α τ → ∃ τ', f_X12_types F v τ = some ((), τ') ∧ Fx ([74], [(69, 7)]) τ τ' ∧ BT (t + 4) α' τ' := by
  obtain ⟨F', rfl⟩ : ∃ f', F = f' + 5 := ⟨F - 5, by omega⟩
  obtain ⟨b3, hb3, e3⟩ := v_255 (v >>> ((24 : Int32) &&& 31))
  obtain ⟨b2, hb2, e2⟩ := v_255 (v >>> ((16 : Int32) &&& 31))
  obtain ⟨b1, hb1, e1⟩ := v_255 (v >>> ((8 : Int32) &&& 31))
  obtain ⟨b0, hb0, e0⟩ := v_255 (v >>> ((0 : Int32) &&& 31))
  have i1 := h.ps (by omega) hb3
  have i2 := i1.ps (by omega) hb2
  have i3 := i2.ps (by omega) hb1
  have i4 := i3.ps (by omega) hb0
  have m (τ : zM) (t' : Nat) (fu : Nat) (w : Int32) (ht' : t' < 220) (hw : ¬ w < 0) (hτ : zg τ 69 7 = nI t') : f_X12_types_L2 (F' + 5) (fun s4 => some ((), s4)) v (fu + 1) w τ = f_X12_types_L2 (F' + 5) (fun s4 => some ((), s4)) v fu (w + (-1 : Int32)) (psB τ t' (v >>> (((8 : Int32) * w) &&& 31)).toInt8.toInt32) := by
    rw [f_X12_types_L2, if_neg hw, hτ, if_pos (zin_n (by omega) (by omega)), lt_eq, lt_eq, lt_eq, nI_clamp (by omega), pk_vb, zg_ne (by decide), hτ, nI_1]; rfl
  refine ⟨_, ?_, ?_, i4, fun τ hτ => ?_⟩
  · unfold f_X10_add
    rw [a_byte h (by omega) (by decide), e3, show (24 : Int32) + (-8) = 16 from rfl, a_byte i1 (by omega) (by decide), e2, show (16 : Int32) + (-8) = 8 from rfl, a_byte i2 (by omega) (by decide), e1, show (8 : Int32) + (-8) = 0 from rfl, a_byte i3 (by omega) (by decide), e0, show (0 : Int32) + (-8) = -8 from rfl, f_X10_add_L3, if_pos (by decide)]
  · exact (((psA_fx _ _ _).tr (psA_fx _ _ _)).tr (psA_fx _ _ _)).tr (psA_fx _ _ _)
  · have q1 := hτ.ps (b := nI b3) (x := (v >>> ((24 : Int32) &&& 31)).toInt8.toInt32) (by rw [← e3]; exact v_byte _)
    have q2 := q1.ps (b := nI b2) (x := (v >>> ((16 : Int32) &&& 31)).toInt8.toInt32) (by rw [← e2]; exact v_byte _)
    have q3 := q2.ps (b := nI b1) (x := (v >>> ((8 : Int32) &&& 31)).toInt8.toInt32) (by rw [← e1]; exact v_byte _)
    have q4 := q3.ps (b := nI b0) (x := (v >>> ((0 : Int32) &&& 31)).toInt8.toInt32) (by rw [← e0]; exact v_byte _)
    refine ⟨_, ?_, ?_, q4⟩
    · unfold f_X12_types
      rw [m τ t _ _ (by omega) (by decide) hτ.1, show (8 : Int32) * 3 = 24 from rfl, show (3 : Int32) + (-1) = 2 from rfl, m _ (t + 1) _ _ (by omega) (by decide) q1.1, show (8 : Int32) * 2 = 16 from rfl, show (2 : Int32) + (-1) = 1 from rfl, m _ (t + 2) _ _ (by omega) (by decide) q2.1, show (8 : Int32) * 1 = 8 from rfl, show (1 : Int32) + (-1) = 0 from rfl, m _ (t + 3) _ _ (by omega) (by decide) q3.1, show (8 : Int32) * 0 = 0 from rfl, show (0 : Int32) + (-1) = -1 from rfl, f_X12_types_L2, if_pos (by decide)]
    · exact (((psB_fx _ _ _).tr (psB_fx _ _ _)).tr (psB_fx _ _ _)).tr (psB_fx _ _ _)
theorem op_feed {F : Nat} (hF : 22 ≤ F) (v1 v2 v3 v4 v5 : Int32) : OP (f_X11_feed F v1 v2 v3 v4 v5) (f_X12_feed F v1 v2 v3 v4 v5) := by
  intro a σ ha ⟨n, t, r, p, kc, x, ko, pl, ql, cl, ⟨hG, hH, hT, hN, hK, hD, hX, hW⟩, ⟨bG, bH, bL, bT, bN, bK, bP, bD, bX, bW⟩, hP⟩
  have h2 := hT.1
  have e20 : ∀ t : Nat, nI t + (20 : Int32) = nI (t + 20) := fun t => by rw [show (20 : Int32) = nI 20 from rfl, nI_add]
  have e220 : ((220 : Int32) < nI (t + 20)) ↔ 220 < t + 20 := nI_ltI (a := 220) (by omega) (by omega)
  by_cases hc : 220 < t + 20
  · refine OP.no ⟨n, t, r, p, kc, x, ko, pl, ql, cl, ⟨hG, hH, hT, hN, hK, hD, hX, hW⟩, ⟨bG, bH, bL, bT, bN, bK, bP, bD, bX, bW⟩, hP⟩ (-1) ?_ ?_
    · unfold f_X11_feed f_X10_hasRoom
      rw [hT.2.1, e20, if_pos (e220.mpr hc), bnd_some, if_pos rfl]
    · unfold f_X12_feed
      rw [bT.1, e20, if_pos (e220.mpr hc)]
  · obtain ⟨α1, x1, f1, i1, m1⟩ := add_step (v := v1) hF hT (by omega)
    obtain ⟨α2, x2, f2, i2, m2⟩ := add_step (v := v2) hF i1 (by omega)
    obtain ⟨α3, x3, f3, i3, m3⟩ := add_step (v := v3) hF i2 (by omega)
    obtain ⟨α4, x4, f4, i4, m4⟩ := add_step (v := v4) hF i3 (by omega)
    obtain ⟨α5, x5, f5, i5, m5⟩ := add_step (v := v5) hF i4 (by omega)
    have fA : Fx ([2], [(1, 1)]) σ α5 := (((f1.tr f2).tr f3).tr f4).tr f5
    have bT0 : BT t σ α5 := bT.si fA rfl
    obtain ⟨τ1, y1, g1, j1⟩ := m1 α5 bT0
    obtain ⟨τ2, y2, g2, j2⟩ := m2 τ1 j1
    obtain ⟨τ3, y3, g3, j3⟩ := m3 τ2 j2
    obtain ⟨τ4, y4, g4, j4⟩ := m4 τ3 j3
    obtain ⟨τ5, y5, g5, j5⟩ := m5 τ4 j4
    have fB : Fx ([74], [(69, 7)]) α5 τ5 := (((g1.tr g2).tr g3).tr g4).tr g5
    have hf : Fx ([2, 74], [(1, 1), (69, 7)]) σ τ5 := (fA.sub rfl).tr (fB.sub rfl)
    refine ⟨nI (t + 4 + 4 + 4 + 4 + 4), α5, τ5, ?_, ?_, a, by omega, ?_⟩
    · unfold f_X11_feed f_X10_hasRoom f_X10_length
      rw [hT.2.1, e20, if_neg (fun q => hc (e220.mp q)), bnd_some, if_neg b1n, x1, bnd_some, x2, bnd_some, x3, bnd_some, x4, bnd_some, x5, bnd_some, bnd_some, i5.2.1]
    · unfold f_X12_feed
      rw [bT0.1, e20, if_neg (fun q => hc (e220.mp q)), y1, bnd_some, y2, bnd_some, y3, bnd_some, y4, bnd_some, y5, bnd_some, j5.1]
    · exact ⟨n, t + 4 + 4 + 4 + 4 + 4, r, p, kc, x, ko, pl, ql, cl, ⟨hG.fx hf rfl, hH.fx hf rfl, i5.fx fB rfl, hN.fx hf rfl, hK.fx hf rfl, hD.fx hf rfl, hX.fx hf rfl, hW.fx hf rfl⟩, ⟨(bG.al hf rfl).si hf rfl, (bH.al hf rfl).si hf rfl, (bL.al hf rfl).si hf rfl, j5.al fB rfl, (bN.al hf rfl).si hf rfl, (bK.al hf rfl).si hf rfl, (bP.al hf rfl).si hf rfl, (bD.al hf rfl).si hf rfl, (bX.al hf rfl).si hf rfl, (bW.al hW.or hf rfl).si hf rfl⟩, hP.fx hW.or hf rfl hf rfl⟩
def numF (α : zM) (p k : Nat) (acc : Int32) : Int32 := (acc <<< ((8 : Int32) &&& 31)) ||| (zg α 2 (4 * p + k) &&& (255 : Int32))
def num4 (α : zM) (p : Nat) : Int32 := numF α p 3 (numF α p 2 (numF α p 1 (numF α p 0 0)))
theorem v_b8 : ∀ b, b < 256 → (nI b).toInt8.toInt32 &&& (255 : Int32) = nI b &&& (255 : Int32) := by decide +kernel
theorem e_numberAt {F p t : Nat} {α : zM} (hF : 22 ≤ F) (h : IT t α) (hp : 4 * p + 4 ≤ t) : f_X10_numberAt F (nI (4 * p)) α = some (num4 α p, α) := by
  obtain ⟨F', rfl⟩ : ∃ f', F = f' + 5 := ⟨F - 5, by omega⟩
  have ht := h.1
  have m (fu k : Nat) (acc : Int32) (hk : k < 4) : f_X10_numberAt_L4 (F' + 5) (fun y6 s5 => some (y6, s5)) (nI (4 * p)) (fu + 1) acc (nI k) α = f_X10_numberAt_L4 (F' + 5) (fun y6 s5 => some (y6, s5)) (nI (4 * p)) fu (numF α p k acc) (nI (k + 1)) α := by
    have hb : f_X10_byteAt (nI (4 * p + k)) α = some (zg α 2 (4 * p + k), α) := by
      unfold f_X10_byteAt
      rw [if_neg (nI_pos (by omega)), h.2.1, if_pos (by rw [nI_ltI (by omega) (by omega)]; omega), if_pos (zin_n (by omega) (by omega)), nI_clamp (by omega)]
    rw [f_X10_numberAt_L4, if_pos (by rw [show (4 : Int32) = nI 4 from rfl, nI_ltI (by omega) (by omega)]; omega), nI_add, hb, bnd_some, lt_eq, lt_eq, nI_1]; rfl
  unfold f_X10_numberAt num4
  rw [show (0 : Int32) = nI 0 from rfl, m _ 0 _ (by omega), m _ 1 _ (by omega), m _ 2 _ (by omega), m _ 3 _ (by omega), f_X10_numberAt_L4, if_neg (by decide)]
theorem e_tapeNumber {F p t : Nat} {α τ : zM} (hF : 22 ≤ F) (h : IT t α) (hb : ∀ i, i < t → zg τ 74 i = (zg α 2 i).toInt8.toInt32) (hp : 4 * p + 4 ≤ t) : f_X12_tapeNumber F (nI p) τ = some (num4 α p, τ) := by
  obtain ⟨F', rfl⟩ : ∃ f', F = f' + 5 := ⟨F - 5, by omega⟩
  have ht := h.1
  have e4 : (4 : Int32) * nI p = nI (4 * p) := by rw [show (4 : Int32) = nI 4 from rfl, pk_mul]
  have e5 : nI (4 * p) + (4 : Int32) = nI (4 * p + 4) := by rw [show (4 : Int32) = nI 4 from rfl, nI_add]
  have m (fu k : Nat) (acc : Int32) (hk : k < 4) : f_X12_tapeNumber_L6 (F' + 5) (fun y5 s4 => some (y5, s4)) (nI p) (fu + 1) acc (nI (4 * p + k)) τ = f_X12_tapeNumber_L6 (F' + 5) (fun y5 s4 => some (y5, s4)) (nI p) fu (numF α p k acc) (nI (4 * p + (k + 1))) τ := by
    obtain ⟨b, hb1, hb2⟩ := h.2.2 (4 * p + k) (by omega)
    rw [f_X12_tapeNumber_L6, e4, e5, if_pos (by rw [nI_ltI (by omega) (by omega)]; omega), if_pos (zin_n (by omega) (by omega)), lt_eq, lt_eq, nI_1, nI_clamp (by omega), hb _ (by omega), hb2, v_b8 b hb1, ← hb2]; rfl
  unfold f_X12_tapeNumber num4
  rw [lt_eq, e4]
  have m0 := m (F' + 4) 0 0 (by omega)
  rw [show nI (4 * p) = nI (4 * p + 0) from rfl, m0, m _ 1 _ (by omega), m _ 2 _ (by omega), m _ 3 _ (by omega), f_X12_tapeNumber_L6, e4, e5, if_neg (by rw [nI_ltI (by omega) (by omega)]; omega)]
def chkS (α : zM) (d : Nat) : Nat → Nat → Nat
  | 0, k => k
  | m + 1, k => if num4 α k = zg α 9 (2 * k + d) then chkS α d m (k + 1) else k
theorem chkS_le (α : zM) (d : Nat) : ∀ m k, chkS α d m k ≤ k + m := by
  intro m
  induction m with
  | zero => intro k; exact Nat.le_refl _
  | succ m ih =>
    intro k; rw [chkS]; split
    · have := ih (k + 1); omega
    · omega
theorem op_check {F : Nat} (hF : 22 ≤ F) (v w : Int32) : OP (f_X11_check F v w) (f_X12_check F v w) := by
  intro a σ ha ⟨n, t, r, p, kc, x, ko, pl, ql, cl, ⟨hG, hH, hT, hN, hK, hD, hX, hW⟩, ⟨bG, bH, bL, bT, bN, bK, bP, bD, bX, bW⟩, hP⟩
  have t0 : (0 : Int32).toInt = 0 := rfl
  have t1 : (1 : Int32).toInt = 1 := rfl
  have t20 : (20 : Int32).toInt = 20 := rfl
  have ht := hT.1
  by_cases hc : (0 ≤ v.toInt ∧ v.toInt ≤ 1) ∧ 0 ≤ w.toInt ∧ w.toInt ≤ 20
  · obtain ⟨d, hd, rfl, -⟩ := nI_of' (v := v) (n := 2) ⟨by omega, by omega⟩ (by omega)
    obtain ⟨N, hN', rfl, -⟩ := nI_of' (v := w) (n := 21) ⟨by omega, by omega⟩ (by omega)
    have e4 : (4 : Int32) * nI N = nI (4 * N) := by rw [show (4 : Int32) = nI 4 from rfl, pk_mul]
    have X : f_X11_check F (nI d) (nI N) σ = if t < 4 * N then some ((-2 : Int32), σ) else f_X11_check_L37 F (fun y9 s8 => f_X11_check_j73 F (nI N) y9 s8) (nI d) (nI N) F (nI 0) σ := by
      unfold f_X11_check f_X10_length
      simp only [i_lt]
      rw [if_neg (by omega), if_neg (by omega), if_neg (by omega), if_neg (by omega), bnd_some, hT.2.1, e4, nI_toInt (by omega), nI_toInt (by omega)]
      by_cases q : t < 4 * N
      · rw [if_pos (by omega), if_pos q]
      · rw [if_neg (by omega), if_neg q]; rfl
    have M : ∀ τ, zg τ 69 7 = nI t → f_X12_check F (nI d) (nI N) τ = if t < 4 * N then some ((-2 : Int32), τ) else f_X12_check_L39 F (fun s11 => some ((-1 : Int32), s11)) (nI d) (nI N) F (nI 0) (zs τ 69 7 0) := by
      intro τ hτ
      unfold f_X12_check
      rw [e_in, if_pos (by omega), bnd_some, if_neg b1n, e_in, if_pos (by omega), bnd_some, if_neg b1n, hτ, show (4 : Int32) = nI 4 from rfl, pk_div (by omega) (by omega) (by omega)]
      by_cases q : t < 4 * N
      · rw [if_pos (by rw [nI_ltI (by omega) (by omega)]; omega), if_pos q]
      · rw [if_neg (by rw [nI_ltI (by omega) (by omega)]; omega), if_neg q, lt_eq]; rfl
    by_cases q : t < 4 * N
    · exact OP.no ⟨n, t, r, p, kc, x, ko, pl, ql, cl, ⟨hG, hH, hT, hN, hK, hD, hX, hW⟩, ⟨bG, bH, bL, bT, bN, bK, bP, bD, bX, bW⟩, hP⟩ (-2) (by rw [X, if_pos q]) (by rw [M σ bT.1, if_pos q])
    rw [if_neg q] at X
    have kX : ∀ (m fu k : Nat), k + m = N → m < fu → f_X11_check_L37 F (fun y9 s8 => f_X11_check_j73 F (nI N) y9 s8) (nI d) (nI N) fu (nI k) σ = f_X11_check_j73 F (nI N) (nI (chkS σ d m k)) σ := by
      intro m
      induction m with
      | zero =>
        intro fu k hk hfu
        obtain ⟨fu, rfl⟩ : ∃ f', fu = f' + 1 := ⟨fu - 1, by omega⟩
        rw [f_X11_check_L37, if_neg (by rw [nI_ltI (by omega) (by omega)]; omega)]; rfl
      | succ m ih =>
        intro fu k hk hfu
        obtain ⟨fu, rfl⟩ : ∃ f', fu = f' + 1 := ⟨fu - 1, by omega⟩
        rw [f_X11_check_L37, if_pos (by rw [nI_ltI (by omega) (by omega)]; omega), show (4 : Int32) * nI k = nI (4 * k) by rw [show (4 : Int32) = nI 4 from rfl, pk_mul], e_numberAt hF hT (by omega), bnd_some, s_2pd, e_at_n (by omega), bnd_some, chkS]
        by_cases qq : num4 σ k = zg σ 9 (2 * k + d)
        · rw [if_pos qq, if_pos qq, lt_eq, nI_1]; exact ih fu (k + 1) (by omega) (by omega)
        · rw [if_neg qq, if_neg qq]
    have kM : ∀ τ, BG n σ τ → (∀ i, i < t → zg τ 74 i = (zg σ 2 i).toInt8.toInt32) → ∀ (m fu k : Nat), k + m = N → m < fu → f_X12_check_L39 F (fun s11 => some ((-1 : Int32), s11)) (nI d) (nI N) fu (nI k) τ = some (if chkS σ d m k = N then -1 else nI (chkS σ d m k), τ) := by
      intro τ bt hb m
      induction m with
      | zero =>
        intro fu k hk hfu
        obtain ⟨fu, rfl⟩ : ∃ f', fu = f' + 1 := ⟨fu - 1, by omega⟩
        rw [f_X12_check_L39, if_neg (by rw [nI_ltI (by omega) (by omega)]; omega), chkS, if_pos (by omega)]
      | succ m ih =>
        intro fu k hk hfu
        obtain ⟨fu, rfl⟩ : ∃ f', fu = f' + 1 := ⟨fu - 1, by omega⟩
        rw [f_X12_check_L39, if_pos (by rw [nI_ltI (by omega) (by omega)]; omega), e_tapeNumber hF hT hb (by omega), bnd_some, s_2pd, e_guestAt (by omega) hG bt (by omega), bnd_some, chkS]
        by_cases qq : num4 σ k = zg σ 9 (2 * k + d)
        · rw [if_pos qq, if_pos qq, lt_eq, nI_1]; exact ih fu (k + 1) (by omega) (by omega)
        · rw [if_neg qq, if_neg qq, if_neg (by omega)]
    have hle := chkS_le σ d N 0
    have fA : Fx ([], [(1, 1)]) σ (zs σ 1 1 0) := Fx.rf.zs rfl
    have fB : Fx ([], [(1, 1), (69, 7)]) σ (zs (zs σ 1 1 0) 69 7 0) := (Fx.rf.zs rfl).zs rfl
    refine ⟨if chkS σ d N 0 = N then -1 else nI (chkS σ d N 0), zs σ 1 1 0, zs (zs σ 1 1 0) 69 7 0, ?_, ?_, a, by omega, ?_⟩
    · rw [X, kX N F 0 (by omega) (by omega)]
      unfold f_X11_check_j73 f_X10_clear
      rw [lt_eq, bnd_some]
      simp only [nI_eq (show chkS σ d N 0 < 2 ^ 31 by omega) (show N < 2 ^ 31 by omega)]
      split <;> rfl
    · rw [M _ ((fA 69 7 rfl).trans bT.1), if_neg q]
      exact kM _ (bG.si fB rfl) (fun i hi => by rw [fB 74 i rfl]; exact bT.2 i hi) N F 0 (by omega) (by omega)
    · have hf := fB
      exact ⟨n, 0, r, p, kc, x, ko, pl, ql, cl, ⟨hG.fx hf rfl, hH.fx hf rfl, ⟨by omega, by rw [zg_ne (by decide), zg_eq]; rfl, fun i hi => absurd hi (by omega)⟩, hN.fx hf rfl, hK.fx hf rfl, hD.fx hf rfl, hX.fx hf rfl, hW.fx hf rfl⟩, ⟨(bG.al hf rfl).si hf rfl, (bH.al hf rfl).si hf rfl, (bL.al hf rfl).si hf rfl, ⟨zg_eq, fun i hi => absurd hi (by omega)⟩, (bN.al hf rfl).si hf rfl, (bK.al hf rfl).si hf rfl, (bP.al hf rfl).si hf rfl, (bD.al hf rfl).si hf rfl, (bX.al hf rfl).si hf rfl, (bW.al hW.or hf rfl).si hf rfl⟩, hP.fx hW.or hf rfl hf rfl⟩
  · refine OP.no ⟨n, t, r, p, kc, x, ko, pl, ql, cl, ⟨hG, hH, hT, hN, hK, hD, hX, hW⟩, ⟨bG, bH, bL, bT, bN, bK, bP, bD, bX, bW⟩, hP⟩ (-2) ?_ ?_
    · unfold f_X11_check
      simp only [i_lt]
      by_cases q1 : v.toInt < 0
      · rw [if_pos (by omega)]
      · rw [if_neg (by omega)]
        by_cases q2 : 1 < v.toInt
        · rw [if_pos (by omega)]
        · rw [if_neg (by omega)]
          by_cases q3 : w.toInt < 0
          · rw [if_pos (by omega)]
          · rw [if_neg (by omega), if_pos (by omega)]
    · unfold f_X12_check
      rw [e_in, bnd_some, b01]
      by_cases q1 : (0 : Int32).toInt ≤ v.toInt ∧ v.toInt ≤ (1 : Int32).toInt
      · rw [if_pos q1, e_in, if_neg (by omega), bnd_some, if_pos rfl]
      · rw [if_neg q1]
