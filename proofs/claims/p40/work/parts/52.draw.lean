/-! ===== draws ===== -/
abbrev mDA : zMk := ([13, 23, 32, 61, 64], [(0, 9)])
abbrev mDB : zMk := ([86, 87, 107, 110, 111, 112], [(69, 1)])
def nx (x : Nat) : Nat := (25173 * x + 13849) % 65536
theorem nx_lt (x : Nat) : nx x < 65536 := Nat.mod_lt _ (by omega)
theorem v_nxA {x : Nat} (hx : x < 65536) : ((25173 : Int32) * nI x + (13849 : Int32)) &&& (65535 : Int32) = nI (nx x) := by
  rw [show (25173 : Int32) = nI 25173 from rfl, show (13849 : Int32) = nI 13849 from rfl, pk_mul, nI_add]
  exact pk_andN (by omega) 16 rfl
theorem v_nxM {x : Nat} (hx : x < 65536) : ((25173 : Int32) * nI x + (13849 : Int32)) - ((25173 : Int32) * nI x + (13849 : Int32)) / (65536 : Int32) * (65536 : Int32) = nI (nx x) := by
  rw [show (25173 : Int32) = nI 25173 from rfl, show (13849 : Int32) = nI 13849 from rfl, pk_mul, nI_add]
  exact pk_rem (d := 65536) (by omega) (by omega) (by omega)
theorem v_r16 {x : Nat} (hx : x < 65536) : nI x - nI x / (16 : Int32) * (16 : Int32) = nI (x % 16) := pk_rem (d := 16) (by omega) (by omega) (by omega)
theorem v_how {x : Nat} (hx : x < 65536) : nI x / (16 : Int32) - nI x / (16 : Int32) / (3 : Int32) * (3 : Int32) = nI (x / 16 % 3) := by
  rw [show (16 : Int32) = nI 16 from rfl, pk_div (by omega) (by omega) (by omega)]
  exact pk_rem (d := 3) (by omega) (by omega) (by omega)
theorem v_besne : ∀ s, s < 40 → ∀ w, w < 3 → ¬ besI s w = nI s := by decide +kernel
theorem e_at_m1 (σ : zM) : f_X0_at (-1) σ = some (-1, σ) := by rw [e_at, if_neg (by decide)]
theorem drawK {F n p q c N : Nat} (hF : 300 ≤ F) (hN : N ≤ 60) : ∀ (m fu fu' k : Nat) (acc : Int32) (x : Nat) (α : zM), k + m = N → m < fu → m < fu' → IG n α → IW p q c α → ID x α → ∃ r α' x', f_X11_draw_L17 F (fun y16 s15 => some (y16, s15)) (nI N) fu acc (nI k) α = some (r, α') ∧ ID x' α' ∧ Fx mDA α α' ∧ ∀ τ, BG n α τ → BL α τ → BW p c α τ → BP α τ → BD x α τ → ∃ τ', f_X12_draw_L16 F (fun y22 s21 => some (y22, s21)) (nI N) fu' acc (nI k) τ = some (r, τ') ∧ Fx mDB τ τ' ∧ BP α' τ' ∧ BD x' α' τ' := by
  intro m
  induction m with
  | zero =>
    intro fu fu' k acc x α hk hfu hfu' hG hW hD
    obtain ⟨fu, rfl⟩ : ∃ f', fu = f' + 1 := ⟨fu - 1, by omega⟩
    obtain ⟨fu', rfl⟩ : ∃ f', fu' = f' + 1 := ⟨fu' - 1, by omega⟩
    refine ⟨acc, α, x, ?_, hD, Fx.rf, fun τ _ _ _ hP hX => ⟨τ, ?_, Fx.rf, hP, hX⟩⟩
    · rw [f_X11_draw_L17, if_neg (by rw [nI_ltI (by omega) (by omega)]; omega)]
    · rw [f_X12_draw_L16, if_neg (by rw [nI_ltI (by omega) (by omega)]; omega)]
  | succ m ih =>
    intro fu fu' k acc x α hk hfu hfu' hG hW hD
    obtain ⟨fu, rfl⟩ : ∃ f', fu = f' + 1 := ⟨fu - 1, by omega⟩
    obtain ⟨fu', rfl⟩ : ∃ f', fu' = f' + 1 := ⟨fu' - 1, by omega⟩
    have hn := hG.1
    have hx := nx_lt x
    have f0 : Fx ([], [(0, 9)]) α (zs α 0 9 (nI (nx x))) := Fx.rf.zs rfl
    have hG0 : IG n (zs α 0 9 (nI (nx x))) := hG.fx f0 rfl
    have hW0 : IW p q c (zs α 0 9 (nI (nx x))) := hW.fx f0 rfl
    have hD0 : ID (nx x) (zs α 0 9 (nI (nx x))) := ⟨hx, zg_eq⟩
    have B0 : ∀ τ, BG n α τ → BL α τ → BW p c α τ → BP α τ → BG n (zs α 0 9 (nI (nx x))) (zs τ 69 1 (nI (nx x))) ∧ BL (zs α 0 9 (nI (nx x))) (zs τ 69 1 (nI (nx x))) ∧ BW p c (zs α 0 9 (nI (nx x))) (zs τ 69 1 (nI (nx x))) ∧ BP (zs α 0 9 (nI (nx x))) (zs τ 69 1 (nI (nx x))) ∧ BD (nx x) (zs α 0 9 (nI (nx x))) (zs τ 69 1 (nI (nx x))) := by
      intro τ h1 h2 h3 h4
      have ft : Fx ([], [(69, 1)]) τ (zs τ 69 1 (nI (nx x))) := Fx.rf.zs rfl
      exact ⟨(h1.al f0 rfl).si ft rfl, (h2.al f0 rfl).si ft rfl, (h3.al hW.or f0 rfl).si ft rfl, (h4.al f0 rfl).si ft rfl, zg_eq⟩
    generalize hα0 : zs α 0 9 (nI (nx x)) = α0 at hG0 hW0 hD0 B0 f0
    have X : f_X11_draw_L17 F (fun y16 s15 => some (y16, s15)) (nI N) (fu + 1) acc (nI k) α = bnd (f_X0_seatOf (nI (nx x % 16)) α0) (fun r4 s3 => bnd (f_X8_beside r4 (((zg s3 0 9) / (16 : Int32)) - ((zg s3 0 9) / (16 : Int32)) / (3 : Int32) * (3 : Int32)) s3) (fun r6 s5 => bnd (f_X0_at r6 s5) (fun r8 s7 => if r8 = (-1 : Int32) then f_X11_draw_L17 F (fun y16 s15 => some (y16, s15)) (nI N) fu acc (nI (k + 1)) s7 else bnd (f_X11_handOver F (nI (nx x % 16)) r8 (1 : Int32) s7) (fun r11 s10 => if r11 < 0 then f_X11_draw_L17 F (fun y16 s15 => some (y16, s15)) (nI N) fu acc (nI (k + 1)) s10 else f_X11_draw_L17 F (fun y16 s15 => some (y16, s15)) (nI N) fu (acc + 1) (nI (k + 1)) s10)))) := by
      rw [f_X11_draw_L17, if_pos (by rw [nI_ltI (by omega) (by omega)]; omega), hD.2, v_nxA hD.1, lt_eq, hα0, hD0.2, v_r16 hx, lt_eq]
      simp only [lt_eq, nI_1]
    have M : ∀ τ, BD x α τ → f_X12_draw_L16 F (fun y22 s21 => some (y22, s21)) (nI N) (fu' + 1) acc (nI k) τ = bnd (f_X12_isGuest (nI (nx x % 16)) (zs τ 69 1 (nI (nx x)))) (fun r6 s5 => if r6 = 0 then f_X12_draw_L16 F (fun y22 s21 => some (y22, s21)) (nI N) fu' acc (nI (k + 1)) s5 else bnd (f_X12_sits (nI (nx x % 16)) s5) (fun r9 s8 => if r9 = 0 then f_X12_draw_L16 F (fun y22 s21 => some (y22, s21)) (nI N) fu' acc (nI (k + 1)) s8 else bnd (f_X12_guestBeside F (nI (nx x % 16)) (((zg s8 69 1) / (16 : Int32)) - ((zg s8 69 1) / (16 : Int32)) / (3 : Int32) * (3 : Int32)) s8) (fun r11 s10 => if r11 = (-1 : Int32) then f_X12_draw_L16 F (fun y22 s21 => some (y22, s21)) (nI N) fu' acc (nI (k + 1)) s10 else bnd (f_X12_mayPass F (nI (nx x % 16)) r11 (1 : Int32) s10) (fun r14 s13 => if r14 = 0 then f_X12_draw_L16 F (fun y22 s21 => some (y22, s21)) (nI N) fu' acc (nI (k + 1)) s13 else if zin (nI (nx x % 16)) 16 = true then (if (zg s13 107 (nI (nx x % 16)).toNatClampNeg) < (1 : Int32) then f_X12_draw_L16 F (fun y22 s21 => some (y22, s21)) (nI N) fu' acc (nI (k + 1)) s13 else bnd (f_X12_hands (nI (nx x % 16)) r11 (1 : Int32) s13) (fun _ s16 => f_X12_draw_L16 F (fun y22 s21 => some (y22, s21)) (nI N) fu' (acc + 1) (nI (k + 1)) s16)) else none)))) := by
      intro τ hτ
      rw [f_X12_draw_L16, if_pos (by rw [nI_ltI (by omega) (by omega)]; omega), show zg τ 69 1 = nI x from hτ, v_nxM hD.1, lt_eq, zg_eq, v_r16 hx, lt_eq]
      simp only [lt_eq, nI_1]
    -- both skip
    have SK : ∀ α1, Fx scrL α0 α1 → f_X11_draw_L17 F (fun y16 s15 => some (y16, s15)) (nI N) (fu + 1) acc (nI k) α = f_X11_draw_L17 F (fun y16 s15 => some (y16, s15)) (nI N) fu acc (nI (k + 1)) α1 → (∀ τ, BG n α τ → BL α τ → BW p c α τ → BP α τ → BD x α τ → ∃ τ1, Fx ([86, 87], []) (zs τ 69 1 (nI (nx x))) τ1 ∧ f_X12_draw_L16 F (fun y22 s21 => some (y22, s21)) (nI N) (fu' + 1) acc (nI k) τ = f_X12_draw_L16 F (fun y22 s21 => some (y22, s21)) (nI N) fu' acc (nI (k + 1)) τ1) → ∃ r α' x', f_X11_draw_L17 F (fun y16 s15 => some (y16, s15)) (nI N) (fu + 1) acc (nI k) α = some (r, α') ∧ ID x' α' ∧ Fx mDA α α' ∧ ∀ τ, BG n α τ → BL α τ → BW p c α τ → BP α τ → BD x α τ → ∃ τ', f_X12_draw_L16 F (fun y22 s21 => some (y22, s21)) (nI N) (fu' + 1) acc (nI k) τ = some (r, τ') ∧ Fx mDB τ τ' ∧ BP α' τ' ∧ BD x' α' τ' := by
      intro α1 g1 h1 h2
      obtain ⟨r, α', x', e1, e2, e3, e4⟩ := ih fu fu' (k + 1) acc (nx x) α1 (by omega) (by omega) (by omega) (hG0.fx g1 rfl) (hW0.fx g1 rfl) (hD0.fx g1 rfl)
      refine ⟨r, α', x', h1.trans e1, e2, (f0.sub rfl).tr ((g1.sub rfl).tr e3), fun τ b1 b2 b3 b4 b5 => ?_⟩
      obtain ⟨c1, c2, c3, c4, c5⟩ := B0 τ b1 b2 b3 b4
      obtain ⟨τ1, t1, t2⟩ := h2 τ b1 b2 b3 b4 b5
      obtain ⟨τ', k1, k2, k3, k4⟩ := e4 τ1 ((c1.al g1 rfl).si t1 rfl) ((c2.al g1 rfl).si t1 rfl) ((c3.al hW0.or g1 rfl).si t1 rfl) ((c4.al g1 rfl).si t1 rfl) ((c5.al g1 rfl).si t1 rfl)
      exact ⟨τ', t2.trans k1, ((Fx.rf.zs rfl : Fx mDB τ (zs τ 69 1 (nI (nx x))))).tr ((t1.sub rfl).tr k2), k3, k4⟩
    by_cases han : nx x % 16 < n
    · have hgi : 0 ≤ (nI (nx x % 16)).toInt ∧ (nI (nx x % 16)).toInt < (n : Int) := by rw [nI_toInt (by omega)]; omega
      rw [e_seatOf_n hG0.1 hG0.2.1 han, bnd_some] at X
      rcases hG0.seat han with h6 | ⟨s, hs, h6⟩
      · refine SK α0 Fx.rf ?_ (fun τ b1 b2 b3 b4 b5 => ⟨_, Fx.rf, ?_⟩)
        · rw [X, h6, e_beside_m1, bnd_some, e_at_m1, bnd_some, if_pos rfl]
        · obtain ⟨c1, c2, c3, c4, c5⟩ := B0 τ b1 b2 b3 b4
          rw [M τ b5, isGuest_n hG0.1 c1.1 han, bnd_some, if_neg b1n, e_sitsM hG0 c1 han, if_pos h6, bnd_some, if_pos rfl]
      have n6 : ¬ zg α0 6 (nx x % 16) = -1 := by rw [h6]; exact nI_m1 (by omega)
      have how3 : nx x / 16 % 3 < 3 := Nat.mod_lt _ (by omega)
      have za : zin (nI (nx x % 16)) 16 = true := zin_n (by omega) (by omega)
      rw [h6, hD0.2, v_how hx, e_beside hs how3, bnd_some] at X
      have M1 : ∀ τ, BG n α τ → BL α τ → BW p c α τ → BP α τ → BD x α τ → f_X12_guestBeside F (nI (nx x % 16)) (((zg (zs τ 69 1 (nI (nx x))) 69 1) / (16 : Int32)) - ((zg (zs τ 69 1 (nI (nx x))) 69 1) / (16 : Int32)) / (3 : Int32) * (3 : Int32)) (zs τ 69 1 (nI (nx x))) = if besI s (nx x / 16 % 3) = -1 then some (-1, zs τ 69 1 (nI (nx x))) else bnd (f_X12_guestAt F (besI s (nx x / 16 % 3)) (zs τ 69 1 (nI (nx x)))) (fun r4 s3 => some (r4, s3)) := by
        intro τ b1 b2 b3 b4 b5
        obtain ⟨c1, c2, c3, c4, c5⟩ := B0 τ b1 b2 b3 b4
        unfold f_X12_guestBeside
        rw [zg_eq, v_how hx, if_pos za, nI_clamp (by omega), (c1.s71 hG0 han hs).mpr h6, e_besideM hs how3, bnd_some]
      have M2 : ∀ τ, BG n α τ → BL α τ → BW p c α τ → BP α τ → BD x α τ → ∀ R : Int32 → zM → Option (Int32 × zM), bnd (f_X12_isGuest (nI (nx x % 16)) (zs τ 69 1 (nI (nx x)))) (fun r6 s5 => if r6 = 0 then R 0 s5 else bnd (f_X12_sits (nI (nx x % 16)) s5) (fun r9 s8 => if r9 = 0 then R 1 s8 else R 2 s8)) = R 2 (zs τ 69 1 (nI (nx x))) := by
        intro τ b1 b2 b3 b4 b5 R
        obtain ⟨c1, c2, c3, c4, c5⟩ := B0 τ b1 b2 b3 b4
        rw [isGuest_n hG0.1 c1.1 han, bnd_some, if_neg b1n, e_sitsM hG0 c1 han, if_neg n6, bnd_some, if_neg b1n]
      rcases besI_or hs how3 with hb | ⟨t, ht, hb⟩
      · refine SK α0 Fx.rf ?_ (fun τ b1 b2 b3 b4 b5 => ⟨_, Fx.rf, ?_⟩)
        · rw [X, hb, e_at_m1, bnd_some, if_pos rfl]
        · obtain ⟨c1, c2, c3, c4, c5⟩ := B0 τ b1 b2 b3 b4
          rw [M τ b5, isGuest_n hG0.1 c1.1 han, bnd_some, if_neg b1n, e_sitsM hG0 c1 han, if_neg n6, bnd_some, if_neg b1n, M1 τ b1 b2 b3 b4 b5, if_pos hb, bnd_some, if_pos rfl]
      have nb : ¬ besI s (nx x / 16 % 3) = -1 := by rw [hb]; exact nI_m1 (by omega)
      rw [hb, e_at_n ht, bnd_some] at X
      have M3 : ∀ τ, BG n α τ → BL α τ → BW p c α τ → BP α τ → BD x α τ → f_X12_draw_L16 F (fun y22 s21 => some (y22, s21)) (nI N) (fu' + 1) acc (nI k) τ = if zg α0 9 t = -1 then f_X12_draw_L16 F (fun y22 s21 => some (y22, s21)) (nI N) fu' acc (nI (k + 1)) (zs τ 69 1 (nI (nx x))) else bnd (f_X12_mayPass F (nI (nx x % 16)) (zg α0 9 t) (1 : Int32) (zs τ 69 1 (nI (nx x)))) (fun r14 s13 => if r14 = 0 then f_X12_draw_L16 F (fun y22 s21 => some (y22, s21)) (nI N) fu' acc (nI (k + 1)) s13 else if zin (nI (nx x % 16)) 16 = true then (if (zg s13 107 (nI (nx x % 16)).toNatClampNeg) < (1 : Int32) then f_X12_draw_L16 F (fun y22 s21 => some (y22, s21)) (nI N) fu' acc (nI (k + 1)) s13 else bnd (f_X12_hands (nI (nx x % 16)) (zg α0 9 t) (1 : Int32) s13) (fun _ s16 => f_X12_draw_L16 F (fun y22 s21 => some (y22, s21)) (nI N) fu' (acc + 1) (nI (k + 1)) s16)) else none) := by
        intro τ b1 b2 b3 b4 b5
        obtain ⟨c1, c2, c3, c4, c5⟩ := B0 τ b1 b2 b3 b4
        rw [M τ b5, isGuest_n hG0.1 c1.1 han, bnd_some, if_neg b1n, e_sitsM hG0 c1 han, if_neg n6, bnd_some, if_neg b1n, M1 τ b1 b2 b3 b4 b5, if_neg nb, hb, e_guestAt (by omega) hG0 c1 ht, bnd_some, bnd_some]
      rcases hG0.2.2.2.2.1 t ht with h9 | ⟨g, hg, h9, h6g⟩
      · refine SK α0 Fx.rf ?_ (fun τ b1 b2 b3 b4 b5 => ⟨_, Fx.rf, ?_⟩)
        · rw [X, if_pos h9]
        · rw [M3 τ b1 b2 b3 b4 b5, if_pos h9]
      have n9 : ¬ zg α0 9 t = -1 := by rw [h9]; exact nI_m1 (by omega)
      have hfg : ¬ nx x % 16 = g := by
        intro q
        rw [← q, h6] at h6g
        exact v_besne s hs _ how3 (by rw [hb, h6g])
      rw [if_neg n9, h9] at X
      obtain ⟨b, α1, g1, hX, hM⟩ := hand_step (F := F) (u := 1) hF hG0 hW0 han hg hfg
      rw [hX] at X
      cases b with
      | false =>
        rw [if_pos rfl, bnd_some, if_pos (by decide)] at X
        refine SK α1 g1 X (fun τ b1 b2 b3 b4 b5 => ?_)
        obtain ⟨c1, c2, c3, c4, c5⟩ := B0 τ b1 b2 b3 b4
        obtain ⟨τ1, t1, t2⟩ := hM _ c1 c2 c3 c4
        exact ⟨τ1, t1, by rw [M3 τ b1 b2 b3 b4 b5, if_neg n9, h9, t2, bnd_some, b01, if_neg (by decide)]⟩
      | true =>
        rw [if_neg (by decide)] at X
        by_cases h1 : zg α0 61 (nx x % 16) < 1
        · rw [if_pos h1, bnd_some, if_pos (by decide)] at X
          refine SK α1 g1 X (fun τ b1 b2 b3 b4 b5 => ?_)
          obtain ⟨c1, c2, c3, c4, c5⟩ := B0 τ b1 b2 b3 b4
          obtain ⟨τ1, t1, t2⟩ := hM _ c1 c2 c3 c4
          have h7 : zg τ1 107 (nx x % 16) = zg α0 61 (nx x % 16) := (t1 107 _ rfl).trans (c4.1 _ (by omega)).1
          exact ⟨τ1, t1, by rw [M3 τ b1 b2 b3 b4 b5, if_neg n9, h9, t2, bnd_some, if_pos rfl, if_neg b1n, if_pos za, nI_clamp (by omega), h7, if_pos h1]⟩
        · have h1' : ¬ zg α0 61 (nx x % 16) - 1 < 0 := by
            rw [i_lt] at h1 ⊢
            have e1 : (1 : Int32).toInt = 1 := rfl
            have hhi := (zg α0 61 (nx x % 16)).toInt_lt
            rw [Int32.toInt_sub, e1, Int.bmod_eq_of_le (by omega) (by omega)]
            rw [e1] at h1
            show ¬ _ < (0 : Int32).toInt
            rw [show (0 : Int32).toInt = 0 from rfl]; omega
          rw [if_neg h1, bnd_some, if_neg h1'] at X
          have gA : Fx ([13, 23, 32, 61, 64], []) α0 (hndA α1 (nx x % 16) g 1) := (g1.sub rfl).tr ((hndA_fx α1 (nx x % 16) g 1).sub rfl)
          obtain ⟨r, α', x', e1, e2, e3, e4⟩ := ih fu fu' (k + 1) (acc + 1) (nx x) (hndA α1 (nx x % 16) g 1) (by omega) (by omega) (by omega) (hG0.fx gA rfl) (hW0.fx gA rfl) (hD0.fx gA rfl)
          refine ⟨r, α', x', X.trans e1, e2, (f0.sub rfl).tr ((gA.sub rfl).tr e3), fun τ b1 b2 b3 b4 b5 => ?_⟩
          obtain ⟨c1, c2, c3, c4, c5⟩ := B0 τ b1 b2 b3 b4
          obtain ⟨τ1, t1, t2⟩ := hM _ c1 c2 c3 c4
          have h7 : zg τ1 107 (nx x % 16) = zg α0 61 (nx x % 16) := (t1 107 _ rfl).trans (c4.1 _ (by omega)).1
          have tB : Fx ([86, 87, 107, 110, 111, 112], []) (zs τ 69 1 (nI (nx x))) (hndB τ1 (nx x % 16) g 1) := (t1.sub rfl).tr ((hndB_fx τ1 (nx x % 16) g 1).sub rfl)
          have cP : BP (hndA α1 (nx x % 16) g 1) (hndB τ1 (nx x % 16) g 1) := ((c4.al g1 rfl).si t1 rfl).hand (by omega) (by omega) hfg
          obtain ⟨τ', k1, k2, k3, k4⟩ := e4 (hndB τ1 (nx x % 16) g 1) ((c1.al gA rfl).si tB rfl) ((c2.al gA rfl).si tB rfl) ((c3.al hW0.or gA rfl).si tB rfl) cP ((c5.al gA rfl).si tB rfl)
          refine ⟨τ', ?_, ((Fx.rf.zs rfl : Fx mDB τ (zs τ 69 1 (nI (nx x))))).tr ((tB.sub rfl).tr k2), k3, k4⟩
          rw [M3 τ b1 b2 b3 b4 b5, if_neg n9, h9, t2, bnd_some, if_pos rfl, if_neg b1n, if_pos za, nI_clamp (by omega), h7, if_neg h1, e_hands (by omega) (by omega) hfg, bnd_some]
          exact k1
    · have hgi : ¬ (0 ≤ (nI (nx x % 16)).toInt ∧ (nI (nx x % 16)).toInt < (n : Int)) := by rw [nI_toInt (by omega)]; omega
      refine SK α0 Fx.rf ?_ (fun τ b1 b2 b3 b4 b5 => ⟨_, Fx.rf, ?_⟩)
      · rw [X, e_seatOf hG0.1 hG0.2.1, if_neg hgi, bnd_some, e_beside_m1, bnd_some, e_at_m1, bnd_some, if_pos rfl]
      · obtain ⟨c1, c2, c3, c4, c5⟩ := B0 τ b1 b2 b3 b4
        rw [M τ b5, e_isGuest hG0.1 c1.1, if_neg hgi, bnd_some, if_pos rfl]
theorem op_draw {F : Nat} (hF : 300 ≤ F) (v : Int32) : OP (f_X11_draw F v) (f_X12_draw F v) := by
  intro a σ ha ⟨n, t, r, p, kc, x, ko, pl, ql, cl, ⟨hG, hH, hT, hN, hK, hD, hX, hW⟩, ⟨bG, bH, bL, bT, bN, bK, bP, bD, bX, bW⟩, hP⟩
  have t1 : (1 : Int32).toInt = 1 := rfl
  have t60 : (60 : Int32).toInt = 60 := rfl
  by_cases hc : 1 ≤ v.toInt ∧ v.toInt ≤ 60
  · obtain ⟨N, hN', rfl, -⟩ := nI_of' (v := v) (n := 61) ⟨by omega, by omega⟩ (by omega)
    obtain ⟨rr, α', x', e1, e2, e3, e4⟩ := drawK (F := F) (p := pl) (q := ql) (c := cl) (N := N) hF (by omega) N F F 0 0 x σ (by omega) (by omega) (by omega) hG hW hD
    obtain ⟨τ', k1, k2, k3, k4⟩ := e4 α' (bG.si e3 rfl) (bL.si e3 rfl) (bW.si e3 rfl) (bP.si e3 rfl) (bD.si e3 rfl)
    refine ⟨rr, α', τ', ?_, ?_, a, by omega, ?_⟩
    · unfold f_X11_draw
      simp only [i_lt]
      rw [if_neg (by omega), if_neg (by omega)]
      exact e1
    · unfold f_X12_draw
      rw [e_in, if_pos (by omega), bnd_some, if_neg b1n]
      exact k1
    · have hf : Fx ([13, 23, 32, 61, 64, 86, 87, 107, 110, 111, 112], [(0, 9), (69, 1)]) σ τ' := (e3.sub rfl).tr (k2.sub rfl)
      exact ⟨n, t, r, p, kc, x', ko, pl, ql, cl, ⟨hG.fx hf rfl, hH.fx hf rfl, hT.fx hf rfl, hN.fx hf rfl, hK.fx hf rfl, e2.fx k2 rfl, hX.fx hf rfl, hW.fx hf rfl⟩, ⟨(bG.al hf rfl).si hf rfl, (bH.al hf rfl).si hf rfl, (bL.al hf rfl).si hf rfl, (bT.al hf rfl).si hf rfl, (bN.al hf rfl).si hf rfl, (bK.al hf rfl).si hf rfl, k3.al k2 rfl, k4, (bX.al hf rfl).si hf rfl, (bW.al hW.or hf rfl).si hf rfl⟩, hP.fx hW.or hf rfl hf rfl⟩
  · refine OP.no ⟨n, t, r, p, kc, x, ko, pl, ql, cl, ⟨hG, hH, hT, hN, hK, hD, hX, hW⟩, ⟨bG, bH, bL, bT, bN, bK, bP, bD, bX, bW⟩, hP⟩ (-1) ?_ ?_
    · unfold f_X11_draw
      simp only [i_lt]
      by_cases h : v.toInt < 1
      · rw [if_pos (by omega)]
      · rw [if_neg (by omega), if_pos (by omega)]
    · unfold f_X12_draw
      rw [e_in, if_neg (by omega), bnd_some, if_pos rfl]
