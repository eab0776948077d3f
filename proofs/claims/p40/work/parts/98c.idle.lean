/-! ===== what is refused whatever there is: nothing of it is seen ===== -/
def farv (f : Int32) : Prop := f.toInt < -1 ∨ 65536 ≤ f.toInt
theorem nI_pos31 {x : Int32} (h : 0 ≤ x.toInt) : ∃ w, w < 2 ^ 31 ∧ x = nI w := by
  have h2 := Int32.toInt_lt x
  have e : ((2 : Int) ^ 31) = 2147483648 := by decide
  by_cases q : x.toInt = 2147483647
  · refine ⟨2147483647, by omega, ?_⟩
    rw [i_eq, q, nI_toInt (by omega)]
    rfl
  · obtain ⟨w, hw, rfl, -⟩ := nI_of' (v := x) (n := 2147483647) ⟨h, by omega⟩ (by omega)
    exact ⟨w, by omega, rfl⟩
theorem far_e (w : Nat) : (nI w ||| (65536 : Int32)) = nI (w ||| 65536) := by
  apply Int32.toBitVec_inj.mp
  rw [Int32.toBitVec_or]
  show BitVec.ofNat 32 w ||| BitVec.ofNat 32 65536 = BitVec.ofNat 32 (w ||| 65536)
  rw [BitVec.ofNat_or]
theorem far_or {x : Int32} (h : ¬ x < 0) : farv (x ||| (65536 : Int32)) := by
  have h0 : 0 ≤ x.toInt := by
    have h' : ¬ x.toInt < (0 : Int32).toInt := fun w => h ((i_lt x 0).mpr w)
    have e : (0 : Int32).toInt = 0 := rfl
    omega
  obtain ⟨w, hw, rfl⟩ := nI_pos31 h0
  refine Or.inr ?_
  have e : (nI w ||| (65536 : Int32)) = nI (w ||| 65536) := far_e w
  have hlt : w ||| 65536 < 2 ^ 31 := Nat.or_lt_two_pow hw (by omega)
  rw [e, nI_toInt hlt]
  have := Nat.right_le_or (n := w) (m := 65536)
  omega
section ZID
variable {f : Int32} {s : zM} {F D : Nat}
theorem far_s (hf : farv f) (n : Nat) (hn : n ≤ 60000) : ¬ gd n f := by
  rintro ⟨h1, h2⟩
  rcases hf with h | h <;> omega
theorem far_seat (hf : farv f) (s : zM) : f_X8_isSeat f s = some (0, s) := by
  rw [e_isSeat, if_neg (by rcases hf with h | h <;> omega)]
theorem far_m1 (hf : farv f) : ¬ f = -1 := by
  rw [i_eq]
  have e : (-1 : Int32).toInt = -1 := rfl
  rcases hf with h | h <;> omega
theorem far_0 (hf : farv f) : ¬ f = 0 := by
  rw [i_eq]
  have e : (0 : Int32).toInt = 0 := rfl
  rcases hf with h | h <;> omega
theorem far_nk (hf : farv f) (hn : zg s 3 8 = nI 8) : f_X0_knows f s = some (0, s) := by
  rw [e_knows (by omega) hn, if_neg (far_s hf 8 (by omega))]
theorem far_nl (hf : farv f) (hn : zg s 3 8 = nI 8) : f_X0_lives f s = some (0, s) := by
  rw [e_lives (by omega) hn, if_neg (fun w => far_s hf 8 (by omega) w.1)]
theorem far_ns (hf : farv f) (hn : zg s 3 8 = nI 8) : f_X0_sits f s = some (0, s) := by
  rw [e_sits (by omega) hn, if_neg (fun w => far_s hf 8 (by omega) w.1)]
theorem far_2 (hf : farv f) (w : Int32) (hn : zg s 3 8 = nI 8) : f_X11_areTwo f w s = some (0, s) := by
  rw [e_areTwo (by omega) hn, if_neg (fun q => far_s hf 8 (by omega) q.2.1)]
theorem far_2r (hf : farv f) (w : Int32) (hn : zg s 3 8 = nI 8) : f_X11_areTwo w f s = some (0, s) := by
  rw [e_areTwo (by omega) hn, if_neg (fun q => far_s hf 8 (by omega) q.2.2)]
theorem same_2 (w : Int32) (hn : zg s 3 8 = nI 8) : f_X11_areTwo w w s = some (0, s) := by
  rw [e_areTwo (by omega) hn, if_neg (fun q => q.1 rfl)]
theorem kn0 (hn : zg s 3 8 = nI 8) : f_X0_knows 0 s = some (1, s) := e_knows_n (g := 0) (by omega) hn (by omega)
theorem rng2 {β : Type} (hf : farv f) (lo hi : Int32) (h0 : lo.toInt = 0) (h1 : 0 ≤ hi.toInt ∧ hi.toInt < 65536) (A B : Option (β × zM)) : (if f < lo then A else if hi < f then A else B) = A := by
  by_cases h : f < lo
  · rw [if_pos h]
  · rw [if_neg h, if_pos]
    rw [i_lt] at h ⊢
    rcases hf with q | q <;> omega
theorem i_guest1 (hf : farv f) (w : Int32) : f_X11_guest f w s = some (-1, s) := by
  unfold f_X11_guest; exact rng2 hf 0 1 rfl (by decide) _ _
theorem i_guest2 (hf : farv f) : f_X11_guest 0 f s = some (-1, s) := by
  unfold f_X11_guest
  rw [if_neg (by decide), if_neg (by decide), if_neg (far_m1 hf), far_seat hf, bnd_some, if_pos rfl]
theorem i_lik1 (hf : farv f) (hn : zg s 3 8 = nI 8) : f_X11_liking f 0 0 s = some (0, s) := by
  unfold f_X11_liking; rw [far_2 hf 0 hn, bnd_some, if_pos rfl]
theorem i_lik2 (hn : zg s 3 8 = nI 8) : f_X11_liking 0 0 0 s = some (0, s) := by
  unfold f_X11_liking; rw [same_2 0 hn, bnd_some, if_pos rfl]
theorem i_sit1 (hf : farv f) (hn : zg s 3 8 = nI 8) : f_X11_sit f 0 s = some (0, s) := by
  unfold f_X11_sit; rw [far_nl hf hn, bnd_some, if_pos rfl]
theorem i_sit2 (hf : farv f) (hn : zg s 3 8 = nI 8) : f_X11_sit 0 f s = some (0, s) := by
  unfold f_X11_sit
  rw [e_lives (by omega) hn, bnd_some, b01]
  split
  · rw [if_neg (far_m1 hf), far_seat hf, bnd_some, if_pos rfl]
  · rfl
theorem i_law1 : f_X11_law F D 0 s = some (-1, s) := by
  unfold f_X11_law; rw [if_pos (by decide)]
theorem i_law2 : f_X11_law F D 201 s = some (-1, s) := by
  unfold f_X11_law; rw [if_neg (by decide), if_pos (by decide)]
theorem i_two1 (hf : farv f) (hn : zg s 3 8 = nI 8) : f_X11_two F f 0 0 s = some (-1, s) := by
  unfold f_X11_two; rw [if_neg (by decide), if_neg (by decide), far_2 hf 0 hn, bnd_some, if_pos rfl]
theorem i_two2 (hn : zg s 3 8 = nI 8) : f_X11_two F 1 1 1 s = some (-1, s) := by
  unfold f_X11_two; rw [if_neg (by decide), if_neg (by decide), same_2 1 hn, bnd_some, if_pos rfl]
theorem i_worth (hf : farv f) (hn : zg s 3 8 = nI 8) : f_X11_worth F f 0 s = some (-1000, s) := by
  unfold f_X11_worth; rw [far_nk hf hn, bnd_some, if_pos rfl]
theorem i_rain1 (hf : farv f) : f_X11_rain f 0 0 s = some (-1, s) := by
  unfold f_X11_rain; rw [e_isMinute, if_neg (far_s hf 1000 (by omega)), bnd_some, if_pos rfl]
theorem i_rain2 : f_X11_rain 0 2 1 s = some (-1, s) := by
  unfold f_X11_rain; rw [e_isMinute, if_pos (by unfold gd; decide), bnd_some, if_neg b1n, e_isRow, if_neg (by decide), bnd_some, if_pos rfl]
theorem i_soon1 (hf : farv f) (hn : zg s 3 8 = nI 8) : f_X11_soonest F f 0 0 s = some (-1, s) := by
  unfold f_X11_soonest; rw [e_isStart, if_pos (by unfold gd; decide), bnd_some, if_neg b1n, far_ns hf hn, bnd_some, if_pos rfl]
theorem i_soon2 (hf : farv f) : f_X11_soonest F 0 0 f s = some (-1, s) := by
  unfold f_X11_soonest; rw [e_isStart, if_neg (far_s hf 100 (by omega)), bnd_some, if_pos rfl]
theorem i_rum1 (hf : farv f) (hn : zg s 3 8 = nI 8) : f_X11_rumour F f 0 0 s = some (-3, s) := by
  unfold f_X11_rumour f_X11_rumour_j22 f_X11_rumour_j27
  rw [if_neg (by decide), if_neg (by decide), kn0 hn, bnd_some, if_neg b1n, if_neg b1n, e_isStart, if_pos (by unfold gd; decide), bnd_some, if_neg b1n, far_ns hf hn, bnd_some, if_pos rfl]
theorem i_rum2 (hf : farv f) (hn : zg s 3 8 = nI 8) : f_X11_rumour F 0 0 f s = some (-3, s) := by
  unfold f_X11_rumour f_X11_rumour_j27
  have h20 : ¬ f = 20 := by
    rw [i_eq]
    have e : (20 : Int32).toInt = 20 := rfl
    rcases hf with h | h <;> omega
  rw [if_neg (far_m1 hf), if_neg h20, far_nk hf hn, bnd_some, if_pos rfl, if_pos rfl]
theorem i_speech (hf : farv f) : f_X11_speech f 0 1 s = some (-1, s) := by
  unfold f_X11_speech f_X11_speech_j28 f_X11_speech_j29
  rw [e_isPlace, if_neg (by rcases hf with h | h <;> omega), bnd_some, if_pos rfl, if_pos rfl]
theorem i_heard (hf : farv f) : f_X11_heard F f 0 s = some (-1, s) := by
  unfold f_X11_heard; rw [far_seat hf, bnd_some, if_pos rfl]
theorem i_smug1 (hf : farv f) (hn : zg s 3 8 = nI 8) : f_X11_smuggled F D f 0 0 s = some (-1, s) := by
  unfold f_X11_smuggled f_X11_smuggled_j16 f_X11_smuggled_j17 f_X11_smuggled_j33 f_X11_smuggled_j38
  rw [if_pos (by decide), if_pos rfl, if_neg (by decide), if_neg (by decide), if_neg b1n, if_neg (far_0 hf), far_ns hf hn, bnd_some, if_pos rfl]
theorem i_smug2 : f_X11_smuggled F D 0 0 0 s = some (-1, s) := by
  unfold f_X11_smuggled f_X11_smuggled_j16 f_X11_smuggled_j17 f_X11_smuggled_j33 f_X11_smuggled_j38
  rw [if_pos (by decide), if_pos rfl, if_neg (by decide), if_neg (by decide), if_neg b1n, if_pos rfl]
theorem i_seat1 : f_X11_seating F D 0 1 (-1) s = some (-1000000, s) := by
  unfold f_X11_seating f_X6_canTell
  rw [if_neg (by decide), if_neg (by decide), show (0 : Int32) = nI 0 from rfl, e_bitCount (by omega), bnd_some, if_neg (by decide), bnd_some, if_pos rfl]
theorem i_seat2 : f_X11_seating F D 1 8 (-1) s = some (-1000000, s) := by
  unfold f_X11_seating f_X6_canTell
  rw [if_neg (by decide), if_pos (by decide), bnd_some, if_pos rfl]
theorem i_exch (hf : farv f) : f_X11_exchange F f s = some (-1000000, s) := by
  unfold f_X11_exchange; exact rng2 hf 0 2 rfl (by decide) _ _
theorem i_heir1 (hf : farv f) (hn : zg s 3 8 = nI 8) : f_X11_heir f 0 s = some (0, s) := by
  unfold f_X11_heir; rw [far_nk hf hn, bnd_some, if_pos rfl]
theorem i_heir2 (hn : zg s 3 8 = nI 8) : f_X11_heir 1 1 s = some (0, s) := by
  unfold f_X11_heir; rw [show (1 : Int32) = nI 1 from rfl, e_knows_n (by omega) hn (by omega), bnd_some, if_neg b1n, if_pos rfl]
theorem i_dies (hf : farv f) (hn : zg s 3 8 = nI 8) : f_X11_dies F f s = some (-1, s) := by
  unfold f_X11_dies; rw [far_nl hf hn, bnd_some, if_pos rfl]
theorem i_kniv1 (hf : farv f) : f_X11_knives f 0 s = some (0, s) := by
  unfold f_X11_knives; rw [far_seat hf, bnd_some, if_pos rfl]
theorem i_kniv2 : f_X11_knives 0 10 s = some (0, s) := by
  unfold f_X11_knives; rw [e_isSeat, if_pos (by decide), bnd_some, if_neg b1n, if_neg (by decide), if_pos (by decide)]
theorem i_put1 : f_X11_put 0 0 1 s = some (0, s) := by
  unfold f_X11_put; rw [e_isSeat, if_pos (by decide), bnd_some, if_neg b1n, e_isSeat, if_pos (by decide), bnd_some, if_neg b1n, if_pos rfl]
theorem i_put2 (hf : farv f) : f_X11_put f 0 1 s = some (0, s) := by
  unfold f_X11_put; rw [far_seat hf, bnd_some, if_pos rfl]
theorem i_counted (hf : farv f) : f_X11_counted f 0 0 0 s = some (-1, s) := by
  unfold f_X11_counted f_X11_counted_j34 f_X11_counted_j35
  have h0 : ¬ f = 0 := by
    rw [i_eq]
    have e : (0 : Int32).toInt = 0 := rfl
    rcases hf with h | h <;> omega
  have h1 : ¬ f = 1 := by
    rw [i_eq]
    have e : (1 : Int32).toInt = 1 := rfl
    rcases hf with h | h <;> omega
  rw [if_neg h0, if_neg h1, if_pos rfl]
theorem i_missing (hf : farv f) : f_X11_missing F f s = some (-100000, s) := by
  unfold f_X11_missing f_X2_hasCount
  have e0 : (0 : Int32).toInt = 0 := rfl
  have e20 : (20 : Int32).toInt = 20 := rfl
  by_cases h : f < 0
  · rw [if_pos h, bnd_some, if_pos rfl]
  · rw [if_neg h]
    have h20 : ¬ f < 20 := by
      rw [i_lt] at h ⊢
      rcases hf with q | q <;> omega
    by_cases h2 : f < zg s 51 8
    · rw [if_pos h2, if_neg h20, bnd_some, if_pos rfl]
    · rw [if_neg h2, bnd_some, if_pos rfl]
theorem i_gives1 (hf : farv f) (hn : zg s 3 8 = nI 8) : f_X11_gives f 1 s = some (-1, s) := by
  unfold f_X11_gives; rw [far_nk hf hn, bnd_some, if_pos rfl]
theorem i_gives2 (hn : zg s 3 8 = nI 8) : f_X11_gives 0 0 s = some (-1, s) := by
  unfold f_X11_gives; rw [kn0 hn, bnd_some, if_neg b1n, e_isHandful, if_neg (by decide), bnd_some, if_pos rfl]
theorem i_passes (hf : farv f) (hn : zg s 3 8 = nI 8) : f_X11_passes F 0 f 1 s = some (-1, s) := by
  unfold f_X11_passes; rw [far_2r hf 0 hn, bnd_some, if_pos rfl]
theorem i_eats (hf : farv f) (hn : zg s 3 8 = nI 8) : f_X11_eats f 1 s = some (-1, s) := by
  unfold f_X11_eats; rw [far_nk hf hn, bnd_some, if_pos rfl]
theorem i_fed (hn : zg s 3 8 = nI 8) : f_X11_fed 2 2 s = some (-1, s) := by
  unfold f_X11_fed; rw [same_2 2 hn, bnd_some, if_pos rfl]
theorem i_led1 (hf : farv f) (hn : zg s 3 8 = nI 8) : f_X11_led F f 0 s = some (-1, s) := by
  unfold f_X11_led; rw [far_nk hf hn, bnd_some, if_pos rfl]
theorem i_led2 (hn : zg s 3 8 = nI 8) : f_X11_led F 0 5 s = some (-1, s) := by
  unfold f_X11_led f_X7_told
  have e : f_X7_isGuest 0 s = some (1, s) := e_isGuestP (g := 0) (by omega) s
  rw [kn0 hn, bnd_some, if_neg b1n, e, bnd_some, if_neg b1n, if_neg (by decide), if_pos (by decide), bnd_some]
theorem i_seed (hf : farv f) : f_X11_seed f s = some (0, s) := by
  unfold f_X11_seed; exact rng2 hf 0 65535 rfl (by decide) _ _
theorem i_draw (hf : farv f) : f_X11_draw F f s = some (-1, s) := by
  unfold f_X11_draw
  have e1 : (1 : Int32).toInt = 1 := rfl
  have e60 : (60 : Int32).toInt = 60 := rfl
  by_cases h : f < 1
  · rw [if_pos h]
  · rw [if_neg h, if_pos]
    rw [i_lt] at h ⊢
    rcases hf with q | q <;> omega
theorem i_check1 (hf : farv f) : f_X11_check F f 0 s = some (-2, s) := by
  unfold f_X11_check; exact rng2 hf 0 1 rfl (by decide) _ _
theorem i_check2 : f_X11_check F 0 21 s = some (-2, s) := by
  unfold f_X11_check; rw [if_neg (by decide), if_neg (by decide), if_neg (by decide), if_pos (by decide)]
theorem i_count1 : f_X11_count 7 s = some (-1, s) := by
  unfold f_X11_count
  rw [if_pos (by decide), if_pos (by decide), if_neg (by decide), if_neg (by decide), if_neg (by decide), if_neg (by decide), if_neg (by decide), if_neg (by decide), if_neg (by decide)]
theorem i_count2 (hf : farv f) : f_X11_count f s = some (-1, s) := by
  unfold f_X11_count
  have e40 : (40 : Int32).toInt = 40 := rfl
  have e20 : (20 : Int32).toInt = 20 := rfl
  have ne : ∀ k : Nat, k ≤ 6 → ¬ f = nI k := by
    intro k hk
    rw [i_eq, nI_toInt (by omega)]
    rcases hf with h | h <;> omega
  by_cases h : f < 40
  · have h20 : f < 20 := by
      rw [i_lt] at h ⊢
      rcases hf with q | q <;> omega
    rw [if_pos h, if_pos h20, if_neg (show ¬ f = (0 : Int32) from ne 0 (by omega)), if_neg (show ¬ f = (1 : Int32) from ne 1 (by omega)), if_neg (show ¬ f = (2 : Int32) from ne 2 (by omega)), if_neg (show ¬ f = (3 : Int32) from ne 3 (by omega)), if_neg (show ¬ f = (4 : Int32) from ne 4 (by omega)), if_neg (show ¬ f = (5 : Int32) from ne 5 (by omega)), if_neg (show ¬ f = (6 : Int32) from ne 6 (by omega))]
  · have h65 : 65536 ≤ f.toInt := by
      rw [i_lt] at h
      rcases hf with q | q <;> omega
    obtain ⟨w, hw, rfl⟩ := nI_pos31 (x := f) (by omega)
    rw [nI_toInt hw] at h65
    rw [if_neg h, show (40 : Int32) = nI 40 from rfl, pk_sub (show 40 ≤ w by omega), e_isSeat, if_neg (by rw [nI_toInt (by omega)]; omega), bnd_some, if_pos rfl]
theorem v_tape : f_X11_count 2 s = some (zg s 1 1, s) := by
  unfold f_X11_count f_X10_length
  rw [if_pos (by decide), if_pos (by decide), if_neg (by decide), if_neg (by decide), if_pos rfl, bnd_some]
set_option maxHeartbeats 4000000 in
theorem idle_22 (hf : farv f) (hn : zg s 3 8 = nI 8) : f_L_idle_j22 F D f s = some (1, s) := by
  unfold f_L_idle_j22
  rw [v_tape, bnd_some, i_guest1 hf, bnd_some, if_pos rfl, i_guest2 hf, bnd_some, if_pos rfl, i_lik1 hf hn, bnd_some, if_pos rfl, i_lik2 hn, bnd_some, if_pos rfl, i_sit1 hf hn, bnd_some, if_pos rfl, i_sit2 hf hn, bnd_some, if_pos rfl, i_law1, bnd_some, if_pos rfl, i_law2, bnd_some, if_pos rfl, i_two1 hf hn, bnd_some, if_pos rfl, i_two2 hn, bnd_some, if_pos rfl, i_worth hf hn, bnd_some, if_pos rfl, i_rain1 hf, bnd_some, if_pos rfl, i_rain2, bnd_some, if_pos rfl, i_soon1 hf hn, bnd_some, if_pos rfl, i_soon2 hf, bnd_some, if_pos rfl, i_rum1 hf hn, bnd_some, if_pos rfl, i_rum2 hf hn, bnd_some, if_pos rfl, i_speech hf, bnd_some, if_pos rfl, i_heard hf, bnd_some, if_pos rfl]
  rw [i_smug1 hf hn, bnd_some, if_pos (by decide), i_smug2, bnd_some, if_pos (by decide), i_seat1, bnd_some, if_pos rfl]
  unfold f_L_idle_j275
  rw [if_neg b1n, i_seat2, bnd_some, if_pos rfl, i_exch hf, bnd_some, if_pos rfl, i_heir1 hf hn, bnd_some, if_pos rfl, i_heir2 hn, bnd_some, if_pos rfl, i_dies hf hn, bnd_some, if_pos rfl, i_kniv1 hf, bnd_some, if_pos rfl, i_kniv2, bnd_some, if_pos rfl, i_put1, bnd_some, if_pos rfl, i_put2 hf, bnd_some, if_pos rfl, i_counted hf, bnd_some, if_pos rfl, i_missing hf, bnd_some, if_pos rfl, i_gives1 hf hn, bnd_some, if_pos rfl, i_gives2 hn, bnd_some, if_pos rfl, i_passes hf hn, bnd_some, if_pos rfl, i_eats hf hn, bnd_some, if_pos rfl, i_fed hn, bnd_some, if_pos rfl, i_led1 hf hn, bnd_some, if_pos rfl, i_led2 hn, bnd_some, if_pos rfl, i_seed hf, bnd_some, if_pos rfl, i_draw hf, bnd_some, if_pos rfl, i_check1 hf, bnd_some, if_pos rfl, i_check2, bnd_some, if_pos rfl, i_count1, bnd_some, if_pos rfl, i_count2 hf, bnd_some, if_pos rfl]
  unfold f_L_idle_j528
  rw [if_neg b1n, v_tape, bnd_some, if_pos rfl]
theorem idle_ok {x : Int32} (hn : zg s 3 8 = nI 8) : f_L_idle F D x s = some (1, s) := by
  unfold f_L_idle
  by_cases h : x < 0
  · rw [if_pos h]
    by_cases h1 : x = -1
    · rw [if_pos h1]
      exact idle_22 (Or.inl (by decide)) hn
    · rw [if_neg h1]
      refine idle_22 (Or.inl ?_) hn
      rw [i_eq] at h1
      rw [i_lt] at h
      have e : (-1 : Int32).toInt = -1 := rfl
      have e0 : (0 : Int32).toInt = 0 := rfl
      omega
  · rw [if_neg h]
    exact idle_22 (far_or h) hn
end ZID
