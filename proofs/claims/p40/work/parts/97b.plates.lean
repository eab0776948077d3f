/-! ===== plates add up behind each call ===== -/
set_option maxHeartbeats 4000000 in
theorem p8_f_X11_gives (v1 : Int32) (v2 : Int32) (s : zM) (h : P8 s) : HP (f_X11_gives v1 v2 s) := by
  unfold f_X11_gives
  repeat' with_reducible first | exact hp_none | exact hp_some (by assumption) | refine hp_ite (fun _ => ?_) (fun _ => ?_) | refine hp_bnd ?_ (fun _ _ _ => ?_) | (apply hp_fx' (m := ([], [])); apply fx_f_X0_knows) | (apply hp_fx' (m := ([], [])); apply fx_f_X7_isHandful) | (apply hp_fx' (m := ([], [])); apply fx_f_X0_sits) | (apply hp_fx' (m := ([], [])); apply fx_f_X7_hasRoom) | apply p8_f_X7_serve | (apply hp_fx' (m := ([], [])); apply fx_f_X7_had) | refine hp_lts (p8_zs (by assumption) (by decide +kernel)) (fun _ _ => ?_) | refine hp_ltv (fun _ => ?_) | assumption | decide +kernel | intro _
set_option maxHeartbeats 4000000 in
theorem p8_f_X11_handOver (F : Nat) (v1 : Int32) (v2 : Int32) (v3 : Int32) (s : zM) (h : P8 s) : HP (f_X11_handOver F v1 v2 v3 s) := by
  unfold f_X11_handOver
  rw [v_seatOf h, bnd_some, v_seatOf h, bnd_some]
  by_cases q1 : (if gd 8 v1 then zg s 6 v1.toNatClampNeg else -1) = -1
  · rw [if_pos q1]; exact hp_some h
  rw [if_neg q1]
  by_cases q2 : (if gd 8 v2 then zg s 6 v2.toNatClampNeg else -1) = -1
  · rw [if_pos q2]; exact hp_some h
  rw [if_neg q2]
  by_cases g1 : gd 8 v1
  · by_cases g2 : gd 8 v2
    · obtain ⟨a, ha, rfl, -⟩ := nI_of' g1 (by omega)
      obtain ⟨b, hb, rfl, -⟩ := nI_of' g2 (by omega)
      repeat' with_reducible first | exact hp_none | exact hp_some (by assumption) | refine hp_ite (fun _ => ?_) (fun _ => ?_) | refine hp_bnd ?_ (fun _ _ _ => ?_) | (apply hp_fx' (m := ([], [])); apply fx_f_X0_seatOf) | (apply hp_fx' (m := ([], [])); apply fx_f_X8_areNext) | (apply hp_fx' (m := ([13, 23, 32], [])); apply fx_f_X1_allows) | (apply hp_fx' (m := ([], [])); apply fx_f_X7_hasRoom) | (apply hp_fx' (m := ([], [])); apply fx_f_X7_handed) | (apply hp_fx' (m := ([], [])); apply fx_f_X7_had) | exact p8_hand _ _ (by assumption) ha hb | refine hp_lts (p8_zs (by assumption) (by decide +kernel)) (fun _ _ => ?_) | refine hp_ltv (fun _ => ?_) | assumption | decide +kernel | intro _
    · rw [if_neg g2] at q2; exact absurd rfl q2
  · rw [if_neg g1] at q1; exact absurd rfl q1
set_option maxHeartbeats 4000000 in
theorem p8_f_X11_passes (F : Nat) (v1 : Int32) (v2 : Int32) (v3 : Int32) (s : zM) (h : P8 s) : HP (f_X11_passes F v1 v2 v3 s) := by
  unfold f_X11_passes
  repeat' with_reducible first | exact hp_none | exact hp_some (by assumption) | refine hp_ite (fun _ => ?_) (fun _ => ?_) | refine hp_bnd ?_ (fun _ _ _ => ?_) | (apply hp_fx' (m := ([], [])); apply fx_f_X11_areTwo) | (apply hp_fx' (m := ([], [])); apply fx_f_X7_isHandful) | apply p8_f_X11_handOver | refine hp_lts (p8_zs (by assumption) (by decide +kernel)) (fun _ _ => ?_) | refine hp_ltv (fun _ => ?_) | assumption | decide +kernel | intro _
set_option maxHeartbeats 4000000 in
theorem p8_f_X11_eats (v1 : Int32) (v2 : Int32) (s : zM) (h : P8 s) : HP (f_X11_eats v1 v2 s) := by
  unfold f_X11_eats
  repeat' with_reducible first | exact hp_none | exact hp_some (by assumption) | refine hp_ite (fun _ => ?_) (fun _ => ?_) | refine hp_bnd ?_ (fun _ _ _ => ?_) | (apply hp_fx' (m := ([], [])); apply fx_f_X0_knows) | (apply hp_fx' (m := ([], [])); apply fx_f_X7_isHandful) | (apply hp_fx' (m := ([], [])); apply fx_f_X7_had) | apply p8_f_X7_eat | refine hp_lts (p8_zs (by assumption) (by decide +kernel)) (fun _ _ => ?_) | refine hp_ltv (fun _ => ?_) | assumption | decide +kernel | intro _
set_option maxHeartbeats 4000000 in
theorem p8_f_X11_draw_L17 (F : Nat) (k108 : Int32 → zM → Option (Int32 × zM)) (v1 : Int32) (hk108 : ∀ (a0 : Int32) (s : zM), P8 s → HP (k108 a0 s)) : ∀ (n : Nat) (w0 : Int32) (w1 : Int32) (s : zM), P8 s → HP (f_X11_draw_L17 F k108 v1 n w0 w1 s) := by
  intro n
  induction n with
  | zero => intros; exact hp_none
  | succ n ih =>
    intro w0 w1 s h
    rw [f_X11_draw_L17]
    repeat' with_reducible first | exact hp_none | exact hp_some (by assumption) | refine hp_ite (fun _ => ?_) (fun _ => ?_) | refine hp_bnd ?_ (fun _ _ _ => ?_) | (apply hp_fx' (m := ([], [])); apply fx_f_X0_seatOf) | (apply hp_fx' (m := ([], [])); apply fx_f_X8_beside) | (apply hp_fx' (m := ([], [])); apply fx_f_X0_at) | apply p8_f_X11_handOver | apply hk108 | apply ih | refine hp_lts (p8_zs (by assumption) (by decide +kernel)) (fun _ _ => ?_) | refine hp_ltv (fun _ => ?_) | assumption | decide +kernel | intro _
set_option maxHeartbeats 4000000 in
theorem p8_f_X11_draw (F : Nat) (v1 : Int32) (s : zM) (h : P8 s) : HP (f_X11_draw F v1 s) := by
  unfold f_X11_draw
  repeat' with_reducible first | exact hp_none | exact hp_some (by assumption) | refine hp_ite (fun _ => ?_) (fun _ => ?_) | refine hp_bnd ?_ (fun _ _ _ => ?_) | apply p8_f_X11_draw_L17 | refine hp_lts (p8_zs (by assumption) (by decide +kernel)) (fun _ _ => ?_) | refine hp_ltv (fun _ => ?_) | assumption | decide +kernel | intro _
set_option maxHeartbeats 4000000 in
theorem p8_f_X11_keep_L44 (F : Nat) (k75 : Int32 → zM → Option (Int32 × zM)) (hk75 : ∀ (a0 : Int32) (s : zM), P8 s → HP (k75 a0 s)) : ∀ (n : Nat) (w0 : Int32) (w1 : Int32) (s : zM), P8 s → HP (f_X11_keep_L44 F k75 n w0 w1 s) := by
  intro n
  induction n with
  | zero => intros; exact hp_none
  | succ n ih =>
    intro w0 w1 s h
    rw [f_X11_keep_L44]
    repeat' with_reducible first | exact hp_none | exact hp_some (by assumption) | refine hp_ite (fun _ => ?_) (fun _ => ?_) | refine hp_bnd ?_ (fun _ _ _ => ?_) | (apply hp_fx' (m := ([], [])); apply fx_f_X0_number) | (apply hp_fx' (m := ([], [])); apply fx_f_X0_sits) | apply hk75 | apply ih | refine hp_lts (p8_zs (by assumption) (by decide +kernel)) (fun _ _ => ?_) | refine hp_ltv (fun _ => ?_) | assumption | decide +kernel | intro _
set_option maxHeartbeats 4000000 in
theorem p8_f_X11_keep (F : Nat) (s : zM) (h : P8 s) : HP (f_X11_keep F s) := by
  unfold f_X11_keep
  repeat' with_reducible first | exact hp_none | exact hp_some (by assumption) | refine hp_ite (fun _ => ?_) (fun _ => ?_) | refine hp_bnd ?_ (fun _ _ _ => ?_) | (apply hp_fx' (m := ([], [])); apply fx_f_X0_number) | (apply hp_fx' (m := ([10, 11], [])); apply fx_f_X0_store) | (apply hp_fx' (m := ([53], [])); apply fx_f_X2_store) | apply p8_f_X7_store | apply p8_f_X11_keep_L44 | refine hp_lts (p8_zs (by assumption) (by decide +kernel)) (fun _ _ => ?_) | refine hp_ltv (fun _ => ?_) | assumption | decide +kernel | intro _
set_option maxHeartbeats 4000000 in
theorem p8_f_X11_undo (F : Nat) (s : zM) (h : P8 s) : HP (f_X11_undo F s) := by
  unfold f_X11_undo
  repeat' with_reducible first | exact hp_none | exact hp_some (by assumption) | refine hp_ite (fun _ => ?_) (fun _ => ?_) | refine hp_bnd ?_ (fun _ _ _ => ?_) | (apply hp_fx' (m := ([], [])); apply fx_f_X0_number) | (apply hp_fx' (m := ([5, 6, 9], [])); apply fx_f_X0_restore) | (apply hp_fx' (m := ([52], [])); apply fx_f_X2_restore) | apply p8_f_X7_restore | refine hp_lts (p8_zs (by assumption) (by decide +kernel)) (fun _ _ => ?_) | refine hp_ltv (fun _ => ?_) | assumption | decide +kernel | intro _
