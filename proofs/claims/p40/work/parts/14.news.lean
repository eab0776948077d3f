def f_X5_isMinute (v0 : Int32) (s : zM) : Option (Int32 × zM) :=
  if v0 < 0 then
    some ((0 : Int32), s)
  else
    if (999 : Int32) < v0 then
      some ((0 : Int32), s)
    else
      some ((1 : Int32), s)
set_option maxRecDepth 100000 in
set_option maxHeartbeats 4000000 in
theorem t_X5_isMinute (w : zWd) (d : Nat) (hd : 0 ≤ d) (v0 : Int32) (s : zM) : zMt w yX5_isMinute cX5_isMinute 1 (some .boolean) d zφN zφN zri [.int v0] s (f_X5_isMinute v0 s) := by
  refine zMtN_of (own := RX5) rfl (by decide +kernel) (Nat.le_of_ble_eq_true rfl) cd_X5_isMinute [(0, .int v0)] rfl ?_
  rintro a rfl K
  unfold f_X5_isMinute
  refine z_iload_n K 0 rfl dX5_isMinute_0 ?_
  refine z_if_lt K (tgt := 15) dX5_isMinute_1 (by decide) ?_ ?_
  · refine z_iconst K ci_0 dX5_isMinute_15 ?_
    exact z_zret (Or.inl rfl) K dX5_isMinute_16
  · refine z_iload_n K 0 rfl dX5_isMinute_4 ?_
    refine z_sipush K cs_999 dX5_isMinute_5 ?_
    refine z_icmp_gt K (tgt := 15) dX5_isMinute_8 (by decide) ?_ ?_
    · refine z_iconst K ci_0 dX5_isMinute_15 ?_
      exact z_zret (Or.inl rfl) K dX5_isMinute_16
    · refine z_iconst K ci_1 dX5_isMinute_11 ?_
      refine z_goto K (tgt := 16) dX5_isMinute_12 (by decide) ?_
      exact z_zret (Or.inr rfl) K dX5_isMinute_16
def f_X5_isStart (v0 : Int32) (s : zM) : Option (Int32 × zM) :=
  if v0 < 0 then
    some ((0 : Int32), s)
  else
    if (99 : Int32) < v0 then
      some ((0 : Int32), s)
    else
      some ((1 : Int32), s)
set_option maxRecDepth 100000 in
set_option maxHeartbeats 4000000 in
theorem t_X5_isStart (w : zWd) (d : Nat) (hd : 0 ≤ d) (v0 : Int32) (s : zM) : zMt w yX5_isStart cX5_isStart 1 (some .boolean) d zφN zφN zri [.int v0] s (f_X5_isStart v0 s) := by
  refine zMtN_of (own := RX5) rfl (by decide +kernel) (Nat.le_of_ble_eq_true rfl) cd_X5_isStart [(0, .int v0)] rfl ?_
  rintro a rfl K
  unfold f_X5_isStart
  refine z_iload_n K 0 rfl dX5_isStart_0 ?_
  refine z_if_lt K (tgt := 14) dX5_isStart_1 (by decide) ?_ ?_
  · refine z_iconst K ci_0 dX5_isStart_14 ?_
    exact z_zret (Or.inl rfl) K dX5_isStart_15
  · refine z_iload_n K 0 rfl dX5_isStart_4 ?_
    refine z_bipush K cb_99 dX5_isStart_5 ?_
    refine z_icmp_gt K (tgt := 14) dX5_isStart_7 (by decide) ?_ ?_
    · refine z_iconst K ci_0 dX5_isStart_14 ?_
      exact z_zret (Or.inl rfl) K dX5_isStart_15
    · refine z_iconst K ci_1 dX5_isStart_10 ?_
      refine z_goto K (tgt := 15) dX5_isStart_11 (by decide) ?_
      exact z_zret (Or.inr rfl) K dX5_isStart_15
def f_X5_rains (s : zM) : Option (Int32 × zM) :=
  some ((zg s 33 10), s)
set_option maxRecDepth 100000 in
set_option maxHeartbeats 4000000 in
theorem t_X5_rains (w : zWd) (d : Nat) (hd : 0 ≤ d) (s : zM) : zMt w yX5_rains cX5_rains 1 (some .int) d zφN zφN zri [.ref (w.2.2.2 + 33)] s (f_X5_rains s) := by
  refine zMtN_of (own := RX5) rfl (by decide +kernel) (Nat.le_of_ble_eq_true rfl) cd_X5_rains [(0, .ref (w.2.2.2 + 33))] rfl ?_
  rintro a rfl K
  unfold f_X5_rains
  refine z_aload_n K 0 rfl dX5_rains_0 ?_
  refine z_geti K fd_X5_46 ob_33_10 dX5_rains_1 ?_
  exact z_iret K dX5_rains_4
def f_X5_speeches (s : zM) : Option (Int32 × zM) :=
  some ((zg s 33 11), s)
set_option maxRecDepth 100000 in
set_option maxHeartbeats 4000000 in
theorem t_X5_speeches (w : zWd) (d : Nat) (hd : 0 ≤ d) (s : zM) : zMt w yX5_speeches cX5_speeches 1 (some .int) d zφN zφN zri [.ref (w.2.2.2 + 33)] s (f_X5_speeches s) := by
  refine zMtN_of (own := RX5) rfl (by decide +kernel) (Nat.le_of_ble_eq_true rfl) cd_X5_speeches [(0, .ref (w.2.2.2 + 33))] rfl ?_
  rintro a rfl K
  unfold f_X5_speeches
  refine z_aload_n K 0 rfl dX5_speeches_0 ?_
  refine z_geti K fd_X5_50 ob_33_11 dX5_speeches_1 ?_
  exact z_iret K dX5_speeches_4
def f_X5_addRain (v1 : Int32) (v2 : Int32) (v3 : Int32) (s : zM) : Option (Int32 × zM) :=
  if (zg s 33 10) < (10 : Int32) then
    if zin (zg s 33 10) 10 = true then
      lt (zs s 34 ((zg s 33 10)).toNatClampNeg v1) (fun s1 =>
      if zin (zg s1 33 10) 10 = true then
        lt (zs s1 35 ((zg s1 33 10)).toNatClampNeg v2) (fun s2 =>
        if zin (zg s2 33 10) 10 = true then
          lt (zs s2 36 ((zg s2 33 10)).toNatClampNeg v3) (fun s3 =>
          lt (zs s3 33 10 ((zg s3 33 10) + (1 : Int32))) (fun s4 =>
          some ((zg s4 33 10), s4)))
        else none)
      else none)
    else none
  else
    some ((-1 : Int32), s)
set_option maxRecDepth 100000 in
set_option maxHeartbeats 4000000 in
theorem t_X5_addRain (w : zWd) (d : Nat) (hd : 0 ≤ d) (v1 : Int32) (v2 : Int32) (v3 : Int32) (s : zM) : zMt w yX5_addRain cX5_addRain 4 (some .int) d zφN zφN zri [.ref (w.2.2.2 + 33), .int v1, .int v2, .int v3] s (f_X5_addRain v1 v2 v3 s) := by
  refine zMtN_of (own := RX5) rfl (by decide +kernel) (Nat.le_of_ble_eq_true rfl) cd_X5_addRain [(0, .ref (w.2.2.2 + 33)), (1, .int v1), (2, .int v2), (3, .int v3)] rfl ?_
  rintro a rfl K
  unfold f_X5_addRain
  refine z_aload_n K 0 rfl dX5_addRain_0 ?_
  refine z_geti K fd_X5_46 ob_33_10 dX5_addRain_1 ?_
  refine z_bipush K cb_10 dX5_addRain_4 ?_
  refine z_icmp_lt K (tgt := 11) dX5_addRain_6 (by decide) ?_ ?_
  · refine z_aload_n K 0 rfl dX5_addRain_11 ?_
    refine z_getr K fd_X5_11 ob_33_2 dX5_addRain_12 ?_
    refine z_aload_n K 0 rfl dX5_addRain_15 ?_
    refine z_geti K fd_X5_46 ob_33_10 dX5_addRain_16 ?_
    refine z_iload_n K 1 rfl dX5_addRain_19 ?_
    refine z_iast K ar_34 dX5_addRain_20 ?_
    refine z_ltm (fun s1 => ?_)
    refine z_aload_n K 0 rfl dX5_addRain_21 ?_
    refine z_getr K fd_X5_15 ob_33_3 dX5_addRain_22 ?_
    refine z_aload_n K 0 rfl dX5_addRain_25 ?_
    refine z_geti K fd_X5_46 ob_33_10 dX5_addRain_26 ?_
    refine z_iload_n K 2 rfl dX5_addRain_29 ?_
    refine z_iast K ar_35 dX5_addRain_30 ?_
    refine z_ltm (fun s2 => ?_)
    refine z_aload_n K 0 rfl dX5_addRain_31 ?_
    refine z_getr K fd_X5_18 ob_33_4 dX5_addRain_32 ?_
    refine z_aload_n K 0 rfl dX5_addRain_35 ?_
    refine z_geti K fd_X5_46 ob_33_10 dX5_addRain_36 ?_
    refine z_iload_n K 3 rfl dX5_addRain_39 ?_
    refine z_iast K ar_36 dX5_addRain_40 ?_
    refine z_ltm (fun s3 => ?_)
    refine z_aload_n K 0 rfl dX5_addRain_41 ?_
    refine z_dup K rfl dX5_addRain_42 ?_
    refine z_geti K fd_X5_46 ob_33_10 dX5_addRain_43 ?_
    refine z_iconst K ci_1 dX5_addRain_46 ?_
    refine z_iadd K dX5_addRain_47 ?_
    refine z_puti K fw_X5_46 ob_33_10 dX5_addRain_48 ?_
    refine z_ltm (fun s4 => ?_)
    refine z_aload_n K 0 rfl dX5_addRain_51 ?_
    refine z_geti K fd_X5_46 ob_33_10 dX5_addRain_52 ?_
    exact z_iret K dX5_addRain_55
  · refine z_iconst K ci_m1 dX5_addRain_9 ?_
    exact z_iret K dX5_addRain_10
def f_X5_addSpeech (v1 : Int32) (v2 : Int32) (v3 : Int32) (s : zM) : Option (Int32 × zM) :=
  if (zg s 33 11) < (10 : Int32) then
    if zin (zg s 33 11) 10 = true then
      lt (zs s 37 ((zg s 33 11)).toNatClampNeg v1) (fun s1 =>
      if zin (zg s1 33 11) 10 = true then
        lt (zs s1 38 ((zg s1 33 11)).toNatClampNeg v2) (fun s2 =>
        if zin (zg s2 33 11) 10 = true then
          lt (zs s2 39 ((zg s2 33 11)).toNatClampNeg v3) (fun s3 =>
          lt (zs s3 33 11 ((zg s3 33 11) + (1 : Int32))) (fun s4 =>
          some ((zg s4 33 11), s4)))
        else none)
      else none)
    else none
  else
    some ((-1 : Int32), s)
set_option maxRecDepth 100000 in
set_option maxHeartbeats 4000000 in
theorem t_X5_addSpeech (w : zWd) (d : Nat) (hd : 0 ≤ d) (v1 : Int32) (v2 : Int32) (v3 : Int32) (s : zM) : zMt w yX5_addSpeech cX5_addSpeech 4 (some .int) d zφN zφN zri [.ref (w.2.2.2 + 33), .int v1, .int v2, .int v3] s (f_X5_addSpeech v1 v2 v3 s) := by
  refine zMtN_of (own := RX5) rfl (by decide +kernel) (Nat.le_of_ble_eq_true rfl) cd_X5_addSpeech [(0, .ref (w.2.2.2 + 33)), (1, .int v1), (2, .int v2), (3, .int v3)] rfl ?_
  rintro a rfl K
  unfold f_X5_addSpeech
  refine z_aload_n K 0 rfl dX5_addSpeech_0 ?_
  refine z_geti K fd_X5_50 ob_33_11 dX5_addSpeech_1 ?_
  refine z_bipush K cb_10 dX5_addSpeech_4 ?_
  refine z_icmp_lt K (tgt := 11) dX5_addSpeech_6 (by decide) ?_ ?_
  · refine z_aload_n K 0 rfl dX5_addSpeech_11 ?_
    refine z_getr K fd_X5_21 ob_33_5 dX5_addSpeech_12 ?_
    refine z_aload_n K 0 rfl dX5_addSpeech_15 ?_
    refine z_geti K fd_X5_50 ob_33_11 dX5_addSpeech_16 ?_
    refine z_iload_n K 1 rfl dX5_addSpeech_19 ?_
    refine z_iast K ar_37 dX5_addSpeech_20 ?_
    refine z_ltm (fun s1 => ?_)
    refine z_aload_n K 0 rfl dX5_addSpeech_21 ?_
    refine z_getr K fd_X5_24 ob_33_6 dX5_addSpeech_22 ?_
    refine z_aload_n K 0 rfl dX5_addSpeech_25 ?_
    refine z_geti K fd_X5_50 ob_33_11 dX5_addSpeech_26 ?_
    refine z_iload_n K 2 rfl dX5_addSpeech_29 ?_
    refine z_iast K ar_38 dX5_addSpeech_30 ?_
    refine z_ltm (fun s2 => ?_)
    refine z_aload_n K 0 rfl dX5_addSpeech_31 ?_
    refine z_getr K fd_X5_27 ob_33_7 dX5_addSpeech_32 ?_
    refine z_aload_n K 0 rfl dX5_addSpeech_35 ?_
    refine z_geti K fd_X5_50 ob_33_11 dX5_addSpeech_36 ?_
    refine z_iload_n K 3 rfl dX5_addSpeech_39 ?_
    refine z_iast K ar_39 dX5_addSpeech_40 ?_
    refine z_ltm (fun s3 => ?_)
    refine z_aload_n K 0 rfl dX5_addSpeech_41 ?_
    refine z_dup K rfl dX5_addSpeech_42 ?_
    refine z_geti K fd_X5_50 ob_33_11 dX5_addSpeech_43 ?_
    refine z_iconst K ci_1 dX5_addSpeech_46 ?_
    refine z_iadd K dX5_addSpeech_47 ?_
    refine z_puti K fw_X5_50 ob_33_11 dX5_addSpeech_48 ?_
    refine z_ltm (fun s4 => ?_)
    refine z_aload_n K 0 rfl dX5_addSpeech_51 ?_
    refine z_geti K fd_X5_50 ob_33_11 dX5_addSpeech_52 ?_
    exact z_iret K dX5_addSpeech_55
  · refine z_iconst K ci_m1 dX5_addSpeech_9 ?_
    exact z_iret K dX5_addSpeech_10
def f_X5_speechesAt_L5 (F : Nat) (k81 : Int32 → zM → Option (Int32 × zM)) (v1 : Int32) (v2 : Int32) : Nat → Int32 → Int32 → zM → Option (Int32 × zM)
  | 0, _, _, _ => none
  | n + 1, v3, v4, s =>
    if v4 < (zg s 33 11) then
      if v4 < (10 : Int32) then
        if zin v4 10 = true then
          lt ((v2 - (zg s 38 (v4).toNatClampNeg))) (fun y1 =>
          if zin v4 10 = true then
            lt ((if 0 ≤ ((v1 >>> ((1 : Int32) &&& 31)) - (zg s 37 (v4).toNatClampNeg)) then ((v1 >>> ((1 : Int32) &&& 31)) - (zg s 37 (v4).toNatClampNeg)) else 0 - ((v1 >>> ((1 : Int32) &&& 31)) - (zg s 37 (v4).toNatClampNeg)))) (fun y2 =>
            if y1 < 0 then
              lt (v4 + (1 : Int32)) (fun y3 =>
              f_X5_speechesAt_L5 F k81 v1 v2 n v3 y3 s)
            else
              if zin v4 10 = true then
                if (y1 * (zg s 39 (v4).toNatClampNeg)) < y2 then
                  lt (v4 + (1 : Int32)) (fun y4 =>
                  f_X5_speechesAt_L5 F k81 v1 v2 n v3 y4 s)
                else
                  lt ((v3 ||| ((1 : Int32) <<< (v4 &&& 31)))) (fun y5 =>
                  lt (v4 + (1 : Int32)) (fun y6 =>
                  f_X5_speechesAt_L5 F k81 v1 v2 n y5 y6 s))
              else none)
          else none)
        else none
      else
        k81 v3 s
    else
      k81 v3 s
set_option maxRecDepth 100000 in
set_option maxHeartbeats 4000000 in
theorem t_X5_speechesAt_L5 {a : zA} {d : Nat} (F : Nat) (K : zOK a cX5_speechesAt 7 RX5 (some .int) d) (hd : 1 ≤ d) {k81 : Int32 → zM → Option (Int32 × zM)} (v1 : Int32) (v2 : Int32) (h81 : ∀ (v3 : Int32) (s : zM), zJ a 7 (zG a zφN zri) zφN 81 [(3, .int v3)] [] s (k81 v3 s)) : ∀ (n : Nat) (v3 : Int32) (v4 : Int32) (s : zM), zJ a 7 (zG a zφN zri) zφN 5 [(0, .ref (a.1.2.2.2 + 33)), (1, .int v1), (2, .int v2), (3, .int v3), (4, .int v4)] [] s (f_X5_speechesAt_L5 F k81 v1 v2 n v3 v4 s) := by
  intro n
  induction n with
  | zero => intros; exact z_none
  | succ n ih =>
    intro v3 v4 s
    rw [f_X5_speechesAt_L5]
    refine z_iload K 4 rfl dX5_speechesAt_5 ?_
    refine z_aload_n K 0 rfl dX5_speechesAt_7 ?_
    refine z_geti K fd_X5_50 ob_33_11 dX5_speechesAt_8 ?_
    refine z_icmp_ge K (tgt := 81) dX5_speechesAt_11 (by decide) ?_ ?_
    · refine z_sub [3] rfl ?_
      exact h81 v3 s
    · refine z_iload K 4 rfl dX5_speechesAt_14 ?_
      refine z_bipush K cb_10 dX5_speechesAt_16 ?_
      refine z_icmp_ge K (tgt := 81) dX5_speechesAt_18 (by decide) ?_ ?_
      · refine z_sub [3] rfl ?_
        exact h81 v3 s
      · refine z_iload_n K 2 rfl dX5_speechesAt_21 ?_
        refine z_aload_n K 0 rfl dX5_speechesAt_22 ?_
        refine z_getr K fd_X5_24 ob_33_6 dX5_speechesAt_23 ?_
        refine z_iload K 4 rfl dX5_speechesAt_26 ?_
        refine z_iald K ar_38 dX5_speechesAt_28 ?_
        refine z_isub K dX5_speechesAt_29 ?_
        refine z_topi (fun y1 => ?_)
        refine z_istore K (lv' := [(5, .int y1), (0, .ref (a.1.2.2.2 + 33)), (1, .int v1), (2, .int v2), (3, .int v3), (4, .int v4)]) dX5_speechesAt_30 (Nat.le_of_ble_eq_true rfl) rfl ?_
        refine z_iload_n K 2 rfl dX5_speechesAt_32 ?_
        refine z_iconst K ci_1 dX5_speechesAt_33 ?_
        refine z_ishr K dX5_speechesAt_34 ?_
        refine z_aload_n K 1 rfl dX5_speechesAt_35 ?_
        refine z_getr K fd_X5_21 ob_33_5 dX5_speechesAt_36 ?_
        refine z_iload K 5 rfl dX5_speechesAt_39 ?_
        refine z_iald K ar_37 dX5_speechesAt_41 ?_
        refine z_isub K dX5_speechesAt_42 ?_
        refine z_abs K jm_abs_s jm_ini jm_abs_c ml_X5_53 rfl (by omega) (Nat.le_of_ble_eq_true rfl) dX5_speechesAt_43 ?_
        refine z_topi (fun y2 => ?_)
        refine z_istore K (lv' := [(6, .int y2), (5, .int y1), (0, .ref (a.1.2.2.2 + 33)), (1, .int v1), (2, .int v2), (3, .int v3), (4, .int v4)]) dX5_speechesAt_46 (Nat.le_of_ble_eq_true rfl) rfl ?_
        refine z_iload K 1 rfl dX5_speechesAt_48 ?_
        refine z_if_lt K (tgt := 75) dX5_speechesAt_50 (by decide) ?_ ?_
        · refine z_iincN K (j := 6) (lv' := [(6, .int y2), (5, .int y1), (0, .ref (a.1.2.2.2 + 33)), (1, .int v1), (2, .int v2), (3, .int v3)]) ci_1 rfl dX5_speechesAt_75 (Nat.le_of_ble_eq_true rfl) rfl (fun y3 => ?_)
          refine z_goto K (tgt := 5) dX5_speechesAt_78 (by decide) ?_
          refine z_sub [3, 4, 5, 6, 0] rfl ?_
          exact ih v3 y3 s
        · refine z_iload K 0 rfl dX5_speechesAt_53 ?_
          refine z_iload K 1 rfl dX5_speechesAt_55 ?_
          refine z_aload_n K 2 rfl dX5_speechesAt_57 ?_
          refine z_getr K fd_X5_27 ob_33_7 dX5_speechesAt_58 ?_
          refine z_iload K 6 rfl dX5_speechesAt_61 ?_
          refine z_iald K ar_39 dX5_speechesAt_63 ?_
          refine z_imul K dX5_speechesAt_64 ?_
          refine z_icmp_gt K (tgt := 75) dX5_speechesAt_65 (by decide) ?_ ?_
          · refine z_iincN K (j := 6) (lv' := [(6, .int y2), (5, .int y1), (0, .ref (a.1.2.2.2 + 33)), (1, .int v1), (2, .int v2), (3, .int v3)]) ci_1 rfl dX5_speechesAt_75 (Nat.le_of_ble_eq_true rfl) rfl (fun y4 => ?_)
            refine z_goto K (tgt := 5) dX5_speechesAt_78 (by decide) ?_
            refine z_sub [3, 4, 5, 6, 0] rfl ?_
            exact ih v3 y4 s
          · refine z_iload_n K 5 rfl dX5_speechesAt_68 ?_
            refine z_iconst K ci_1 dX5_speechesAt_69 ?_
            refine z_iload K 6 rfl dX5_speechesAt_70 ?_
            refine z_ishl K dX5_speechesAt_72 ?_
            refine z_ior K dX5_speechesAt_73 ?_
            refine z_topi (fun y5 => ?_)
            refine z_istore_n K (lv' := [(3, .int y5), (6, .int y2), (5, .int y1), (0, .ref (a.1.2.2.2 + 33)), (1, .int v1), (2, .int v2), (4, .int v4)]) dX5_speechesAt_74 rfl (Nat.le_of_ble_eq_true rfl) rfl ?_
            refine z_iincN K (j := 6) (lv' := [(3, .int y5), (6, .int y2), (5, .int y1), (0, .ref (a.1.2.2.2 + 33)), (1, .int v1), (2, .int v2)]) ci_1 rfl dX5_speechesAt_75 (Nat.le_of_ble_eq_true rfl) rfl (fun y6 => ?_)
            refine z_goto K (tgt := 5) dX5_speechesAt_78 (by decide) ?_
            refine z_sub [4, 5, 6, 1, 0] rfl ?_
            exact ih y5 y6 s
def f_X5_speechesAt (F : Nat) (v1 : Int32) (v2 : Int32) (s : zM) : Option (Int32 × zM) :=
  f_X5_speechesAt_L5 F (fun y8 s7 =>
    some (y8, s7)) v1 v2 F (0 : Int32) (0 : Int32) s
set_option maxRecDepth 100000 in
set_option maxHeartbeats 4000000 in
theorem t_X5_speechesAt (w : zWd) (F : Nat) (d : Nat) (hd : 1 ≤ d) (v1 : Int32) (v2 : Int32) (s : zM) : zMt w yX5_speechesAt cX5_speechesAt 7 (some .int) d zφN zφN zri [.ref (w.2.2.2 + 33), .int v1, .int v2] s (f_X5_speechesAt F v1 v2 s) := by
  refine zMtN_of (own := RX5) rfl (by decide +kernel) (Nat.le_of_ble_eq_true rfl) cd_X5_speechesAt [(0, .ref (w.2.2.2 + 33)), (1, .int v1), (2, .int v2)] rfl ?_
  rintro a rfl K
  unfold f_X5_speechesAt
  refine z_iconst K ci_0 dX5_speechesAt_0 ?_
  refine z_istore_n K (lv' := [(3, .int (0 : Int32)), (0, .ref (a.1.2.2.2 + 33)), (1, .int v1), (2, .int v2)]) dX5_speechesAt_1 rfl (Nat.le_of_ble_eq_true rfl) rfl ?_
  refine z_iconst K ci_0 dX5_speechesAt_2 ?_
  refine z_istore K (lv' := [(4, .int (0 : Int32)), (3, .int (0 : Int32)), (0, .ref (a.1.2.2.2 + 33)), (1, .int v1), (2, .int v2)]) dX5_speechesAt_3 (Nat.le_of_ble_eq_true rfl) rfl ?_
  refine z_sub [2, 3, 4, 1, 0] rfl ?_
  refine t_X5_speechesAt_L5 F K hd v1 v2 (fun y8 s7 => ?_) F (0 : Int32) (0 : Int32) s
  refine z_iload_n K 0 rfl dX5_speechesAt_81 ?_
  exact z_iret K dX5_speechesAt_82
def f_X5_isDry_L7 (F : Nat) (k64 : zM → Option (Int32 × zM)) (v2 : Int32) (v3 : Int32) : Nat → Int32 → zM → Option (Int32 × zM)
  | 0, _, _ => none
  | n + 1, v4, s =>
    if v4 < (zg s 33 10) then
      if v4 < (10 : Int32) then
        if zin v4 10 = true then
          if v2 < (zg s 34 (v4).toNatClampNeg) then
            lt (v4 + (1 : Int32)) (fun y2 =>
            f_X5_isDry_L7 F k64 v2 v3 n y2 s)
          else
            if zin v4 10 = true then
              if v3 < (zg s 35 (v4).toNatClampNeg) then
                lt (v4 + (1 : Int32)) (fun y3 =>
                f_X5_isDry_L7 F k64 v2 v3 n y3 s)
              else
                if zin v4 10 = true then
                  if (zg s 36 (v4).toNatClampNeg) < v3 then
                    lt (v4 + (1 : Int32)) (fun y4 =>
                    f_X5_isDry_L7 F k64 v2 v3 n y4 s)
                  else
                    some ((0 : Int32), s)
                else none
            else none
        else none
      else
        k64 s
    else
      k64 s
set_option maxRecDepth 100000 in
set_option maxHeartbeats 4000000 in
theorem t_X5_isDry_L7 {a : zA} {d : Nat} (F : Nat) (K : zOK a cX5_isDry 5 RX5 (some .boolean) d) (hd : 0 ≤ d) {k64 : zM → Option (Int32 × zM)} (v2 : Int32) (v3 : Int32) (h64 : ∀ (s : zM), zJ a 5 (zG a zφN zri) zφN 64 [] [] s (k64 s)) : ∀ (n : Nat) (v4 : Int32) (s : zM), zJ a 5 (zG a zφN zri) zφN 7 [(0, .ref (a.1.2.2.2 + 33)), (2, .int v2), (3, .int v3), (4, .int v4)] [] s (f_X5_isDry_L7 F k64 v2 v3 n v4 s) := by
  intro n
  induction n with
  | zero => intros; exact z_none
  | succ n ih =>
    intro v4 s
    rw [f_X5_isDry_L7]
    refine z_iload K 3 rfl dX5_isDry_7 ?_
    refine z_aload_n K 0 rfl dX5_isDry_9 ?_
    refine z_geti K fd_X5_46 ob_33_10 dX5_isDry_10 ?_
    refine z_icmp_ge K (tgt := 64) dX5_isDry_13 (by decide) ?_ ?_
    · refine z_sub [] rfl ?_
      exact h64 s
    · refine z_iload K 3 rfl dX5_isDry_16 ?_
      refine z_bipush K cb_10 dX5_isDry_18 ?_
      refine z_icmp_ge K (tgt := 64) dX5_isDry_20 (by decide) ?_ ?_
      · refine z_sub [] rfl ?_
        exact h64 s
      · refine z_aload_n K 0 rfl dX5_isDry_23 ?_
        refine z_getr K fd_X5_11 ob_33_2 dX5_isDry_24 ?_
        refine z_iload K 3 rfl dX5_isDry_27 ?_
        refine z_iald K ar_34 dX5_isDry_29 ?_
        refine z_iload_n K 1 rfl dX5_isDry_30 ?_
        refine z_icmp_gt K (tgt := 58) dX5_isDry_31 (by decide) ?_ ?_
        · refine z_iincN K (j := 3) (lv' := [(0, .ref (a.1.2.2.2 + 33)), (2, .int v2), (3, .int v3)]) ci_1 rfl dX5_isDry_58 (Nat.le_of_ble_eq_true rfl) rfl (fun y2 => ?_)
          refine z_goto K (tgt := 7) dX5_isDry_61 (by decide) ?_
          refine z_sub [1, 2, 3, 0] rfl ?_
          exact ih y2 s
        · refine z_aload_n K 0 rfl dX5_isDry_34 ?_
          refine z_getr K fd_X5_15 ob_33_3 dX5_isDry_35 ?_
          refine z_iload K 3 rfl dX5_isDry_38 ?_
          refine z_iald K ar_35 dX5_isDry_40 ?_
          refine z_iload_n K 2 rfl dX5_isDry_41 ?_
          refine z_icmp_gt K (tgt := 58) dX5_isDry_42 (by decide) ?_ ?_
          · refine z_iincN K (j := 3) (lv' := [(0, .ref (a.1.2.2.2 + 33)), (2, .int v2), (3, .int v3)]) ci_1 rfl dX5_isDry_58 (Nat.le_of_ble_eq_true rfl) rfl (fun y3 => ?_)
            refine z_goto K (tgt := 7) dX5_isDry_61 (by decide) ?_
            refine z_sub [1, 2, 3, 0] rfl ?_
            exact ih y3 s
          · refine z_iload_n K 2 rfl dX5_isDry_45 ?_
            refine z_aload_n K 0 rfl dX5_isDry_46 ?_
            refine z_getr K fd_X5_18 ob_33_4 dX5_isDry_47 ?_
            refine z_iload K 3 rfl dX5_isDry_50 ?_
            refine z_iald K ar_36 dX5_isDry_52 ?_
            refine z_icmp_gt K (tgt := 58) dX5_isDry_53 (by decide) ?_ ?_
            · refine z_iincN K (j := 3) (lv' := [(0, .ref (a.1.2.2.2 + 33)), (2, .int v2), (3, .int v3)]) ci_1 rfl dX5_isDry_58 (Nat.le_of_ble_eq_true rfl) rfl (fun y4 => ?_)
              refine z_goto K (tgt := 7) dX5_isDry_61 (by decide) ?_
              refine z_sub [1, 2, 3, 0] rfl ?_
              exact ih y4 s
            · refine z_iconst K ci_0 dX5_isDry_56 ?_
              exact z_zret (Or.inl rfl) K dX5_isDry_57
def f_X5_isDry (F : Nat) (v1 : Int32) (v2 : Int32) (s : zM) : Option (Int32 × zM) :=
  lt ((v1 >>> ((1 : Int32) &&& 31))) (fun y1 =>
  f_X5_isDry_L7 F (fun s5 =>
    some ((1 : Int32), s5)) v2 y1 F (0 : Int32) s)
set_option maxRecDepth 100000 in
set_option maxHeartbeats 4000000 in
theorem t_X5_isDry (w : zWd) (F : Nat) (d : Nat) (hd : 0 ≤ d) (v1 : Int32) (v2 : Int32) (s : zM) : zMt w yX5_isDry cX5_isDry 5 (some .boolean) d zφN zφN zri [.ref (w.2.2.2 + 33), .int v1, .int v2] s (f_X5_isDry F v1 v2 s) := by
  refine zMtN_of (own := RX5) rfl (by decide +kernel) (Nat.le_of_ble_eq_true rfl) cd_X5_isDry [(0, .ref (w.2.2.2 + 33)), (1, .int v1), (2, .int v2)] rfl ?_
  rintro a rfl K
  unfold f_X5_isDry
  refine z_iload_n K 1 rfl dX5_isDry_0 ?_
  refine z_iconst K ci_1 dX5_isDry_1 ?_
  refine z_ishr K dX5_isDry_2 ?_
  refine z_topi (fun y1 => ?_)
  refine z_istore_n K (lv' := [(3, .int y1), (0, .ref (a.1.2.2.2 + 33)), (1, .int v1), (2, .int v2)]) dX5_isDry_3 rfl (Nat.le_of_ble_eq_true rfl) rfl ?_
  refine z_iconst K ci_0 dX5_isDry_4 ?_
  refine z_istore K (lv' := [(4, .int (0 : Int32)), (3, .int y1), (0, .ref (a.1.2.2.2 + 33)), (1, .int v1), (2, .int v2)]) dX5_isDry_5 (Nat.le_of_ble_eq_true rfl) rfl ?_
  refine z_sub [2, 4, 1, 0] rfl ?_
  refine t_X5_isDry_L7 F K hd v2 y1 (fun s5 => ?_) F (0 : Int32) s
  refine z_iconst K ci_1 dX5_isDry_64 ?_
  exact z_zret (Or.inr rfl) K dX5_isDry_65
def f_X5_passOn_L5 (F : Nat) (k125 : Int32 → zM → Option (Int32 × zM)) (v1 : Int32) (v2 : Int32) : Nat → Int32 → Int32 → zM → Option (Int32 × zM)
  | 0, _, _, _ => none
  | n + 1, v3, v4, s =>
    if v4 < (3 : Int32) then
      bnd (f_X0_seatOf v1 s) (fun r2 s1 =>
      bnd (f_X8_beside r2 v4 s1) (fun r4 s3 =>
      bnd (f_X0_at r4 s3) (fun r6 s5 =>
      if r6 < 0 then
        lt (v4 + (1 : Int32)) (fun y7 =>
        f_X5_passOn_L5 F k125 v1 v2 n v3 y7 s5)
      else
        if r6 < (16 : Int32) then
          if zin r6 16 = true then
            if (zg s5 40 (r6).toNatClampNeg) = (-1 : Int32) then
              bnd (f_X0_seatOf v1 s5) (fun r11 s10 =>
              bnd (f_X5_isDry F r11 v2 s10) (fun r13 s12 =>
              if r13 = 0 then
                lt (v4 + (1 : Int32)) (fun y14 =>
                f_X5_passOn_L5 F k125 v1 v2 n v3 y14 s12)
              else
                bnd (f_X5_isDry F r4 v2 s12) (fun r16 s15 =>
                if r16 = 0 then
                  lt (v4 + (1 : Int32)) (fun y17 =>
                  f_X5_passOn_L5 F k125 v1 v2 n v3 y17 s15)
                else
                  bnd (f_X1_allows F v1 r6 s15) (fun r19 s18 =>
                  if r19 = 0 then
                    lt (v4 + (1 : Int32)) (fun y20 =>
                    f_X5_passOn_L5 F k125 v1 v2 n v3 y20 s18)
                  else
                    if zin r6 16 = true then
                      lt (zs s18 40 (r6).toNatClampNeg (v2 + (1 : Int32))) (fun s21 =>
                      if zin r6 16 = true then
                        lt (zs s21 41 (r6).toNatClampNeg v1) (fun s22 =>
                        lt (v4 + (1 : Int32)) (fun y23 =>
                        f_X5_passOn_L5 F k125 v1 v2 n (1 : Int32) y23 s22))
                      else none)
                    else none))))
            else
              lt (v4 + (1 : Int32)) (fun y9 =>
              f_X5_passOn_L5 F k125 v1 v2 n v3 y9 s5)
          else none
        else
          lt (v4 + (1 : Int32)) (fun y8 =>
          f_X5_passOn_L5 F k125 v1 v2 n v3 y8 s5))))
    else
      k125 v3 s
set_option maxRecDepth 100000 in
set_option maxHeartbeats 4000000 in
theorem t_X5_passOn_L5 {a : zA} {d : Nat} (F : Nat) (K : zOK a cX5_passOn 7 RX5 (some .boolean) d) (hd : 4 ≤ d) {k125 : Int32 → zM → Option (Int32 × zM)} (v1 : Int32) (v2 : Int32) (h125 : ∀ (v3 : Int32) (s : zM), zJ a 7 (zG a zφN zri) zφN 125 [(3, .int v3)] [] s (k125 v3 s)) : ∀ (n : Nat) (v3 : Int32) (v4 : Int32) (s : zM), zJ a 7 (zG a zφN zri) zφN 5 [(0, .ref (a.1.2.2.2 + 33)), (1, .int v1), (2, .int v2), (3, .int v3), (4, .int v4)] [] s (f_X5_passOn_L5 F k125 v1 v2 n v3 v4 s) := by
  intro n
  induction n with
  | zero => intros; exact z_none
  | succ n ih =>
    intro v3 v4 s
    rw [f_X5_passOn_L5]
    refine z_iload K 4 rfl dX5_passOn_5 ?_
    refine z_iconst K ci_3 dX5_passOn_7 ?_
    refine z_icmp_ge K (tgt := 125) dX5_passOn_8 (by decide) ?_ ?_
    · refine z_sub [3] rfl ?_
      exact h125 v3 s
    · refine z_aload_n K 0 rfl dX5_passOn_11 ?_
      refine z_getr K fd_X5_38 ob_33_0 dX5_passOn_12 ?_
      refine z_iload_n K 1 rfl dX5_passOn_15 ?_
      refine z_cVi (As := [.int v1]) (rest := []) K (t_X0_seatOf a.1 (d - 1) (by omega) v1 s) mf_X0_seatOf ml_X5_67 (Nat.le_of_ble_eq_true rfl) (by omega) rfl rc_3 rfl (Nat.le_of_ble_eq_true rfl) dX5_passOn_16 (fun r2 s1 => ?_)
      refine z_iload K 4 rfl dX5_passOn_19 ?_
      refine z_cSi (As := [.int r2, .int v4]) (rest := []) K (t_X8_beside a.1 (d - 1) (by omega) r2 v4 s1) mf_X8_beside ml_X5_70 (Nat.le_of_ble_eq_true rfl) (by omega) rfl rfl (Nat.le_of_ble_eq_true rfl) dX5_passOn_21 (fun r4 s3 => ?_)
      refine z_istore K (lv' := [(5, .int r4), (0, .ref (a.1.2.2.2 + 33)), (1, .int v1), (2, .int v2), (3, .int v3), (4, .int v4)]) dX5_passOn_24 (Nat.le_of_ble_eq_true rfl) rfl ?_
      refine z_aload_n K 1 rfl dX5_passOn_26 ?_
      refine z_getr K fd_X5_38 ob_33_0 dX5_passOn_27 ?_
      refine z_iload K 0 rfl dX5_passOn_30 ?_
      refine z_cVi (As := [.int r4]) (rest := []) K (t_X0_at a.1 (d - 1) (by omega) r4 s3) mf_X0_at ml_X5_76 (Nat.le_of_ble_eq_true rfl) (by omega) rfl rc_3 rfl (Nat.le_of_ble_eq_true rfl) dX5_passOn_32 (fun r6 s5 => ?_)
      refine z_istore K (lv' := [(6, .int r6), (5, .int r4), (0, .ref (a.1.2.2.2 + 33)), (1, .int v1), (2, .int v2), (3, .int v3), (4, .int v4)]) dX5_passOn_35 (Nat.le_of_ble_eq_true rfl) rfl ?_
      refine z_iload K 0 rfl dX5_passOn_37 ?_
      refine z_if_lt K (tgt := 119) dX5_passOn_39 (by decide) ?_ ?_
      · refine z_iincN K (j := 6) (lv' := [(6, .int r6), (5, .int r4), (0, .ref (a.1.2.2.2 + 33)), (1, .int v1), (2, .int v2), (3, .int v3)]) ci_1 rfl dX5_passOn_119 (Nat.le_of_ble_eq_true rfl) rfl (fun y7 => ?_)
        refine z_goto K (tgt := 5) dX5_passOn_122 (by decide) ?_
        refine z_sub [3, 4, 5, 6, 0] rfl ?_
        exact ih v3 y7 s5
      · refine z_iload K 0 rfl dX5_passOn_42 ?_
        refine z_bipush K cb_16 dX5_passOn_44 ?_
        refine z_icmp_ge K (tgt := 119) dX5_passOn_46 (by decide) ?_ ?_
        · refine z_iincN K (j := 6) (lv' := [(6, .int r6), (5, .int r4), (0, .ref (a.1.2.2.2 + 33)), (1, .int v1), (2, .int v2), (3, .int v3)]) ci_1 rfl dX5_passOn_119 (Nat.le_of_ble_eq_true rfl) rfl (fun y8 => ?_)
          refine z_goto K (tgt := 5) dX5_passOn_122 (by decide) ?_
          refine z_sub [3, 4, 5, 6, 0] rfl ?_
          exact ih v3 y8 s5
        · refine z_aload_n K 2 rfl dX5_passOn_49 ?_
          refine z_getr K fd_X5_32 ob_33_8 dX5_passOn_50 ?_
          refine z_iload K 0 rfl dX5_passOn_53 ?_
          refine z_iald K ar_40 dX5_passOn_55 ?_
          refine z_iconst K ci_m1 dX5_passOn_56 ?_
          refine z_icmp_ne K (tgt := 119) dX5_passOn_57 (by decide) ?_ ?_
          · refine z_iincN K (j := 6) (lv' := [(6, .int r6), (5, .int r4), (0, .ref (a.1.2.2.2 + 33)), (1, .int v1), (2, .int v2), (3, .int v3)]) ci_1 rfl dX5_passOn_119 (Nat.le_of_ble_eq_true rfl) rfl (fun y9 => ?_)
            refine z_goto K (tgt := 5) dX5_passOn_122 (by decide) ?_
            refine z_sub [3, 4, 5, 6, 0] rfl ?_
            exact ih v3 y9 s5
          · refine z_aload_n K 2 rfl dX5_passOn_60 ?_
            refine z_aload_n K 2 rfl dX5_passOn_61 ?_
            refine z_getr K fd_X5_38 ob_33_0 dX5_passOn_62 ?_
            refine z_iload_n K 3 rfl dX5_passOn_65 ?_
            refine z_cVi (As := [.int v1]) (rest := [.ref (a.1.2.2.2 + 33)]) K (t_X0_seatOf a.1 (d - 1) (by omega) v1 s5) mf_X0_seatOf ml_X5_67 (Nat.le_of_ble_eq_true rfl) (by omega) rfl rc_3 rfl (Nat.le_of_ble_eq_true rfl) dX5_passOn_66 (fun r11 s10 => ?_)
            refine z_iload_n K 4 rfl dX5_passOn_69 ?_
            refine z_cVi (As := [.int r11, .int v2]) (rest := []) K (t_X5_isDry a.1 F (d - 1) (by omega) r11 v2 s10) mf_X5_isDry ml_X5_79 (Nat.le_of_ble_eq_true rfl) (by omega) rfl rc_33 rfl (Nat.le_of_ble_eq_true rfl) dX5_passOn_70 (fun r13 s12 => ?_)
            refine z_if_eq K (tgt := 119) dX5_passOn_73 (by decide) ?_ ?_
            · refine z_iincN K (j := 6) (lv' := [(6, .int r6), (5, .int r4), (0, .ref (a.1.2.2.2 + 33)), (1, .int v1), (2, .int v2), (3, .int v3)]) ci_1 rfl dX5_passOn_119 (Nat.le_of_ble_eq_true rfl) rfl (fun y14 => ?_)
              refine z_goto K (tgt := 5) dX5_passOn_122 (by decide) ?_
              refine z_sub [3, 4, 5, 6, 0] rfl ?_
              exact ih v3 y14 s12
            · refine z_aload_n K 2 rfl dX5_passOn_76 ?_
              refine z_iload K 1 rfl dX5_passOn_77 ?_
              refine z_iload_n K 4 rfl dX5_passOn_79 ?_
              refine z_cVi (As := [.int r4, .int v2]) (rest := []) K (t_X5_isDry a.1 F (d - 1) (by omega) r4 v2 s12) mf_X5_isDry ml_X5_79 (Nat.le_of_ble_eq_true rfl) (by omega) rfl rc_33 rfl (Nat.le_of_ble_eq_true rfl) dX5_passOn_80 (fun r16 s15 => ?_)
              refine z_if_eq K (tgt := 119) dX5_passOn_83 (by decide) ?_ ?_
              · refine z_iincN K (j := 6) (lv' := [(6, .int r6), (5, .int r4), (0, .ref (a.1.2.2.2 + 33)), (1, .int v1), (2, .int v2), (3, .int v3)]) ci_1 rfl dX5_passOn_119 (Nat.le_of_ble_eq_true rfl) rfl (fun y17 => ?_)
                refine z_goto K (tgt := 5) dX5_passOn_122 (by decide) ?_
                refine z_sub [3, 4, 5, 6, 0] rfl ?_
                exact ih v3 y17 s15
              · refine z_aload_n K 2 rfl dX5_passOn_86 ?_
                refine z_getr K fd_X5_42 ob_33_1 dX5_passOn_87 ?_
                refine z_iload_n K 3 rfl dX5_passOn_90 ?_
                refine z_iload K 0 rfl dX5_passOn_91 ?_
                refine z_cVi (As := [.int v1, .int r6]) (rest := []) K (t_X1_allows a.1 F (d - 1) (by omega) v1 r6 s15) mf_X1_allows ml_X5_82 (Nat.le_of_ble_eq_true rfl) (by omega) rfl rc_12 rfl (Nat.le_of_ble_eq_true rfl) dX5_passOn_93 (fun r19 s18 => ?_)
                refine z_if_eq K (tgt := 119) dX5_passOn_96 (by decide) ?_ ?_
                · refine z_iincN K (j := 6) (lv' := [(6, .int r6), (5, .int r4), (0, .ref (a.1.2.2.2 + 33)), (1, .int v1), (2, .int v2), (3, .int v3)]) ci_1 rfl dX5_passOn_119 (Nat.le_of_ble_eq_true rfl) rfl (fun y20 => ?_)
                  refine z_goto K (tgt := 5) dX5_passOn_122 (by decide) ?_
                  refine z_sub [3, 4, 5, 6, 0] rfl ?_
                  exact ih v3 y20 s18
                · refine z_aload_n K 2 rfl dX5_passOn_99 ?_
                  refine z_getr K fd_X5_32 ob_33_8 dX5_passOn_100 ?_
                  refine z_iload K 0 rfl dX5_passOn_103 ?_
                  refine z_iload_n K 4 rfl dX5_passOn_105 ?_
                  refine z_iconst K ci_1 dX5_passOn_106 ?_
                  refine z_iadd K dX5_passOn_107 ?_
                  refine z_iast K ar_40 dX5_passOn_108 ?_
                  refine z_ltm (fun s21 => ?_)
                  refine z_aload_n K 2 rfl dX5_passOn_109 ?_
                  refine z_getr K fd_X5_35 ob_33_9 dX5_passOn_110 ?_
                  refine z_iload K 0 rfl dX5_passOn_113 ?_
                  refine z_iload_n K 3 rfl dX5_passOn_115 ?_
                  refine z_iast K ar_41 dX5_passOn_116 ?_
                  refine z_ltm (fun s22 => ?_)
                  refine z_iconst K ci_1 dX5_passOn_117 ?_
                  refine z_istore_n K (lv' := [(3, .int (1 : Int32)), (6, .int r6), (5, .int r4), (0, .ref (a.1.2.2.2 + 33)), (1, .int v1), (2, .int v2), (4, .int v4)]) dX5_passOn_118 rfl (Nat.le_of_ble_eq_true rfl) rfl ?_
                  refine z_iincN K (j := 6) (lv' := [(3, .int (1 : Int32)), (6, .int r6), (5, .int r4), (0, .ref (a.1.2.2.2 + 33)), (1, .int v1), (2, .int v2)]) ci_1 rfl dX5_passOn_119 (Nat.le_of_ble_eq_true rfl) rfl (fun y23 => ?_)
                  refine z_goto K (tgt := 5) dX5_passOn_122 (by decide) ?_
                  refine z_sub [4, 5, 6, 1, 0] rfl ?_
                  exact ih (1 : Int32) y23 s22
def f_X5_passOn (F : Nat) (v1 : Int32) (v2 : Int32) (s : zM) : Option (Int32 × zM) :=
  f_X5_passOn_L5 F (fun y25 s24 =>
    if y25 = 0 then some (0, s24) else if y25 = 1 then some (1, s24) else none) v1 v2 F (0 : Int32) (0 : Int32) s
set_option maxRecDepth 100000 in
set_option maxHeartbeats 4000000 in
theorem t_X5_passOn (w : zWd) (F : Nat) (d : Nat) (hd : 4 ≤ d) (v1 : Int32) (v2 : Int32) (s : zM) : zMt w yX5_passOn cX5_passOn 7 (some .boolean) d zφN zφN zri [.ref (w.2.2.2 + 33), .int v1, .int v2] s (f_X5_passOn F v1 v2 s) := by
  refine zMtN_of (own := RX5) rfl (by decide +kernel) (Nat.le_of_ble_eq_true rfl) cd_X5_passOn [(0, .ref (w.2.2.2 + 33)), (1, .int v1), (2, .int v2)] rfl ?_
  rintro a rfl K
  unfold f_X5_passOn
  refine z_iconst K ci_0 dX5_passOn_0 ?_
  refine z_istore_n K (lv' := [(3, .int (0 : Int32)), (0, .ref (a.1.2.2.2 + 33)), (1, .int v1), (2, .int v2)]) dX5_passOn_1 rfl (Nat.le_of_ble_eq_true rfl) rfl ?_
  refine z_iconst K ci_0 dX5_passOn_2 ?_
  refine z_istore K (lv' := [(4, .int (0 : Int32)), (3, .int (0 : Int32)), (0, .ref (a.1.2.2.2 + 33)), (1, .int v1), (2, .int v2)]) dX5_passOn_3 (Nat.le_of_ble_eq_true rfl) rfl ?_
  refine z_sub [2, 3, 4, 1, 0] rfl ?_
  refine t_X5_passOn_L5 F K hd v1 v2 (fun y25 s24 => ?_) F (0 : Int32) (0 : Int32) s
  refine z_iload_n K 0 rfl dX5_passOn_125 ?_
  exact z_zretc K dX5_passOn_126
def f_X5_spread_L2 (F : Nat) (k37 : zM → Option (Unit × zM)) (v1 : Int32) (v2 : Int32) : Nat → Int32 → zM → Option (Unit × zM)
  | 0, _, _ => none
  | n + 1, v3, s =>
    if v3 < (16 : Int32) then
      if v3 = v1 then
        if zin v3 16 = true then
          lt (zs s 40 (v3).toNatClampNeg v2) (fun s4 =>
          if zin v3 16 = true then
            lt (zs s4 41 (v3).toNatClampNeg (-1 : Int32)) (fun s5 =>
            lt (v3 + (1 : Int32)) (fun y6 =>
            f_X5_spread_L2 F k37 v1 v2 n y6 s5))
          else none)
        else none
      else
        if zin v3 16 = true then
          lt (zs s 40 (v3).toNatClampNeg (-1 : Int32)) (fun s1 =>
          if zin v3 16 = true then
            lt (zs s1 41 (v3).toNatClampNeg (-1 : Int32)) (fun s2 =>
            lt (v3 + (1 : Int32)) (fun y3 =>
            f_X5_spread_L2 F k37 v1 v2 n y3 s2))
          else none)
        else none
    else
      k37 s
set_option maxRecDepth 100000 in
set_option maxHeartbeats 4000000 in
theorem t_X5_spread_L2 {a : zA} {d : Nat} (F : Nat) (K : zOK a cX5_spread 6 RX5 none d) (hd : 5 ≤ d) {k37 : zM → Option (Unit × zM)} (v1 : Int32) (v2 : Int32) (h37 : ∀ (s : zM), zJ a 6 (zG a zφN zrv) zφN 37 [(0, .ref (a.1.2.2.2 + 33)), (2, .int v2)] [] s (k37 s)) : ∀ (n : Nat) (v3 : Int32) (s : zM), zJ a 6 (zG a zφN zrv) zφN 2 [(0, .ref (a.1.2.2.2 + 33)), (1, .int v1), (2, .int v2), (3, .int v3)] [] s (f_X5_spread_L2 F k37 v1 v2 n v3 s) := by
  intro n
  induction n with
  | zero => intros; exact z_none
  | succ n ih =>
    intro v3 s
    rw [f_X5_spread_L2]
    refine z_iload_n K 3 rfl dX5_spread_2 ?_
    refine z_bipush K cb_16 dX5_spread_3 ?_
    refine z_icmp_ge K (tgt := 37) dX5_spread_5 (by decide) ?_ ?_
    · refine z_sub [0, 2] rfl ?_
      exact h37 s
    · refine z_aload_n K 0 rfl dX5_spread_8 ?_
      refine z_getr K fd_X5_32 ob_33_8 dX5_spread_9 ?_
      refine z_iload_n K 3 rfl dX5_spread_12 ?_
      refine z_iload_n K 3 rfl dX5_spread_13 ?_
      refine z_iload_n K 1 rfl dX5_spread_14 ?_
      refine z_icmp_ne K (tgt := 22) dX5_spread_15 (by decide) ?_ ?_
      · refine z_iconst K ci_m1 dX5_spread_22 ?_
        refine z_iast K ar_40 dX5_spread_23 ?_
        refine z_ltm (fun s1 => ?_)
        refine z_aload_n K 0 rfl dX5_spread_24 ?_
        refine z_getr K fd_X5_35 ob_33_9 dX5_spread_25 ?_
        refine z_iload_n K 3 rfl dX5_spread_28 ?_
        refine z_iconst K ci_m1 dX5_spread_29 ?_
        refine z_iast K ar_41 dX5_spread_30 ?_
        refine z_ltm (fun s2 => ?_)
        refine z_iincN K (j := 3) (lv' := [(0, .ref (a.1.2.2.2 + 33)), (1, .int v1), (2, .int v2)]) ci_1 rfl dX5_spread_31 (Nat.le_of_ble_eq_true rfl) rfl (fun y3 => ?_)
        refine z_goto K (tgt := 2) dX5_spread_34 (by decide) ?_
        refine z_sub [1, 2, 3, 0] rfl ?_
        exact ih y3 s2
      · refine z_iload_n K 2 rfl dX5_spread_18 ?_
        refine z_goto K (tgt := 23) dX5_spread_19 (by decide) ?_
        refine z_iast K ar_40 dX5_spread_23 ?_
        refine z_ltm (fun s4 => ?_)
        refine z_aload_n K 0 rfl dX5_spread_24 ?_
        refine z_getr K fd_X5_35 ob_33_9 dX5_spread_25 ?_
        refine z_iload_n K 3 rfl dX5_spread_28 ?_
        refine z_iconst K ci_m1 dX5_spread_29 ?_
        refine z_iast K ar_41 dX5_spread_30 ?_
        refine z_ltm (fun s5 => ?_)
        refine z_iincN K (j := 3) (lv' := [(0, .ref (a.1.2.2.2 + 33)), (1, .int v1), (2, .int v2)]) ci_1 rfl dX5_spread_31 (Nat.le_of_ble_eq_true rfl) rfl (fun y6 => ?_)
        refine z_goto K (tgt := 2) dX5_spread_34 (by decide) ?_
        refine z_sub [1, 2, 3, 0] rfl ?_
        exact ih y6 s5
def f_X5_spread_L58 (F : Nat) (k112 : Int32 → zM → Option (Unit × zM)) (v2 : Int32) (v4 : Int32) : Nat → Int32 → Int32 → zM → Option (Unit × zM)
  | 0, _, _, _ => none
  | n + 1, v3, v5, s =>
    bnd (f_X0_number s) (fun r9 s8 =>
    if v5 < r9 then
      if v5 < (16 : Int32) then
        if zin v5 16 = true then
          if (zg s8 40 (v5).toNatClampNeg) = (v2 + v4) then
            bnd (f_X5_passOn F v5 (v2 + v4) s8) (fun r12 s11 =>
            if r12 = 0 then
              lt (v5 + (1 : Int32)) (fun y13 =>
              f_X5_spread_L58 F k112 v2 v4 n v3 y13 s11)
            else
              lt (v5 + (1 : Int32)) (fun y14 =>
              f_X5_spread_L58 F k112 v2 v4 n (1 : Int32) y14 s11))
          else
            lt (v5 + (1 : Int32)) (fun y10 =>
            f_X5_spread_L58 F k112 v2 v4 n v3 y10 s8)
        else none
      else
        k112 v3 s8
    else
      k112 v3 s8)
set_option maxRecDepth 100000 in
set_option maxHeartbeats 4000000 in
theorem t_X5_spread_L58 {a : zA} {d : Nat} (F : Nat) (K : zOK a cX5_spread 6 RX5 none d) (hd : 5 ≤ d) {k112 : Int32 → zM → Option (Unit × zM)} (v2 : Int32) (v4 : Int32) (h112 : ∀ (v3 : Int32) (s : zM), zJ a 6 (zG a zφN zrv) zφN 112 [(0, .ref (a.1.2.2.2 + 33)), (2, .int v2), (3, .int v3), (4, .int v4)] [] s (k112 v3 s)) : ∀ (n : Nat) (v3 : Int32) (v5 : Int32) (s : zM), zJ a 6 (zG a zφN zrv) zφN 58 [(0, .ref (a.1.2.2.2 + 33)), (2, .int v2), (3, .int v3), (4, .int v4), (5, .int v5)] [] s (f_X5_spread_L58 F k112 v2 v4 n v3 v5 s) := by
  intro n
  induction n with
  | zero => intros; exact z_none
  | succ n ih =>
    intro v3 v5 s
    rw [f_X5_spread_L58]
    refine z_iload K 4 rfl dX5_spread_58 ?_
    refine z_aload_n K 0 rfl dX5_spread_60 ?_
    refine z_getr K fd_X5_38 ob_33_0 dX5_spread_61 ?_
    refine z_cVi (As := []) (rest := [.int v5]) K (t_X0_number a.1 (d - 1) (by omega) s) mf_X0_number ml_X5_59 (Nat.le_of_ble_eq_true rfl) (by omega) rfl rc_3 rfl (Nat.le_of_ble_eq_true rfl) dX5_spread_64 (fun r9 s8 => ?_)
    refine z_icmp_ge K (tgt := 112) dX5_spread_67 (by decide) ?_ ?_
    · refine z_sub [0, 1, 2, 3] rfl ?_
      exact h112 v3 s8
    · refine z_iload K 4 rfl dX5_spread_70 ?_
      refine z_bipush K cb_16 dX5_spread_72 ?_
      refine z_icmp_ge K (tgt := 112) dX5_spread_74 (by decide) ?_ ?_
      · refine z_sub [0, 1, 2, 3] rfl ?_
        exact h112 v3 s8
      · refine z_aload_n K 0 rfl dX5_spread_77 ?_
        refine z_getr K fd_X5_32 ob_33_8 dX5_spread_78 ?_
        refine z_iload K 4 rfl dX5_spread_81 ?_
        refine z_iald K ar_40 dX5_spread_83 ?_
        refine z_iload_n K 1 rfl dX5_spread_84 ?_
        refine z_iload K 3 rfl dX5_spread_85 ?_
        refine z_iadd K dX5_spread_87 ?_
        refine z_icmp_ne K (tgt := 106) dX5_spread_88 (by decide) ?_ ?_
        · refine z_iincN K (j := 4) (lv' := [(0, .ref (a.1.2.2.2 + 33)), (2, .int v2), (3, .int v3), (4, .int v4)]) ci_1 rfl dX5_spread_106 (Nat.le_of_ble_eq_true rfl) rfl (fun y10 => ?_)
          refine z_goto K (tgt := 58) dX5_spread_109 (by decide) ?_
          refine z_sub [1, 2, 3, 4, 0] rfl ?_
          exact ih v3 y10 s8
        · refine z_aload_n K 0 rfl dX5_spread_91 ?_
          refine z_iload K 4 rfl dX5_spread_92 ?_
          refine z_iload_n K 1 rfl dX5_spread_94 ?_
          refine z_iload K 3 rfl dX5_spread_95 ?_
          refine z_iadd K dX5_spread_97 ?_
          refine z_cVi (As := [.int v5, .int (v2 + v4)]) (rest := []) K (t_X5_passOn a.1 F (d - 1) (by omega) v5 (v2 + v4) s8) mf_X5_passOn ml_X5_63 (Nat.le_of_ble_eq_true rfl) (by omega) rfl rc_33 rfl (Nat.le_of_ble_eq_true rfl) dX5_spread_98 (fun r12 s11 => ?_)
          refine z_if_eq K (tgt := 106) dX5_spread_101 (by decide) ?_ ?_
          · refine z_iincN K (j := 4) (lv' := [(0, .ref (a.1.2.2.2 + 33)), (2, .int v2), (3, .int v3), (4, .int v4)]) ci_1 rfl dX5_spread_106 (Nat.le_of_ble_eq_true rfl) rfl (fun y13 => ?_)
            refine z_goto K (tgt := 58) dX5_spread_109 (by decide) ?_
            refine z_sub [1, 2, 3, 4, 0] rfl ?_
            exact ih v3 y13 s11
          · refine z_iconst K ci_1 dX5_spread_104 ?_
            refine z_istore_n K (lv' := [(3, .int (1 : Int32)), (0, .ref (a.1.2.2.2 + 33)), (2, .int v2), (4, .int v4), (5, .int v5)]) dX5_spread_105 rfl (Nat.le_of_ble_eq_true rfl) rfl ?_
            refine z_iincN K (j := 4) (lv' := [(3, .int (1 : Int32)), (0, .ref (a.1.2.2.2 + 33)), (2, .int v2), (4, .int v4)]) ci_1 rfl dX5_spread_106 (Nat.le_of_ble_eq_true rfl) rfl (fun y14 => ?_)
            refine z_goto K (tgt := 58) dX5_spread_109 (by decide) ?_
            refine z_sub [2, 3, 1, 4, 0] rfl ?_
            exact ih (1 : Int32) y14 s11
def f_X5_spread_L42 (F : Nat) (k118 : zM → Option (Unit × zM)) (v2 : Int32) : Nat → Int32 → Int32 → zM → Option (Unit × zM)
  | 0, _, _, _ => none
  | n + 1, v3, v4, s =>
    if v4 < (16 : Int32) then
      if v3 = 0 then
        k118 s
      else
        f_X5_spread_L58 F (fun y16 s15 =>
          lt (v4 + (1 : Int32)) (fun y17 =>
          f_X5_spread_L42 F k118 v2 n y16 y17 s15)) v2 v4 F (0 : Int32) (0 : Int32) s
    else
      k118 s
set_option maxRecDepth 100000 in
set_option maxHeartbeats 4000000 in
theorem t_X5_spread_L42 {a : zA} {d : Nat} (F : Nat) (K : zOK a cX5_spread 6 RX5 none d) (hd : 5 ≤ d) {k118 : zM → Option (Unit × zM)} (v2 : Int32) (h118 : ∀ (s : zM), zJ a 6 (zG a zφN zrv) zφN 118 [] [] s (k118 s)) : ∀ (n : Nat) (v3 : Int32) (v4 : Int32) (s : zM), zJ a 6 (zG a zφN zrv) zφN 42 [(0, .ref (a.1.2.2.2 + 33)), (2, .int v2), (3, .int v3), (4, .int v4)] [] s (f_X5_spread_L42 F k118 v2 n v3 v4 s) := by
  intro n
  induction n with
  | zero => intros; exact z_none
  | succ n ih =>
    intro v3 v4 s
    rw [f_X5_spread_L42]
    refine z_iload K 3 rfl dX5_spread_42 ?_
    refine z_bipush K cb_16 dX5_spread_44 ?_
    refine z_icmp_ge K (tgt := 118) dX5_spread_46 (by decide) ?_ ?_
    · refine z_sub [] rfl ?_
      exact h118 s
    · refine z_iload_n K 2 rfl dX5_spread_49 ?_
      refine z_if_eq K (tgt := 118) dX5_spread_50 (by decide) ?_ ?_
      · refine z_sub [] rfl ?_
        exact h118 s
      · refine z_iconst K ci_0 dX5_spread_53 ?_
        refine z_istore_n K (lv' := [(3, .int (0 : Int32)), (0, .ref (a.1.2.2.2 + 33)), (2, .int v2), (4, .int v4)]) dX5_spread_54 rfl (Nat.le_of_ble_eq_true rfl) rfl ?_
        refine z_iconst K ci_0 dX5_spread_55 ?_
        refine z_istore K (lv' := [(5, .int (0 : Int32)), (3, .int (0 : Int32)), (0, .ref (a.1.2.2.2 + 33)), (2, .int v2), (4, .int v4)]) dX5_spread_56 (Nat.le_of_ble_eq_true rfl) rfl ?_
        refine z_sub [2, 3, 1, 4, 0] rfl ?_
        refine t_X5_spread_L58 F K hd v2 v4 (fun y16 s15 => ?_) F (0 : Int32) (0 : Int32) s
        refine z_iincN K (j := 3) (lv' := [(0, .ref (a.1.2.2.2 + 33)), (2, .int v2), (3, .int y16)]) ci_1 rfl dX5_spread_112 (Nat.le_of_ble_eq_true rfl) rfl (fun y17 => ?_)
        refine z_goto K (tgt := 42) dX5_spread_115 (by decide) ?_
        refine z_sub [1, 2, 3, 0] rfl ?_
        exact ih y16 y17 s15
def f_X5_spread (F : Nat) (v1 : Int32) (v2 : Int32) (s : zM) : Option (Unit × zM) :=
  f_X5_spread_L2 F (fun s7 =>
    f_X5_spread_L42 F (fun s18 =>
      some ((), s18)) v2 F (1 : Int32) (0 : Int32) s7) v1 v2 F (0 : Int32) s
set_option maxRecDepth 100000 in
set_option maxHeartbeats 4000000 in
theorem t_X5_spread (w : zWd) (F : Nat) (d : Nat) (hd : 5 ≤ d) (v1 : Int32) (v2 : Int32) (s : zM) : zMt w yX5_spread cX5_spread 6 none d zφN zφN zrv [.ref (w.2.2.2 + 33), .int v1, .int v2] s (f_X5_spread F v1 v2 s) := by
  refine zMtN_of (own := RX5) rfl (by decide +kernel) (Nat.le_of_ble_eq_true rfl) cd_X5_spread [(0, .ref (w.2.2.2 + 33)), (1, .int v1), (2, .int v2)] rfl ?_
  rintro a rfl K
  unfold f_X5_spread
  refine z_iconst K ci_0 dX5_spread_0 ?_
  refine z_istore_n K (lv' := [(3, .int (0 : Int32)), (0, .ref (a.1.2.2.2 + 33)), (1, .int v1), (2, .int v2)]) dX5_spread_1 rfl (Nat.le_of_ble_eq_true rfl) rfl ?_
  refine z_sub [1, 2, 3, 0] rfl ?_
  refine t_X5_spread_L2 F K hd v1 v2 (fun s7 => ?_) F (0 : Int32) s
  refine z_iconst K ci_1 dX5_spread_37 ?_
  refine z_istore_n K (lv' := [(3, .int (1 : Int32)), (0, .ref (a.1.2.2.2 + 33)), (2, .int v2)]) dX5_spread_38 rfl (Nat.le_of_ble_eq_true rfl) rfl ?_
  refine z_iconst K ci_0 dX5_spread_39 ?_
  refine z_istore K (lv' := [(4, .int (0 : Int32)), (3, .int (1 : Int32)), (0, .ref (a.1.2.2.2 + 33)), (2, .int v2)]) dX5_spread_40 (Nat.le_of_ble_eq_true rfl) rfl ?_
  refine z_sub [2, 3, 1, 0] rfl ?_
  refine t_X5_spread_L42 F K hd v2 (fun s18 => ?_) F (1 : Int32) (0 : Int32) s7
  exact z_vret K dX5_spread_118
def f_X5_minuteOf (v1 : Int32) (s : zM) : Option (Int32 × zM) :=
  if v1 < 0 then
    some ((-1 : Int32), s)
  else
    if v1 < (16 : Int32) then
      if zin v1 16 = true then
        some ((zg s 40 (v1).toNatClampNeg), s)
      else none
    else
      some ((-1 : Int32), s)
set_option maxRecDepth 100000 in
set_option maxHeartbeats 4000000 in
theorem t_X5_minuteOf (w : zWd) (d : Nat) (hd : 0 ≤ d) (v1 : Int32) (s : zM) : zMt w yX5_minuteOf cX5_minuteOf 2 (some .int) d zφN zφN zri [.ref (w.2.2.2 + 33), .int v1] s (f_X5_minuteOf v1 s) := by
  refine zMtN_of (own := RX5) rfl (by decide +kernel) (Nat.le_of_ble_eq_true rfl) cd_X5_minuteOf [(0, .ref (w.2.2.2 + 33)), (1, .int v1)] rfl ?_
  rintro a rfl K
  unfold f_X5_minuteOf
  refine z_iload_n K 1 rfl dX5_minuteOf_0 ?_
  refine z_if_lt K (tgt := 19) dX5_minuteOf_1 (by decide) ?_ ?_
  · refine z_iconst K ci_m1 dX5_minuteOf_19 ?_
    exact z_iret K dX5_minuteOf_20
  · refine z_iload_n K 1 rfl dX5_minuteOf_4 ?_
    refine z_bipush K cb_16 dX5_minuteOf_5 ?_
    refine z_icmp_ge K (tgt := 19) dX5_minuteOf_7 (by decide) ?_ ?_
    · refine z_iconst K ci_m1 dX5_minuteOf_19 ?_
      exact z_iret K dX5_minuteOf_20
    · refine z_aload_n K 0 rfl dX5_minuteOf_10 ?_
      refine z_getr K fd_X5_32 ob_33_8 dX5_minuteOf_11 ?_
      refine z_iload_n K 1 rfl dX5_minuteOf_14 ?_
      refine z_iald K ar_40 dX5_minuteOf_15 ?_
      refine z_goto K (tgt := 20) dX5_minuteOf_16 (by decide) ?_
      exact z_iret K dX5_minuteOf_20
def f_X5_teller (v1 : Int32) (s : zM) : Option (Int32 × zM) :=
  if v1 < 0 then
    some ((-1 : Int32), s)
  else
    if v1 < (16 : Int32) then
      if zin v1 16 = true then
        some ((zg s 41 (v1).toNatClampNeg), s)
      else none
    else
      some ((-1 : Int32), s)
set_option maxRecDepth 100000 in
set_option maxHeartbeats 4000000 in
theorem t_X5_teller (w : zWd) (d : Nat) (hd : 0 ≤ d) (v1 : Int32) (s : zM) : zMt w yX5_teller cX5_teller 2 (some .int) d zφN zφN zri [.ref (w.2.2.2 + 33), .int v1] s (f_X5_teller v1 s) := by
  refine zMtN_of (own := RX5) rfl (by decide +kernel) (Nat.le_of_ble_eq_true rfl) cd_X5_teller [(0, .ref (w.2.2.2 + 33)), (1, .int v1)] rfl ?_
  rintro a rfl K
  unfold f_X5_teller
  refine z_iload_n K 1 rfl dX5_teller_0 ?_
  refine z_if_lt K (tgt := 19) dX5_teller_1 (by decide) ?_ ?_
  · refine z_iconst K ci_m1 dX5_teller_19 ?_
    exact z_iret K dX5_teller_20
  · refine z_iload_n K 1 rfl dX5_teller_4 ?_
    refine z_bipush K cb_16 dX5_teller_5 ?_
    refine z_icmp_ge K (tgt := 19) dX5_teller_7 (by decide) ?_ ?_
    · refine z_iconst K ci_m1 dX5_teller_19 ?_
      exact z_iret K dX5_teller_20
    · refine z_aload_n K 0 rfl dX5_teller_10 ?_
      refine z_getr K fd_X5_35 ob_33_9 dX5_teller_11 ?_
      refine z_iload_n K 1 rfl dX5_teller_14 ?_
      refine z_iald K ar_41 dX5_teller_15 ?_
      refine z_goto K (tgt := 20) dX5_teller_16 (by decide) ?_
      exact z_iret K dX5_teller_20
def f_X5_howMany_L4 (F : Nat) (k29 : Int32 → zM → Option (Int32 × zM)) : Nat → Int32 → Int32 → zM → Option (Int32 × zM)
  | 0, _, _, _ => none
  | n + 1, v1, v2, s =>
    if v2 < (16 : Int32) then
      if zin v2 16 = true then
        if (zg s 40 (v2).toNatClampNeg) = (-1 : Int32) then
          lt (v2 + (1 : Int32)) (fun y1 =>
          f_X5_howMany_L4 F k29 n v1 y1 s)
        else
          lt (v1 + (1 : Int32)) (fun y2 =>
          lt (v2 + (1 : Int32)) (fun y3 =>
          f_X5_howMany_L4 F k29 n y2 y3 s))
      else none
    else
      k29 v1 s
set_option maxRecDepth 100000 in
set_option maxHeartbeats 4000000 in
theorem t_X5_howMany_L4 {a : zA} {d : Nat} (F : Nat) (K : zOK a cX5_howMany 3 RX5 (some .int) d) (hd : 0 ≤ d) {k29 : Int32 → zM → Option (Int32 × zM)} (h29 : ∀ (v1 : Int32) (s : zM), zJ a 3 (zG a zφN zri) zφN 29 [(1, .int v1)] [] s (k29 v1 s)) : ∀ (n : Nat) (v1 : Int32) (v2 : Int32) (s : zM), zJ a 3 (zG a zφN zri) zφN 4 [(0, .ref (a.1.2.2.2 + 33)), (1, .int v1), (2, .int v2)] [] s (f_X5_howMany_L4 F k29 n v1 v2 s) := by
  intro n
  induction n with
  | zero => intros; exact z_none
  | succ n ih =>
    intro v1 v2 s
    rw [f_X5_howMany_L4]
    refine z_iload_n K 2 rfl dX5_howMany_4 ?_
    refine z_bipush K cb_16 dX5_howMany_5 ?_
    refine z_icmp_ge K (tgt := 29) dX5_howMany_7 (by decide) ?_ ?_
    · refine z_sub [1] rfl ?_
      exact h29 v1 s
    · refine z_aload_n K 0 rfl dX5_howMany_10 ?_
      refine z_getr K fd_X5_32 ob_33_8 dX5_howMany_11 ?_
      refine z_iload_n K 2 rfl dX5_howMany_14 ?_
      refine z_iald K ar_40 dX5_howMany_15 ?_
      refine z_iconst K ci_m1 dX5_howMany_16 ?_
      refine z_icmp_eq K (tgt := 23) dX5_howMany_17 (by decide) ?_ ?_
      · refine z_iincN K (j := 2) (lv' := [(0, .ref (a.1.2.2.2 + 33)), (1, .int v1)]) ci_1 rfl dX5_howMany_23 (Nat.le_of_ble_eq_true rfl) rfl (fun y1 => ?_)
        refine z_goto K (tgt := 4) dX5_howMany_26 (by decide) ?_
        refine z_sub [1, 2, 0] rfl ?_
        exact ih v1 y1 s
      · refine z_iincN K (j := 1) (lv' := [(0, .ref (a.1.2.2.2 + 33)), (2, .int v2)]) ci_1 rfl dX5_howMany_20 (Nat.le_of_ble_eq_true rfl) rfl (fun y2 => ?_)
        refine z_iincN K (j := 2) (lv' := [(1, .int y2), (0, .ref (a.1.2.2.2 + 33))]) ci_1 rfl dX5_howMany_23 (Nat.le_of_ble_eq_true rfl) rfl (fun y3 => ?_)
        refine z_goto K (tgt := 4) dX5_howMany_26 (by decide) ?_
        refine z_sub [2, 1, 0] rfl ?_
        exact ih y2 y3 s
def f_X5_howMany (F : Nat) (s : zM) : Option (Int32 × zM) :=
  f_X5_howMany_L4 F (fun y5 s4 =>
    some (y5, s4)) F (0 : Int32) (0 : Int32) s
set_option maxRecDepth 100000 in
set_option maxHeartbeats 4000000 in
theorem t_X5_howMany (w : zWd) (F : Nat) (d : Nat) (hd : 0 ≤ d) (s : zM) : zMt w yX5_howMany cX5_howMany 3 (some .int) d zφN zφN zri [.ref (w.2.2.2 + 33)] s (f_X5_howMany F s) := by
  refine zMtN_of (own := RX5) rfl (by decide +kernel) (Nat.le_of_ble_eq_true rfl) cd_X5_howMany [(0, .ref (w.2.2.2 + 33))] rfl ?_
  rintro a rfl K
  unfold f_X5_howMany
  refine z_iconst K ci_0 dX5_howMany_0 ?_
  refine z_istore_n K (lv' := [(1, .int (0 : Int32)), (0, .ref (a.1.2.2.2 + 33))]) dX5_howMany_1 rfl (Nat.le_of_ble_eq_true rfl) rfl ?_
  refine z_iconst K ci_0 dX5_howMany_2 ?_
  refine z_istore_n K (lv' := [(2, .int (0 : Int32)), (1, .int (0 : Int32)), (0, .ref (a.1.2.2.2 + 33))]) dX5_howMany_3 rfl (Nat.le_of_ble_eq_true rfl) rfl ?_
  refine z_sub [2, 1, 0] rfl ?_
  refine t_X5_howMany_L4 F K hd (fun y5 s4 => ?_) F (0 : Int32) (0 : Int32) s
  refine z_iload_n K 0 rfl dX5_howMany_29 ?_
  exact z_iret K dX5_howMany_30
def f_X5_lastMinute_L4 (F : Nat) (k27 : Int32 → zM → Option (Int32 × zM)) : Nat → Int32 → Int32 → zM → Option (Int32 × zM)
  | 0, _, _, _ => none
  | n + 1, v1, v2, s =>
    if v2 < (16 : Int32) then
      if zin v2 16 = true then
        lt ((if v1 < (zg s 40 (v2).toNatClampNeg) then (zg s 40 (v2).toNatClampNeg) else v1)) (fun y1 =>
        lt (v2 + (1 : Int32)) (fun y2 =>
        f_X5_lastMinute_L4 F k27 n y1 y2 s))
      else none
    else
      k27 v1 s
set_option maxRecDepth 100000 in
set_option maxHeartbeats 4000000 in
theorem t_X5_lastMinute_L4 {a : zA} {d : Nat} (F : Nat) (K : zOK a cX5_lastMinute 3 RX5 (some .int) d) (hd : 1 ≤ d) {k27 : Int32 → zM → Option (Int32 × zM)} (h27 : ∀ (v1 : Int32) (s : zM), zJ a 3 (zG a zφN zri) zφN 27 [(1, .int v1)] [] s (k27 v1 s)) : ∀ (n : Nat) (v1 : Int32) (v2 : Int32) (s : zM), zJ a 3 (zG a zφN zri) zφN 4 [(0, .ref (a.1.2.2.2 + 33)), (1, .int v1), (2, .int v2)] [] s (f_X5_lastMinute_L4 F k27 n v1 v2 s) := by
  intro n
  induction n with
  | zero => intros; exact z_none
  | succ n ih =>
    intro v1 v2 s
    rw [f_X5_lastMinute_L4]
    refine z_iload_n K 2 rfl dX5_lastMinute_4 ?_
    refine z_bipush K cb_16 dX5_lastMinute_5 ?_
    refine z_icmp_ge K (tgt := 27) dX5_lastMinute_7 (by decide) ?_ ?_
    · refine z_sub [1] rfl ?_
      exact h27 v1 s
    · refine z_iload_n K 1 rfl dX5_lastMinute_10 ?_
      refine z_aload_n K 0 rfl dX5_lastMinute_11 ?_
      refine z_getr K fd_X5_32 ob_33_8 dX5_lastMinute_12 ?_
      refine z_iload_n K 2 rfl dX5_lastMinute_15 ?_
      refine z_iald K ar_40 dX5_lastMinute_16 ?_
      refine z_max K jm_max_s jm_ini jm_max_c ml_X5_87 rfl (by omega) (Nat.le_of_ble_eq_true rfl) dX5_lastMinute_17 ?_
      refine z_topi (fun y1 => ?_)
      refine z_istore_n K (lv' := [(1, .int y1), (0, .ref (a.1.2.2.2 + 33)), (2, .int v2)]) dX5_lastMinute_20 rfl (Nat.le_of_ble_eq_true rfl) rfl ?_
      refine z_iincN K (j := 2) (lv' := [(1, .int y1), (0, .ref (a.1.2.2.2 + 33))]) ci_1 rfl dX5_lastMinute_21 (Nat.le_of_ble_eq_true rfl) rfl (fun y2 => ?_)
      refine z_goto K (tgt := 4) dX5_lastMinute_24 (by decide) ?_
      refine z_sub [2, 1, 0] rfl ?_
      exact ih y1 y2 s
def f_X5_lastMinute (F : Nat) (s : zM) : Option (Int32 × zM) :=
  f_X5_lastMinute_L4 F (fun y4 s3 =>
    some (y4, s3)) F (-1 : Int32) (0 : Int32) s
set_option maxRecDepth 100000 in
set_option maxHeartbeats 4000000 in
theorem t_X5_lastMinute (w : zWd) (F : Nat) (d : Nat) (hd : 1 ≤ d) (s : zM) : zMt w yX5_lastMinute cX5_lastMinute 3 (some .int) d zφN zφN zri [.ref (w.2.2.2 + 33)] s (f_X5_lastMinute F s) := by
  refine zMtN_of (own := RX5) rfl (by decide +kernel) (Nat.le_of_ble_eq_true rfl) cd_X5_lastMinute [(0, .ref (w.2.2.2 + 33))] rfl ?_
  rintro a rfl K
  unfold f_X5_lastMinute
  refine z_iconst K ci_m1 dX5_lastMinute_0 ?_
  refine z_istore_n K (lv' := [(1, .int (-1 : Int32)), (0, .ref (a.1.2.2.2 + 33))]) dX5_lastMinute_1 rfl (Nat.le_of_ble_eq_true rfl) rfl ?_
  refine z_iconst K ci_0 dX5_lastMinute_2 ?_
  refine z_istore_n K (lv' := [(2, .int (0 : Int32)), (1, .int (-1 : Int32)), (0, .ref (a.1.2.2.2 + 33))]) dX5_lastMinute_3 rfl (Nat.le_of_ble_eq_true rfl) rfl ?_
  refine z_sub [2, 1, 0] rfl ?_
  refine t_X5_lastMinute_L4 F K hd (fun y4 s3 => ?_) F (-1 : Int32) (0 : Int32) s
  refine z_iload_n K 0 rfl dX5_lastMinute_27 ?_
  exact z_iret K dX5_lastMinute_28
def f_X6_total_L60 (F : Nat) (k121 : Int32 → zM → Option (Int32 × zM)) (v1 : Int32) (v3 : Int32) (v4 : Int32) : Nat → Int32 → Int32 → zM → Option (Int32 × zM)
  | 0, _, _, _ => none
  | n + 1, v2, v5, s =>
    bnd (f_X0_number s) (fun r11 s10 =>
    if v5 < r11 then
      bnd (f_X0_seatOf v5 s10) (fun r13 s12 =>
      if r13 = (-1 : Int32) then
        lt (v5 + (1 : Int32)) (fun y14 =>
        f_X6_total_L60 F k121 v1 v3 v4 n v2 y14 s12)
      else
        if ((v1 >>> (v5 &&& 31)) &&& (1 : Int32)) = 0 then
          bnd (f_X1_quarrel F v3 v4 v5 r13 s12) (fun r17 s16 =>
          lt ((v2 + r17)) (fun y18 =>
          lt (v5 + (1 : Int32)) (fun y19 =>
          f_X6_total_L60 F k121 v1 v3 v4 n y18 y19 s16)))
        else
          lt (v5 + (1 : Int32)) (fun y15 =>
          f_X6_total_L60 F k121 v1 v3 v4 n v2 y15 s12))
    else
      k121 v2 s10)
set_option maxRecDepth 100000 in
set_option maxHeartbeats 4000000 in
theorem t_X6_total_L60 {a : zA} {d : Nat} (F : Nat) (K : zOK a cX6_total 7 RX6 (some .int) d) (hd : 4 ≤ d) {k121 : Int32 → zM → Option (Int32 × zM)} (v1 : Int32) (v3 : Int32) (v4 : Int32) (h121 : ∀ (v2 : Int32) (s : zM), zJ a 7 (zG a zφN zri) zφN 121 [(0, .ref (a.1.2.2.2 + 45)), (1, .int v1), (2, .int v2), (3, .int v3)] [] s (k121 v2 s)) : ∀ (n : Nat) (v2 : Int32) (v5 : Int32) (s : zM), zJ a 7 (zG a zφN zri) zφN 60 [(0, .ref (a.1.2.2.2 + 45)), (1, .int v1), (2, .int v2), (3, .int v3), (4, .int v4), (5, .int v5)] [] s (f_X6_total_L60 F k121 v1 v3 v4 n v2 v5 s) := by
  intro n
  induction n with
  | zero => intros; exact z_none
  | succ n ih =>
    intro v2 v5 s
    rw [f_X6_total_L60]
    refine z_iload K 5 rfl dX6_total_60 ?_
    refine z_aload_n K 0 rfl dX6_total_62 ?_
    refine z_getr K fd_X6_34 ob_45_0 dX6_total_63 ?_
    refine z_cVi (As := []) (rest := [.int v5]) K (t_X0_number a.1 (d - 1) (by omega) s) mf_X0_number ml_X6_42 (Nat.le_of_ble_eq_true rfl) (by omega) rfl rc_3 rfl (Nat.le_of_ble_eq_true rfl) dX6_total_66 (fun r11 s10 => ?_)
    refine z_icmp_ge K (tgt := 121) dX6_total_69 (by decide) ?_ ?_
    · refine z_sub [0, 1, 2, 3] rfl ?_
      exact h121 v2 s10
    · refine z_aload_n K 0 rfl dX6_total_72 ?_
      refine z_getr K fd_X6_34 ob_45_0 dX6_total_73 ?_
      refine z_iload K 5 rfl dX6_total_76 ?_
      refine z_cVi (As := [.int v5]) (rest := []) K (t_X0_seatOf a.1 (d - 1) (by omega) v5 s10) mf_X0_seatOf ml_X6_48 (Nat.le_of_ble_eq_true rfl) (by omega) rfl rc_3 rfl (Nat.le_of_ble_eq_true rfl) dX6_total_78 (fun r13 s12 => ?_)
      refine z_istore K (lv' := [(6, .int r13), (0, .ref (a.1.2.2.2 + 45)), (1, .int v1), (2, .int v2), (3, .int v3), (4, .int v4), (5, .int v5)]) dX6_total_81 (Nat.le_of_ble_eq_true rfl) rfl ?_
      refine z_iload K 0 rfl dX6_total_83 ?_
      refine z_iconst K ci_m1 dX6_total_85 ?_
      refine z_icmp_eq K (tgt := 115) dX6_total_86 (by decide) ?_ ?_
      · refine z_iincN K (j := 6) (lv' := [(6, .int r13), (0, .ref (a.1.2.2.2 + 45)), (1, .int v1), (2, .int v2), (3, .int v3), (4, .int v4)]) ci_1 rfl dX6_total_115 (Nat.le_of_ble_eq_true rfl) rfl (fun y14 => ?_)
        refine z_goto K (tgt := 60) dX6_total_118 (by decide) ?_
        refine z_sub [2, 3, 4, 5, 6, 0] rfl ?_
        exact ih v2 y14 s12
      · refine z_iload_n K 2 rfl dX6_total_89 ?_
        refine z_iload K 6 rfl dX6_total_90 ?_
        refine z_ishr K dX6_total_92 ?_
        refine z_iconst K ci_1 dX6_total_93 ?_
        refine z_iand K dX6_total_94 ?_
        refine z_if_ne K (tgt := 115) dX6_total_95 (by decide) ?_ ?_
        · refine z_iincN K (j := 6) (lv' := [(6, .int r13), (0, .ref (a.1.2.2.2 + 45)), (1, .int v1), (2, .int v2), (3, .int v3), (4, .int v4)]) ci_1 rfl dX6_total_115 (Nat.le_of_ble_eq_true rfl) rfl (fun y15 => ?_)
          refine z_goto K (tgt := 60) dX6_total_118 (by decide) ?_
          refine z_sub [2, 3, 4, 5, 6, 0] rfl ?_
          exact ih v2 y15 s12
        · refine z_iload_n K 3 rfl dX6_total_98 ?_
          refine z_aload_n K 1 rfl dX6_total_99 ?_
          refine z_getr K fd_X6_38 ob_45_1 dX6_total_100 ?_
          refine z_iload_n K 4 rfl dX6_total_103 ?_
          refine z_iload K 5 rfl dX6_total_104 ?_
          refine z_iload K 6 rfl dX6_total_106 ?_
          refine z_iload K 0 rfl dX6_total_108 ?_
          refine z_cVi (As := [.int v3, .int v4, .int v5, .int r13]) (rest := [.int v2]) K (t_X1_quarrel a.1 F (d - 1) (by omega) v3 v4 v5 r13 s12) mf_X1_quarrel ml_X6_58 (Nat.le_of_ble_eq_true rfl) (by omega) rfl rc_12 rfl (Nat.le_of_ble_eq_true rfl) dX6_total_110 (fun r17 s16 => ?_)
          refine z_iadd K dX6_total_113 ?_
          refine z_topi (fun y18 => ?_)
          refine z_istore_n K (lv' := [(2, .int y18), (6, .int r13), (0, .ref (a.1.2.2.2 + 45)), (1, .int v1), (3, .int v3), (4, .int v4), (5, .int v5)]) dX6_total_114 rfl (Nat.le_of_ble_eq_true rfl) rfl ?_
          refine z_iincN K (j := 6) (lv' := [(2, .int y18), (6, .int r13), (0, .ref (a.1.2.2.2 + 45)), (1, .int v1), (3, .int v3), (4, .int v4)]) ci_1 rfl dX6_total_115 (Nat.le_of_ble_eq_true rfl) rfl (fun y19 => ?_)
          refine z_goto K (tgt := 60) dX6_total_118 (by decide) ?_
          refine z_sub [3, 4, 1, 5, 6, 0] rfl ?_
          exact ih y18 y19 s16
def f_X6_total_L4 (F : Nat) (k127 : Int32 → zM → Option (Int32 × zM)) (v1 : Int32) : Nat → Int32 → Int32 → zM → Option (Int32 × zM)
  | 0, _, _, _ => none
  | n + 1, v2, v3, s =>
    bnd (f_X0_number s) (fun r2 s1 =>
    if v3 < r2 then
      bnd (f_X0_seatOf v3 s1) (fun r4 s3 =>
      if r4 = (-1 : Int32) then
        lt (v3 + (1 : Int32)) (fun y5 =>
        f_X6_total_L4 F k127 v1 n v2 y5 s3)
      else
        if ((v1 >>> (v3 &&& 31)) &&& (1 : Int32)) = 0 then
          bnd (f_X1_value F v3 r4 s3) (fun r7 s6 =>
          lt ((v2 - r7)) (fun y8 =>
          lt ((v3 + (1 : Int32))) (fun y9 =>
          f_X6_total_L60 F (fun y21 s20 =>
            lt (v3 + (1 : Int32)) (fun y22 =>
            f_X6_total_L4 F k127 v1 n y21 y22 s20)) v1 v3 r4 F y8 y9 s6)))
        else
          lt (v3 + (1 : Int32)) (fun y23 =>
          f_X6_total_L4 F k127 v1 n v2 y23 s3))
    else
      k127 v2 s1)
set_option maxRecDepth 100000 in
set_option maxHeartbeats 4000000 in
theorem t_X6_total_L4 {a : zA} {d : Nat} (F : Nat) (K : zOK a cX6_total 7 RX6 (some .int) d) (hd : 4 ≤ d) {k127 : Int32 → zM → Option (Int32 × zM)} (v1 : Int32) (h127 : ∀ (v2 : Int32) (s : zM), zJ a 7 (zG a zφN zri) zφN 127 [(2, .int v2)] [] s (k127 v2 s)) : ∀ (n : Nat) (v2 : Int32) (v3 : Int32) (s : zM), zJ a 7 (zG a zφN zri) zφN 4 [(0, .ref (a.1.2.2.2 + 45)), (1, .int v1), (2, .int v2), (3, .int v3)] [] s (f_X6_total_L4 F k127 v1 n v2 v3 s) := by
  intro n
  induction n with
  | zero => intros; exact z_none
  | succ n ih =>
    intro v2 v3 s
    rw [f_X6_total_L4]
    refine z_iload_n K 3 rfl dX6_total_4 ?_
    refine z_aload_n K 0 rfl dX6_total_5 ?_
    refine z_getr K fd_X6_34 ob_45_0 dX6_total_6 ?_
    refine z_cVi (As := []) (rest := [.int v3]) K (t_X0_number a.1 (d - 1) (by omega) s) mf_X0_number ml_X6_42 (Nat.le_of_ble_eq_true rfl) (by omega) rfl rc_3 rfl (Nat.le_of_ble_eq_true rfl) dX6_total_9 (fun r2 s1 => ?_)
    refine z_icmp_ge K (tgt := 127) dX6_total_12 (by decide) ?_ ?_
    · refine z_sub [2] rfl ?_
      exact h127 v2 s1
    · refine z_aload_n K 0 rfl dX6_total_15 ?_
      refine z_getr K fd_X6_34 ob_45_0 dX6_total_16 ?_
      refine z_iload_n K 3 rfl dX6_total_19 ?_
      refine z_cVi (As := [.int v3]) (rest := []) K (t_X0_seatOf a.1 (d - 1) (by omega) v3 s1) mf_X0_seatOf ml_X6_48 (Nat.le_of_ble_eq_true rfl) (by omega) rfl rc_3 rfl (Nat.le_of_ble_eq_true rfl) dX6_total_20 (fun r4 s3 => ?_)
      refine z_istore K (lv' := [(4, .int r4), (0, .ref (a.1.2.2.2 + 45)), (1, .int v1), (2, .int v2), (3, .int v3)]) dX6_total_23 (Nat.le_of_ble_eq_true rfl) rfl ?_
      refine z_iload K 0 rfl dX6_total_25 ?_
      refine z_iconst K ci_m1 dX6_total_27 ?_
      refine z_icmp_eq K (tgt := 121) dX6_total_28 (by decide) ?_ ?_
      · refine z_iincN K (j := 4) (lv' := [(4, .int r4), (0, .ref (a.1.2.2.2 + 45)), (1, .int v1), (2, .int v2)]) ci_1 rfl dX6_total_121 (Nat.le_of_ble_eq_true rfl) rfl (fun y5 => ?_)
        refine z_goto K (tgt := 4) dX6_total_124 (by decide) ?_
        refine z_sub [2, 3, 4, 0] rfl ?_
        exact ih v2 y5 s3
      · refine z_iload_n K 2 rfl dX6_total_31 ?_
        refine z_iload_n K 4 rfl dX6_total_32 ?_
        refine z_ishr K dX6_total_33 ?_
        refine z_iconst K ci_1 dX6_total_34 ?_
        refine z_iand K dX6_total_35 ?_
        refine z_if_eq K (tgt := 42) dX6_total_36 (by decide) ?_ ?_
        · refine z_iload_n K 3 rfl dX6_total_42 ?_
          refine z_aload_n K 1 rfl dX6_total_43 ?_
          refine z_getr K fd_X6_38 ob_45_1 dX6_total_44 ?_
          refine z_iload_n K 4 rfl dX6_total_47 ?_
          refine z_iload K 0 rfl dX6_total_48 ?_
          refine z_cVi (As := [.int v3, .int r4]) (rest := [.int v2]) K (t_X1_value a.1 F (d - 1) (by omega) v3 r4 s3) mf_X1_value ml_X6_52 (Nat.le_of_ble_eq_true rfl) (by omega) rfl rc_12 rfl (Nat.le_of_ble_eq_true rfl) dX6_total_50 (fun r7 s6 => ?_)
          refine z_isub K dX6_total_53 ?_
          refine z_topi (fun y8 => ?_)
          refine z_istore_n K (lv' := [(2, .int y8), (4, .int r4), (0, .ref (a.1.2.2.2 + 45)), (1, .int v1), (3, .int v3)]) dX6_total_54 rfl (Nat.le_of_ble_eq_true rfl) rfl ?_
          refine z_iload_n K 4 rfl dX6_total_55 ?_
          refine z_iconst K ci_1 dX6_total_56 ?_
          refine z_iadd K dX6_total_57 ?_
          refine z_topi (fun y9 => ?_)
          refine z_istore K (lv' := [(5, .int y9), (2, .int y8), (4, .int r4), (0, .ref (a.1.2.2.2 + 45)), (1, .int v1), (3, .int v3)]) dX6_total_58 (Nat.le_of_ble_eq_true rfl) rfl ?_
          refine z_sub [3, 4, 1, 5, 2, 0] rfl ?_
          refine t_X6_total_L60 F K hd v1 v3 r4 (fun y21 s20 => ?_) F y8 y9 s6
          refine z_iincN K (j := 3) (lv' := [(0, .ref (a.1.2.2.2 + 45)), (1, .int v1), (2, .int y21)]) ci_1 rfl dX6_total_121 (Nat.le_of_ble_eq_true rfl) rfl (fun y22 => ?_)
          refine z_goto K (tgt := 4) dX6_total_124 (by decide) ?_
          refine z_sub [1, 2, 3, 0] rfl ?_
          exact ih y21 y22 s20
        · refine z_goto K (tgt := 121) dX6_total_39 (by decide) ?_
          refine z_iincN K (j := 4) (lv' := [(4, .int r4), (0, .ref (a.1.2.2.2 + 45)), (1, .int v1), (2, .int v2)]) ci_1 rfl dX6_total_121 (Nat.le_of_ble_eq_true rfl) rfl (fun y23 => ?_)
          refine z_goto K (tgt := 4) dX6_total_124 (by decide) ?_
          refine z_sub [2, 3, 4, 0] rfl ?_
          exact ih v2 y23 s3
def f_X6_total (F : Nat) (v1 : Int32) (s : zM) : Option (Int32 × zM) :=
  f_X6_total_L4 F (fun y25 s24 =>
    some (y25, s24)) v1 F (0 : Int32) (0 : Int32) s
set_option maxRecDepth 100000 in
set_option maxHeartbeats 4000000 in
theorem t_X6_total (w : zWd) (F : Nat) (d : Nat) (hd : 4 ≤ d) (v1 : Int32) (s : zM) : zMt w yX6_total cX6_total 7 (some .int) d zφN zφN zri [.ref (w.2.2.2 + 45), .int v1] s (f_X6_total F v1 s) := by
  refine zMtN_of (own := RX6) rfl (by decide +kernel) (Nat.le_of_ble_eq_true rfl) cd_X6_total [(0, .ref (w.2.2.2 + 45)), (1, .int v1)] rfl ?_
  rintro a rfl K
  unfold f_X6_total
  refine z_iconst K ci_0 dX6_total_0 ?_
  refine z_istore_n K (lv' := [(2, .int (0 : Int32)), (0, .ref (a.1.2.2.2 + 45)), (1, .int v1)]) dX6_total_1 rfl (Nat.le_of_ble_eq_true rfl) rfl ?_
  refine z_iconst K ci_0 dX6_total_2 ?_
  refine z_istore_n K (lv' := [(3, .int (0 : Int32)), (2, .int (0 : Int32)), (0, .ref (a.1.2.2.2 + 45)), (1, .int v1)]) dX6_total_3 rfl (Nat.le_of_ble_eq_true rfl) rfl ?_
  refine z_sub [2, 3, 1, 0] rfl ?_
  refine t_X6_total_L4 F K hd v1 (fun y25 s24 => ?_) F (0 : Int32) (0 : Int32) s
  refine z_iload_n K 0 rfl dX6_total_127 ?_
  exact z_iret K dX6_total_128
def f_X6_cost_L15 (F : Nat) (k83 : Int32 → zM → Option (Int32 × zM)) (v1 : Int32) (v2 : Int32) (v3 : Int32) : Nat → Int32 → Int32 → zM → Option (Int32 × zM)
  | 0, _, _, _ => none
  | n + 1, v4, v5, s =>
    bnd (f_X0_number s) (fun r5 s4 =>
    if v5 < r5 then
      bnd (f_X0_seatOf v5 s4) (fun r7 s6 =>
      if r7 = (-1 : Int32) then
        lt (v5 + (1 : Int32)) (fun y8 =>
        f_X6_cost_L15 F k83 v1 v2 v3 n v4 y8 s6)
      else
        if v5 = v1 then
          lt (v5 + (1 : Int32)) (fun y9 =>
          f_X6_cost_L15 F k83 v1 v2 v3 n v4 y9 s6)
        else
          if ((v3 >>> (v5 &&& 31)) &&& (1 : Int32)) = 0 then
            bnd (f_X1_quarrel F v1 v2 v5 r7 s6) (fun r12 s11 =>
            lt ((v4 + r12)) (fun y13 =>
            lt (v5 + (1 : Int32)) (fun y14 =>
            f_X6_cost_L15 F k83 v1 v2 v3 n y13 y14 s11)))
          else
            lt (v5 + (1 : Int32)) (fun y10 =>
            f_X6_cost_L15 F k83 v1 v2 v3 n v4 y10 s6))
    else
      k83 v4 s4)
set_option maxRecDepth 100000 in
set_option maxHeartbeats 4000000 in
theorem t_X6_cost_L15 {a : zA} {d : Nat} (F : Nat) (K : zOK a cX6_cost 7 RX6 (some .int) d) (hd : 4 ≤ d) {k83 : Int32 → zM → Option (Int32 × zM)} (v1 : Int32) (v2 : Int32) (v3 : Int32) (h83 : ∀ (v4 : Int32) (s : zM), zJ a 7 (zG a zφN zri) zφN 83 [(4, .int v4)] [] s (k83 v4 s)) : ∀ (n : Nat) (v4 : Int32) (v5 : Int32) (s : zM), zJ a 7 (zG a zφN zri) zφN 15 [(0, .ref (a.1.2.2.2 + 45)), (1, .int v1), (2, .int v2), (3, .int v3), (4, .int v4), (5, .int v5)] [] s (f_X6_cost_L15 F k83 v1 v2 v3 n v4 v5 s) := by
  intro n
  induction n with
  | zero => intros; exact z_none
  | succ n ih =>
    intro v4 v5 s
    rw [f_X6_cost_L15]
    refine z_iload K 5 rfl dX6_cost_15 ?_
    refine z_aload_n K 0 rfl dX6_cost_17 ?_
    refine z_getr K fd_X6_34 ob_45_0 dX6_cost_18 ?_
    refine z_cVi (As := []) (rest := [.int v5]) K (t_X0_number a.1 (d - 1) (by omega) s) mf_X0_number ml_X6_42 (Nat.le_of_ble_eq_true rfl) (by omega) rfl rc_3 rfl (Nat.le_of_ble_eq_true rfl) dX6_cost_21 (fun r5 s4 => ?_)
    refine z_icmp_ge K (tgt := 83) dX6_cost_24 (by decide) ?_ ?_
    · refine z_sub [4] rfl ?_
      exact h83 v4 s4
    · refine z_aload_n K 0 rfl dX6_cost_27 ?_
      refine z_getr K fd_X6_34 ob_45_0 dX6_cost_28 ?_
      refine z_iload K 5 rfl dX6_cost_31 ?_
      refine z_cVi (As := [.int v5]) (rest := []) K (t_X0_seatOf a.1 (d - 1) (by omega) v5 s4) mf_X0_seatOf ml_X6_48 (Nat.le_of_ble_eq_true rfl) (by omega) rfl rc_3 rfl (Nat.le_of_ble_eq_true rfl) dX6_cost_33 (fun r7 s6 => ?_)
      refine z_istore K (lv' := [(6, .int r7), (0, .ref (a.1.2.2.2 + 45)), (1, .int v1), (2, .int v2), (3, .int v3), (4, .int v4), (5, .int v5)]) dX6_cost_36 (Nat.le_of_ble_eq_true rfl) rfl ?_
      refine z_iload K 0 rfl dX6_cost_38 ?_
      refine z_iconst K ci_m1 dX6_cost_40 ?_
      refine z_icmp_eq K (tgt := 77) dX6_cost_41 (by decide) ?_ ?_
      · refine z_iincN K (j := 6) (lv' := [(6, .int r7), (0, .ref (a.1.2.2.2 + 45)), (1, .int v1), (2, .int v2), (3, .int v3), (4, .int v4)]) ci_1 rfl dX6_cost_77 (Nat.le_of_ble_eq_true rfl) rfl (fun y8 => ?_)
        refine z_goto K (tgt := 15) dX6_cost_80 (by decide) ?_
        refine z_sub [2, 3, 4, 5, 6, 0] rfl ?_
        exact ih v4 y8 s6
      · refine z_iload K 6 rfl dX6_cost_44 ?_
        refine z_iload_n K 2 rfl dX6_cost_46 ?_
        refine z_icmp_eq K (tgt := 77) dX6_cost_47 (by decide) ?_ ?_
        · refine z_iincN K (j := 6) (lv' := [(6, .int r7), (0, .ref (a.1.2.2.2 + 45)), (1, .int v1), (2, .int v2), (3, .int v3), (4, .int v4)]) ci_1 rfl dX6_cost_77 (Nat.le_of_ble_eq_true rfl) rfl (fun y9 => ?_)
          refine z_goto K (tgt := 15) dX6_cost_80 (by decide) ?_
          refine z_sub [2, 3, 4, 5, 6, 0] rfl ?_
          exact ih v4 y9 s6
        · refine z_iload_n K 4 rfl dX6_cost_50 ?_
          refine z_iload K 6 rfl dX6_cost_51 ?_
          refine z_ishr K dX6_cost_53 ?_
          refine z_iconst K ci_1 dX6_cost_54 ?_
          refine z_iand K dX6_cost_55 ?_
          refine z_if_ne K (tgt := 77) dX6_cost_56 (by decide) ?_ ?_
          · refine z_iincN K (j := 6) (lv' := [(6, .int r7), (0, .ref (a.1.2.2.2 + 45)), (1, .int v1), (2, .int v2), (3, .int v3), (4, .int v4)]) ci_1 rfl dX6_cost_77 (Nat.le_of_ble_eq_true rfl) rfl (fun y10 => ?_)
            refine z_goto K (tgt := 15) dX6_cost_80 (by decide) ?_
            refine z_sub [2, 3, 4, 5, 6, 0] rfl ?_
            exact ih v4 y10 s6
          · refine z_iload K 5 rfl dX6_cost_59 ?_
            refine z_aload_n K 1 rfl dX6_cost_61 ?_
            refine z_getr K fd_X6_38 ob_45_1 dX6_cost_62 ?_
            refine z_iload_n K 2 rfl dX6_cost_65 ?_
            refine z_iload_n K 3 rfl dX6_cost_66 ?_
            refine z_iload K 6 rfl dX6_cost_67 ?_
            refine z_iload K 0 rfl dX6_cost_69 ?_
            refine z_cVi (As := [.int v1, .int v2, .int v5, .int r7]) (rest := [.int v4]) K (t_X1_quarrel a.1 F (d - 1) (by omega) v1 v2 v5 r7 s6) mf_X1_quarrel ml_X6_58 (Nat.le_of_ble_eq_true rfl) (by omega) rfl rc_12 rfl (Nat.le_of_ble_eq_true rfl) dX6_cost_71 (fun r12 s11 => ?_)
            refine z_iadd K dX6_cost_74 ?_
            refine z_topi (fun y13 => ?_)
            refine z_istore K (lv' := [(4, .int y13), (6, .int r7), (0, .ref (a.1.2.2.2 + 45)), (1, .int v1), (2, .int v2), (3, .int v3), (5, .int v5)]) dX6_cost_75 (Nat.le_of_ble_eq_true rfl) rfl ?_
            refine z_iincN K (j := 6) (lv' := [(4, .int y13), (6, .int r7), (0, .ref (a.1.2.2.2 + 45)), (1, .int v1), (2, .int v2), (3, .int v3)]) ci_1 rfl dX6_cost_77 (Nat.le_of_ble_eq_true rfl) rfl (fun y14 => ?_)
            refine z_goto K (tgt := 15) dX6_cost_80 (by decide) ?_
            refine z_sub [3, 4, 5, 6, 1, 0] rfl ?_
            exact ih y13 y14 s11
def f_X6_cost (F : Nat) (v1 : Int32) (v2 : Int32) (v3 : Int32) (s : zM) : Option (Int32 × zM) :=
  bnd (f_X1_value F v1 v2 s) (fun r2 s1 =>
  lt ((-r2)) (fun y3 =>
  f_X6_cost_L15 F (fun y16 s15 =>
    some (y16, s15)) v1 v2 v3 F y3 (0 : Int32) s1))
set_option maxRecDepth 100000 in
set_option maxHeartbeats 4000000 in
theorem t_X6_cost (w : zWd) (F : Nat) (d : Nat) (hd : 4 ≤ d) (v1 : Int32) (v2 : Int32) (v3 : Int32) (s : zM) : zMt w yX6_cost cX6_cost 7 (some .int) d zφN zφN zri [.ref (w.2.2.2 + 45), .int v1, .int v2, .int v3] s (f_X6_cost F v1 v2 v3 s) := by
  refine zMtN_of (own := RX6) rfl (by decide +kernel) (Nat.le_of_ble_eq_true rfl) cd_X6_cost [(0, .ref (w.2.2.2 + 45)), (1, .int v1), (2, .int v2), (3, .int v3)] rfl ?_
  rintro a rfl K
  unfold f_X6_cost
  refine z_aload_n K 0 rfl dX6_cost_0 ?_
  refine z_getr K fd_X6_38 ob_45_1 dX6_cost_1 ?_
  refine z_iload_n K 1 rfl dX6_cost_4 ?_
  refine z_iload_n K 2 rfl dX6_cost_5 ?_
  refine z_cVi (As := [.int v1, .int v2]) (rest := []) K (t_X1_value a.1 F (d - 1) (by omega) v1 v2 s) mf_X1_value ml_X6_52 (Nat.le_of_ble_eq_true rfl) (by omega) rfl rc_12 rfl (Nat.le_of_ble_eq_true rfl) dX6_cost_6 (fun r2 s1 => ?_)
  refine z_ineg K dX6_cost_9 ?_
  refine z_topi (fun y3 => ?_)
  refine z_istore K (lv' := [(4, .int y3), (0, .ref (a.1.2.2.2 + 45)), (1, .int v1), (2, .int v2), (3, .int v3)]) dX6_cost_10 (Nat.le_of_ble_eq_true rfl) rfl ?_
  refine z_iconst K ci_0 dX6_cost_12 ?_
  refine z_istore K (lv' := [(5, .int (0 : Int32)), (4, .int y3), (0, .ref (a.1.2.2.2 + 45)), (1, .int v1), (2, .int v2), (3, .int v3)]) dX6_cost_13 (Nat.le_of_ble_eq_true rfl) rfl ?_
  refine z_sub [2, 3, 4, 5, 1, 0] rfl ?_
  refine t_X6_cost_L15 F K hd v1 v2 v3 (fun y16 s15 => ?_) F y3 (0 : Int32) s1
  refine z_iload K 0 rfl dX6_cost_83 ?_
  exact z_iret K dX6_cost_85
def f_X6_change (F : Nat) (v1 : Int32) (v2 : Int32) (v3 : Int32) (s : zM) : Option (Int32 × zM) :=
  bnd (f_X0_seatOf v1 s) (fun r2 s1 =>
  lt ((((1 : Int32) <<< (v1 &&& 31)) ||| ((1 : Int32) <<< (v3 &&& 31)))) (fun y3 =>
  bnd (f_X6_cost F v1 r2 y3 s1) (fun r5 s4 =>
  bnd (f_X6_cost F v3 v2 y3 s4) (fun r7 s6 =>
  bnd (f_X1_quarrel F v1 r2 v3 v2 s6) (fun r9 s8 =>
  lt (((r5 + r7) + r9)) (fun y10 =>
  bnd (f_X6_cost F v1 v2 y3 s8) (fun r12 s11 =>
  bnd (f_X6_cost F v3 r2 y3 s11) (fun r14 s13 =>
  bnd (f_X1_quarrel F v1 v2 v3 r2 s13) (fun r16 s15 =>
  lt (((r12 + r14) + r16)) (fun y17 =>
  some ((y17 - y10), s15)))))))))))
set_option maxRecDepth 100000 in
set_option maxHeartbeats 4000000 in
theorem t_X6_change (w : zWd) (F : Nat) (d : Nat) (hd : 5 ≤ d) (v1 : Int32) (v2 : Int32) (v3 : Int32) (s : zM) : zMt w yX6_change cX6_change 8 (some .int) d zφN zφN zri [.ref (w.2.2.2 + 45), .int v1, .int v2, .int v3] s (f_X6_change F v1 v2 v3 s) := by
  refine zMtN_of (own := RX6) rfl (by decide +kernel) (Nat.le_of_ble_eq_true rfl) cd_X6_change [(0, .ref (w.2.2.2 + 45)), (1, .int v1), (2, .int v2), (3, .int v3)] rfl ?_
  rintro a rfl K
  unfold f_X6_change
  refine z_aload_n K 0 rfl dX6_change_0 ?_
  refine z_getr K fd_X6_34 ob_45_0 dX6_change_1 ?_
  refine z_iload_n K 1 rfl dX6_change_4 ?_
  refine z_cVi (As := [.int v1]) (rest := []) K (t_X0_seatOf a.1 (d - 1) (by omega) v1 s) mf_X0_seatOf ml_X6_48 (Nat.le_of_ble_eq_true rfl) (by omega) rfl rc_3 rfl (Nat.le_of_ble_eq_true rfl) dX6_change_5 (fun r2 s1 => ?_)
  refine z_istore K (lv' := [(4, .int r2), (0, .ref (a.1.2.2.2 + 45)), (1, .int v1), (2, .int v2), (3, .int v3)]) dX6_change_8 (Nat.le_of_ble_eq_true rfl) rfl ?_
  refine z_iconst K ci_1 dX6_change_10 ?_
  refine z_iload_n K 2 rfl dX6_change_11 ?_
  refine z_ishl K dX6_change_12 ?_
  refine z_iconst K ci_1 dX6_change_13 ?_
  refine z_iload_n K 4 rfl dX6_change_14 ?_
  refine z_ishl K dX6_change_15 ?_
  refine z_ior K dX6_change_16 ?_
  refine z_topi (fun y3 => ?_)
  refine z_istore K (lv' := [(5, .int y3), (4, .int r2), (0, .ref (a.1.2.2.2 + 45)), (1, .int v1), (2, .int v2), (3, .int v3)]) dX6_change_17 (Nat.le_of_ble_eq_true rfl) rfl ?_
  refine z_aload_n K 2 rfl dX6_change_19 ?_
  refine z_iload_n K 3 rfl dX6_change_20 ?_
  refine z_iload K 1 rfl dX6_change_21 ?_
  refine z_iload K 0 rfl dX6_change_23 ?_
  refine z_cVi (As := [.int v1, .int r2, .int y3]) (rest := []) K (t_X6_cost a.1 F (d - 1) (by omega) v1 r2 y3 s1) mf_X6_cost ml_X6_72 (Nat.le_of_ble_eq_true rfl) (by omega) rfl rc_45 rfl (Nat.le_of_ble_eq_true rfl) dX6_change_25 (fun r5 s4 => ?_)
  refine z_aload_n K 2 rfl dX6_change_28 ?_
  refine z_iload_n K 5 rfl dX6_change_29 ?_
  refine z_iload_n K 4 rfl dX6_change_30 ?_
  refine z_iload K 0 rfl dX6_change_31 ?_
  refine z_cVi (As := [.int v3, .int v2, .int y3]) (rest := [.int r5]) K (t_X6_cost a.1 F (d - 1) (by omega) v3 v2 y3 s4) mf_X6_cost ml_X6_72 (Nat.le_of_ble_eq_true rfl) (by omega) rfl rc_45 rfl (Nat.le_of_ble_eq_true rfl) dX6_change_33 (fun r7 s6 => ?_)
  refine z_iadd K dX6_change_36 ?_
  refine z_aload_n K 2 rfl dX6_change_37 ?_
  refine z_getr K fd_X6_38 ob_45_1 dX6_change_38 ?_
  refine z_iload_n K 3 rfl dX6_change_41 ?_
  refine z_iload K 1 rfl dX6_change_42 ?_
  refine z_iload_n K 5 rfl dX6_change_44 ?_
  refine z_iload_n K 4 rfl dX6_change_45 ?_
  refine z_cVi (As := [.int v1, .int r2, .int v3, .int v2]) (rest := [.int (r5 + r7)]) K (t_X1_quarrel a.1 F (d - 1) (by omega) v1 r2 v3 v2 s6) mf_X1_quarrel ml_X6_58 (Nat.le_of_ble_eq_true rfl) (by omega) rfl rc_12 rfl (Nat.le_of_ble_eq_true rfl) dX6_change_46 (fun r9 s8 => ?_)
  refine z_iadd K dX6_change_49 ?_
  refine z_topi (fun y10 => ?_)
  refine z_istore K (lv' := [(6, .int y10), (5, .int y3), (4, .int r2), (0, .ref (a.1.2.2.2 + 45)), (1, .int v1), (2, .int v2), (3, .int v3)]) dX6_change_50 (Nat.le_of_ble_eq_true rfl) rfl ?_
  refine z_aload_n K 3 rfl dX6_change_52 ?_
  refine z_iload_n K 4 rfl dX6_change_53 ?_
  refine z_iload_n K 5 rfl dX6_change_54 ?_
  refine z_iload K 1 rfl dX6_change_55 ?_
  refine z_cVi (As := [.int v1, .int v2, .int y3]) (rest := []) K (t_X6_cost a.1 F (d - 1) (by omega) v1 v2 y3 s8) mf_X6_cost ml_X6_72 (Nat.le_of_ble_eq_true rfl) (by omega) rfl rc_45 rfl (Nat.le_of_ble_eq_true rfl) dX6_change_57 (fun r12 s11 => ?_)
  refine z_aload_n K 3 rfl dX6_change_60 ?_
  refine z_iload_n K 6 rfl dX6_change_61 ?_
  refine z_iload K 2 rfl dX6_change_62 ?_
  refine z_iload K 1 rfl dX6_change_64 ?_
  refine z_cVi (As := [.int v3, .int r2, .int y3]) (rest := [.int r12]) K (t_X6_cost a.1 F (d - 1) (by omega) v3 r2 y3 s11) mf_X6_cost ml_X6_72 (Nat.le_of_ble_eq_true rfl) (by omega) rfl rc_45 rfl (Nat.le_of_ble_eq_true rfl) dX6_change_66 (fun r14 s13 => ?_)
  refine z_iadd K dX6_change_69 ?_
  refine z_aload_n K 3 rfl dX6_change_70 ?_
  refine z_getr K fd_X6_38 ob_45_1 dX6_change_71 ?_
  refine z_iload_n K 4 rfl dX6_change_74 ?_
  refine z_iload_n K 5 rfl dX6_change_75 ?_
  refine z_iload_n K 6 rfl dX6_change_76 ?_
  refine z_iload K 2 rfl dX6_change_77 ?_
  refine z_cVi (As := [.int v1, .int v2, .int v3, .int r2]) (rest := [.int (r12 + r14)]) K (t_X1_quarrel a.1 F (d - 1) (by omega) v1 v2 v3 r2 s13) mf_X1_quarrel ml_X6_58 (Nat.le_of_ble_eq_true rfl) (by omega) rfl rc_12 rfl (Nat.le_of_ble_eq_true rfl) dX6_change_79 (fun r16 s15 => ?_)
  refine z_iadd K dX6_change_82 ?_
  refine z_topi (fun y17 => ?_)
  refine z_istore K (lv' := [(7, .int y17), (6, .int y10), (5, .int y3), (4, .int r2), (0, .ref (a.1.2.2.2 + 45)), (1, .int v1), (2, .int v2), (3, .int v3)]) dX6_change_83 (Nat.le_of_ble_eq_true rfl) rfl ?_
  refine z_iload K 0 rfl dX6_change_85 ?_
  refine z_iload K 1 rfl dX6_change_87 ?_
  refine z_isub K dX6_change_89 ?_
  exact z_iret K dX6_change_90
def f_X6_find_j140 (F : Nat) (k70 : Int32 → zM → Option (Int32 × zM)) (v1 : Int32) (v2 : Int32) (v3 : Int32) (v4 : Int32) (v5 : Int32) (v7 : Int32) (s : zM) : Option (Int32 × zM) :=
  if v7 < (zg s 45 4) then
    lt (zs s 45 4 v7) (fun s13 =>
    lt (zs s13 45 2 v2) (fun s14 =>
    lt (zs s14 45 3 v5) (fun s15 =>
    lt (v5 + (1 : Int32)) (fun y16 =>
    k70 y16 s15))))
  else
    lt (v5 + (1 : Int32)) (fun y12 =>
    k70 y12 s)
set_option maxRecDepth 100000 in
set_option maxHeartbeats 4000000 in
theorem t_X6_find_j140 {a : zA} {d : Nat} (F : Nat) (K : zOK a cX6_find 8 RX6 (some .boolean) d) (hd : 6 ≤ d) {k70 : Int32 → zM → Option (Int32 × zM)} (v1 : Int32) (v2 : Int32) (v3 : Int32) (v4 : Int32) (h70 : ∀ (v5 : Int32) (s : zM), zJ a 8 (zG a zφN zri) zφN 70 [(0, .ref (a.1.2.2.2 + 45)), (1, .int v1), (2, .int v2), (3, .int v3), (4, .int v4), (5, .int v5)] [] s (k70 v5 s)) (v5 : Int32) (v7 : Int32) (s : zM) : zJ a 8 (zG a zφN zri) zφN 140 [(0, .ref (a.1.2.2.2 + 45)), (1, .int v1), (2, .int v2), (3, .int v3), (4, .int v4), (5, .int v5), (7, .int v7)] [] s (f_X6_find_j140 F k70 v1 v2 v3 v4 v5 v7 s) := by
  unfold f_X6_find_j140
  refine z_iload K 6 rfl dX6_find_140 ?_
  refine z_aload_n K 0 rfl dX6_find_142 ?_
  refine z_geti K fd_X6_65 ob_45_4 dX6_find_143 ?_
  refine z_icmp_ge K (tgt := 166) dX6_find_146 (by decide) ?_ ?_
  · refine z_iincN K (j := 5) (lv' := [(0, .ref (a.1.2.2.2 + 45)), (1, .int v1), (2, .int v2), (3, .int v3), (4, .int v4), (7, .int v7)]) ci_1 rfl dX6_find_166 (Nat.le_of_ble_eq_true rfl) rfl (fun y12 => ?_)
    refine z_goto K (tgt := 70) dX6_find_169 (by decide) ?_
    refine z_sub [1, 2, 3, 4, 5, 0] rfl ?_
    exact h70 y12 s
  · refine z_aload_n K 0 rfl dX6_find_149 ?_
    refine z_iload K 6 rfl dX6_find_150 ?_
    refine z_puti K fw_X6_65 ob_45_4 dX6_find_152 ?_
    refine z_ltm (fun s13 => ?_)
    refine z_aload_n K 0 rfl dX6_find_155 ?_
    refine z_iload_n K 2 rfl dX6_find_156 ?_
    refine z_puti K fw_X6_9 ob_45_2 dX6_find_157 ?_
    refine z_ltm (fun s14 => ?_)
    refine z_aload_n K 0 rfl dX6_find_160 ?_
    refine z_iload K 5 rfl dX6_find_161 ?_
    refine z_puti K fw_X6_15 ob_45_3 dX6_find_163 ?_
    refine z_ltm (fun s15 => ?_)
    refine z_iincN K (j := 5) (lv' := [(0, .ref (a.1.2.2.2 + 45)), (1, .int v1), (2, .int v2), (3, .int v3), (4, .int v4), (7, .int v7)]) ci_1 rfl dX6_find_166 (Nat.le_of_ble_eq_true rfl) rfl (fun y16 => ?_)
    refine z_goto K (tgt := 70) dX6_find_169 (by decide) ?_
    refine z_sub [1, 2, 3, 4, 5, 0] rfl ?_
    exact h70 y16 s15
def f_X6_find_L70 (F : Nat) (k172 : zM → Option (Int32 × zM)) (v1 : Int32) (v2 : Int32) (v3 : Int32) (v4 : Int32) : Nat → Int32 → zM → Option (Int32 × zM)
  | 0, _, _ => none
  | n + 1, v5, s =>
    if v5 < (40 : Int32) then
      if v3 = 0 then
        k172 s
      else
        bnd (f_X0_at v5 s) (fun r11 s10 =>
        if r11 = (-1 : Int32) then
          bnd (f_X6_cost F v2 v5 (0 : Int32) s10) (fun r21 s20 =>
          lt ((v1 + (r21 - v4))) (fun y22 =>
          f_X6_find_j140 F (f_X6_find_L70 F k172 v1 v2 v3 v4 n) v1 v2 v3 v4 v5 y22 s20))
        else
          if v2 < r11 then
            bnd (f_X6_change F v2 v5 r11 s10) (fun r18 s17 =>
            lt ((v1 + r18)) (fun y19 =>
            f_X6_find_j140 F (f_X6_find_L70 F k172 v1 v2 v3 v4 n) v1 v2 v3 v4 v5 y19 s17))
          else
            f_X6_find_j140 F (f_X6_find_L70 F k172 v1 v2 v3 v4 n) v1 v2 v3 v4 v5 v1 s10)
    else
      k172 s
set_option maxRecDepth 100000 in
set_option maxHeartbeats 4000000 in
theorem t_X6_find_L70 {a : zA} {d : Nat} (F : Nat) (K : zOK a cX6_find 8 RX6 (some .boolean) d) (hd : 6 ≤ d) {k172 : zM → Option (Int32 × zM)} (v1 : Int32) (v2 : Int32) (v3 : Int32) (v4 : Int32) (h172 : ∀ (s : zM), zJ a 8 (zG a zφN zri) zφN 172 [(0, .ref (a.1.2.2.2 + 45)), (1, .int v1), (2, .int v2)] [] s (k172 s)) : ∀ (n : Nat) (v5 : Int32) (s : zM), zJ a 8 (zG a zφN zri) zφN 70 [(0, .ref (a.1.2.2.2 + 45)), (1, .int v1), (2, .int v2), (3, .int v3), (4, .int v4), (5, .int v5)] [] s (f_X6_find_L70 F k172 v1 v2 v3 v4 n v5 s) := by
  intro n
  induction n with
  | zero => intros; exact z_none
  | succ n ih =>
    intro v5 s
    rw [f_X6_find_L70]
    refine z_iload K 5 rfl dX6_find_70 ?_
    refine z_bipush K cb_40 dX6_find_72 ?_
    refine z_icmp_ge K (tgt := 172) dX6_find_74 (by decide) ?_ ?_
    · refine z_sub [0, 1, 2] rfl ?_
      exact h172 s
    · refine z_iload_n K 3 rfl dX6_find_77 ?_
      refine z_if_eq K (tgt := 172) dX6_find_78 (by decide) ?_ ?_
      · refine z_sub [0, 1, 2] rfl ?_
        exact h172 s
      · refine z_aload_n K 0 rfl dX6_find_81 ?_
        refine z_getr K fd_X6_34 ob_45_0 dX6_find_82 ?_
        refine z_iload K 5 rfl dX6_find_85 ?_
        refine z_cVi (As := [.int v5]) (rest := []) K (t_X0_at a.1 (d - 1) (by omega) v5 s) mf_X0_at ml_X6_78 (Nat.le_of_ble_eq_true rfl) (by omega) rfl rc_3 rfl (Nat.le_of_ble_eq_true rfl) dX6_find_87 (fun r11 s10 => ?_)
        refine z_istore K (lv' := [(6, .int r11), (0, .ref (a.1.2.2.2 + 45)), (1, .int v1), (2, .int v2), (3, .int v3), (4, .int v4), (5, .int v5)]) dX6_find_90 (Nat.le_of_ble_eq_true rfl) rfl ?_
        refine z_iload_n K 2 rfl dX6_find_92 ?_
        refine z_istore K (lv' := [(7, .int v1), (6, .int r11), (0, .ref (a.1.2.2.2 + 45)), (1, .int v1), (2, .int v2), (3, .int v3), (4, .int v4), (5, .int v5)]) dX6_find_93 (Nat.le_of_ble_eq_true rfl) rfl ?_
        refine z_iload K 1 rfl dX6_find_95 ?_
        refine z_iconst K ci_m1 dX6_find_97 ?_
        refine z_icmp_ne K (tgt := 120) dX6_find_98 (by decide) ?_ ?_
        · refine z_iload K 1 rfl dX6_find_120 ?_
          refine z_iload_n K 4 rfl dX6_find_122 ?_
          refine z_icmp_le K (tgt := 140) dX6_find_123 (by decide) ?_ ?_
          · refine z_sub [2, 3, 4, 5, 6, 7, 0] rfl ?_
            exact t_X6_find_j140 F K hd v1 v2 v3 v4 ih v5 v1 s10
          · refine z_iload K 0 rfl dX6_find_126 ?_
            refine z_aload_n K 2 rfl dX6_find_128 ?_
            refine z_iload_n K 4 rfl dX6_find_129 ?_
            refine z_iload K 7 rfl dX6_find_130 ?_
            refine z_iload K 1 rfl dX6_find_132 ?_
            refine z_cVi (As := [.int v2, .int v5, .int r11]) (rest := [.int v1]) K (t_X6_change a.1 F (d - 1) (by omega) v2 v5 r11 s10) mf_X6_change ml_X6_81 (Nat.le_of_ble_eq_true rfl) (by omega) rfl rc_45 rfl (Nat.le_of_ble_eq_true rfl) dX6_find_134 (fun r18 s17 => ?_)
            refine z_iadd K dX6_find_137 ?_
            refine z_topi (fun y19 => ?_)
            refine z_istore K (lv' := [(7, .int y19), (6, .int r11), (0, .ref (a.1.2.2.2 + 45)), (1, .int v1), (2, .int v2), (3, .int v3), (4, .int v4), (5, .int v5)]) dX6_find_138 (Nat.le_of_ble_eq_true rfl) rfl ?_
            refine z_sub [2, 3, 4, 5, 6, 7, 0] rfl ?_
            exact t_X6_find_j140 F K hd v1 v2 v3 v4 ih v5 y19 s17
        · refine z_iload K 0 rfl dX6_find_101 ?_
          refine z_aload_n K 2 rfl dX6_find_103 ?_
          refine z_iload_n K 4 rfl dX6_find_104 ?_
          refine z_iload K 7 rfl dX6_find_105 ?_
          refine z_iconst K ci_0 dX6_find_107 ?_
          refine z_cVi (As := [.int v2, .int v5, .int (0 : Int32)]) (rest := [.int v1]) K (t_X6_cost a.1 F (d - 1) (by omega) v2 v5 (0 : Int32) s10) mf_X6_cost ml_X6_72 (Nat.le_of_ble_eq_true rfl) (by omega) rfl rc_45 rfl (Nat.le_of_ble_eq_true rfl) dX6_find_108 (fun r21 s20 => ?_)
          refine z_iload K 6 rfl dX6_find_111 ?_
          refine z_isub K dX6_find_113 ?_
          refine z_iadd K dX6_find_114 ?_
          refine z_topi (fun y22 => ?_)
          refine z_istore K (lv' := [(7, .int y22), (6, .int r11), (0, .ref (a.1.2.2.2 + 45)), (1, .int v1), (2, .int v2), (3, .int v3), (4, .int v4), (5, .int v5)]) dX6_find_115 (Nat.le_of_ble_eq_true rfl) rfl ?_
          refine z_goto K (tgt := 140) dX6_find_117 (by decide) ?_
          refine z_sub [2, 3, 4, 5, 6, 7, 0] rfl ?_
          exact t_X6_find_j140 F K hd v1 v2 v3 v4 ih v5 y22 s20
def f_X6_find_L23 (F : Nat) (k178 : zM → Option (Int32 × zM)) (v1 : Int32) : Nat → Int32 → zM → Option (Int32 × zM)
  | 0, _, _ => none
  | n + 1, v2, s =>
    bnd (f_X0_number s) (fun r7 s6 =>
    if v2 < r7 then
      bnd (f_X0_sits v2 s6) (fun r9 s8 =>
      if r9 = 0 then
        f_X6_find_L70 F (fun s23 =>
          lt (v2 + (1 : Int32)) (fun y24 =>
          f_X6_find_L23 F k178 v1 n y24 s23)) v1 v2 r9 (0 : Int32) F (0 : Int32) s8
      else
        bnd (f_X0_seatOf v2 s8) (fun r26 s25 =>
        bnd (f_X6_cost F v2 r26 (0 : Int32) s25) (fun r28 s27 =>
        f_X6_find_L70 F (fun s29 =>
          lt (v2 + (1 : Int32)) (fun y30 =>
          f_X6_find_L23 F k178 v1 n y30 s29)) v1 v2 r9 r28 F (0 : Int32) s27)))
    else
      k178 s6)
set_option maxRecDepth 100000 in
set_option maxHeartbeats 4000000 in
theorem t_X6_find_L23 {a : zA} {d : Nat} (F : Nat) (K : zOK a cX6_find 8 RX6 (some .boolean) d) (hd : 6 ≤ d) {k178 : zM → Option (Int32 × zM)} (v1 : Int32) (h178 : ∀ (s : zM), zJ a 8 (zG a zφN zri) zφN 178 [(0, .ref (a.1.2.2.2 + 45))] [] s (k178 s)) : ∀ (n : Nat) (v2 : Int32) (s : zM), zJ a 8 (zG a zφN zri) zφN 23 [(0, .ref (a.1.2.2.2 + 45)), (1, .int v1), (2, .int v2)] [] s (f_X6_find_L23 F k178 v1 n v2 s) := by
  intro n
  induction n with
  | zero => intros; exact z_none
  | succ n ih =>
    intro v2 s
    rw [f_X6_find_L23]
    refine z_iload_n K 2 rfl dX6_find_23 ?_
    refine z_aload_n K 0 rfl dX6_find_24 ?_
    refine z_getr K fd_X6_34 ob_45_0 dX6_find_25 ?_
    refine z_cVi (As := []) (rest := [.int v2]) K (t_X0_number a.1 (d - 1) (by omega) s) mf_X0_number ml_X6_42 (Nat.le_of_ble_eq_true rfl) (by omega) rfl rc_3 rfl (Nat.le_of_ble_eq_true rfl) dX6_find_28 (fun r7 s6 => ?_)
    refine z_icmp_ge K (tgt := 178) dX6_find_31 (by decide) ?_ ?_
    · refine z_sub [0] rfl ?_
      exact h178 s6
    · refine z_aload_n K 0 rfl dX6_find_34 ?_
      refine z_getr K fd_X6_34 ob_45_0 dX6_find_35 ?_
      refine z_iload_n K 2 rfl dX6_find_38 ?_
      refine z_cVi (As := [.int v2]) (rest := []) K (t_X0_sits a.1 (d - 1) (by omega) v2 s6) mf_X0_sits ml_X6_68 (Nat.le_of_ble_eq_true rfl) (by omega) rfl rc_3 rfl (Nat.le_of_ble_eq_true rfl) dX6_find_39 (fun r9 s8 => ?_)
      refine z_istore_n K (lv' := [(3, .int r9), (0, .ref (a.1.2.2.2 + 45)), (1, .int v1), (2, .int v2)]) dX6_find_42 rfl (Nat.le_of_ble_eq_true rfl) rfl ?_
      refine z_iload_n K 0 rfl dX6_find_43 ?_
      refine z_if_eq K (tgt := 64) dX6_find_44 (by decide) ?_ ?_
      · refine z_iconst K ci_0 dX6_find_64 ?_
        refine z_istore K (lv' := [(4, .int (0 : Int32)), (3, .int r9), (0, .ref (a.1.2.2.2 + 45)), (1, .int v1), (2, .int v2)]) dX6_find_65 (Nat.le_of_ble_eq_true rfl) rfl ?_
        refine z_iconst K ci_0 dX6_find_67 ?_
        refine z_istore K (lv' := [(5, .int (0 : Int32)), (4, .int (0 : Int32)), (3, .int r9), (0, .ref (a.1.2.2.2 + 45)), (1, .int v1), (2, .int v2)]) dX6_find_68 (Nat.le_of_ble_eq_true rfl) rfl ?_
        refine z_sub [3, 4, 5, 2, 1, 0] rfl ?_
        refine t_X6_find_L70 F K hd v1 v2 r9 (0 : Int32) (fun s23 => ?_) F (0 : Int32) s8
        refine z_iincN K (j := 2) (lv' := [(0, .ref (a.1.2.2.2 + 45)), (1, .int v1)]) ci_1 rfl dX6_find_172 (Nat.le_of_ble_eq_true rfl) rfl (fun y24 => ?_)
        refine z_goto K (tgt := 23) dX6_find_175 (by decide) ?_
        refine z_sub [1, 2, 0] rfl ?_
        exact ih y24 s23
      · refine z_aload_n K 1 rfl dX6_find_47 ?_
        refine z_iload_n K 3 rfl dX6_find_48 ?_
        refine z_aload_n K 1 rfl dX6_find_49 ?_
        refine z_getr K fd_X6_34 ob_45_0 dX6_find_50 ?_
        refine z_iload_n K 3 rfl dX6_find_53 ?_
        refine z_cVi (As := [.int v2]) (rest := [.int v2, .ref (a.1.2.2.2 + 45)]) K (t_X0_seatOf a.1 (d - 1) (by omega) v2 s8) mf_X0_seatOf ml_X6_48 (Nat.le_of_ble_eq_true rfl) (by omega) rfl rc_3 rfl (Nat.le_of_ble_eq_true rfl) dX6_find_54 (fun r26 s25 => ?_)
        refine z_iconst K ci_0 dX6_find_57 ?_
        refine z_cVi (As := [.int v2, .int r26, .int (0 : Int32)]) (rest := []) K (t_X6_cost a.1 F (d - 1) (by omega) v2 r26 (0 : Int32) s25) mf_X6_cost ml_X6_72 (Nat.le_of_ble_eq_true rfl) (by omega) rfl rc_45 rfl (Nat.le_of_ble_eq_true rfl) dX6_find_58 (fun r28 s27 => ?_)
        refine z_goto K (tgt := 65) dX6_find_61 (by decide) ?_
        refine z_istore K (lv' := [(4, .int r28), (3, .int r9), (0, .ref (a.1.2.2.2 + 45)), (1, .int v1), (2, .int v2)]) dX6_find_65 (Nat.le_of_ble_eq_true rfl) rfl ?_
        refine z_iconst K ci_0 dX6_find_67 ?_
        refine z_istore K (lv' := [(5, .int (0 : Int32)), (4, .int r28), (3, .int r9), (0, .ref (a.1.2.2.2 + 45)), (1, .int v1), (2, .int v2)]) dX6_find_68 (Nat.le_of_ble_eq_true rfl) rfl ?_
        refine z_sub [3, 4, 5, 2, 1, 0] rfl ?_
        refine t_X6_find_L70 F K hd v1 v2 r9 r28 (fun s29 => ?_) F (0 : Int32) s27
        refine z_iincN K (j := 2) (lv' := [(0, .ref (a.1.2.2.2 + 45)), (1, .int v1)]) ci_1 rfl dX6_find_172 (Nat.le_of_ble_eq_true rfl) rfl (fun y30 => ?_)
        refine z_goto K (tgt := 23) dX6_find_175 (by decide) ?_
        refine z_sub [1, 2, 0] rfl ?_
        exact ih y30 s29
def f_X6_find (F : Nat) (s : zM) : Option (Int32 × zM) :=
  bnd (f_X6_total F (0 : Int32) s) (fun r2 s1 =>
  lt (zs s1 45 4 r2) (fun s3 =>
  lt (zs s3 45 2 (-1 : Int32)) (fun s4 =>
  lt (zs s4 45 3 (-1 : Int32)) (fun s5 =>
  f_X6_find_L23 F (fun s31 =>
    if (zg s31 45 2) = (-1 : Int32) then
      some ((0 : Int32), s31)
    else
      some ((1 : Int32), s31)) r2 F (0 : Int32) s5))))
set_option maxRecDepth 100000 in
set_option maxHeartbeats 4000000 in
theorem t_X6_find (w : zWd) (F : Nat) (d : Nat) (hd : 6 ≤ d) (s : zM) : zMt w yX6_find cX6_find 8 (some .boolean) d zφN zφN zri [.ref (w.2.2.2 + 45)] s (f_X6_find F s) := by
  refine zMtN_of (own := RX6) rfl (by decide +kernel) (Nat.le_of_ble_eq_true rfl) cd_X6_find [(0, .ref (w.2.2.2 + 45))] rfl ?_
  rintro a rfl K
  unfold f_X6_find
  refine z_aload_n K 0 rfl dX6_find_0 ?_
  refine z_iconst K ci_0 dX6_find_1 ?_
  refine z_cVi (As := [.int (0 : Int32)]) (rest := []) K (t_X6_total a.1 F (d - 1) (by omega) (0 : Int32) s) mf_X6_total ml_X6_62 (Nat.le_of_ble_eq_true rfl) (by omega) rfl rc_45 rfl (Nat.le_of_ble_eq_true rfl) dX6_find_2 (fun r2 s1 => ?_)
  refine z_istore_n K (lv' := [(1, .int r2), (0, .ref (a.1.2.2.2 + 45))]) dX6_find_5 rfl (Nat.le_of_ble_eq_true rfl) rfl ?_
  refine z_aload_n K 1 rfl dX6_find_6 ?_
  refine z_iload_n K 0 rfl dX6_find_7 ?_
  refine z_puti K fw_X6_65 ob_45_4 dX6_find_8 ?_
  refine z_ltm (fun s3 => ?_)
  refine z_aload_n K 1 rfl dX6_find_11 ?_
  refine z_iconst K ci_m1 dX6_find_12 ?_
  refine z_puti K fw_X6_9 ob_45_2 dX6_find_13 ?_
  refine z_ltm (fun s4 => ?_)
  refine z_aload_n K 1 rfl dX6_find_16 ?_
  refine z_iconst K ci_m1 dX6_find_17 ?_
  refine z_puti K fw_X6_15 ob_45_3 dX6_find_18 ?_
  refine z_ltm (fun s5 => ?_)
  refine z_iconst K ci_0 dX6_find_21 ?_
  refine z_istore_n K (lv' := [(2, .int (0 : Int32)), (1, .int r2), (0, .ref (a.1.2.2.2 + 45))]) dX6_find_22 rfl (Nat.le_of_ble_eq_true rfl) rfl ?_
  refine z_sub [2, 1, 0] rfl ?_
  refine t_X6_find_L23 F K hd r2 (fun s31 => ?_) F (0 : Int32) s5
  refine z_aload_n K 0 rfl dX6_find_178 ?_
  refine z_geti K fd_X6_9 ob_45_2 dX6_find_179 ?_
  refine z_iconst K ci_m1 dX6_find_182 ?_
  refine z_icmp_eq K (tgt := 190) dX6_find_183 (by decide) ?_ ?_
  · refine z_iconst K ci_0 dX6_find_190 ?_
    exact z_zret (Or.inl rfl) K dX6_find_191
  · refine z_iconst K ci_1 dX6_find_186 ?_
    refine z_goto K (tgt := 191) dX6_find_187 (by decide) ?_
    exact z_zret (Or.inr rfl) K dX6_find_191
def f_X6_guestToMove (s : zM) : Option (Int32 × zM) :=
  some ((zg s 45 2), s)
set_option maxRecDepth 100000 in
set_option maxHeartbeats 4000000 in
theorem t_X6_guestToMove (w : zWd) (d : Nat) (hd : 0 ≤ d) (s : zM) : zMt w yX6_guestToMove cX6_guestToMove 1 (some .int) d zφN zφN zri [.ref (w.2.2.2 + 45)] s (f_X6_guestToMove s) := by
  refine zMtN_of (own := RX6) rfl (by decide +kernel) (Nat.le_of_ble_eq_true rfl) cd_X6_guestToMove [(0, .ref (w.2.2.2 + 45))] rfl ?_
  rintro a rfl K
  unfold f_X6_guestToMove
  refine z_aload_n K 0 rfl dX6_guestToMove_0 ?_
  refine z_geti K fd_X6_9 ob_45_2 dX6_guestToMove_1 ?_
  exact z_iret K dX6_guestToMove_4
def f_X6_seatToTake (s : zM) : Option (Int32 × zM) :=
  some ((zg s 45 3), s)
set_option maxRecDepth 100000 in
set_option maxHeartbeats 4000000 in
theorem t_X6_seatToTake (w : zWd) (d : Nat) (hd : 0 ≤ d) (s : zM) : zMt w yX6_seatToTake cX6_seatToTake 1 (some .int) d zφN zφN zri [.ref (w.2.2.2 + 45)] s (f_X6_seatToTake s) := by
  refine zMtN_of (own := RX6) rfl (by decide +kernel) (Nat.le_of_ble_eq_true rfl) cd_X6_seatToTake [(0, .ref (w.2.2.2 + 45))] rfl ?_
  rintro a rfl K
  unfold f_X6_seatToTake
  refine z_aload_n K 0 rfl dX6_seatToTake_0 ?_
  refine z_geti K fd_X6_15 ob_45_3 dX6_seatToTake_1 ?_
  exact z_iret K dX6_seatToTake_4
def f_X6_sumThen (s : zM) : Option (Int32 × zM) :=
  some ((zg s 45 4), s)
set_option maxRecDepth 100000 in
set_option maxHeartbeats 4000000 in
theorem t_X6_sumThen (w : zWd) (d : Nat) (hd : 0 ≤ d) (s : zM) : zMt w yX6_sumThen cX6_sumThen 1 (some .int) d zφN zφN zri [.ref (w.2.2.2 + 45)] s (f_X6_sumThen s) := by
  refine zMtN_of (own := RX6) rfl (by decide +kernel) (Nat.le_of_ble_eq_true rfl) cd_X6_sumThen [(0, .ref (w.2.2.2 + 45))] rfl ?_
  rintro a rfl K
  unfold f_X6_sumThen
  refine z_aload_n K 0 rfl dX6_sumThen_0 ?_
  refine z_geti K fd_X6_65 ob_45_4 dX6_sumThen_1 ?_
  exact z_iret K dX6_sumThen_4
def f_J6_bitCount_0f7a4 (v0 : Int32) (s : zM) : Option (Int32 × zM) :=
  lt ((v0 - ((v0.toUInt32 >>> ((1 : Int32).toUInt32 &&& Int32.toUInt32 31)).toInt32 &&& (1431655765 : Int32)))) (fun y1 =>
  lt (((y1 &&& (858993459 : Int32)) + ((y1.toUInt32 >>> ((2 : Int32).toUInt32 &&& Int32.toUInt32 31)).toInt32 &&& (858993459 : Int32)))) (fun y2 =>
  lt (((y2 + (y2.toUInt32 >>> ((4 : Int32).toUInt32 &&& Int32.toUInt32 31)).toInt32) &&& (252645135 : Int32))) (fun y3 =>
  lt ((y3 + (y3.toUInt32 >>> ((8 : Int32).toUInt32 &&& Int32.toUInt32 31)).toInt32)) (fun y4 =>
  lt ((y4 + (y4.toUInt32 >>> ((16 : Int32).toUInt32 &&& Int32.toUInt32 31)).toInt32)) (fun y5 =>
  some ((y5 &&& (63 : Int32)), s))))))
set_option maxRecDepth 100000 in
set_option maxHeartbeats 4000000 in
theorem t_J6_bitCount_0f7a4 (w : zWd) (d : Nat) (hd : 0 ≤ d) (v0 : Int32) (s : zM) : zMt w yJ6_bitCount_0f7a4 cJ6_bitCount_0f7a4 1 (some .int) d zφN zφN zri [.int v0] s (f_J6_bitCount_0f7a4 v0 s) := by
  refine zMtN_of (own := RJ6) rfl (by decide +kernel) (Nat.le_of_ble_eq_true rfl) cd_J6_bitCount_0f7a4 [(0, .int v0)] rfl ?_
  rintro a rfl K
  unfold f_J6_bitCount_0f7a4
  refine z_iload_n K 0 rfl dJ6_bitCount_0f7a4_0 ?_
  refine z_iload_n K 0 rfl dJ6_bitCount_0f7a4_1 ?_
  refine z_iconst K ci_1 dJ6_bitCount_0f7a4_2 ?_
  refine z_iushr K dJ6_bitCount_0f7a4_3 ?_
  refine z_ldcw K cst_J6_265 dJ6_bitCount_0f7a4_4 ?_
  refine z_iand K dJ6_bitCount_0f7a4_7 ?_
  refine z_isub K dJ6_bitCount_0f7a4_8 ?_
  refine z_topi (fun y1 => ?_)
  refine z_istore_n K (lv' := [(0, .int y1)]) dJ6_bitCount_0f7a4_9 rfl (Nat.le_of_ble_eq_true rfl) rfl ?_
  refine z_iload_n K 0 rfl dJ6_bitCount_0f7a4_10 ?_
  refine z_ldcw K cst_J6_266 dJ6_bitCount_0f7a4_11 ?_
  refine z_iand K dJ6_bitCount_0f7a4_14 ?_
  refine z_iload_n K 0 rfl dJ6_bitCount_0f7a4_15 ?_
  refine z_iconst K ci_2 dJ6_bitCount_0f7a4_16 ?_
  refine z_iushr K dJ6_bitCount_0f7a4_17 ?_
  refine z_ldcw K cst_J6_266 dJ6_bitCount_0f7a4_18 ?_
  refine z_iand K dJ6_bitCount_0f7a4_21 ?_
  refine z_iadd K dJ6_bitCount_0f7a4_22 ?_
  refine z_topi (fun y2 => ?_)
  refine z_istore_n K (lv' := [(0, .int y2)]) dJ6_bitCount_0f7a4_23 rfl (Nat.le_of_ble_eq_true rfl) rfl ?_
  refine z_iload_n K 0 rfl dJ6_bitCount_0f7a4_24 ?_
  refine z_iload_n K 0 rfl dJ6_bitCount_0f7a4_25 ?_
  refine z_iconst K ci_4 dJ6_bitCount_0f7a4_26 ?_
  refine z_iushr K dJ6_bitCount_0f7a4_27 ?_
  refine z_iadd K dJ6_bitCount_0f7a4_28 ?_
  refine z_ldcw K cst_J6_267 dJ6_bitCount_0f7a4_29 ?_
  refine z_iand K dJ6_bitCount_0f7a4_32 ?_
  refine z_topi (fun y3 => ?_)
  refine z_istore_n K (lv' := [(0, .int y3)]) dJ6_bitCount_0f7a4_33 rfl (Nat.le_of_ble_eq_true rfl) rfl ?_
  refine z_iload_n K 0 rfl dJ6_bitCount_0f7a4_34 ?_
  refine z_iload_n K 0 rfl dJ6_bitCount_0f7a4_35 ?_
  refine z_bipush K cb_8 dJ6_bitCount_0f7a4_36 ?_
  refine z_iushr K dJ6_bitCount_0f7a4_38 ?_
  refine z_iadd K dJ6_bitCount_0f7a4_39 ?_
  refine z_topi (fun y4 => ?_)
  refine z_istore_n K (lv' := [(0, .int y4)]) dJ6_bitCount_0f7a4_40 rfl (Nat.le_of_ble_eq_true rfl) rfl ?_
  refine z_iload_n K 0 rfl dJ6_bitCount_0f7a4_41 ?_
  refine z_iload_n K 0 rfl dJ6_bitCount_0f7a4_42 ?_
  refine z_bipush K cb_16 dJ6_bitCount_0f7a4_43 ?_
  refine z_iushr K dJ6_bitCount_0f7a4_45 ?_
  refine z_iadd K dJ6_bitCount_0f7a4_46 ?_
  refine z_topi (fun y5 => ?_)
  refine z_istore_n K (lv' := [(0, .int y5)]) dJ6_bitCount_0f7a4_47 rfl (Nat.le_of_ble_eq_true rfl) rfl ?_
  refine z_iload_n K 0 rfl dJ6_bitCount_0f7a4_48 ?_
  refine z_bipush K cb_63 dJ6_bitCount_0f7a4_49 ?_
  refine z_iand K dJ6_bitCount_0f7a4_51 ?_
  exact z_iret K dJ6_bitCount_0f7a4_52
def f_X6_canTell (v1 : Int32) (v2 : Int32) (s : zM) : Option (Int32 × zM) :=
  if v2 < (1 : Int32) then
    some ((0 : Int32), s)
  else
    if (7 : Int32) < v2 then
      some ((0 : Int32), s)
    else
      bnd (f_J6_bitCount_0f7a4 v1 s) (fun r2 s1 =>
      if r2 = v2 then
        bnd (f_X0_number s1) (fun r4 s3 =>
        if (v1.toUInt32 >>> (r4.toUInt32 &&& Int32.toUInt32 31)).toInt32 = 0 then
          some ((1 : Int32), s3)
        else
          some ((0 : Int32), s3))
      else
        some ((0 : Int32), s1))
set_option maxRecDepth 100000 in
set_option maxHeartbeats 4000000 in
theorem t_X6_canTell (w : zWd) (d : Nat) (hd : 1 ≤ d) (v1 : Int32) (v2 : Int32) (s : zM) : zMt w yX6_canTell cX6_canTell 3 (some .boolean) d zφN zφN zri [.ref (w.2.2.2 + 45), .int v1, .int v2] s (f_X6_canTell v1 v2 s) := by
  refine zMtN_of (own := RX6) rfl (by decide +kernel) (Nat.le_of_ble_eq_true rfl) cd_X6_canTell [(0, .ref (w.2.2.2 + 45)), (1, .int v1), (2, .int v2)] rfl ?_
  rintro a rfl K
  unfold f_X6_canTell
  refine z_iload_n K 2 rfl dX6_canTell_0 ?_
  refine z_iconst K ci_1 dX6_canTell_1 ?_
  refine z_icmp_lt K (tgt := 35) dX6_canTell_2 (by decide) ?_ ?_
  · refine z_iconst K ci_0 dX6_canTell_35 ?_
    exact z_zret (Or.inl rfl) K dX6_canTell_36
  · refine z_iload_n K 2 rfl dX6_canTell_5 ?_
    refine z_bipush K cb_7 dX6_canTell_6 ?_
    refine z_icmp_gt K (tgt := 35) dX6_canTell_8 (by decide) ?_ ?_
    · refine z_iconst K ci_0 dX6_canTell_35 ?_
      exact z_zret (Or.inl rfl) K dX6_canTell_36
    · refine z_iload_n K 1 rfl dX6_canTell_11 ?_
      refine z_cSi (As := [.int v1]) (rest := []) K (t_J6_bitCount_0f7a4 a.1 (d - 1) (by omega) v1 s) mf_J6_bitCount_0f7a4 ml_X6_84 (Nat.le_of_ble_eq_true rfl) (by omega) rfl rfl (Nat.le_of_ble_eq_true rfl) dX6_canTell_12 (fun r2 s1 => ?_)
      refine z_iload_n K 2 rfl dX6_canTell_15 ?_
      refine z_icmp_ne K (tgt := 35) dX6_canTell_16 (by decide) ?_ ?_
      · refine z_iconst K ci_0 dX6_canTell_35 ?_
        exact z_zret (Or.inl rfl) K dX6_canTell_36
      · refine z_iload_n K 1 rfl dX6_canTell_19 ?_
        refine z_aload_n K 0 rfl dX6_canTell_20 ?_
        refine z_getr K fd_X6_34 ob_45_0 dX6_canTell_21 ?_
        refine z_cVi (As := []) (rest := [.int v1]) K (t_X0_number a.1 (d - 1) (by omega) s1) mf_X0_number ml_X6_42 (Nat.le_of_ble_eq_true rfl) (by omega) rfl rc_3 rfl (Nat.le_of_ble_eq_true rfl) dX6_canTell_24 (fun r4 s3 => ?_)
        refine z_iushr K dX6_canTell_27 ?_
        refine z_if_ne K (tgt := 35) dX6_canTell_28 (by decide) ?_ ?_
        · refine z_iconst K ci_0 dX6_canTell_35 ?_
          exact z_zret (Or.inl rfl) K dX6_canTell_36
        · refine z_iconst K ci_1 dX6_canTell_31 ?_
          refine z_goto K (tgt := 36) dX6_canTell_32 (by decide) ?_
          exact z_zret (Or.inr rfl) K dX6_canTell_36
def f_X6_isTold (v1 : Int32) (v2 : Int32) (s : zM) : Option (Int32 × zM) :=
  bnd (f_X0_knows v2 s) (fun r2 s1 =>
  if r2 = 0 then
    some ((0 : Int32), s1)
  else
    if ((v1 >>> (v2 &&& 31)) &&& (1 : Int32)) = 0 then
      some ((0 : Int32), s1)
    else
      some ((1 : Int32), s1))
set_option maxRecDepth 100000 in
set_option maxHeartbeats 4000000 in
theorem t_X6_isTold (w : zWd) (d : Nat) (hd : 1 ≤ d) (v1 : Int32) (v2 : Int32) (s : zM) : zMt w yX6_isTold cX6_isTold 3 (some .boolean) d zφN zφN zri [.ref (w.2.2.2 + 45), .int v1, .int v2] s (f_X6_isTold v1 v2 s) := by
  refine zMtN_of (own := RX6) rfl (by decide +kernel) (Nat.le_of_ble_eq_true rfl) cd_X6_isTold [(0, .ref (w.2.2.2 + 45)), (1, .int v1), (2, .int v2)] rfl ?_
  rintro a rfl K
  unfold f_X6_isTold
  refine z_aload_n K 0 rfl dX6_isTold_0 ?_
  refine z_getr K fd_X6_34 ob_45_0 dX6_isTold_1 ?_
  refine z_iload_n K 2 rfl dX6_isTold_4 ?_
  refine z_cVi (As := [.int v2]) (rest := []) K (t_X0_knows a.1 (d - 1) (by omega) v2 s) mf_X0_knows ml_X6_89 (Nat.le_of_ble_eq_true rfl) (by omega) rfl rc_3 rfl (Nat.le_of_ble_eq_true rfl) dX6_isTold_5 (fun r2 s1 => ?_)
  refine z_if_eq K (tgt := 23) dX6_isTold_8 (by decide) ?_ ?_
  · refine z_iconst K ci_0 dX6_isTold_23 ?_
    exact z_zret (Or.inl rfl) K dX6_isTold_24
  · refine z_iload_n K 1 rfl dX6_isTold_11 ?_
    refine z_iload_n K 2 rfl dX6_isTold_12 ?_
    refine z_ishr K dX6_isTold_13 ?_
    refine z_iconst K ci_1 dX6_isTold_14 ?_
    refine z_iand K dX6_isTold_15 ?_
    refine z_if_eq K (tgt := 23) dX6_isTold_16 (by decide) ?_ ?_
    · refine z_iconst K ci_0 dX6_isTold_23 ?_
      exact z_zret (Or.inl rfl) K dX6_isTold_24
    · refine z_iconst K ci_1 dX6_isTold_19 ?_
      refine z_goto K (tgt := 24) dX6_isTold_20 (by decide) ?_
      exact z_zret (Or.inr rfl) K dX6_isTold_24
def f_X6_insert_L2 (F : Nat) (k58 : Int32 → zM → Option (Int32 × zM)) (v2 : Int32) : Nat → Int32 → zM → Option (Int32 × zM)
  | 0, _, _ => none
  | n + 1, v3, s =>
    if 0 < v3 then
      if v3 < (7 : Int32) then
        if zin (v3 - (1 : Int32)) 7 = true then
          if (zg s 47 ((v3 - (1 : Int32))).toNatClampNeg) < v2 then
            k58 v3 s
          else
            if zin (v3 - (1 : Int32)) 7 = true then
              if (zg s 47 ((v3 - (1 : Int32))).toNatClampNeg) = v2 then
                some ((0 : Int32), s)
              else
                if zin (v3 - (1 : Int32)) 7 = true then
                  if zin v3 7 = true then
                    lt (zs s 47 (v3).toNatClampNeg (zg s 47 ((v3 - (1 : Int32))).toNatClampNeg)) (fun s1 =>
                    lt (v3 + (-1 : Int32)) (fun y2 =>
                    f_X6_insert_L2 F k58 v2 n y2 s1))
                  else none
                else none
            else none
        else none
      else
        k58 v3 s
    else
      k58 v3 s
set_option maxRecDepth 100000 in
set_option maxHeartbeats 4000000 in
theorem t_X6_insert_L2 {a : zA} {d : Nat} (F : Nat) (K : zOK a cX6_insert 4 RX6 (some .boolean) d) (hd : 0 ≤ d) {k58 : Int32 → zM → Option (Int32 × zM)} (v2 : Int32) (h58 : ∀ (v3 : Int32) (s : zM), zJ a 4 (zG a zφN zri) zφN 58 [(0, .ref (a.1.2.2.2 + 45)), (2, .int v2), (3, .int v3)] [] s (k58 v3 s)) : ∀ (n : Nat) (v3 : Int32) (s : zM), zJ a 4 (zG a zφN zri) zφN 2 [(0, .ref (a.1.2.2.2 + 45)), (2, .int v2), (3, .int v3)] [] s (f_X6_insert_L2 F k58 v2 n v3 s) := by
  intro n
  induction n with
  | zero => intros; exact z_none
  | succ n ih =>
    intro v3 s
    rw [f_X6_insert_L2]
    refine z_iload_n K 2 rfl dX6_insert_2 ?_
    refine z_if_le K (tgt := 58) dX6_insert_3 (by decide) ?_ ?_
    · exact h58 v3 s
    · refine z_iload_n K 2 rfl dX6_insert_6 ?_
      refine z_bipush K cb_7 dX6_insert_7 ?_
      refine z_icmp_ge K (tgt := 58) dX6_insert_9 (by decide) ?_ ?_
      · exact h58 v3 s
      · refine z_aload_n K 0 rfl dX6_insert_12 ?_
        refine z_getr K fd_X6_22 ob_45_6 dX6_insert_13 ?_
        refine z_iload_n K 2 rfl dX6_insert_16 ?_
        refine z_iconst K ci_1 dX6_insert_17 ?_
        refine z_isub K dX6_insert_18 ?_
        refine z_iald K ar_47 dX6_insert_19 ?_
        refine z_iload_n K 1 rfl dX6_insert_20 ?_
        refine z_icmp_lt K (tgt := 58) dX6_insert_21 (by decide) ?_ ?_
        · exact h58 v3 s
        · refine z_aload_n K 0 rfl dX6_insert_24 ?_
          refine z_getr K fd_X6_22 ob_45_6 dX6_insert_25 ?_
          refine z_iload_n K 2 rfl dX6_insert_28 ?_
          refine z_iconst K ci_1 dX6_insert_29 ?_
          refine z_isub K dX6_insert_30 ?_
          refine z_iald K ar_47 dX6_insert_31 ?_
          refine z_iload_n K 1 rfl dX6_insert_32 ?_
          refine z_icmp_ne K (tgt := 38) dX6_insert_33 (by decide) ?_ ?_
          · refine z_aload_n K 0 rfl dX6_insert_38 ?_
            refine z_getr K fd_X6_22 ob_45_6 dX6_insert_39 ?_
            refine z_iload_n K 2 rfl dX6_insert_42 ?_
            refine z_aload_n K 0 rfl dX6_insert_43 ?_
            refine z_getr K fd_X6_22 ob_45_6 dX6_insert_44 ?_
            refine z_iload_n K 2 rfl dX6_insert_47 ?_
            refine z_iconst K ci_1 dX6_insert_48 ?_
            refine z_isub K dX6_insert_49 ?_
            refine z_iald K ar_47 dX6_insert_50 ?_
            refine z_iast K ar_47 dX6_insert_51 ?_
            refine z_ltm (fun s1 => ?_)
            refine z_iincN K (j := 2) (lv' := [(0, .ref (a.1.2.2.2 + 45)), (2, .int v2)]) ci_m1 rfl dX6_insert_52 (Nat.le_of_ble_eq_true rfl) rfl (fun y2 => ?_)
            refine z_goto K (tgt := 2) dX6_insert_55 (by decide) ?_
            refine z_sub [1, 2, 0] rfl ?_
            exact ih y2 s1
          · refine z_iconst K ci_0 dX6_insert_36 ?_
            exact z_zret (Or.inl rfl) K dX6_insert_37
def f_X6_insert_j58 (F : Nat) (v2 : Int32) (v3 : Int32) (s : zM) : Option (Int32 × zM) :=
  if v3 < 0 then
    some ((1 : Int32), s)
  else
    if v3 < (7 : Int32) then
      if zin v3 7 = true then
        lt (zs s 47 (v3).toNatClampNeg v2) (fun s5 =>
        some ((1 : Int32), s5))
      else none
    else
      some ((1 : Int32), s)
set_option maxRecDepth 100000 in
set_option maxHeartbeats 4000000 in
theorem t_X6_insert_j58 {a : zA} {d : Nat} (F : Nat) (K : zOK a cX6_insert 4 RX6 (some .boolean) d) (hd : 0 ≤ d) (v2 : Int32) (v3 : Int32) (s : zM) : zJ a 4 (zG a zφN zri) zφN 58 [(0, .ref (a.1.2.2.2 + 45)), (2, .int v2), (3, .int v3)] [] s (f_X6_insert_j58 F v2 v3 s) := by
  unfold f_X6_insert_j58
  refine z_iload_n K 2 rfl dX6_insert_58 ?_
  refine z_if_lt K (tgt := 75) dX6_insert_59 (by decide) ?_ ?_
  · refine z_iconst K ci_1 dX6_insert_75 ?_
    exact z_zret (Or.inr rfl) K dX6_insert_76
  · refine z_iload_n K 2 rfl dX6_insert_62 ?_
    refine z_bipush K cb_7 dX6_insert_63 ?_
    refine z_icmp_ge K (tgt := 75) dX6_insert_65 (by decide) ?_ ?_
    · refine z_iconst K ci_1 dX6_insert_75 ?_
      exact z_zret (Or.inr rfl) K dX6_insert_76
    · refine z_aload_n K 0 rfl dX6_insert_68 ?_
      refine z_getr K fd_X6_22 ob_45_6 dX6_insert_69 ?_
      refine z_iload_n K 2 rfl dX6_insert_72 ?_
      refine z_iload_n K 1 rfl dX6_insert_73 ?_
      refine z_iast K ar_47 dX6_insert_74 ?_
      refine z_ltm (fun s5 => ?_)
      refine z_iconst K ci_1 dX6_insert_75 ?_
      exact z_zret (Or.inr rfl) K dX6_insert_76
def f_X6_insert (F : Nat) (v1 : Int32) (v2 : Int32) (s : zM) : Option (Int32 × zM) :=
  f_X6_insert_L2 F (fun y4 s3 =>
    f_X6_insert_j58 F v2 y4 s3) v2 F v1 s
set_option maxRecDepth 100000 in
set_option maxHeartbeats 4000000 in
theorem t_X6_insert (w : zWd) (F : Nat) (d : Nat) (hd : 0 ≤ d) (v1 : Int32) (v2 : Int32) (s : zM) : zMt w yX6_insert cX6_insert 4 (some .boolean) d zφN zφN zri [.ref (w.2.2.2 + 45), .int v1, .int v2] s (f_X6_insert F v1 v2 s) := by
  refine zMtN_of (own := RX6) rfl (by decide +kernel) (Nat.le_of_ble_eq_true rfl) cd_X6_insert [(0, .ref (w.2.2.2 + 45)), (1, .int v1), (2, .int v2)] rfl ?_
  rintro a rfl K
  unfold f_X6_insert
  refine z_iload_n K 1 rfl dX6_insert_0 ?_
  refine z_istore_n K (lv' := [(3, .int v1), (0, .ref (a.1.2.2.2 + 45)), (1, .int v1), (2, .int v2)]) dX6_insert_1 rfl (Nat.le_of_ble_eq_true rfl) rfl ?_
  refine z_sub [1, 3, 0] rfl ?_
  refine t_X6_insert_L2 F K hd v2 (fun y4 s3 => ?_) F v1 s
  exact t_X6_insert_j58 F K hd v2 y4 s3
def f_X6_tell_L12 (F : Nat) (k80 : zM → Option (Int32 × zM)) (v1 : Int32) : Nat → Int32 → zM → Option (Int32 × zM)
  | 0, _, _ => none
  | n + 1, v3, s =>
    bnd (f_X0_number s) (fun r4 s3 =>
    if v3 < r4 then
      if (zg s3 45 10) < (7 : Int32) then
        bnd (f_X6_isTold v1 v3 s3) (fun r6 s5 =>
        if r6 = 0 then
          lt (v3 + (1 : Int32)) (fun y7 =>
          f_X6_tell_L12 F k80 v1 n y7 s5)
        else
          bnd (f_X0_lives v3 s5) (fun r9 s8 =>
          if r9 = 0 then
            some ((0 : Int32), s8)
          else
            if zin (zg s8 45 10) 7 = true then
              lt (zs s8 46 ((zg s8 45 10)).toNatClampNeg v3) (fun s10 =>
              lt (zs s10 45 10 ((zg s10 45 10) + (1 : Int32))) (fun s11 =>
              lt (v3 + (1 : Int32)) (fun y12 =>
              f_X6_tell_L12 F k80 v1 n y12 s11)))
            else none))
      else
        k80 s3
    else
      k80 s3)
set_option maxRecDepth 100000 in
set_option maxHeartbeats 4000000 in
theorem t_X6_tell_L12 {a : zA} {d : Nat} (F : Nat) (K : zOK a cX6_tell 6 RX6 (some .boolean) d) (hd : 2 ≤ d) {k80 : zM → Option (Int32 × zM)} (v1 : Int32) (h80 : ∀ (s : zM), zJ a 6 (zG a zφN zri) zφN 80 [(0, .ref (a.1.2.2.2 + 45)), (1, .int v1), (2, .ref (a.1.2.2.2 + 1))] [] s (k80 s)) : ∀ (n : Nat) (v3 : Int32) (s : zM), zJ a 6 (zG a zφN zri) zφN 12 [(0, .ref (a.1.2.2.2 + 45)), (1, .int v1), (2, .ref (a.1.2.2.2 + 1)), (3, .int v3)] [] s (f_X6_tell_L12 F k80 v1 n v3 s) := by
  intro n
  induction n with
  | zero => intros; exact z_none
  | succ n ih =>
    intro v3 s
    rw [f_X6_tell_L12]
    refine z_iload_n K 3 rfl dX6_tell_12 ?_
    refine z_aload_n K 0 rfl dX6_tell_13 ?_
    refine z_getr K fd_X6_34 ob_45_0 dX6_tell_14 ?_
    refine z_cVi (As := []) (rest := [.int v3]) K (t_X0_number a.1 (d - 1) (by omega) s) mf_X0_number ml_X6_42 (Nat.le_of_ble_eq_true rfl) (by omega) rfl rc_3 rfl (Nat.le_of_ble_eq_true rfl) dX6_tell_17 (fun r4 s3 => ?_)
    refine z_icmp_ge K (tgt := 80) dX6_tell_20 (by decide) ?_ ?_
    · refine z_sub [0, 1, 2] rfl ?_
      exact h80 s3
    · refine z_aload_n K 0 rfl dX6_tell_23 ?_
      refine z_geti K fd_X6_92 ob_45_10 dX6_tell_24 ?_
      refine z_bipush K cb_7 dX6_tell_27 ?_
      refine z_icmp_ge K (tgt := 80) dX6_tell_29 (by decide) ?_ ?_
      · refine z_sub [0, 1, 2] rfl ?_
        exact h80 s3
      · refine z_aload_n K 0 rfl dX6_tell_32 ?_
        refine z_iload_n K 1 rfl dX6_tell_33 ?_
        refine z_iload_n K 3 rfl dX6_tell_34 ?_
        refine z_cVi (As := [.int v1, .int v3]) (rest := []) K (t_X6_isTold a.1 (d - 1) (by omega) v1 v3 s3) mf_X6_isTold ml_X6_98 (Nat.le_of_ble_eq_true rfl) (by omega) rfl rc_45 rfl (Nat.le_of_ble_eq_true rfl) dX6_tell_35 (fun r6 s5 => ?_)
        refine z_if_eq K (tgt := 74) dX6_tell_38 (by decide) ?_ ?_
        · refine z_iincN K (j := 3) (lv' := [(0, .ref (a.1.2.2.2 + 45)), (1, .int v1), (2, .ref (a.1.2.2.2 + 1))]) ci_1 rfl dX6_tell_74 (Nat.le_of_ble_eq_true rfl) rfl (fun y7 => ?_)
          refine z_goto K (tgt := 12) dX6_tell_77 (by decide) ?_
          refine z_sub [1, 2, 3, 0] rfl ?_
          exact ih y7 s5
        · refine z_aload_n K 0 rfl dX6_tell_41 ?_
          refine z_getr K fd_X6_34 ob_45_0 dX6_tell_42 ?_
          refine z_iload_n K 3 rfl dX6_tell_45 ?_
          refine z_cVi (As := [.int v3]) (rest := []) K (t_X0_lives a.1 (d - 1) (by omega) v3 s5) mf_X0_lives ml_X6_102 (Nat.le_of_ble_eq_true rfl) (by omega) rfl rc_3 rfl (Nat.le_of_ble_eq_true rfl) dX6_tell_46 (fun r9 s8 => ?_)
          refine z_if_ne K (tgt := 54) dX6_tell_49 (by decide) ?_ ?_
          · refine z_aload_n K 0 rfl dX6_tell_54 ?_
            refine z_getr K fd_X6_18 ob_45_5 dX6_tell_55 ?_
            refine z_aload_n K 0 rfl dX6_tell_58 ?_
            refine z_geti K fd_X6_92 ob_45_10 dX6_tell_59 ?_
            refine z_iload_n K 3 rfl dX6_tell_62 ?_
            refine z_iast K ar_46 dX6_tell_63 ?_
            refine z_ltm (fun s10 => ?_)
            refine z_aload_n K 0 rfl dX6_tell_64 ?_
            refine z_dup K rfl dX6_tell_65 ?_
            refine z_geti K fd_X6_92 ob_45_10 dX6_tell_66 ?_
            refine z_iconst K ci_1 dX6_tell_69 ?_
            refine z_iadd K dX6_tell_70 ?_
            refine z_puti K fw_X6_92 ob_45_10 dX6_tell_71 ?_
            refine z_ltm (fun s11 => ?_)
            refine z_iincN K (j := 3) (lv' := [(0, .ref (a.1.2.2.2 + 45)), (1, .int v1), (2, .ref (a.1.2.2.2 + 1))]) ci_1 rfl dX6_tell_74 (Nat.le_of_ble_eq_true rfl) rfl (fun y12 => ?_)
            refine z_goto K (tgt := 12) dX6_tell_77 (by decide) ?_
            refine z_sub [1, 2, 3, 0] rfl ?_
            exact ih y12 s11
          · refine z_iconst K ci_0 dX6_tell_52 ?_
            exact z_zret (Or.inl rfl) K dX6_tell_53
def f_X6_tell_j132 (F : Nat) (k82 : Int32 → zM → Option (Int32 × zM)) (v1 : Int32) (v3 : Int32) (v4 : Int32) (s : zM) : Option (Int32 × zM) :=
  bnd (f_X6_insert F v3 v4 s) (fun r21 s20 =>
  if r21 = 0 then
    some ((0 : Int32), s20)
  else
    lt (v3 + (1 : Int32)) (fun y22 =>
    k82 y22 s20))
set_option maxRecDepth 100000 in
set_option maxHeartbeats 4000000 in
theorem t_X6_tell_j132 {a : zA} {d : Nat} (F : Nat) (K : zOK a cX6_tell 6 RX6 (some .boolean) d) (hd : 2 ≤ d) {k82 : Int32 → zM → Option (Int32 × zM)} (v1 : Int32) (h82 : ∀ (v3 : Int32) (s : zM), zJ a 6 (zG a zφN zri) zφN 82 [(0, .ref (a.1.2.2.2 + 45)), (1, .int v1), (2, .ref (a.1.2.2.2 + 1)), (3, .int v3)] [] s (k82 v3 s)) (v3 : Int32) (v4 : Int32) (s : zM) : zJ a 6 (zG a zφN zri) zφN 132 [(0, .ref (a.1.2.2.2 + 45)), (1, .int v1), (2, .ref (a.1.2.2.2 + 1)), (3, .int v3), (4, .int v4)] [] s (f_X6_tell_j132 F k82 v1 v3 v4 s) := by
  unfold f_X6_tell_j132
  refine z_aload_n K 0 rfl dX6_tell_132 ?_
  refine z_iload_n K 3 rfl dX6_tell_133 ?_
  refine z_iload K 4 rfl dX6_tell_134 ?_
  refine z_cVi (As := [.int v3, .int v4]) (rest := []) K (t_X6_insert a.1 F (d - 1) (by omega) v3 v4 s) mf_X6_insert ml_X6_113 (Nat.le_of_ble_eq_true rfl) (by omega) rfl rc_45 rfl (Nat.le_of_ble_eq_true rfl) dX6_tell_136 (fun r21 s20 => ?_)
  refine z_if_ne K (tgt := 144) dX6_tell_139 (by decide) ?_ ?_
  · refine z_iincN K (j := 3) (lv' := [(0, .ref (a.1.2.2.2 + 45)), (1, .int v1), (2, .ref (a.1.2.2.2 + 1)), (4, .int v4)]) ci_1 rfl dX6_tell_144 (Nat.le_of_ble_eq_true rfl) rfl (fun y22 => ?_)
    refine z_goto K (tgt := 82) dX6_tell_147 (by decide) ?_
    refine z_sub [1, 2, 3, 0] rfl ?_
    exact h82 y22 s20
  · refine z_iconst K ci_0 dX6_tell_142 ?_
    exact z_zret (Or.inl rfl) K dX6_tell_143
def f_X6_tell_L82 (F : Nat) (k150 : zM → Option (Int32 × zM)) (v1 : Int32) : Nat → Int32 → zM → Option (Int32 × zM)
  | 0, _, _ => none
  | n + 1, v3, s =>
    if v3 < (zg s 45 10) then
      bnd (f_X10_byteAt v3 s) (fun r15 s14 =>
      bnd (f_X0_at r15 s14) (fun r17 s16 =>
      bnd (f_X8_isSeat r15 s16) (fun r19 s18 =>
      if r19 = 0 then
        some ((0 : Int32), s18)
      else
        if r17 = (-1 : Int32) then
          f_X6_tell_j132 F (f_X6_tell_L82 F k150 v1 n) v1 v3 r15 s18
        else
          bnd (f_X6_isTold v1 r17 s18) (fun r24 s23 =>
          if r24 = 0 then
            some ((0 : Int32), s23)
          else
            f_X6_tell_j132 F (f_X6_tell_L82 F k150 v1 n) v1 v3 r15 s23))))
    else
      k150 s
set_option maxRecDepth 100000 in
set_option maxHeartbeats 4000000 in
theorem t_X6_tell_L82 {a : zA} {d : Nat} (F : Nat) (K : zOK a cX6_tell 6 RX6 (some .boolean) d) (hd : 2 ≤ d) {k150 : zM → Option (Int32 × zM)} (v1 : Int32) (h150 : ∀ (s : zM), zJ a 6 (zG a zφN zri) zφN 150 [] [] s (k150 s)) : ∀ (n : Nat) (v3 : Int32) (s : zM), zJ a 6 (zG a zφN zri) zφN 82 [(0, .ref (a.1.2.2.2 + 45)), (1, .int v1), (2, .ref (a.1.2.2.2 + 1)), (3, .int v3)] [] s (f_X6_tell_L82 F k150 v1 n v3 s) := by
  intro n
  induction n with
  | zero => intros; exact z_none
  | succ n ih =>
    intro v3 s
    rw [f_X6_tell_L82]
    refine z_iload_n K 3 rfl dX6_tell_82 ?_
    refine z_aload_n K 0 rfl dX6_tell_83 ?_
    refine z_geti K fd_X6_92 ob_45_10 dX6_tell_84 ?_
    refine z_icmp_ge K (tgt := 150) dX6_tell_87 (by decide) ?_ ?_
    · refine z_sub [] rfl ?_
      exact h150 s
    · refine z_aload_n K 2 rfl dX6_tell_90 ?_
      refine z_iload_n K 3 rfl dX6_tell_91 ?_
      refine z_cVi (As := [.int v3]) (rest := []) K (t_X10_byteAt a.1 (d - 1) (by omega) v3 s) mf_X10_byteAt ml_X6_105 (Nat.le_of_ble_eq_true rfl) (by omega) rfl rc_1 rfl (Nat.le_of_ble_eq_true rfl) dX6_tell_92 (fun r15 s14 => ?_)
      refine z_istore K (lv' := [(4, .int r15), (0, .ref (a.1.2.2.2 + 45)), (1, .int v1), (2, .ref (a.1.2.2.2 + 1)), (3, .int v3)]) dX6_tell_95 (Nat.le_of_ble_eq_true rfl) rfl ?_
      refine z_aload_n K 1 rfl dX6_tell_97 ?_
      refine z_getr K fd_X6_34 ob_45_0 dX6_tell_98 ?_
      refine z_iload K 0 rfl dX6_tell_101 ?_
      refine z_cVi (As := [.int r15]) (rest := []) K (t_X0_at a.1 (d - 1) (by omega) r15 s14) mf_X0_at ml_X6_78 (Nat.le_of_ble_eq_true rfl) (by omega) rfl rc_3 rfl (Nat.le_of_ble_eq_true rfl) dX6_tell_103 (fun r17 s16 => ?_)
      refine z_istore K (lv' := [(5, .int r17), (4, .int r15), (0, .ref (a.1.2.2.2 + 45)), (1, .int v1), (2, .ref (a.1.2.2.2 + 1)), (3, .int v3)]) dX6_tell_106 (Nat.le_of_ble_eq_true rfl) rfl ?_
      refine z_iload K 1 rfl dX6_tell_108 ?_
      refine z_cSi (As := [.int r15]) (rest := []) K (t_X8_isSeat a.1 (d - 1) (by omega) r15 s16) mf_X8_isSeat ml_X6_110 (Nat.le_of_ble_eq_true rfl) (by omega) rfl rfl (Nat.le_of_ble_eq_true rfl) dX6_tell_110 (fun r19 s18 => ?_)
      refine z_if_eq K (tgt := 142) dX6_tell_113 (by decide) ?_ ?_
      · refine z_iconst K ci_0 dX6_tell_142 ?_
        exact z_zret (Or.inl rfl) K dX6_tell_143
      · refine z_iload K 0 rfl dX6_tell_116 ?_
        refine z_iconst K ci_m1 dX6_tell_118 ?_
        refine z_icmp_eq K (tgt := 132) dX6_tell_119 (by decide) ?_ ?_
        · refine z_sub [2, 3, 4, 5, 1] rfl ?_
          exact t_X6_tell_j132 F K hd v1 ih v3 r15 s18
        · refine z_aload_n K 2 rfl dX6_tell_122 ?_
          refine z_iload_n K 3 rfl dX6_tell_123 ?_
          refine z_iload K 0 rfl dX6_tell_124 ?_
          refine z_cVi (As := [.int v1, .int r17]) (rest := []) K (t_X6_isTold a.1 (d - 1) (by omega) v1 r17 s18) mf_X6_isTold ml_X6_98 (Nat.le_of_ble_eq_true rfl) (by omega) rfl rc_45 rfl (Nat.le_of_ble_eq_true rfl) dX6_tell_126 (fun r24 s23 => ?_)
          refine z_if_eq K (tgt := 142) dX6_tell_129 (by decide) ?_ ?_
          · refine z_iconst K ci_0 dX6_tell_142 ?_
            exact z_zret (Or.inl rfl) K dX6_tell_143
          · refine z_sub [2, 3, 4, 5, 1] rfl ?_
            exact t_X6_tell_j132 F K hd v1 ih v3 r15 s23
def f_X6_tell (F : Nat) (v1 : Int32) (s : zM) : Option (Int32 × zM) :=
  lt (zs s 45 10 (0 : Int32)) (fun s1 =>
  lt (zs s1 45 11 v1) (fun s2 =>
  f_X6_tell_L12 F (fun s13 =>
    f_X6_tell_L82 F (fun s25 =>
      some ((1 : Int32), s25)) v1 F (0 : Int32) s13) v1 F (0 : Int32) s2))
set_option maxRecDepth 100000 in
set_option maxHeartbeats 4000000 in
theorem t_X6_tell (w : zWd) (F : Nat) (d : Nat) (hd : 2 ≤ d) (v1 : Int32) (s : zM) : zMt w yX6_tell cX6_tell 6 (some .boolean) d zφN zφN zri [.ref (w.2.2.2 + 45), .int v1, .ref (w.2.2.2 + 1)] s (f_X6_tell F v1 s) := by
  refine zMtN_of (own := RX6) rfl (by decide +kernel) (Nat.le_of_ble_eq_true rfl) cd_X6_tell [(0, .ref (w.2.2.2 + 45)), (1, .int v1), (2, .ref (w.2.2.2 + 1))] rfl ?_
  rintro a rfl K
  unfold f_X6_tell
  refine z_aload_n K 0 rfl dX6_tell_0 ?_
  refine z_iconst K ci_0 dX6_tell_1 ?_
  refine z_puti K fw_X6_92 ob_45_10 dX6_tell_2 ?_
  refine z_ltm (fun s1 => ?_)
  refine z_aload_n K 0 rfl dX6_tell_5 ?_
  refine z_iload_n K 1 rfl dX6_tell_6 ?_
  refine z_puti K fw_X6_95 ob_45_11 dX6_tell_7 ?_
  refine z_ltm (fun s2 => ?_)
  refine z_iconst K ci_0 dX6_tell_10 ?_
  refine z_istore_n K (lv' := [(3, .int (0 : Int32)), (0, .ref (a.1.2.2.2 + 45)), (1, .int v1), (2, .ref (a.1.2.2.2 + 1))]) dX6_tell_11 rfl (Nat.le_of_ble_eq_true rfl) rfl ?_
  refine z_sub [1, 2, 3, 0] rfl ?_
  refine t_X6_tell_L12 F K hd v1 (fun s13 => ?_) F (0 : Int32) s2
  refine z_iconst K ci_0 dX6_tell_80 ?_
  refine z_istore_n K (lv' := [(3, .int (0 : Int32)), (0, .ref (a.1.2.2.2 + 45)), (1, .int v1), (2, .ref (a.1.2.2.2 + 1))]) dX6_tell_81 rfl (Nat.le_of_ble_eq_true rfl) rfl ?_
  refine z_sub [1, 2, 3, 0] rfl ?_
  refine t_X6_tell_L82 F K hd v1 (fun s25 => ?_) F (0 : Int32) s13
  refine z_iconst K ci_1 dX6_tell_150 ?_
  exact z_zret (Or.inr rfl) K dX6_tell_151
def f_X6_noteIfLess_j15 (v1 : Int32) (s : zM) : Option (Unit × zM) :=
  lt (zs s 45 13 (1 : Int32)) (fun s1 =>
  lt (zs s1 45 12 v1) (fun s2 =>
  lt (zcp s2 49 50 7) (fun s3 =>
  some ((), s3))))
set_option maxRecDepth 100000 in
set_option maxHeartbeats 4000000 in
theorem t_X6_noteIfLess_j15 {a : zA} {d : Nat} (K : zOK a cX6_noteIfLess 2 RX6 none d) (hd : 1 ≤ d) (v1 : Int32) (s : zM) : zJ a 2 (zG a zφN zrv) zφN 15 [(0, .ref (a.1.2.2.2 + 45)), (1, .int v1)] [] s (f_X6_noteIfLess_j15 v1 s) := by
  unfold f_X6_noteIfLess_j15
  refine z_aload_n K 0 rfl dX6_noteIfLess_15 ?_
  refine z_iconst K ci_1 dX6_noteIfLess_16 ?_
  refine z_putz K (Or.inr rfl) fw_X6_116 ob_45_13 dX6_noteIfLess_17 ?_
  refine z_ltm (fun s1 => ?_)
  refine z_aload_n K 0 rfl dX6_noteIfLess_20 ?_
  refine z_iload_n K 1 rfl dX6_noteIfLess_21 ?_
  refine z_puti K fw_X6_120 ob_45_12 dX6_noteIfLess_22 ?_
  refine z_ltm (fun s2 => ?_)
  refine z_aload_n K 0 rfl dX6_noteIfLess_25 ?_
  refine z_getr K fd_X6_28 ob_45_8 dX6_noteIfLess_26 ?_
  refine z_iconst K ci_0 dX6_noteIfLess_29 ?_
  refine z_aload_n K 0 rfl dX6_noteIfLess_30 ?_
  refine z_getr K fd_X6_31 ob_45_9 dX6_noteIfLess_31 ?_
  refine z_iconst K ci_0 dX6_noteIfLess_34 ?_
  refine z_bipush K cb_7 dX6_noteIfLess_35 ?_
  refine z_copy K js_nat js_sta js_ini ml_X6_134 ar_49 ar_50 rfl rfl (by decide) (N := 7) rfl (by decide) (by decide) rfl (by omega) (Nat.le_of_ble_eq_true rfl) dX6_noteIfLess_37 ?_
  refine z_ltm (fun s3 => ?_)
  exact z_vret K dX6_noteIfLess_40
def f_X6_noteIfLess (v1 : Int32) (s : zM) : Option (Unit × zM) :=
  if (zg s 45 13) = 0 then
    f_X6_noteIfLess_j15 v1 s
  else
    if v1 < (zg s 45 12) then
      f_X6_noteIfLess_j15 v1 s
    else
      some ((), s)
set_option maxRecDepth 100000 in
set_option maxHeartbeats 4000000 in
theorem t_X6_noteIfLess (w : zWd) (d : Nat) (hd : 1 ≤ d) (v1 : Int32) (s : zM) : zMt w yX6_noteIfLess cX6_noteIfLess 2 none d zφN zφN zrv [.ref (w.2.2.2 + 45), .int v1] s (f_X6_noteIfLess v1 s) := by
  refine zMtN_of (own := RX6) rfl (by decide +kernel) (Nat.le_of_ble_eq_true rfl) cd_X6_noteIfLess [(0, .ref (w.2.2.2 + 45)), (1, .int v1)] rfl ?_
  rintro a rfl K
  unfold f_X6_noteIfLess
  refine z_aload_n K 0 rfl dX6_noteIfLess_0 ?_
  refine z_geti K fd_X6_116 ob_45_13 dX6_noteIfLess_1 ?_
  refine z_if_eq K (tgt := 15) dX6_noteIfLess_4 (by decide) ?_ ?_
  · exact t_X6_noteIfLess_j15 K hd v1 s
  · refine z_iload_n K 1 rfl dX6_noteIfLess_7 ?_
    refine z_aload_n K 0 rfl dX6_noteIfLess_8 ?_
    refine z_geti K fd_X6_120 ob_45_12 dX6_noteIfLess_9 ?_
    refine z_icmp_ge K (tgt := 40) dX6_noteIfLess_12 (by decide) ?_ ?_
    · exact z_vret K dX6_noteIfLess_40
    · exact t_X6_noteIfLess_j15 K hd v1 s
def f_X6_seatOthers_L6 (F : Nat) (rec : Int32 → Int32 → Int32 → zM → Option (Unit × zM)) (k62 : Int32 → zM → Option (Unit × zM)) (v1 : Int32) (v3 : Int32) : Nat → Int32 → Int32 → zM → Option (Unit × zM)
  | 0, _, _, _ => none
  | n + 1, v4, v5, s =>
    if v5 < v1 then
      if v1 < (7 : Int32) then
        if zin v5 7 = true then
          if zin v5 7 = true then
            if zin v1 7 = true then
              if zin v1 7 = true then
                bnd (f_X1_quarrel F (zg s 46 (v5).toNatClampNeg) (zg s 49 (v5).toNatClampNeg) (zg s 46 (v1).toNatClampNeg) (zg s 49 (v1).toNatClampNeg) s) (fun r2 s1 =>
                lt ((v4 + r2)) (fun y3 =>
                lt (v5 + (1 : Int32)) (fun y4 =>
                f_X6_seatOthers_L6 F rec k62 v1 v3 n y3 y4 s1)))
              else none
            else none
          else none
        else none
      else
        k62 v4 s
    else
      k62 v4 s
set_option maxRecDepth 100000 in
set_option maxHeartbeats 4000000 in
theorem t_X6_seatOthers_L6 {a : zA} {d : Nat} (F : Nat) (rec : Int32 → Int32 → Int32 → zM → Option (Unit × zM)) (K : zOK a cX6_seatOthers 6 RX6 none d) (hd : 4 ≤ d) (hrec0 : ∀ (e : Nat), d ≤ e + 1 → ∀ (v1 : Int32) (v2 : Int32) (v3 : Int32) (s : zM), zMt a.1 yX6_choose cX6_choose 5 none e zφN zφN zrv [.ref (a.1.2.2.2 + 45), .int v1, .int v2, .int v3] s (rec v1 v2 v3 s)) {k62 : Int32 → zM → Option (Unit × zM)} (v1 : Int32) (v3 : Int32) (h62 : ∀ (v4 : Int32) (s : zM), zJ a 6 (zG a zφN zrv) zφN 62 [(0, .ref (a.1.2.2.2 + 45)), (1, .int v1), (3, .int v3), (4, .int v4)] [] s (k62 v4 s)) : ∀ (n : Nat) (v4 : Int32) (v5 : Int32) (s : zM), zJ a 6 (zG a zφN zrv) zφN 6 [(0, .ref (a.1.2.2.2 + 45)), (1, .int v1), (3, .int v3), (4, .int v4), (5, .int v5)] [] s (f_X6_seatOthers_L6 F rec k62 v1 v3 n v4 v5 s) := by
  intro n
  induction n with
  | zero => intros; exact z_none
  | succ n ih =>
    intro v4 v5 s
    rw [f_X6_seatOthers_L6]
    refine z_iload K 4 rfl dX6_seatOthers_6 ?_
    refine z_iload_n K 1 rfl dX6_seatOthers_8 ?_
    refine z_icmp_ge K (tgt := 62) dX6_seatOthers_9 (by decide) ?_ ?_
    · refine z_sub [0, 1, 2, 3] rfl ?_
      exact h62 v4 s
    · refine z_iload_n K 1 rfl dX6_seatOthers_12 ?_
      refine z_bipush K cb_7 dX6_seatOthers_13 ?_
      refine z_icmp_ge K (tgt := 62) dX6_seatOthers_15 (by decide) ?_ ?_
      · refine z_sub [0, 1, 2, 3] rfl ?_
        exact h62 v4 s
      · refine z_iload K 3 rfl dX6_seatOthers_18 ?_
        refine z_aload_n K 0 rfl dX6_seatOthers_20 ?_
        refine z_getr K fd_X6_38 ob_45_1 dX6_seatOthers_21 ?_
        refine z_aload_n K 0 rfl dX6_seatOthers_24 ?_
        refine z_getr K fd_X6_18 ob_45_5 dX6_seatOthers_25 ?_
        refine z_iload K 4 rfl dX6_seatOthers_28 ?_
        refine z_iald K ar_46 dX6_seatOthers_30 ?_
        refine z_aload_n K 0 rfl dX6_seatOthers_31 ?_
        refine z_getr K fd_X6_28 ob_45_8 dX6_seatOthers_32 ?_
        refine z_iload K 4 rfl dX6_seatOthers_35 ?_
        refine z_iald K ar_49 dX6_seatOthers_37 ?_
        refine z_aload_n K 0 rfl dX6_seatOthers_38 ?_
        refine z_getr K fd_X6_18 ob_45_5 dX6_seatOthers_39 ?_
        refine z_iload_n K 1 rfl dX6_seatOthers_42 ?_
        refine z_iald K ar_46 dX6_seatOthers_43 ?_
        refine z_aload_n K 0 rfl dX6_seatOthers_44 ?_
        refine z_getr K fd_X6_28 ob_45_8 dX6_seatOthers_45 ?_
        refine z_iload_n K 1 rfl dX6_seatOthers_48 ?_
        refine z_iald K ar_49 dX6_seatOthers_49 ?_
        refine z_cVi (As := [.int (zg s 46 (v5).toNatClampNeg), .int (zg s 49 (v5).toNatClampNeg), .int (zg s 46 (v1).toNatClampNeg), .int (zg s 49 (v1).toNatClampNeg)]) (rest := [.int v4]) K (t_X1_quarrel a.1 F (d - 1) (by omega) (zg s 46 (v5).toNatClampNeg) (zg s 49 (v5).toNatClampNeg) (zg s 46 (v1).toNatClampNeg) (zg s 49 (v1).toNatClampNeg) s) mf_X1_quarrel ml_X6_58 (Nat.le_of_ble_eq_true rfl) (by omega) rfl rc_12 rfl (Nat.le_of_ble_eq_true rfl) dX6_seatOthers_50 (fun r2 s1 => ?_)
        refine z_iadd K dX6_seatOthers_53 ?_
        refine z_topi (fun y3 => ?_)
        refine z_istore K (lv' := [(4, .int y3), (0, .ref (a.1.2.2.2 + 45)), (1, .int v1), (3, .int v3), (5, .int v5)]) dX6_seatOthers_54 (Nat.le_of_ble_eq_true rfl) rfl ?_
        refine z_iincN K (j := 4) (lv' := [(4, .int y3), (0, .ref (a.1.2.2.2 + 45)), (1, .int v1), (3, .int v3)]) ci_1 rfl dX6_seatOthers_56 (Nat.le_of_ble_eq_true rfl) rfl (fun y4 => ?_)
        refine z_goto K (tgt := 6) dX6_seatOthers_59 (by decide) ?_
        refine z_sub [2, 3, 4, 1, 0] rfl ?_
        exact ih y3 y4 s1
def b_X6_seatOthers (F : Nat) (rec : Int32 → Int32 → Int32 → zM → Option (Unit × zM)) (v1 : Int32) (v2 : Int32) (v3 : Int32) (s : zM) : Option (Unit × zM) :=
  f_X6_seatOthers_L6 F rec (fun y6 s5 =>
    bnd (rec (v1 + (1 : Int32)) y6 v3 s5) (fun _ s7 =>
    some ((), s7))) v1 v3 F v2 (0 : Int32) s
set_option maxRecDepth 100000 in
set_option maxHeartbeats 4000000 in
theorem tb_X6_seatOthers {a : zA} (F : Nat) (rec : Int32 → Int32 → Int32 → zM → Option (Unit × zM)) {d : Nat} (K : zOK a cX6_seatOthers 6 RX6 none d) (hd : 4 ≤ d) (hrec0 : ∀ (e : Nat), d ≤ e + 1 → ∀ (v1 : Int32) (v2 : Int32) (v3 : Int32) (s : zM), zMt a.1 yX6_choose cX6_choose 5 none e zφN zφN zrv [.ref (a.1.2.2.2 + 45), .int v1, .int v2, .int v3] s (rec v1 v2 v3 s)) (v1 : Int32) (v2 : Int32) (v3 : Int32) (s : zM) : zJ a 6 (zG a zφN zrv) zφN 0 [(0, .ref (a.1.2.2.2 + 45)), (1, .int v1), (2, .int v2), (3, .int v3)] [] s (b_X6_seatOthers F rec v1 v2 v3 s) := by
  unfold b_X6_seatOthers
  refine z_iload_n K 2 rfl dX6_seatOthers_0 ?_
  refine z_istore K (lv' := [(4, .int v2), (0, .ref (a.1.2.2.2 + 45)), (1, .int v1), (2, .int v2), (3, .int v3)]) dX6_seatOthers_1 (Nat.le_of_ble_eq_true rfl) rfl ?_
  refine z_iconst K ci_0 dX6_seatOthers_3 ?_
  refine z_istore K (lv' := [(5, .int (0 : Int32)), (4, .int v2), (0, .ref (a.1.2.2.2 + 45)), (1, .int v1), (2, .int v2), (3, .int v3)]) dX6_seatOthers_4 (Nat.le_of_ble_eq_true rfl) rfl ?_
  refine z_sub [2, 3, 5, 1, 0] rfl ?_
  refine t_X6_seatOthers_L6 F rec K hd hrec0 v1 v3 (fun y6 s5 => ?_) F v2 (0 : Int32) s
  refine z_aload_n K 0 rfl dX6_seatOthers_62 ?_
  refine z_iload_n K 1 rfl dX6_seatOthers_63 ?_
  refine z_iconst K ci_1 dX6_seatOthers_64 ?_
  refine z_iadd K dX6_seatOthers_65 ?_
  refine z_iload K 3 rfl dX6_seatOthers_66 ?_
  refine z_iload_n K 2 rfl dX6_seatOthers_68 ?_
  refine z_cVv (As := [.int (v1 + (1 : Int32)), .int y6, .int v3]) (rest := []) K (hrec0 (d - 1) (by omega) (v1 + (1 : Int32)) y6 v3 s5) mf_X6_choose ml_X6_123 (Nat.le_of_ble_eq_true rfl) (by omega) rfl rc_45 rfl (Nat.le_of_ble_eq_true rfl) dX6_seatOthers_69 (fun _ s7 => ?_)
  exact z_vret K dX6_seatOthers_72
set_option maxRecDepth 100000 in
set_option maxHeartbeats 4000000 in
theorem ts_X6_seatOthers (w : zWd) (F : Nat) (rec : Int32 → Int32 → Int32 → zM → Option (Unit × zM)) (d : Nat) (hd : 4 ≤ d) (hrec0 : ∀ (e : Nat), d ≤ e + 1 → ∀ (v1 : Int32) (v2 : Int32) (v3 : Int32) (s : zM), zMt w yX6_choose cX6_choose 5 none e zφN zφN zrv [.ref (w.2.2.2 + 45), .int v1, .int v2, .int v3] s (rec v1 v2 v3 s)) (v1 : Int32) (v2 : Int32) (v3 : Int32) (s : zM) : zMt w yX6_seatOthers cX6_seatOthers 6 none d zφN zφN zrv [.ref (w.2.2.2 + 45), .int v1, .int v2, .int v3] s (b_X6_seatOthers F rec v1 v2 v3 s) := by
  refine zMtN_of (own := RX6) rfl (by decide +kernel) (Nat.le_of_ble_eq_true rfl) cd_X6_seatOthers [(0, .ref (w.2.2.2 + 45)), (1, .int v1), (2, .int v2), (3, .int v3)] rfl ?_
  rintro a rfl K
  exact tb_X6_seatOthers F rec K hd hrec0 v1 v2 v3 s
def f_X6_choose_L27 (F : Nat) (rec : Int32 → Int32 → Int32 → zM → Option (Unit × zM)) (k96 : zM → Option (Unit × zM)) (v1 : Int32) (v2 : Int32) (v3 : Int32) : Nat → Int32 → zM → Option (Unit × zM)
  | 0, _, _ => none
  | n + 1, v4, s =>
    if v4 < (zg s 45 10) then
      if v4 < (7 : Int32) then
        if ((v3 >>> (v4 &&& 31)) &&& (1 : Int32)) = 0 then
          if zin v4 7 = true then
            if zin v1 7 = true then
              lt (zs s 49 (v1).toNatClampNeg (zg s 47 (v4).toNatClampNeg)) (fun s4 =>
              if zin ((v1 * (7 : Int32)) + v4) 49 = true then
                bnd (b_X6_seatOthers F rec v1 (v2 + (zg s4 48 (((v1 * (7 : Int32)) + v4)).toNatClampNeg)) (v3 ||| ((1 : Int32) <<< (v4 &&& 31))) s4) (fun _ s5 =>
                lt (v4 + (1 : Int32)) (fun y6 =>
                f_X6_choose_L27 F rec k96 v1 v2 v3 n y6 s5))
              else none)
            else none
          else none
        else
          lt (v4 + (1 : Int32)) (fun y3 =>
          f_X6_choose_L27 F rec k96 v1 v2 v3 n y3 s)
      else
        k96 s
    else
      k96 s
set_option maxRecDepth 100000 in
set_option maxHeartbeats 4000000 in
theorem t_X6_choose_L27 {a : zA} {d : Nat} (F : Nat) (rec : Int32 → Int32 → Int32 → zM → Option (Unit × zM)) (K : zOK a cX6_choose 5 RX6 none d) (hd : 5 ≤ d) (hrec0 : ∀ (e : Nat), d ≤ e + 2 → ∀ (v1 : Int32) (v2 : Int32) (v3 : Int32) (s : zM), zMt a.1 yX6_choose cX6_choose 5 none e zφN zφN zrv [.ref (a.1.2.2.2 + 45), .int v1, .int v2, .int v3] s (rec v1 v2 v3 s)) {k96 : zM → Option (Unit × zM)} (v1 : Int32) (v2 : Int32) (v3 : Int32) (h96 : ∀ (s : zM), zJ a 5 (zG a zφN zrv) zφN 96 [] [] s (k96 s)) : ∀ (n : Nat) (v4 : Int32) (s : zM), zJ a 5 (zG a zφN zrv) zφN 27 [(0, .ref (a.1.2.2.2 + 45)), (1, .int v1), (2, .int v2), (3, .int v3), (4, .int v4)] [] s (f_X6_choose_L27 F rec k96 v1 v2 v3 n v4 s) := by
  intro n
  induction n with
  | zero => intros; exact z_none
  | succ n ih =>
    intro v4 s
    rw [f_X6_choose_L27]
    refine z_iload K 4 rfl dX6_choose_27 ?_
    refine z_aload_n K 0 rfl dX6_choose_29 ?_
    refine z_geti K fd_X6_92 ob_45_10 dX6_choose_30 ?_
    refine z_icmp_ge K (tgt := 96) dX6_choose_33 (by decide) ?_ ?_
    · refine z_sub [] rfl ?_
      exact h96 s
    · refine z_iload K 4 rfl dX6_choose_36 ?_
      refine z_bipush K cb_7 dX6_choose_38 ?_
      refine z_icmp_ge K (tgt := 96) dX6_choose_40 (by decide) ?_ ?_
      · refine z_sub [] rfl ?_
        exact h96 s
      · refine z_iload_n K 3 rfl dX6_choose_43 ?_
        refine z_iload K 4 rfl dX6_choose_44 ?_
        refine z_ishr K dX6_choose_46 ?_
        refine z_iconst K ci_1 dX6_choose_47 ?_
        refine z_iand K dX6_choose_48 ?_
        refine z_if_ne K (tgt := 90) dX6_choose_49 (by decide) ?_ ?_
        · refine z_iincN K (j := 4) (lv' := [(0, .ref (a.1.2.2.2 + 45)), (1, .int v1), (2, .int v2), (3, .int v3)]) ci_1 rfl dX6_choose_90 (Nat.le_of_ble_eq_true rfl) rfl (fun y3 => ?_)
          refine z_goto K (tgt := 27) dX6_choose_93 (by decide) ?_
          refine z_sub [1, 2, 3, 4, 0] rfl ?_
          exact ih y3 s
        · refine z_aload_n K 0 rfl dX6_choose_52 ?_
          refine z_getr K fd_X6_28 ob_45_8 dX6_choose_53 ?_
          refine z_iload_n K 1 rfl dX6_choose_56 ?_
          refine z_aload_n K 0 rfl dX6_choose_57 ?_
          refine z_getr K fd_X6_22 ob_45_6 dX6_choose_58 ?_
          refine z_iload K 4 rfl dX6_choose_61 ?_
          refine z_iald K ar_47 dX6_choose_63 ?_
          refine z_iast K ar_49 dX6_choose_64 ?_
          refine z_ltm (fun s4 => ?_)
          refine z_aload_n K 0 rfl dX6_choose_65 ?_
          refine z_iload_n K 1 rfl dX6_choose_66 ?_
          refine z_iload_n K 2 rfl dX6_choose_67 ?_
          refine z_aload_n K 0 rfl dX6_choose_68 ?_
          refine z_getr K fd_X6_25 ob_45_7 dX6_choose_69 ?_
          refine z_iload_n K 1 rfl dX6_choose_72 ?_
          refine z_bipush K cb_7 dX6_choose_73 ?_
          refine z_imul K dX6_choose_75 ?_
          refine z_iload K 4 rfl dX6_choose_76 ?_
          refine z_iadd K dX6_choose_78 ?_
          refine z_iald K ar_48 dX6_choose_79 ?_
          refine z_iadd K dX6_choose_80 ?_
          refine z_iload_n K 3 rfl dX6_choose_81 ?_
          refine z_iconst K ci_1 dX6_choose_82 ?_
          refine z_iload K 4 rfl dX6_choose_83 ?_
          refine z_ishl K dX6_choose_85 ?_
          refine z_ior K dX6_choose_86 ?_
          refine z_cVv (As := [.int v1, .int (v2 + (zg s4 48 (((v1 * (7 : Int32)) + v4)).toNatClampNeg)), .int (v3 ||| ((1 : Int32) <<< (v4 &&& 31)))]) (rest := []) K (ts_X6_seatOthers a.1 F rec (d - 1) (by omega) (fun e he => hrec0 e (by omega)) v1 (v2 + (zg s4 48 (((v1 * (7 : Int32)) + v4)).toNatClampNeg)) (v3 ||| ((1 : Int32) <<< (v4 &&& 31))) s4) mf_X6_seatOthers ml_X6_131 (Nat.le_of_ble_eq_true rfl) (by omega) rfl rc_45 rfl (Nat.le_of_ble_eq_true rfl) dX6_choose_87 (fun _ s5 => ?_)
          refine z_iincN K (j := 4) (lv' := [(0, .ref (a.1.2.2.2 + 45)), (1, .int v1), (2, .int v2), (3, .int v3)]) ci_1 rfl dX6_choose_90 (Nat.le_of_ble_eq_true rfl) rfl (fun y6 => ?_)
          refine z_goto K (tgt := 27) dX6_choose_93 (by decide) ?_
          refine z_sub [1, 2, 3, 4, 0] rfl ?_
          exact ih y6 s5
def b_X6_choose (F : Nat) (rec : Int32 → Int32 → Int32 → zM → Option (Unit × zM)) (v1 : Int32) (v2 : Int32) (v3 : Int32) (s : zM) : Option (Unit × zM) :=
  if v1 < 0 then
    bnd (f_X6_noteIfLess v2 s) (fun _ s1 =>
    some ((), s1))
  else
    if v1 < (zg s 45 10) then
      if v1 < (7 : Int32) then
        f_X6_choose_L27 F rec (fun s7 =>
          some ((), s7)) v1 v2 v3 F (0 : Int32) s
      else
        bnd (f_X6_noteIfLess v2 s) (fun _ s8 =>
        some ((), s8))
    else
      bnd (f_X6_noteIfLess v2 s) (fun _ s2 =>
      some ((), s2))
set_option maxRecDepth 100000 in
set_option maxHeartbeats 4000000 in
theorem tb_X6_choose {a : zA} (F : Nat) (rec : Int32 → Int32 → Int32 → zM → Option (Unit × zM)) {d : Nat} (K : zOK a cX6_choose 5 RX6 none d) (hd : 5 ≤ d) (hrec0 : ∀ (e : Nat), d ≤ e + 2 → ∀ (v1 : Int32) (v2 : Int32) (v3 : Int32) (s : zM), zMt a.1 yX6_choose cX6_choose 5 none e zφN zφN zrv [.ref (a.1.2.2.2 + 45), .int v1, .int v2, .int v3] s (rec v1 v2 v3 s)) (v1 : Int32) (v2 : Int32) (v3 : Int32) (s : zM) : zJ a 5 (zG a zφN zrv) zφN 0 [(0, .ref (a.1.2.2.2 + 45)), (1, .int v1), (2, .int v2), (3, .int v3)] [] s (b_X6_choose F rec v1 v2 v3 s) := by
  unfold b_X6_choose
  refine z_iload_n K 1 rfl dX6_choose_0 ?_
  refine z_if_lt K (tgt := 18) dX6_choose_1 (by decide) ?_ ?_
  · refine z_aload_n K 0 rfl dX6_choose_18 ?_
    refine z_iload_n K 2 rfl dX6_choose_19 ?_
    refine z_cVv (As := [.int v2]) (rest := []) K (t_X6_noteIfLess a.1 (d - 1) (by omega) v2 s) mf_X6_noteIfLess ml_X6_127 (Nat.le_of_ble_eq_true rfl) (by omega) rfl rc_45 rfl (Nat.le_of_ble_eq_true rfl) dX6_choose_20 (fun _ s1 => ?_)
    exact z_vret K dX6_choose_23
  · refine z_iload_n K 1 rfl dX6_choose_4 ?_
    refine z_aload_n K 0 rfl dX6_choose_5 ?_
    refine z_geti K fd_X6_92 ob_45_10 dX6_choose_6 ?_
    refine z_icmp_ge K (tgt := 18) dX6_choose_9 (by decide) ?_ ?_
    · refine z_aload_n K 0 rfl dX6_choose_18 ?_
      refine z_iload_n K 2 rfl dX6_choose_19 ?_
      refine z_cVv (As := [.int v2]) (rest := []) K (t_X6_noteIfLess a.1 (d - 1) (by omega) v2 s) mf_X6_noteIfLess ml_X6_127 (Nat.le_of_ble_eq_true rfl) (by omega) rfl rc_45 rfl (Nat.le_of_ble_eq_true rfl) dX6_choose_20 (fun _ s2 => ?_)
      exact z_vret K dX6_choose_23
    · refine z_iload_n K 1 rfl dX6_choose_12 ?_
      refine z_bipush K cb_7 dX6_choose_13 ?_
      refine z_icmp_lt K (tgt := 24) dX6_choose_15 (by decide) ?_ ?_
      · refine z_iconst K ci_0 dX6_choose_24 ?_
        refine z_istore K (lv' := [(4, .int (0 : Int32)), (0, .ref (a.1.2.2.2 + 45)), (1, .int v1), (2, .int v2), (3, .int v3)]) dX6_choose_25 (Nat.le_of_ble_eq_true rfl) rfl ?_
        refine z_sub [1, 2, 3, 4, 0] rfl ?_
        refine t_X6_choose_L27 F rec K hd hrec0 v1 v2 v3 (fun s7 => ?_) F (0 : Int32) s
        exact z_vret K dX6_choose_96
      · refine z_aload_n K 0 rfl dX6_choose_18 ?_
        refine z_iload_n K 2 rfl dX6_choose_19 ?_
        refine z_cVv (As := [.int v2]) (rest := []) K (t_X6_noteIfLess a.1 (d - 1) (by omega) v2 s) mf_X6_noteIfLess ml_X6_127 (Nat.le_of_ble_eq_true rfl) (by omega) rfl rc_45 rfl (Nat.le_of_ble_eq_true rfl) dX6_choose_20 (fun _ s8 => ?_)
        exact z_vret K dX6_choose_23
def f_X6_choose (F : Nat) : Nat → Int32 → Int32 → Int32 → zM → Option (Unit × zM)
  | 0, _, _, _, _ => none
  | n + 1, v1, v2, v3, s => b_X6_choose F (f_X6_choose F n) v1 v2 v3 s
set_option maxRecDepth 100000 in
set_option maxHeartbeats 4000000 in
theorem tG2 (w : zWd) (F : Nat) : ∀ (n d : Nat) (v1 : Int32) (v2 : Int32) (v3 : Int32) (s : zM), 2 * n + 5 ≤ d → zMt w yX6_choose cX6_choose 5 none d zφN zφN zrv [.ref (w.2.2.2 + 45), .int v1, .int v2, .int v3] s (f_X6_choose F n v1 v2 v3 s) := by
  intro n
  induction n with
  | zero => intro d v1 v2 v3 s _ _ _ h; cases h
  | succ n ih =>
    intro d v1 v2 v3 s hd
    refine zMtN_of (own := RX6) rfl (by decide +kernel) (Nat.le_of_ble_eq_true rfl) cd_X6_choose [(0, .ref (w.2.2.2 + 45)), (1, .int v1), (2, .int v2), (3, .int v3)] rfl ?_
    rintro a rfl K
    rw [f_X6_choose]
    exact tb_X6_choose F _ K (by omega) (fun e he v1 v2 v3 s => ih e v1 v2 v3 s (by omega)) v1 v2 v3 s
set_option maxRecDepth 100000 in
set_option maxHeartbeats 4000000 in
theorem t_X6_choose (w : zWd) (F : Nat) (D d : Nat) (hd : 2 * D + 5 ≤ d) (v1 : Int32) (v2 : Int32) (v3 : Int32) (s : zM) : zMt w yX6_choose cX6_choose 5 none d zφN zφN zrv [.ref (w.2.2.2 + 45), .int v1, .int v2, .int v3] s (f_X6_choose F D v1 v2 v3 s) := tG2 w F D d v1 v2 v3 s hd
def f_X6_seatBest_L18 (F : Nat) (D : Nat) (k69 : zM → Option (Int32 × zM)) (v1 : Int32) : Nat → Int32 → zM → Option (Int32 × zM)
  | 0, _, _ => none
  | n + 1, v2, s =>
    if v2 < (zg s 45 10) then
      if v2 < (7 : Int32) then
        if zin v1 7 = true then
          if zin v2 7 = true then
            bnd (f_X6_cost F (zg s 46 (v1).toNatClampNeg) (zg s 47 (v2).toNatClampNeg) (zg s 45 11) s) (fun r2 s1 =>
            if zin ((v1 * (7 : Int32)) + v2) 49 = true then
              lt (zs s1 48 (((v1 * (7 : Int32)) + v2)).toNatClampNeg r2) (fun s3 =>
              lt (v2 + (1 : Int32)) (fun y4 =>
              f_X6_seatBest_L18 F D k69 v1 n y4 s3))
            else none)
          else none
        else none
      else
        k69 s
    else
      k69 s
set_option maxRecDepth 100000 in
set_option maxHeartbeats 4000000 in
theorem t_X6_seatBest_L18 {a : zA} {d : Nat} (F : Nat) (D : Nat) (K : zOK a cX6_seatBest 3 RX6 (some .int) d) (hd : 2 * D + 6 ≤ d) {k69 : zM → Option (Int32 × zM)} (v1 : Int32) (h69 : ∀ (s : zM), zJ a 3 (zG a zφN zri) zφN 69 [(0, .ref (a.1.2.2.2 + 45)), (1, .int v1)] [] s (k69 s)) : ∀ (n : Nat) (v2 : Int32) (s : zM), zJ a 3 (zG a zφN zri) zφN 18 [(0, .ref (a.1.2.2.2 + 45)), (1, .int v1), (2, .int v2)] [] s (f_X6_seatBest_L18 F D k69 v1 n v2 s) := by
  intro n
  induction n with
  | zero => intros; exact z_none
  | succ n ih =>
    intro v2 s
    rw [f_X6_seatBest_L18]
    refine z_iload_n K 2 rfl dX6_seatBest_18 ?_
    refine z_aload_n K 0 rfl dX6_seatBest_19 ?_
    refine z_geti K fd_X6_92 ob_45_10 dX6_seatBest_20 ?_
    refine z_icmp_ge K (tgt := 69) dX6_seatBest_23 (by decide) ?_ ?_
    · refine z_sub [0, 1] rfl ?_
      exact h69 s
    · refine z_iload_n K 2 rfl dX6_seatBest_26 ?_
      refine z_bipush K cb_7 dX6_seatBest_27 ?_
      refine z_icmp_ge K (tgt := 69) dX6_seatBest_29 (by decide) ?_ ?_
      · refine z_sub [0, 1] rfl ?_
        exact h69 s
      · refine z_aload_n K 0 rfl dX6_seatBest_32 ?_
        refine z_getr K fd_X6_25 ob_45_7 dX6_seatBest_33 ?_
        refine z_iload_n K 1 rfl dX6_seatBest_36 ?_
        refine z_bipush K cb_7 dX6_seatBest_37 ?_
        refine z_imul K dX6_seatBest_39 ?_
        refine z_iload_n K 2 rfl dX6_seatBest_40 ?_
        refine z_iadd K dX6_seatBest_41 ?_
        refine z_aload_n K 0 rfl dX6_seatBest_42 ?_
        refine z_aload_n K 0 rfl dX6_seatBest_43 ?_
        refine z_getr K fd_X6_18 ob_45_5 dX6_seatBest_44 ?_
        refine z_iload_n K 1 rfl dX6_seatBest_47 ?_
        refine z_iald K ar_46 dX6_seatBest_48 ?_
        refine z_aload_n K 0 rfl dX6_seatBest_49 ?_
        refine z_getr K fd_X6_22 ob_45_6 dX6_seatBest_50 ?_
        refine z_iload_n K 2 rfl dX6_seatBest_53 ?_
        refine z_iald K ar_47 dX6_seatBest_54 ?_
        refine z_aload_n K 0 rfl dX6_seatBest_55 ?_
        refine z_geti K fd_X6_95 ob_45_11 dX6_seatBest_56 ?_
        refine z_cVi (As := [.int (zg s 46 (v1).toNatClampNeg), .int (zg s 47 (v2).toNatClampNeg), .int (zg s 45 11)]) (rest := [.int ((v1 * (7 : Int32)) + v2), .ref (a.1.2.2.2 + 48)]) K (t_X6_cost a.1 F (d - 1) (by omega) (zg s 46 (v1).toNatClampNeg) (zg s 47 (v2).toNatClampNeg) (zg s 45 11) s) mf_X6_cost ml_X6_72 (Nat.le_of_ble_eq_true rfl) (by omega) rfl rc_45 rfl (Nat.le_of_ble_eq_true rfl) dX6_seatBest_59 (fun r2 s1 => ?_)
        refine z_iast K ar_48 dX6_seatBest_62 ?_
        refine z_ltm (fun s3 => ?_)
        refine z_iincN K (j := 2) (lv' := [(0, .ref (a.1.2.2.2 + 45)), (1, .int v1)]) ci_1 rfl dX6_seatBest_63 (Nat.le_of_ble_eq_true rfl) rfl (fun y4 => ?_)
        refine z_goto K (tgt := 18) dX6_seatBest_66 (by decide) ?_
        refine z_sub [1, 2, 0] rfl ?_
        exact ih y4 s3
def f_X6_seatBest_L2 (F : Nat) (D : Nat) (k75 : zM → Option (Int32 × zM)) : Nat → Int32 → zM → Option (Int32 × zM)
  | 0, _, _ => none
  | n + 1, v1, s =>
    if v1 < (zg s 45 10) then
      if v1 < (7 : Int32) then
        f_X6_seatBest_L18 F D (fun s5 =>
          lt (v1 + (1 : Int32)) (fun y6 =>
          f_X6_seatBest_L2 F D k75 n y6 s5)) v1 F (0 : Int32) s
      else
        k75 s
    else
      k75 s
set_option maxRecDepth 100000 in
set_option maxHeartbeats 4000000 in
theorem t_X6_seatBest_L2 {a : zA} {d : Nat} (F : Nat) (D : Nat) (K : zOK a cX6_seatBest 3 RX6 (some .int) d) (hd : 2 * D + 6 ≤ d) {k75 : zM → Option (Int32 × zM)} (h75 : ∀ (s : zM), zJ a 3 (zG a zφN zri) zφN 75 [(0, .ref (a.1.2.2.2 + 45))] [] s (k75 s)) : ∀ (n : Nat) (v1 : Int32) (s : zM), zJ a 3 (zG a zφN zri) zφN 2 [(0, .ref (a.1.2.2.2 + 45)), (1, .int v1)] [] s (f_X6_seatBest_L2 F D k75 n v1 s) := by
  intro n
  induction n with
  | zero => intros; exact z_none
  | succ n ih =>
    intro v1 s
    rw [f_X6_seatBest_L2]
    refine z_iload_n K 1 rfl dX6_seatBest_2 ?_
    refine z_aload_n K 0 rfl dX6_seatBest_3 ?_
    refine z_geti K fd_X6_92 ob_45_10 dX6_seatBest_4 ?_
    refine z_icmp_ge K (tgt := 75) dX6_seatBest_7 (by decide) ?_ ?_
    · refine z_sub [0] rfl ?_
      exact h75 s
    · refine z_iload_n K 1 rfl dX6_seatBest_10 ?_
      refine z_bipush K cb_7 dX6_seatBest_11 ?_
      refine z_icmp_ge K (tgt := 75) dX6_seatBest_13 (by decide) ?_ ?_
      · refine z_sub [0] rfl ?_
        exact h75 s
      · refine z_iconst K ci_0 dX6_seatBest_16 ?_
        refine z_istore_n K (lv' := [(2, .int (0 : Int32)), (0, .ref (a.1.2.2.2 + 45)), (1, .int v1)]) dX6_seatBest_17 rfl (Nat.le_of_ble_eq_true rfl) rfl ?_
        refine z_sub [1, 2, 0] rfl ?_
        refine t_X6_seatBest_L18 F D K hd v1 (fun s5 => ?_) F (0 : Int32) s
        refine z_iincN K (j := 1) (lv' := [(0, .ref (a.1.2.2.2 + 45))]) ci_1 rfl dX6_seatBest_69 (Nat.le_of_ble_eq_true rfl) rfl (fun y6 => ?_)
        refine z_goto K (tgt := 2) dX6_seatBest_72 (by decide) ?_
        refine z_sub [1, 0] rfl ?_
        exact ih y6 s5
def f_X6_seatBest_j75 (F : Nat) (D : Nat) (s : zM) : Option (Int32 × zM) :=
  lt (zs s 45 13 (0 : Int32)) (fun s8 =>
  lt (zs s8 45 12 (0 : Int32)) (fun s9 =>
  bnd (f_X6_choose F D (0 : Int32) (0 : Int32) (0 : Int32) s9) (fun _ s10 =>
  bnd (f_X6_total F (zg s10 45 11) s10) (fun r12 s11 =>
  some ((r12 + (zg s11 45 12)), s11)))))
set_option maxRecDepth 100000 in
set_option maxHeartbeats 4000000 in
theorem t_X6_seatBest_j75 {a : zA} {d : Nat} (F : Nat) (D : Nat) (K : zOK a cX6_seatBest 3 RX6 (some .int) d) (hd : 2 * D + 6 ≤ d) (s : zM) : zJ a 3 (zG a zφN zri) zφN 75 [(0, .ref (a.1.2.2.2 + 45))] [] s (f_X6_seatBest_j75 F D s) := by
  unfold f_X6_seatBest_j75
  refine z_aload_n K 0 rfl dX6_seatBest_75 ?_
  refine z_iconst K ci_0 dX6_seatBest_76 ?_
  refine z_putz K (Or.inl rfl) fw_X6_116 ob_45_13 dX6_seatBest_77 ?_
  refine z_ltm (fun s8 => ?_)
  refine z_aload_n K 0 rfl dX6_seatBest_80 ?_
  refine z_iconst K ci_0 dX6_seatBest_81 ?_
  refine z_puti K fw_X6_120 ob_45_12 dX6_seatBest_82 ?_
  refine z_ltm (fun s9 => ?_)
  refine z_aload_n K 0 rfl dX6_seatBest_85 ?_
  refine z_iconst K ci_0 dX6_seatBest_86 ?_
  refine z_iconst K ci_0 dX6_seatBest_87 ?_
  refine z_iconst K ci_0 dX6_seatBest_88 ?_
  refine z_cVv (As := [.int (0 : Int32), .int (0 : Int32), .int (0 : Int32)]) (rest := []) K (t_X6_choose a.1 F D (d - 1) (by omega) (0 : Int32) (0 : Int32) (0 : Int32) s9) mf_X6_choose ml_X6_123 (Nat.le_of_ble_eq_true rfl) (by omega) rfl rc_45 rfl (Nat.le_of_ble_eq_true rfl) dX6_seatBest_89 (fun _ s10 => ?_)
  refine z_aload_n K 0 rfl dX6_seatBest_92 ?_
  refine z_aload_n K 0 rfl dX6_seatBest_93 ?_
  refine z_geti K fd_X6_95 ob_45_11 dX6_seatBest_94 ?_
  refine z_cVi (As := [.int (zg s10 45 11)]) (rest := []) K (t_X6_total a.1 F (d - 1) (by omega) (zg s10 45 11) s10) mf_X6_total ml_X6_62 (Nat.le_of_ble_eq_true rfl) (by omega) rfl rc_45 rfl (Nat.le_of_ble_eq_true rfl) dX6_seatBest_97 (fun r12 s11 => ?_)
  refine z_aload_n K 0 rfl dX6_seatBest_100 ?_
  refine z_geti K fd_X6_120 ob_45_12 dX6_seatBest_101 ?_
  refine z_iadd K dX6_seatBest_104 ?_
  exact z_iret K dX6_seatBest_105
def f_X6_seatBest (F : Nat) (D : Nat) (s : zM) : Option (Int32 × zM) :=
  f_X6_seatBest_L2 F D (fun s7 =>
    f_X6_seatBest_j75 F D s7) F (0 : Int32) s
set_option maxRecDepth 100000 in
set_option maxHeartbeats 4000000 in
theorem t_X6_seatBest (w : zWd) (F : Nat) (D : Nat) (d : Nat) (hd : 2 * D + 6 ≤ d) (s : zM) : zMt w yX6_seatBest cX6_seatBest 3 (some .int) d zφN zφN zri [.ref (w.2.2.2 + 45)] s (f_X6_seatBest F D s) := by
  refine zMtN_of (own := RX6) rfl (by decide +kernel) (Nat.le_of_ble_eq_true rfl) cd_X6_seatBest [(0, .ref (w.2.2.2 + 45))] rfl ?_
  rintro a rfl K
  unfold f_X6_seatBest
  refine z_iconst K ci_0 dX6_seatBest_0 ?_
  refine z_istore_n K (lv' := [(1, .int (0 : Int32)), (0, .ref (a.1.2.2.2 + 45))]) dX6_seatBest_1 rfl (Nat.le_of_ble_eq_true rfl) rfl ?_
  refine z_sub [1, 0] rfl ?_
  refine t_X6_seatBest_L2 F D K hd (fun s7 => ?_) F (0 : Int32) s
  exact t_X6_seatBest_j75 F D K hd s7
def f_X6_seatFor_L2 (F : Nat) (k39 : zM → Option (Int32 × zM)) (v1 : Int32) : Nat → Int32 → zM → Option (Int32 × zM)
  | 0, _, _ => none
  | n + 1, v2, s =>
    if v2 < (zg s 45 10) then
      if v2 < (7 : Int32) then
        if zin v2 7 = true then
          if (zg s 46 (v2).toNatClampNeg) = v1 then
            if zin v2 7 = true then
              some ((zg s 50 (v2).toNatClampNeg), s)
            else none
          else
            lt (v2 + (1 : Int32)) (fun y1 =>
            f_X6_seatFor_L2 F k39 v1 n y1 s)
        else none
      else
        k39 s
    else
      k39 s
set_option maxRecDepth 100000 in
set_option maxHeartbeats 4000000 in
theorem t_X6_seatFor_L2 {a : zA} {d : Nat} (F : Nat) (K : zOK a cX6_seatFor 3 RX6 (some .int) d) (hd : 0 ≤ d) {k39 : zM → Option (Int32 × zM)} (v1 : Int32) (h39 : ∀ (s : zM), zJ a 3 (zG a zφN zri) zφN 39 [] [] s (k39 s)) : ∀ (n : Nat) (v2 : Int32) (s : zM), zJ a 3 (zG a zφN zri) zφN 2 [(0, .ref (a.1.2.2.2 + 45)), (1, .int v1), (2, .int v2)] [] s (f_X6_seatFor_L2 F k39 v1 n v2 s) := by
  intro n
  induction n with
  | zero => intros; exact z_none
  | succ n ih =>
    intro v2 s
    rw [f_X6_seatFor_L2]
    refine z_iload_n K 2 rfl dX6_seatFor_2 ?_
    refine z_aload_n K 0 rfl dX6_seatFor_3 ?_
    refine z_geti K fd_X6_92 ob_45_10 dX6_seatFor_4 ?_
    refine z_icmp_ge K (tgt := 39) dX6_seatFor_7 (by decide) ?_ ?_
    · refine z_sub [] rfl ?_
      exact h39 s
    · refine z_iload_n K 2 rfl dX6_seatFor_10 ?_
      refine z_bipush K cb_7 dX6_seatFor_11 ?_
      refine z_icmp_ge K (tgt := 39) dX6_seatFor_13 (by decide) ?_ ?_
      · refine z_sub [] rfl ?_
        exact h39 s
      · refine z_aload_n K 0 rfl dX6_seatFor_16 ?_
        refine z_getr K fd_X6_18 ob_45_5 dX6_seatFor_17 ?_
        refine z_iload_n K 2 rfl dX6_seatFor_20 ?_
        refine z_iald K ar_46 dX6_seatFor_21 ?_
        refine z_iload_n K 1 rfl dX6_seatFor_22 ?_
        refine z_icmp_ne K (tgt := 33) dX6_seatFor_23 (by decide) ?_ ?_
        · refine z_iincN K (j := 2) (lv' := [(0, .ref (a.1.2.2.2 + 45)), (1, .int v1)]) ci_1 rfl dX6_seatFor_33 (Nat.le_of_ble_eq_true rfl) rfl (fun y1 => ?_)
          refine z_goto K (tgt := 2) dX6_seatFor_36 (by decide) ?_
          refine z_sub [1, 2, 0] rfl ?_
          exact ih y1 s
        · refine z_aload_n K 0 rfl dX6_seatFor_26 ?_
          refine z_getr K fd_X6_31 ob_45_9 dX6_seatFor_27 ?_
          refine z_iload_n K 2 rfl dX6_seatFor_30 ?_
          refine z_iald K ar_50 dX6_seatFor_31 ?_
          exact z_iret K dX6_seatFor_32
def f_X6_seatFor (F : Nat) (v1 : Int32) (s : zM) : Option (Int32 × zM) :=
  f_X6_seatFor_L2 F (fun s2 =>
    some ((-1 : Int32), s2)) v1 F (0 : Int32) s
set_option maxRecDepth 100000 in
set_option maxHeartbeats 4000000 in
theorem t_X6_seatFor (w : zWd) (F : Nat) (d : Nat) (hd : 0 ≤ d) (v1 : Int32) (s : zM) : zMt w yX6_seatFor cX6_seatFor 3 (some .int) d zφN zφN zri [.ref (w.2.2.2 + 45), .int v1] s (f_X6_seatFor F v1 s) := by
  refine zMtN_of (own := RX6) rfl (by decide +kernel) (Nat.le_of_ble_eq_true rfl) cd_X6_seatFor [(0, .ref (w.2.2.2 + 45)), (1, .int v1)] rfl ?_
  rintro a rfl K
  unfold f_X6_seatFor
  refine z_iconst K ci_0 dX6_seatFor_0 ?_
  refine z_istore_n K (lv' := [(2, .int (0 : Int32)), (0, .ref (a.1.2.2.2 + 45)), (1, .int v1)]) dX6_seatFor_1 rfl (Nat.le_of_ble_eq_true rfl) rfl ?_
  refine z_sub [1, 2, 0] rfl ?_
  refine t_X6_seatFor_L2 F K hd v1 (fun s2 => ?_) F (0 : Int32) s
  refine z_iconst K ci_m1 dX6_seatFor_39 ?_
  exact z_iret K dX6_seatFor_40
def f_X6_moveAll_L2 (F : Nat) (k36 : zM → Option (Unit × zM)) : Nat → Int32 → zM → Option (Unit × zM)
  | 0, _, _ => none
  | n + 1, v1, s =>
    if v1 < (zg s 45 10) then
      if v1 < (7 : Int32) then
        if zin v1 7 = true then
          bnd (f_X0_place (zg s 46 (v1).toNatClampNeg) (-1 : Int32) s) (fun _ s1 =>
          lt (v1 + (1 : Int32)) (fun y2 =>
          f_X6_moveAll_L2 F k36 n y2 s1))
        else none
      else
        k36 s
    else
      k36 s
set_option maxRecDepth 100000 in
set_option maxHeartbeats 4000000 in
theorem t_X6_moveAll_L2 {a : zA} {d : Nat} (F : Nat) (K : zOK a cX6_moveAll 2 RX6 none d) (hd : 2 ≤ d) {k36 : zM → Option (Unit × zM)} (h36 : ∀ (s : zM), zJ a 2 (zG a zφN zrv) zφN 36 [(0, .ref (a.1.2.2.2 + 45))] [] s (k36 s)) : ∀ (n : Nat) (v1 : Int32) (s : zM), zJ a 2 (zG a zφN zrv) zφN 2 [(0, .ref (a.1.2.2.2 + 45)), (1, .int v1)] [] s (f_X6_moveAll_L2 F k36 n v1 s) := by
  intro n
  induction n with
  | zero => intros; exact z_none
  | succ n ih =>
    intro v1 s
    rw [f_X6_moveAll_L2]
    refine z_iload_n K 1 rfl dX6_moveAll_2 ?_
    refine z_aload_n K 0 rfl dX6_moveAll_3 ?_
    refine z_geti K fd_X6_92 ob_45_10 dX6_moveAll_4 ?_
    refine z_icmp_ge K (tgt := 36) dX6_moveAll_7 (by decide) ?_ ?_
    · refine z_sub [0] rfl ?_
      exact h36 s
    · refine z_iload_n K 1 rfl dX6_moveAll_10 ?_
      refine z_bipush K cb_7 dX6_moveAll_11 ?_
      refine z_icmp_ge K (tgt := 36) dX6_moveAll_13 (by decide) ?_ ?_
      · refine z_sub [0] rfl ?_
        exact h36 s
      · refine z_aload_n K 0 rfl dX6_moveAll_16 ?_
        refine z_getr K fd_X6_34 ob_45_0 dX6_moveAll_17 ?_
        refine z_aload_n K 0 rfl dX6_moveAll_20 ?_
        refine z_getr K fd_X6_18 ob_45_5 dX6_moveAll_21 ?_
        refine z_iload_n K 1 rfl dX6_moveAll_24 ?_
        refine z_iald K ar_46 dX6_moveAll_25 ?_
        refine z_iconst K ci_m1 dX6_moveAll_26 ?_
        refine z_cVv (As := [.int (zg s 46 (v1).toNatClampNeg), .int (-1 : Int32)]) (rest := []) K (t_X0_place a.1 (d - 1) (by omega) (zg s 46 (v1).toNatClampNeg) (-1 : Int32) s) mf_X0_place ml_X6_140 (Nat.le_of_ble_eq_true rfl) (by omega) rfl rc_3 rfl (Nat.le_of_ble_eq_true rfl) dX6_moveAll_27 (fun _ s1 => ?_)
        refine z_iincN K (j := 1) (lv' := [(0, .ref (a.1.2.2.2 + 45))]) ci_1 rfl dX6_moveAll_30 (Nat.le_of_ble_eq_true rfl) rfl (fun y2 => ?_)
        refine z_goto K (tgt := 2) dX6_moveAll_33 (by decide) ?_
        refine z_sub [1, 0] rfl ?_
        exact ih y2 s1
def f_X6_moveAll_L38 (F : Nat) (k77 : zM → Option (Unit × zM)) : Nat → Int32 → zM → Option (Unit × zM)
  | 0, _, _ => none
  | n + 1, v1, s =>
    if v1 < (zg s 45 10) then
      if v1 < (7 : Int32) then
        if zin v1 7 = true then
          if zin v1 7 = true then
            bnd (f_X0_place (zg s 46 (v1).toNatClampNeg) (zg s 50 (v1).toNatClampNeg) s) (fun _ s4 =>
            lt (v1 + (1 : Int32)) (fun y5 =>
            f_X6_moveAll_L38 F k77 n y5 s4))
          else none
        else none
      else
        k77 s
    else
      k77 s
set_option maxRecDepth 100000 in
set_option maxHeartbeats 4000000 in
theorem t_X6_moveAll_L38 {a : zA} {d : Nat} (F : Nat) (K : zOK a cX6_moveAll 2 RX6 none d) (hd : 2 ≤ d) {k77 : zM → Option (Unit × zM)} (h77 : ∀ (s : zM), zJ a 2 (zG a zφN zrv) zφN 77 [] [] s (k77 s)) : ∀ (n : Nat) (v1 : Int32) (s : zM), zJ a 2 (zG a zφN zrv) zφN 38 [(0, .ref (a.1.2.2.2 + 45)), (1, .int v1)] [] s (f_X6_moveAll_L38 F k77 n v1 s) := by
  intro n
  induction n with
  | zero => intros; exact z_none
  | succ n ih =>
    intro v1 s
    rw [f_X6_moveAll_L38]
    refine z_iload_n K 1 rfl dX6_moveAll_38 ?_
    refine z_aload_n K 0 rfl dX6_moveAll_39 ?_
    refine z_geti K fd_X6_92 ob_45_10 dX6_moveAll_40 ?_
    refine z_icmp_ge K (tgt := 77) dX6_moveAll_43 (by decide) ?_ ?_
    · refine z_sub [] rfl ?_
      exact h77 s
    · refine z_iload_n K 1 rfl dX6_moveAll_46 ?_
      refine z_bipush K cb_7 dX6_moveAll_47 ?_
      refine z_icmp_ge K (tgt := 77) dX6_moveAll_49 (by decide) ?_ ?_
      · refine z_sub [] rfl ?_
        exact h77 s
      · refine z_aload_n K 0 rfl dX6_moveAll_52 ?_
        refine z_getr K fd_X6_34 ob_45_0 dX6_moveAll_53 ?_
        refine z_aload_n K 0 rfl dX6_moveAll_56 ?_
        refine z_getr K fd_X6_18 ob_45_5 dX6_moveAll_57 ?_
        refine z_iload_n K 1 rfl dX6_moveAll_60 ?_
        refine z_iald K ar_46 dX6_moveAll_61 ?_
        refine z_aload_n K 0 rfl dX6_moveAll_62 ?_
        refine z_getr K fd_X6_31 ob_45_9 dX6_moveAll_63 ?_
        refine z_iload_n K 1 rfl dX6_moveAll_66 ?_
        refine z_iald K ar_50 dX6_moveAll_67 ?_
        refine z_cVv (As := [.int (zg s 46 (v1).toNatClampNeg), .int (zg s 50 (v1).toNatClampNeg)]) (rest := []) K (t_X0_place a.1 (d - 1) (by omega) (zg s 46 (v1).toNatClampNeg) (zg s 50 (v1).toNatClampNeg) s) mf_X0_place ml_X6_140 (Nat.le_of_ble_eq_true rfl) (by omega) rfl rc_3 rfl (Nat.le_of_ble_eq_true rfl) dX6_moveAll_68 (fun _ s4 => ?_)
        refine z_iincN K (j := 1) (lv' := [(0, .ref (a.1.2.2.2 + 45))]) ci_1 rfl dX6_moveAll_71 (Nat.le_of_ble_eq_true rfl) rfl (fun y5 => ?_)
        refine z_goto K (tgt := 38) dX6_moveAll_74 (by decide) ?_
        refine z_sub [1, 0] rfl ?_
        exact ih y5 s4
def f_X6_moveAll (F : Nat) (s : zM) : Option (Unit × zM) :=
  f_X6_moveAll_L2 F (fun s3 =>
    f_X6_moveAll_L38 F (fun s6 =>
      some ((), s6)) F (0 : Int32) s3) F (0 : Int32) s
set_option maxRecDepth 100000 in
set_option maxHeartbeats 4000000 in
theorem t_X6_moveAll (w : zWd) (F : Nat) (d : Nat) (hd : 2 ≤ d) (s : zM) : zMt w yX6_moveAll cX6_moveAll 2 none d zφN zφN zrv [.ref (w.2.2.2 + 45)] s (f_X6_moveAll F s) := by
  refine zMtN_of (own := RX6) rfl (by decide +kernel) (Nat.le_of_ble_eq_true rfl) cd_X6_moveAll [(0, .ref (w.2.2.2 + 45))] rfl ?_
  rintro a rfl K
  unfold f_X6_moveAll
  refine z_iconst K ci_0 dX6_moveAll_0 ?_
  refine z_istore_n K (lv' := [(1, .int (0 : Int32)), (0, .ref (a.1.2.2.2 + 45))]) dX6_moveAll_1 rfl (Nat.le_of_ble_eq_true rfl) rfl ?_
  refine z_sub [1, 0] rfl ?_
  refine t_X6_moveAll_L2 F K hd (fun s3 => ?_) F (0 : Int32) s
  refine z_iconst K ci_0 dX6_moveAll_36 ?_
  refine z_istore_n K (lv' := [(1, .int (0 : Int32)), (0, .ref (a.1.2.2.2 + 45))]) dX6_moveAll_37 rfl (Nat.le_of_ble_eq_true rfl) rfl ?_
  refine z_sub [1, 0] rfl ?_
  refine t_X6_moveAll_L38 F K hd (fun s6 => ?_) F (0 : Int32) s3
  exact z_vret K dX6_moveAll_77
def f_X9_noteIfBetter_j26 (v1 : Int32) (v2 : Int64) (s : zM) : Option (Unit × zM) :=
  lt (zsl s 0 v2) (fun s1 =>
  lt (zs s1 42 4 v1) (fun s2 =>
  lt (zcp s2 43 44 7) (fun s3 =>
  some ((), s3))))
set_option maxRecDepth 100000 in
set_option maxHeartbeats 4000000 in
theorem t_X9_noteIfBetter_j26 {a : zA} {d : Nat} (K : zOK a cX9_noteIfBetter 4 RX9 none d) (hd : 1 ≤ d) (v1 : Int32) (v2 : Int64) (s : zM) : zJ a 4 (zG a zφN zrv) zφN 26 [(0, .ref (a.1.2.2.2 + 42)), (1, .int v1), (2, .long v2)] [] s (f_X9_noteIfBetter_j26 v1 v2 s) := by
  unfold f_X9_noteIfBetter_j26
  refine z_aload_n K 0 rfl dX9_noteIfBetter_26 ?_
  refine z_lload_n K 2 rfl dX9_noteIfBetter_27 ?_
  refine z_putl K fw_X9_35 ob_42_5 (zone_of on_0) dX9_noteIfBetter_28 ?_
  refine z_ltm (fun s1 => ?_)
  refine z_aload_n K 0 rfl dX9_noteIfBetter_31 ?_
  refine z_iload_n K 1 rfl dX9_noteIfBetter_32 ?_
  refine z_puti K fw_X9_30 ob_42_4 dX9_noteIfBetter_33 ?_
  refine z_ltm (fun s2 => ?_)
  refine z_aload_n K 0 rfl dX9_noteIfBetter_36 ?_
  refine z_getr K fd_X9_11 ob_42_2 dX9_noteIfBetter_37 ?_
  refine z_iconst K ci_0 dX9_noteIfBetter_40 ?_
  refine z_aload_n K 0 rfl dX9_noteIfBetter_41 ?_
  refine z_getr K fd_X9_15 ob_42_3 dX9_noteIfBetter_42 ?_
  refine z_iconst K ci_0 dX9_noteIfBetter_45 ?_
  refine z_bipush K cb_7 dX9_noteIfBetter_46 ?_
  refine z_copy K js_nat js_sta js_ini ml_X9_80 ar_43 ar_44 rfl rfl (by decide) (N := 7) rfl (by decide) (by decide) rfl (by omega) (Nat.le_of_ble_eq_true rfl) dX9_noteIfBetter_48 ?_
  refine z_ltm (fun s3 => ?_)
  exact z_vret K dX9_noteIfBetter_51
def f_X9_noteIfBetter (v1 : Int32) (v2 : Int64) (s : zM) : Option (Unit × zM) :=
  if 0 < (lg_cmp v2 (zgl s 0)) then
    f_X9_noteIfBetter_j26 v1 v2 s
  else
    if (lg_cmp v2 (zgl s 0)) = 0 then
      if v1 < (zg s 42 4) then
        f_X9_noteIfBetter_j26 v1 v2 s
      else
        some ((), s)
    else
      some ((), s)
set_option maxRecDepth 100000 in
set_option maxHeartbeats 4000000 in
theorem t_X9_noteIfBetter (w : zWd) (d : Nat) (hd : 1 ≤ d) (v1 : Int32) (v2 : Int64) (s : zM) : zMt w yX9_noteIfBetter cX9_noteIfBetter 4 none d zφN zφN zrv [.ref (w.2.2.2 + 42), .int v1, .long v2] s (f_X9_noteIfBetter v1 v2 s) := by
  refine zMtN_of (own := RX9) rfl (by decide +kernel) (Nat.le_of_ble_eq_true rfl) cd_X9_noteIfBetter [(0, .ref (w.2.2.2 + 42)), (1, .int v1), (2, .long v2)] rfl ?_
  rintro a rfl K
  unfold f_X9_noteIfBetter
  refine z_lload_n K 2 rfl dX9_noteIfBetter_0 ?_
  refine z_aload_n K 0 rfl dX9_noteIfBetter_1 ?_
  refine z_getl K fd_X9_35 ob_42_5 dX9_noteIfBetter_2 ?_
  refine z_lcmp K dX9_noteIfBetter_5 ?_
  refine z_if_gt K (tgt := 26) dX9_noteIfBetter_6 (by decide) ?_ ?_
  · exact t_X9_noteIfBetter_j26 K hd v1 v2 s
  · refine z_lload_n K 2 rfl dX9_noteIfBetter_9 ?_
    refine z_aload_n K 0 rfl dX9_noteIfBetter_10 ?_
    refine z_getl K fd_X9_35 ob_42_5 dX9_noteIfBetter_11 ?_
    refine z_lcmp K dX9_noteIfBetter_14 ?_
    refine z_if_ne K (tgt := 51) dX9_noteIfBetter_15 (by decide) ?_ ?_
    · exact z_vret K dX9_noteIfBetter_51
    · refine z_iload_n K 1 rfl dX9_noteIfBetter_18 ?_
      refine z_aload_n K 0 rfl dX9_noteIfBetter_19 ?_
      refine z_geti K fd_X9_30 ob_42_4 dX9_noteIfBetter_20 ?_
      refine z_icmp_ge K (tgt := 51) dX9_noteIfBetter_23 (by decide) ?_ ?_
      · exact z_vret K dX9_noteIfBetter_51
      · exact t_X9_noteIfBetter_j26 K hd v1 v2 s
def f_X9_tryNext_L22 (F : Nat) (rec : Int32 → Int64 → Int32 → zM → Option (Unit × zM)) (k132 : zM → Option (Unit × zM)) (v1 : Int32) (v2 : Int64) (v4 : Int32) (v5 : Int32) : Nat → Int32 → zM → Option (Unit × zM)
  | 0, _, _ => none
  | n + 1, v6, s =>
    bnd (f_X0_number s) (fun r3 s2 =>
    if v6 < r3 then
      if ((v4 >>> (v6 &&& 31)) &&& (1 : Int32)) = 0 then
        bnd (f_X0_sits v6 s2) (fun r6 s5 =>
        if r6 = 0 then
          lt (v6 + (1 : Int32)) (fun y7 =>
          f_X9_tryNext_L22 F rec k132 v1 v2 v4 v5 n y7 s5)
        else
          bnd (f_X0_seatOf v5 s5) (fun r9 s8 =>
          bnd (f_X0_seatOf v6 s8) (fun r11 s10 =>
          bnd (f_X8_areNext r9 r11 s10) (fun r13 s12 =>
          if r13 = 0 then
            lt (v6 + (1 : Int32)) (fun y14 =>
            f_X9_tryNext_L22 F rec k132 v1 v2 v4 v5 n y14 s12)
          else
            if zin (v1 + (1 : Int32)) 7 = true then
              lt (zs s12 43 ((v1 + (1 : Int32))).toNatClampNeg v6) (fun s15 =>
              bnd (f_X1_seen F v5 v6 s15) (fun r17 s16 =>
              bnd (rec (v1 + (1 : Int32)) ((v2 / (1000 : Int64)) * (((1000 : Int32) - r17)).toInt64) (v4 ||| ((1 : Int32) <<< (v6 &&& 31))) s16) (fun _ s18 =>
              lt (v6 + (1 : Int32)) (fun y19 =>
              f_X9_tryNext_L22 F rec k132 v1 v2 v4 v5 n y19 s18))))
            else none))))
      else
        lt (v6 + (1 : Int32)) (fun y4 =>
        f_X9_tryNext_L22 F rec k132 v1 v2 v4 v5 n y4 s2)
    else
      k132 s2)
set_option maxRecDepth 100000 in
set_option maxHeartbeats 4000000 in
theorem t_X9_tryNext_L22 {a : zA} {d : Nat} (F : Nat) (rec : Int32 → Int64 → Int32 → zM → Option (Unit × zM)) (K : zOK a cX9_tryNext 7 RX9 none d) (hd : 4 ≤ d) (hrec0 : ∀ (e : Nat), d ≤ e + 1 → ∀ (v1 : Int32) (v2 : Int64) (v4 : Int32) (s : zM), zMt a.1 yX9_goOn cX9_goOn 5 none e zφN zφN zrv [.ref (a.1.2.2.2 + 42), .int v1, .long v2, .int v4] s (rec v1 v2 v4 s)) {k132 : zM → Option (Unit × zM)} (v1 : Int32) (v2 : Int64) (v4 : Int32) (v5 : Int32) (h132 : ∀ (s : zM), zJ a 7 (zG a zφN zrv) zφN 132 [] [] s (k132 s)) : ∀ (n : Nat) (v6 : Int32) (s : zM), zJ a 7 (zG a zφN zrv) zφN 22 [(0, .ref (a.1.2.2.2 + 42)), (1, .int v1), (2, .long v2), (4, .int v4), (5, .int v5), (6, .int v6)] [] s (f_X9_tryNext_L22 F rec k132 v1 v2 v4 v5 n v6 s) := by
  intro n
  induction n with
  | zero => intros; exact z_none
  | succ n ih =>
    intro v6 s
    rw [f_X9_tryNext_L22]
    refine z_iload K 5 rfl dX9_tryNext_22 ?_
    refine z_aload_n K 0 rfl dX9_tryNext_24 ?_
    refine z_getr K fd_X9_18 ob_42_0 dX9_tryNext_25 ?_
    refine z_cVi (As := []) (rest := [.int v6]) K (t_X0_number a.1 (d - 1) (by omega) s) mf_X0_number ml_X9_52 (Nat.le_of_ble_eq_true rfl) (by omega) rfl rc_3 rfl (Nat.le_of_ble_eq_true rfl) dX9_tryNext_28 (fun r3 s2 => ?_)
    refine z_icmp_ge K (tgt := 132) dX9_tryNext_31 (by decide) ?_ ?_
    · refine z_sub [] rfl ?_
      exact h132 s2
    · refine z_iload K 3 rfl dX9_tryNext_34 ?_
      refine z_iload K 5 rfl dX9_tryNext_36 ?_
      refine z_ishr K dX9_tryNext_38 ?_
      refine z_iconst K ci_1 dX9_tryNext_39 ?_
      refine z_iand K dX9_tryNext_40 ?_
      refine z_if_ne K (tgt := 126) dX9_tryNext_41 (by decide) ?_ ?_
      · refine z_iincN K (j := 5) (lv' := [(0, .ref (a.1.2.2.2 + 42)), (1, .int v1), (2, .long v2), (4, .int v4), (5, .int v5)]) ci_1 rfl dX9_tryNext_126 (Nat.le_of_ble_eq_true rfl) rfl (fun y4 => ?_)
        refine z_goto K (tgt := 22) dX9_tryNext_129 (by decide) ?_
        refine z_sub [1, 2, 3, 4, 5, 0] rfl ?_
        exact ih y4 s2
      · refine z_aload_n K 0 rfl dX9_tryNext_44 ?_
        refine z_getr K fd_X9_18 ob_42_0 dX9_tryNext_45 ?_
        refine z_iload K 5 rfl dX9_tryNext_48 ?_
        refine z_cVi (As := [.int v6]) (rest := []) K (t_X0_sits a.1 (d - 1) (by omega) v6 s2) mf_X0_sits ml_X9_58 (Nat.le_of_ble_eq_true rfl) (by omega) rfl rc_3 rfl (Nat.le_of_ble_eq_true rfl) dX9_tryNext_50 (fun r6 s5 => ?_)
        refine z_if_eq K (tgt := 126) dX9_tryNext_53 (by decide) ?_ ?_
        · refine z_iincN K (j := 5) (lv' := [(0, .ref (a.1.2.2.2 + 42)), (1, .int v1), (2, .long v2), (4, .int v4), (5, .int v5)]) ci_1 rfl dX9_tryNext_126 (Nat.le_of_ble_eq_true rfl) rfl (fun y7 => ?_)
          refine z_goto K (tgt := 22) dX9_tryNext_129 (by decide) ?_
          refine z_sub [1, 2, 3, 4, 5, 0] rfl ?_
          exact ih y7 s5
        · refine z_aload_n K 0 rfl dX9_tryNext_56 ?_
          refine z_getr K fd_X9_18 ob_42_0 dX9_tryNext_57 ?_
          refine z_iload K 4 rfl dX9_tryNext_60 ?_
          refine z_cVi (As := [.int v5]) (rest := []) K (t_X0_seatOf a.1 (d - 1) (by omega) v5 s5) mf_X0_seatOf ml_X9_62 (Nat.le_of_ble_eq_true rfl) (by omega) rfl rc_3 rfl (Nat.le_of_ble_eq_true rfl) dX9_tryNext_62 (fun r9 s8 => ?_)
          refine z_aload_n K 0 rfl dX9_tryNext_65 ?_
          refine z_getr K fd_X9_18 ob_42_0 dX9_tryNext_66 ?_
          refine z_iload K 5 rfl dX9_tryNext_69 ?_
          refine z_cVi (As := [.int v6]) (rest := [.int r9]) K (t_X0_seatOf a.1 (d - 1) (by omega) v6 s8) mf_X0_seatOf ml_X9_62 (Nat.le_of_ble_eq_true rfl) (by omega) rfl rc_3 rfl (Nat.le_of_ble_eq_true rfl) dX9_tryNext_71 (fun r11 s10 => ?_)
          refine z_cSi (As := [.int r9, .int r11]) (rest := []) K (t_X8_areNext a.1 (d - 1) (by omega) r9 r11 s10) mf_X8_areNext ml_X9_66 (Nat.le_of_ble_eq_true rfl) (by omega) rfl rfl (Nat.le_of_ble_eq_true rfl) dX9_tryNext_74 (fun r13 s12 => ?_)
          refine z_if_eq K (tgt := 126) dX9_tryNext_77 (by decide) ?_ ?_
          · refine z_iincN K (j := 5) (lv' := [(0, .ref (a.1.2.2.2 + 42)), (1, .int v1), (2, .long v2), (4, .int v4), (5, .int v5)]) ci_1 rfl dX9_tryNext_126 (Nat.le_of_ble_eq_true rfl) rfl (fun y14 => ?_)
            refine z_goto K (tgt := 22) dX9_tryNext_129 (by decide) ?_
            refine z_sub [1, 2, 3, 4, 5, 0] rfl ?_
            exact ih y14 s12
          · refine z_aload_n K 0 rfl dX9_tryNext_80 ?_
            refine z_getr K fd_X9_11 ob_42_2 dX9_tryNext_81 ?_
            refine z_iload_n K 1 rfl dX9_tryNext_84 ?_
            refine z_iconst K ci_1 dX9_tryNext_85 ?_
            refine z_iadd K dX9_tryNext_86 ?_
            refine z_iload K 5 rfl dX9_tryNext_87 ?_
            refine z_iast K ar_43 dX9_tryNext_89 ?_
            refine z_ltm (fun s15 => ?_)
            refine z_aload_n K 0 rfl dX9_tryNext_90 ?_
            refine z_iload_n K 1 rfl dX9_tryNext_91 ?_
            refine z_iconst K ci_1 dX9_tryNext_92 ?_
            refine z_iadd K dX9_tryNext_93 ?_
            refine z_lload_n K 2 rfl dX9_tryNext_94 ?_
            refine z_ldc2 K cst_X9_72 dX9_tryNext_95 ?_
            refine z_ldivc K (by decide) dX9_tryNext_98 ?_
            refine z_sipush K cs_1000 dX9_tryNext_99 ?_
            refine z_aload_n K 0 rfl dX9_tryNext_102 ?_
            refine z_getr K fd_X9_22 ob_42_1 dX9_tryNext_103 ?_
            refine z_iload K 4 rfl dX9_tryNext_106 ?_
            refine z_iload K 5 rfl dX9_tryNext_108 ?_
            refine z_cVi (As := [.int v5, .int v6]) (rest := [.int (1000 : Int32), .long (v2 / (1000 : Int64)), .int (v1 + (1 : Int32)), .ref (a.1.2.2.2 + 42)]) K (t_X1_seen a.1 F (d - 1) (by omega) v5 v6 s15) mf_X1_seen ml_X9_74 (Nat.le_of_ble_eq_true rfl) (by omega) rfl rc_12 rfl (Nat.le_of_ble_eq_true rfl) dX9_tryNext_110 (fun r17 s16 => ?_)
            refine z_isub K dX9_tryNext_113 ?_
            refine z_i2l K dX9_tryNext_114 ?_
            refine z_lmul K dX9_tryNext_115 ?_
            refine z_iload K 3 rfl dX9_tryNext_116 ?_
            refine z_iconst K ci_1 dX9_tryNext_118 ?_
            refine z_iload K 5 rfl dX9_tryNext_119 ?_
            refine z_ishl K dX9_tryNext_121 ?_
            refine z_ior K dX9_tryNext_122 ?_
            refine z_cVv (As := [.int (v1 + (1 : Int32)), .long ((v2 / (1000 : Int64)) * (((1000 : Int32) - r17)).toInt64), .int (v4 ||| ((1 : Int32) <<< (v6 &&& 31)))]) (rest := []) K (hrec0 (d - 1) (by omega) (v1 + (1 : Int32)) ((v2 / (1000 : Int64)) * (((1000 : Int32) - r17)).toInt64) (v4 ||| ((1 : Int32) <<< (v6 &&& 31))) s16) mf_X9_goOn ml_X9_41 (Nat.le_of_ble_eq_true rfl) (by omega) rfl rc_42 rfl (Nat.le_of_ble_eq_true rfl) dX9_tryNext_123 (fun _ s18 => ?_)
            refine z_iincN K (j := 5) (lv' := [(0, .ref (a.1.2.2.2 + 42)), (1, .int v1), (2, .long v2), (4, .int v4), (5, .int v5)]) ci_1 rfl dX9_tryNext_126 (Nat.le_of_ble_eq_true rfl) rfl (fun y19 => ?_)
            refine z_goto K (tgt := 22) dX9_tryNext_129 (by decide) ?_
            refine z_sub [1, 2, 3, 4, 5, 0] rfl ?_
            exact ih y19 s18
def b_X9_tryNext (F : Nat) (rec : Int32 → Int64 → Int32 → zM → Option (Unit × zM)) (v1 : Int32) (v2 : Int64) (v4 : Int32) (s : zM) : Option (Unit × zM) :=
  if v1 < 0 then
    some ((), s)
  else
    if v1 < (6 : Int32) then
      if zin v1 7 = true then
        lt ((zg s 43 (v1).toNatClampNeg)) (fun y1 =>
        f_X9_tryNext_L22 F rec (fun s20 =>
          some ((), s20)) v1 v2 v4 y1 F (0 : Int32) s)
      else none
    else
      some ((), s)
set_option maxRecDepth 100000 in
set_option maxHeartbeats 4000000 in
theorem tb_X9_tryNext {a : zA} (F : Nat) (rec : Int32 → Int64 → Int32 → zM → Option (Unit × zM)) {d : Nat} (K : zOK a cX9_tryNext 7 RX9 none d) (hd : 4 ≤ d) (hrec0 : ∀ (e : Nat), d ≤ e + 1 → ∀ (v1 : Int32) (v2 : Int64) (v4 : Int32) (s : zM), zMt a.1 yX9_goOn cX9_goOn 5 none e zφN zφN zrv [.ref (a.1.2.2.2 + 42), .int v1, .long v2, .int v4] s (rec v1 v2 v4 s)) (v1 : Int32) (v2 : Int64) (v4 : Int32) (s : zM) : zJ a 7 (zG a zφN zrv) zφN 0 [(0, .ref (a.1.2.2.2 + 42)), (1, .int v1), (2, .long v2), (4, .int v4)] [] s (b_X9_tryNext F rec v1 v2 v4 s) := by
  unfold b_X9_tryNext
  refine z_iload_n K 1 rfl dX9_tryNext_0 ?_
  refine z_if_lt K (tgt := 10) dX9_tryNext_1 (by decide) ?_ ?_
  · exact z_vret K dX9_tryNext_10
  · refine z_iload_n K 1 rfl dX9_tryNext_4 ?_
    refine z_bipush K cb_6 dX9_tryNext_5 ?_
    refine z_icmp_lt K (tgt := 11) dX9_tryNext_7 (by decide) ?_ ?_
    · refine z_aload_n K 0 rfl dX9_tryNext_11 ?_
      refine z_getr K fd_X9_11 ob_42_2 dX9_tryNext_12 ?_
      refine z_iload_n K 1 rfl dX9_tryNext_15 ?_
      refine z_iald K ar_43 dX9_tryNext_16 ?_
      refine z_topi (fun y1 => ?_)
      refine z_istore K (lv' := [(5, .int y1), (0, .ref (a.1.2.2.2 + 42)), (1, .int v1), (2, .long v2), (4, .int v4)]) dX9_tryNext_17 (Nat.le_of_ble_eq_true rfl) rfl ?_
      refine z_iconst K ci_0 dX9_tryNext_19 ?_
      refine z_istore K (lv' := [(6, .int (0 : Int32)), (5, .int y1), (0, .ref (a.1.2.2.2 + 42)), (1, .int v1), (2, .long v2), (4, .int v4)]) dX9_tryNext_20 (Nat.le_of_ble_eq_true rfl) rfl ?_
      refine z_sub [2, 3, 4, 5, 1, 0] rfl ?_
      refine t_X9_tryNext_L22 F rec K hd hrec0 v1 v2 v4 y1 (fun s20 => ?_) F (0 : Int32) s
      exact z_vret K dX9_tryNext_132
    · exact z_vret K dX9_tryNext_10
set_option maxRecDepth 100000 in
set_option maxHeartbeats 4000000 in
theorem ts_X9_tryNext (w : zWd) (F : Nat) (rec : Int32 → Int64 → Int32 → zM → Option (Unit × zM)) (d : Nat) (hd : 4 ≤ d) (hrec0 : ∀ (e : Nat), d ≤ e + 1 → ∀ (v1 : Int32) (v2 : Int64) (v4 : Int32) (s : zM), zMt w yX9_goOn cX9_goOn 5 none e zφN zφN zrv [.ref (w.2.2.2 + 42), .int v1, .long v2, .int v4] s (rec v1 v2 v4 s)) (v1 : Int32) (v2 : Int64) (v4 : Int32) (s : zM) : zMt w yX9_tryNext cX9_tryNext 7 none d zφN zφN zrv [.ref (w.2.2.2 + 42), .int v1, .long v2, .int v4] s (b_X9_tryNext F rec v1 v2 v4 s) := by
  refine zMtN_of (own := RX9) rfl (by decide +kernel) (Nat.le_of_ble_eq_true rfl) cd_X9_tryNext [(0, .ref (w.2.2.2 + 42)), (1, .int v1), (2, .long v2), (4, .int v4)] rfl ?_
  rintro a rfl K
  exact tb_X9_tryNext F rec K hd hrec0 v1 v2 v4 s
def b_X9_goOn (F : Nat) (rec : Int32 → Int64 → Int32 → zM → Option (Unit × zM)) (v1 : Int32) (v2 : Int64) (v4 : Int32) (s : zM) : Option (Unit × zM) :=
  if v1 < 0 then
    some ((), s)
  else
    if (6 : Int32) < v1 then
      some ((), s)
    else
      if zin v1 7 = true then
        if (zg s 43 (v1).toNatClampNeg) = (zg s 42 6) then
          bnd (f_X9_noteIfBetter v1 v2 s) (fun _ s2 =>
          some ((), s2))
        else
          if v1 < (6 : Int32) then
            bnd (b_X9_tryNext F rec v1 v2 v4 s) (fun _ s1 =>
            some ((), s1))
          else
            some ((), s)
      else none
set_option maxRecDepth 100000 in
set_option maxHeartbeats 4000000 in
theorem tb_X9_goOn {a : zA} (F : Nat) (rec : Int32 → Int64 → Int32 → zM → Option (Unit × zM)) {d : Nat} (K : zOK a cX9_goOn 5 RX9 none d) (hd : 5 ≤ d) (hrec0 : ∀ (e : Nat), d ≤ e + 2 → ∀ (v1 : Int32) (v2 : Int64) (v4 : Int32) (s : zM), zMt a.1 yX9_goOn cX9_goOn 5 none e zφN zφN zrv [.ref (a.1.2.2.2 + 42), .int v1, .long v2, .int v4] s (rec v1 v2 v4 s)) (v1 : Int32) (v2 : Int64) (v4 : Int32) (s : zM) : zJ a 5 (zG a zφN zrv) zφN 0 [(0, .ref (a.1.2.2.2 + 42)), (1, .int v1), (2, .long v2), (4, .int v4)] [] s (b_X9_goOn F rec v1 v2 v4 s) := by
  unfold b_X9_goOn
  refine z_iload_n K 1 rfl dX9_goOn_0 ?_
  refine z_if_lt K (tgt := 10) dX9_goOn_1 (by decide) ?_ ?_
  · exact z_vret K dX9_goOn_10
  · refine z_iload_n K 1 rfl dX9_goOn_4 ?_
    refine z_bipush K cb_6 dX9_goOn_5 ?_
    refine z_icmp_le K (tgt := 11) dX9_goOn_7 (by decide) ?_ ?_
    · refine z_aload_n K 0 rfl dX9_goOn_11 ?_
      refine z_getr K fd_X9_11 ob_42_2 dX9_goOn_12 ?_
      refine z_iload_n K 1 rfl dX9_goOn_15 ?_
      refine z_iald K ar_43 dX9_goOn_16 ?_
      refine z_aload_n K 0 rfl dX9_goOn_17 ?_
      refine z_geti K fd_X9_26 ob_42_6 dX9_goOn_18 ?_
      refine z_icmp_ne K (tgt := 33) dX9_goOn_21 (by decide) ?_ ?_
      · refine z_iload_n K 1 rfl dX9_goOn_33 ?_
        refine z_bipush K cb_6 dX9_goOn_34 ?_
        refine z_icmp_ge K (tgt := 47) dX9_goOn_36 (by decide) ?_ ?_
        · exact z_vret K dX9_goOn_47
        · refine z_aload_n K 0 rfl dX9_goOn_39 ?_
          refine z_iload_n K 1 rfl dX9_goOn_40 ?_
          refine z_lload_n K 2 rfl dX9_goOn_41 ?_
          refine z_iload K 3 rfl dX9_goOn_42 ?_
          refine z_cVv (As := [.int v1, .long v2, .int v4]) (rest := []) K (ts_X9_tryNext a.1 F rec (d - 1) (by omega) (fun e he => hrec0 e (by omega)) v1 v2 v4 s) mf_X9_tryNext ml_X9_49 (Nat.le_of_ble_eq_true rfl) (by omega) rfl rc_42 rfl (Nat.le_of_ble_eq_true rfl) dX9_goOn_44 (fun _ s1 => ?_)
          exact z_vret K dX9_goOn_47
      · refine z_aload_n K 0 rfl dX9_goOn_24 ?_
        refine z_iload_n K 1 rfl dX9_goOn_25 ?_
        refine z_lload_n K 2 rfl dX9_goOn_26 ?_
        refine z_cVv (As := [.int v1, .long v2]) (rest := []) K (t_X9_noteIfBetter a.1 (d - 1) (by omega) v1 v2 s) mf_X9_noteIfBetter ml_X9_45 (Nat.le_of_ble_eq_true rfl) (by omega) rfl rc_42 rfl (Nat.le_of_ble_eq_true rfl) dX9_goOn_27 (fun _ s2 => ?_)
        refine z_goto K (tgt := 47) dX9_goOn_30 (by decide) ?_
        exact z_vret K dX9_goOn_47
    · exact z_vret K dX9_goOn_10
def f_X9_goOn (F : Nat) : Nat → Int32 → Int64 → Int32 → zM → Option (Unit × zM)
  | 0, _, _, _, _ => none
  | n + 1, v1, v2, v4, s => b_X9_goOn F (f_X9_goOn F n) v1 v2 v4 s
set_option maxRecDepth 100000 in
set_option maxHeartbeats 4000000 in
theorem tG1 (w : zWd) (F : Nat) : ∀ (n d : Nat) (v1 : Int32) (v2 : Int64) (v4 : Int32) (s : zM), 2 * n + 5 ≤ d → zMt w yX9_goOn cX9_goOn 5 none d zφN zφN zrv [.ref (w.2.2.2 + 42), .int v1, .long v2, .int v4] s (f_X9_goOn F n v1 v2 v4 s) := by
  intro n
  induction n with
  | zero => intro d v1 v2 v4 s _ _ _ h; cases h
  | succ n ih =>
    intro d v1 v2 v4 s hd
    refine zMtN_of (own := RX9) rfl (by decide +kernel) (Nat.le_of_ble_eq_true rfl) cd_X9_goOn [(0, .ref (w.2.2.2 + 42)), (1, .int v1), (2, .long v2), (4, .int v4)] rfl ?_
    rintro a rfl K
    rw [f_X9_goOn]
    exact tb_X9_goOn F _ K (by omega) (fun e he v1 v2 v4 s => ih e v1 v2 v4 s (by omega)) v1 v2 v4 s
set_option maxRecDepth 100000 in
set_option maxHeartbeats 4000000 in
theorem t_X9_goOn (w : zWd) (F : Nat) (D d : Nat) (hd : 2 * D + 5 ≤ d) (v1 : Int32) (v2 : Int64) (v4 : Int32) (s : zM) : zMt w yX9_goOn cX9_goOn 5 none d zφN zφN zrv [.ref (w.2.2.2 + 42), .int v1, .long v2, .int v4] s (f_X9_goOn F D v1 v2 v4 s) := tG1 w F D d v1 v2 v4 s hd
def f_X9_find (F : Nat) (D : Nat) (v1 : Int32) (v2 : Int32) (s : zM) : Option (Int32 × zM) :=
  lt (zs s 42 6 v2) (fun s1 =>
  lt (zs s1 42 4 (-1 : Int32)) (fun s2 =>
  lt (zsl s2 0 (-1 : Int64)) (fun s3 =>
  if zin (0 : Int32) 7 = true then
    lt (zs s3 43 ((0 : Int32)).toNatClampNeg v1) (fun s4 =>
    bnd (f_X9_goOn F D (0 : Int32) (1000000000000000000 : Int64) ((1 : Int32) <<< (v1 &&& 31)) s4) (fun _ s5 =>
    if (zg s5 42 4) = (-1 : Int32) then
      some ((0 : Int32), s5)
    else
      some ((1 : Int32), s5)))
  else none)))
set_option maxRecDepth 100000 in
set_option maxHeartbeats 4000000 in
theorem t_X9_find (w : zWd) (F : Nat) (D : Nat) (d : Nat) (hd : 2 * D + 6 ≤ d) (v1 : Int32) (v2 : Int32) (s : zM) : zMt w yX9_find cX9_find 3 (some .boolean) d zφN zφN zri [.ref (w.2.2.2 + 42), .int v1, .int v2] s (f_X9_find F D v1 v2 s) := by
  refine zMtN_of (own := RX9) rfl (by decide +kernel) (Nat.le_of_ble_eq_true rfl) cd_X9_find [(0, .ref (w.2.2.2 + 42)), (1, .int v1), (2, .int v2)] rfl ?_
  rintro a rfl K
  unfold f_X9_find
  refine z_aload_n K 0 rfl dX9_find_0 ?_
  refine z_iload_n K 2 rfl dX9_find_1 ?_
  refine z_puti K fw_X9_26 ob_42_6 dX9_find_2 ?_
  refine z_ltm (fun s1 => ?_)
  refine z_aload_n K 0 rfl dX9_find_5 ?_
  refine z_iconst K ci_m1 dX9_find_6 ?_
  refine z_puti K fw_X9_30 ob_42_4 dX9_find_7 ?_
  refine z_ltm (fun s2 => ?_)
  refine z_aload_n K 0 rfl dX9_find_10 ?_
  refine z_ldc2 K cst_X9_33 dX9_find_11 ?_
  refine z_putl K fw_X9_35 ob_42_5 (zone_of on_0) dX9_find_14 ?_
  refine z_ltm (fun s3 => ?_)
  refine z_aload_n K 0 rfl dX9_find_17 ?_
  refine z_getr K fd_X9_11 ob_42_2 dX9_find_18 ?_
  refine z_iconst K ci_0 dX9_find_21 ?_
  refine z_iload_n K 1 rfl dX9_find_22 ?_
  refine z_iast K ar_43 dX9_find_23 ?_
  refine z_ltm (fun s4 => ?_)
  refine z_aload_n K 0 rfl dX9_find_24 ?_
  refine z_iconst K ci_0 dX9_find_25 ?_
  refine z_ldc2 K cst_X9_39 dX9_find_26 ?_
  refine z_iconst K ci_1 dX9_find_29 ?_
  refine z_iload_n K 1 rfl dX9_find_30 ?_
  refine z_ishl K dX9_find_31 ?_
  refine z_cVv (As := [.int (0 : Int32), .long (1000000000000000000 : Int64), .int ((1 : Int32) <<< (v1 &&& 31))]) (rest := []) K (t_X9_goOn a.1 F D (d - 1) (by omega) (0 : Int32) (1000000000000000000 : Int64) ((1 : Int32) <<< (v1 &&& 31)) s4) mf_X9_goOn ml_X9_41 (Nat.le_of_ble_eq_true rfl) (by omega) rfl rc_42 rfl (Nat.le_of_ble_eq_true rfl) dX9_find_32 (fun _ s5 => ?_)
  refine z_aload_n K 0 rfl dX9_find_35 ?_
  refine z_geti K fd_X9_30 ob_42_4 dX9_find_36 ?_
  refine z_iconst K ci_m1 dX9_find_39 ?_
  refine z_icmp_eq K (tgt := 47) dX9_find_40 (by decide) ?_ ?_
  · refine z_iconst K ci_0 dX9_find_47 ?_
    exact z_zret (Or.inl rfl) K dX9_find_48
  · refine z_iconst K ci_1 dX9_find_43 ?_
    refine z_goto K (tgt := 48) dX9_find_44 (by decide) ?_
    exact z_zret (Or.inr rfl) K dX9_find_48
def f_X9_passings (s : zM) : Option (Int32 × zM) :=
  some ((zg s 42 4), s)
set_option maxRecDepth 100000 in
set_option maxHeartbeats 4000000 in
theorem t_X9_passings (w : zWd) (d : Nat) (hd : 0 ≤ d) (s : zM) : zMt w yX9_passings cX9_passings 1 (some .int) d zφN zφN zri [.ref (w.2.2.2 + 42)] s (f_X9_passings s) := by
  refine zMtN_of (own := RX9) rfl (by decide +kernel) (Nat.le_of_ble_eq_true rfl) cd_X9_passings [(0, .ref (w.2.2.2 + 42))] rfl ?_
  rintro a rfl K
  unfold f_X9_passings
  refine z_aload_n K 0 rfl dX9_passings_0 ?_
  refine z_geti K fd_X9_30 ob_42_4 dX9_passings_1 ?_
  exact z_iret K dX9_passings_4
def f_X9_guestAt (v1 : Int32) (s : zM) : Option (Int32 × zM) :=
  if v1 < 0 then
    some ((-1 : Int32), s)
  else
    if (zg s 42 4) < v1 then
      some ((-1 : Int32), s)
    else
      if (6 : Int32) < v1 then
        some ((-1 : Int32), s)
      else
        if zin v1 7 = true then
          some ((zg s 44 (v1).toNatClampNeg), s)
        else none
set_option maxRecDepth 100000 in
set_option maxHeartbeats 4000000 in
theorem t_X9_guestAt (w : zWd) (d : Nat) (hd : 0 ≤ d) (v1 : Int32) (s : zM) : zMt w yX9_guestAt cX9_guestAt 2 (some .int) d zφN zφN zri [.ref (w.2.2.2 + 42), .int v1] s (f_X9_guestAt v1 s) := by
  refine zMtN_of (own := RX9) rfl (by decide +kernel) (Nat.le_of_ble_eq_true rfl) cd_X9_guestAt [(0, .ref (w.2.2.2 + 42)), (1, .int v1)] rfl ?_
  rintro a rfl K
  unfold f_X9_guestAt
  refine z_iload_n K 1 rfl dX9_guestAt_0 ?_
  refine z_if_lt K (tgt := 27) dX9_guestAt_1 (by decide) ?_ ?_
  · refine z_iconst K ci_m1 dX9_guestAt_27 ?_
    exact z_iret K dX9_guestAt_28
  · refine z_iload_n K 1 rfl dX9_guestAt_4 ?_
    refine z_aload_n K 0 rfl dX9_guestAt_5 ?_
    refine z_geti K fd_X9_30 ob_42_4 dX9_guestAt_6 ?_
    refine z_icmp_gt K (tgt := 27) dX9_guestAt_9 (by decide) ?_ ?_
    · refine z_iconst K ci_m1 dX9_guestAt_27 ?_
      exact z_iret K dX9_guestAt_28
    · refine z_iload_n K 1 rfl dX9_guestAt_12 ?_
      refine z_bipush K cb_6 dX9_guestAt_13 ?_
      refine z_icmp_gt K (tgt := 27) dX9_guestAt_15 (by decide) ?_ ?_
      · refine z_iconst K ci_m1 dX9_guestAt_27 ?_
        exact z_iret K dX9_guestAt_28
      · refine z_aload_n K 0 rfl dX9_guestAt_18 ?_
        refine z_getr K fd_X9_15 ob_42_3 dX9_guestAt_19 ?_
        refine z_iload_n K 1 rfl dX9_guestAt_22 ?_
        refine z_iald K ar_44 dX9_guestAt_23 ?_
        refine z_goto K (tgt := 28) dX9_guestAt_24 (by decide) ?_
        exact z_iret K dX9_guestAt_28
def f_X9_divisor_L12 (F : Nat) (k42 : Int64 → zM → Option (Int64 × zM)) : Nat → Int64 → Int64 → Int32 → zM → Option (Int64 × zM)
  | 0, _, _, _, _ => none
  | n + 1, v1, v3, v5, s =>
    if v5 < (200 : Int32) then
      if 0 < (lg_cmp v3 (0 : Int64)) then
        if v3 = 0 then none else
        lt ((v1 - v1 / v3 * v3)) (fun y2 =>
        lt (v5 + (1 : Int32)) (fun y3 =>
        f_X9_divisor_L12 F k42 n v3 y2 y3 s))
      else
        k42 v1 s
    else
      k42 v1 s
set_option maxRecDepth 100000 in
set_option maxHeartbeats 4000000 in
theorem t_X9_divisor_L12 {a : zA} {d : Nat} (F : Nat) (K : zOK a cX9_divisor 8 RX9 (some .long) d) (hd : 0 ≤ d) {k42 : Int64 → zM → Option (Int64 × zM)} (h42 : ∀ (v1 : Int64) (s : zM), zJ a 8 (zG a zφN zrl) zφN 42 [(1, .long v1)] [] s (k42 v1 s)) : ∀ (n : Nat) (v1 : Int64) (v3 : Int64) (v5 : Int32) (s : zM), zJ a 8 (zG a zφN zrl) zφN 12 [(1, .long v1), (3, .long v3), (5, .int v5)] [] s (f_X9_divisor_L12 F k42 n v1 v3 v5 s) := by
  intro n
  induction n with
  | zero => intros; exact z_none
  | succ n ih =>
    intro v1 v3 v5 s
    rw [f_X9_divisor_L12]
    refine z_iload K 2 rfl dX9_divisor_12 ?_
    refine z_sipush K cs_200 dX9_divisor_14 ?_
    refine z_icmp_ge K (tgt := 42) dX9_divisor_17 (by decide) ?_ ?_
    · refine z_sub [0] rfl ?_
      exact h42 v1 s
    · refine z_lload_n K 1 rfl dX9_divisor_20 ?_
      refine z_lconst K ck_0 dX9_divisor_21 ?_
      refine z_lcmp K dX9_divisor_22 ?_
      refine z_if_le K (tgt := 42) dX9_divisor_23 (by decide) ?_ ?_
      · refine z_sub [0] rfl ?_
        exact h42 v1 s
      · refine z_lload_n K 0 rfl dX9_divisor_26 ?_
        refine z_lload_n K 1 rfl dX9_divisor_27 ?_
        refine z_lrem K dX9_divisor_28 ?_
        refine z_topl (fun y2 => ?_)
        refine z_lstore K (lv' := [(6, .long y2), (1, .long v1), (3, .long v3), (5, .int v5)]) dX9_divisor_29 (Nat.le_of_ble_eq_true rfl) rfl ?_
        refine z_lload_n K 2 rfl dX9_divisor_31 ?_
        refine z_lstore_n K (lv' := [(1, .long v3), (6, .long y2), (3, .long v3), (5, .int v5)]) dX9_divisor_32 rfl (Nat.le_of_ble_eq_true rfl) rfl ?_
        refine z_lload K 1 rfl dX9_divisor_33 ?_
        refine z_lstore_n K (lv' := [(3, .long y2), (1, .long v3), (6, .long y2), (5, .int v5)]) dX9_divisor_35 rfl (Nat.le_of_ble_eq_true rfl) rfl ?_
        refine z_iincN K (j := 3) (lv' := [(3, .long y2), (1, .long v3), (6, .long y2)]) ci_1 rfl dX9_divisor_36 (Nat.le_of_ble_eq_true rfl) rfl (fun y3 => ?_)
        refine z_goto K (tgt := 12) dX9_divisor_39 (by decide) ?_
        refine z_sub [2, 1, 0] rfl ?_
        exact ih v3 y2 y3 s
def f_X9_divisor (F : Nat) (s : zM) : Option (Int64 × zM) :=
  lt ((zgl s 0)) (fun y1 =>
  f_X9_divisor_L12 F (fun y5 s4 =>
    if (lg_cmp y5 (1 : Int64)) < 0 then
      some ((1 : Int64), s4)
    else
      some (y5, s4)) F (1000000000000000000 : Int64) y1 (0 : Int32) s)
set_option maxRecDepth 100000 in
set_option maxHeartbeats 4000000 in
theorem t_X9_divisor (w : zWd) (F : Nat) (d : Nat) (hd : 0 ≤ d) (s : zM) : zMt w yX9_divisor cX9_divisor 8 (some .long) d zφN zφN zrl [.ref (w.2.2.2 + 42)] s (f_X9_divisor F s) := by
  refine zMtN_of (own := RX9) rfl (by decide +kernel) (Nat.le_of_ble_eq_true rfl) cd_X9_divisor [(0, .ref (w.2.2.2 + 42))] rfl ?_
  rintro a rfl K
  unfold f_X9_divisor
  refine z_ldc2 K cst_X9_39 dX9_divisor_0 ?_
  refine z_lstore_n K (lv' := [(1, .long (1000000000000000000 : Int64)), (0, .ref (a.1.2.2.2 + 42))]) dX9_divisor_3 rfl (Nat.le_of_ble_eq_true rfl) rfl ?_
  refine z_aload_n K 1 rfl dX9_divisor_4 ?_
  refine z_getl K fd_X9_35 ob_42_5 dX9_divisor_5 ?_
  refine z_topl (fun y1 => ?_)
  refine z_lstore_n K (lv' := [(3, .long y1), (1, .long (1000000000000000000 : Int64)), (0, .ref (a.1.2.2.2 + 42))]) dX9_divisor_8 rfl (Nat.le_of_ble_eq_true rfl) rfl ?_
  refine z_iconst K ci_0 dX9_divisor_9 ?_
  refine z_istore K (lv' := [(5, .int (0 : Int32)), (3, .long y1), (1, .long (1000000000000000000 : Int64)), (0, .ref (a.1.2.2.2 + 42))]) dX9_divisor_10 (Nat.le_of_ble_eq_true rfl) rfl ?_
  refine z_sub [2, 1, 0] rfl ?_
  refine t_X9_divisor_L12 F K hd (fun y5 s4 => ?_) F (1000000000000000000 : Int64) y1 (0 : Int32) s
  refine z_lload_n K 0 rfl dX9_divisor_42 ?_
  refine z_lconst K ck_1 dX9_divisor_43 ?_
  refine z_lcmp K dX9_divisor_44 ?_
  refine z_if_ge K (tgt := 52) dX9_divisor_45 (by decide) ?_ ?_
  · refine z_lload_n K 0 rfl dX9_divisor_52 ?_
    exact z_lret K dX9_divisor_53
  · refine z_lconst K ck_1 dX9_divisor_48 ?_
    refine z_goto K (tgt := 53) dX9_divisor_49 (by decide) ?_
    exact z_lret K dX9_divisor_53
def f_X9_above (F : Nat) (s : zM) : Option (Int64 × zM) :=
  bnd (f_X9_divisor F s) (fun r2 s1 =>
  if r2 = 0 then none else
  some (((zgl s 0) / r2), s1))
set_option maxRecDepth 100000 in
set_option maxHeartbeats 4000000 in
theorem t_X9_above (w : zWd) (F : Nat) (d : Nat) (hd : 1 ≤ d) (s : zM) : zMt w yX9_above cX9_above 1 (some .long) d zφN zφN zrl [.ref (w.2.2.2 + 42)] s (f_X9_above F s) := by
  refine zMtN_of (own := RX9) rfl (by decide +kernel) (Nat.le_of_ble_eq_true rfl) cd_X9_above [(0, .ref (w.2.2.2 + 42))] rfl ?_
  rintro a rfl K
  unfold f_X9_above
  refine z_aload_n K 0 rfl dX9_above_0 ?_
  refine z_getl K fd_X9_35 ob_42_5 dX9_above_1 ?_
  refine z_aload_n K 0 rfl dX9_above_4 ?_
  refine z_cVl (As := []) (rest := [.long (zgl s 0)]) K (t_X9_divisor a.1 F (d - 1) (by omega) s) mf_X9_divisor ml_X9_86 (Nat.le_of_ble_eq_true rfl) (by omega) rfl rc_42 rfl (Nat.le_of_ble_eq_true rfl) dX9_above_5 (fun r2 s1 => ?_)
  refine z_ldiv K dX9_above_8 ?_
  exact z_lret K dX9_above_9
def f_X9_below (F : Nat) (s : zM) : Option (Int64 × zM) :=
  bnd (f_X9_divisor F s) (fun r2 s1 =>
  if r2 = 0 then none else
  some (((1000000000000000000 : Int64) / r2), s1))
set_option maxRecDepth 100000 in
set_option maxHeartbeats 4000000 in
theorem t_X9_below (w : zWd) (F : Nat) (d : Nat) (hd : 1 ≤ d) (s : zM) : zMt w yX9_below cX9_below 1 (some .long) d zφN zφN zrl [.ref (w.2.2.2 + 42)] s (f_X9_below F s) := by
  refine zMtN_of (own := RX9) rfl (by decide +kernel) (Nat.le_of_ble_eq_true rfl) cd_X9_below [(0, .ref (w.2.2.2 + 42))] rfl ?_
  rintro a rfl K
  unfold f_X9_below
  refine z_ldc2 K cst_X9_39 dX9_below_0 ?_
  refine z_aload_n K 0 rfl dX9_below_3 ?_
  refine z_cVl (As := []) (rest := [.long (1000000000000000000 : Int64)]) K (t_X9_divisor a.1 F (d - 1) (by omega) s) mf_X9_divisor ml_X9_86 (Nat.le_of_ble_eq_true rfl) (by omega) rfl rc_42 rfl (Nat.le_of_ble_eq_true rfl) dX9_below_4 (fun r2 s1 => ?_)
  refine z_ldiv K dX9_below_7 ?_
  exact z_lret K dX9_below_8
