def f_X11_guest_j21 (v1 : Int32) (v2 : Int32) (s : zM) : Option (Int32 × zM) :=
  bnd (f_X0_isFull s) (fun r2 s1 =>
  if r2 = 0 then
    if v2 = (-1 : Int32) then
      bnd (f_X0_add v1 v2 s1) (fun r4 s3 =>
      some (r4, s3))
    else
      bnd (f_X0_at v2 s1) (fun r6 s5 =>
      if r6 = (-1 : Int32) then
        bnd (f_X0_add v1 v2 s5) (fun r8 s7 =>
        some (r8, s7))
      else
        some ((-2 : Int32), s5))
  else
    some ((-1 : Int32), s1))
set_option maxRecDepth 100000 in
set_option maxHeartbeats 4000000 in
theorem t_X11_guest_j21 {a : zA} {d : Nat} (K : zOK a cX11_guest 3 RX11 (some .int) d) (hd : 3 ≤ d) (v1 : Int32) (v2 : Int32) (s : zM) : zJ a 3 (zG a zφN zri) zφN 21 [(0, .ref (a.1.2.2.2 + 0)), (1, .int v1), (2, .int v2)] [] s (f_X11_guest_j21 v1 v2 s) := by
  unfold f_X11_guest_j21
  refine z_aload_n K 0 rfl dX11_guest_21 ?_
  refine z_getr K fd_X11_24 ob_0_1 dX11_guest_22 ?_
  refine z_cVi (As := []) (rest := []) K (t_X0_isFull a.1 (d - 1) (by omega) s) mf_X0_isFull ml_X11_94 (Nat.le_of_ble_eq_true rfl) (by omega) rfl rc_3 rfl (Nat.le_of_ble_eq_true rfl) dX11_guest_25 (fun r2 s1 => ?_)
  refine z_if_eq K (tgt := 33) dX11_guest_28 (by decide) ?_ ?_
  · refine z_iload_n K 2 rfl dX11_guest_33 ?_
    refine z_iconst K ci_m1 dX11_guest_34 ?_
    refine z_icmp_eq K (tgt := 53) dX11_guest_35 (by decide) ?_ ?_
    · refine z_aload_n K 0 rfl dX11_guest_53 ?_
      refine z_getr K fd_X11_24 ob_0_1 dX11_guest_54 ?_
      refine z_iload_n K 1 rfl dX11_guest_57 ?_
      refine z_iload_n K 2 rfl dX11_guest_58 ?_
      refine z_cVi (As := [.int v1, .int v2]) (rest := []) K (t_X0_add a.1 (d - 1) (by omega) v1 v2 s1) mf_X0_add ml_X11_102 (Nat.le_of_ble_eq_true rfl) (by omega) rfl rc_3 rfl (Nat.le_of_ble_eq_true rfl) dX11_guest_59 (fun r4 s3 => ?_)
      exact z_iret K dX11_guest_62
    · refine z_aload_n K 0 rfl dX11_guest_38 ?_
      refine z_getr K fd_X11_24 ob_0_1 dX11_guest_39 ?_
      refine z_iload_n K 2 rfl dX11_guest_42 ?_
      refine z_cVi (As := [.int v2]) (rest := []) K (t_X0_at a.1 (d - 1) (by omega) v2 s1) mf_X0_at ml_X11_98 (Nat.le_of_ble_eq_true rfl) (by omega) rfl rc_3 rfl (Nat.le_of_ble_eq_true rfl) dX11_guest_43 (fun r6 s5 => ?_)
      refine z_iconst K ci_m1 dX11_guest_46 ?_
      refine z_icmp_eq K (tgt := 53) dX11_guest_47 (by decide) ?_ ?_
      · refine z_aload_n K 0 rfl dX11_guest_53 ?_
        refine z_getr K fd_X11_24 ob_0_1 dX11_guest_54 ?_
        refine z_iload_n K 1 rfl dX11_guest_57 ?_
        refine z_iload_n K 2 rfl dX11_guest_58 ?_
        refine z_cVi (As := [.int v1, .int v2]) (rest := []) K (t_X0_add a.1 (d - 1) (by omega) v1 v2 s5) mf_X0_add ml_X11_102 (Nat.le_of_ble_eq_true rfl) (by omega) rfl rc_3 rfl (Nat.le_of_ble_eq_true rfl) dX11_guest_59 (fun r8 s7 => ?_)
        exact z_iret K dX11_guest_62
      · refine z_bipush K cb_m2 dX11_guest_50 ?_
        exact z_iret K dX11_guest_52
  · refine z_iconst K ci_m1 dX11_guest_31 ?_
    exact z_iret K dX11_guest_32
def f_X11_guest (v1 : Int32) (v2 : Int32) (s : zM) : Option (Int32 × zM) :=
  if v1 < 0 then
    some ((-1 : Int32), s)
  else
    if (1 : Int32) < v1 then
      some ((-1 : Int32), s)
    else
      if v2 = (-1 : Int32) then
        f_X11_guest_j21 v1 v2 s
      else
        bnd (f_X8_isSeat v2 s) (fun r10 s9 =>
        if r10 = 0 then
          some ((-1 : Int32), s9)
        else
          f_X11_guest_j21 v1 v2 s9)
set_option maxRecDepth 100000 in
set_option maxHeartbeats 4000000 in
theorem t_X11_guest (w : zWd) (d : Nat) (hd : 3 ≤ d) (v1 : Int32) (v2 : Int32) (s : zM) : zMt w yX11_guest cX11_guest 3 (some .int) d zφN zφN zri [.ref (w.2.2.2 + 0), .int v1, .int v2] s (f_X11_guest v1 v2 s) := by
  refine zMtN_of (own := RX11) rfl (by decide +kernel) (Nat.le_of_ble_eq_true rfl) cd_X11_guest [(0, .ref (w.2.2.2 + 0)), (1, .int v1), (2, .int v2)] rfl ?_
  rintro a rfl K
  unfold f_X11_guest
  refine z_iload_n K 1 rfl dX11_guest_0 ?_
  refine z_if_lt K (tgt := 31) dX11_guest_1 (by decide) ?_ ?_
  · refine z_iconst K ci_m1 dX11_guest_31 ?_
    exact z_iret K dX11_guest_32
  · refine z_iload_n K 1 rfl dX11_guest_4 ?_
    refine z_iconst K ci_1 dX11_guest_5 ?_
    refine z_icmp_gt K (tgt := 31) dX11_guest_6 (by decide) ?_ ?_
    · refine z_iconst K ci_m1 dX11_guest_31 ?_
      exact z_iret K dX11_guest_32
    · refine z_iload_n K 2 rfl dX11_guest_9 ?_
      refine z_iconst K ci_m1 dX11_guest_10 ?_
      refine z_icmp_eq K (tgt := 21) dX11_guest_11 (by decide) ?_ ?_
      · exact t_X11_guest_j21 K hd v1 v2 s
      · refine z_iload_n K 2 rfl dX11_guest_14 ?_
        refine z_cSi (As := [.int v2]) (rest := []) K (t_X8_isSeat a.1 (d - 1) (by omega) v2 s) mf_X8_isSeat ml_X11_88 (Nat.le_of_ble_eq_true rfl) (by omega) rfl rfl (Nat.le_of_ble_eq_true rfl) dX11_guest_15 (fun r10 s9 => ?_)
        refine z_if_eq K (tgt := 31) dX11_guest_18 (by decide) ?_ ?_
        · refine z_iconst K ci_m1 dX11_guest_31 ?_
          exact z_iret K dX11_guest_32
        · exact t_X11_guest_j21 K hd v1 v2 s9
def f_X11_areTwo (v1 : Int32) (v2 : Int32) (s : zM) : Option (Int32 × zM) :=
  if v1 = v2 then
    some ((0 : Int32), s)
  else
    bnd (f_X0_knows v1 s) (fun r2 s1 =>
    if r2 = 0 then
      some ((0 : Int32), s1)
    else
      bnd (f_X0_knows v2 s1) (fun r4 s3 =>
      if r4 = 0 then
        some ((0 : Int32), s3)
      else
        some ((1 : Int32), s3)))
set_option maxRecDepth 100000 in
set_option maxHeartbeats 4000000 in
theorem t_X11_areTwo (w : zWd) (d : Nat) (hd : 1 ≤ d) (v1 : Int32) (v2 : Int32) (s : zM) : zMt w yX11_areTwo cX11_areTwo 3 (some .boolean) d zφN zφN zri [.ref (w.2.2.2 + 0), .int v1, .int v2] s (f_X11_areTwo v1 v2 s) := by
  refine zMtN_of (own := RX11) rfl (by decide +kernel) (Nat.le_of_ble_eq_true rfl) cd_X11_areTwo [(0, .ref (w.2.2.2 + 0)), (1, .int v1), (2, .int v2)] rfl ?_
  rintro a rfl K
  unfold f_X11_areTwo
  refine z_iload_n K 1 rfl dX11_areTwo_0 ?_
  refine z_iload_n K 2 rfl dX11_areTwo_1 ?_
  refine z_icmp_eq K (tgt := 31) dX11_areTwo_2 (by decide) ?_ ?_
  · refine z_iconst K ci_0 dX11_areTwo_31 ?_
    exact z_zret (Or.inl rfl) K dX11_areTwo_32
  · refine z_aload_n K 0 rfl dX11_areTwo_5 ?_
    refine z_getr K fd_X11_24 ob_0_1 dX11_areTwo_6 ?_
    refine z_iload_n K 1 rfl dX11_areTwo_9 ?_
    refine z_cVi (As := [.int v1]) (rest := []) K (t_X0_knows a.1 (d - 1) (by omega) v1 s) mf_X0_knows ml_X11_169 (Nat.le_of_ble_eq_true rfl) (by omega) rfl rc_3 rfl (Nat.le_of_ble_eq_true rfl) dX11_areTwo_10 (fun r2 s1 => ?_)
    refine z_if_eq K (tgt := 31) dX11_areTwo_13 (by decide) ?_ ?_
    · refine z_iconst K ci_0 dX11_areTwo_31 ?_
      exact z_zret (Or.inl rfl) K dX11_areTwo_32
    · refine z_aload_n K 0 rfl dX11_areTwo_16 ?_
      refine z_getr K fd_X11_24 ob_0_1 dX11_areTwo_17 ?_
      refine z_iload_n K 2 rfl dX11_areTwo_20 ?_
      refine z_cVi (As := [.int v2]) (rest := []) K (t_X0_knows a.1 (d - 1) (by omega) v2 s1) mf_X0_knows ml_X11_169 (Nat.le_of_ble_eq_true rfl) (by omega) rfl rc_3 rfl (Nat.le_of_ble_eq_true rfl) dX11_areTwo_21 (fun r4 s3 => ?_)
      refine z_if_eq K (tgt := 31) dX11_areTwo_24 (by decide) ?_ ?_
      · refine z_iconst K ci_0 dX11_areTwo_31 ?_
        exact z_zret (Or.inl rfl) K dX11_areTwo_32
      · refine z_iconst K ci_1 dX11_areTwo_27 ?_
        refine z_goto K (tgt := 32) dX11_areTwo_28 (by decide) ?_
        exact z_zret (Or.inr rfl) K dX11_areTwo_32
def f_X11_liking (v1 : Int32) (v2 : Int32) (v3 : Int32) (s : zM) : Option (Int32 × zM) :=
  bnd (f_X11_areTwo v1 v2 s) (fun r2 s1 =>
  if r2 = 0 then
    some ((0 : Int32), s1)
  else
    if v3 < (-9 : Int32) then
      some ((0 : Int32), s1)
    else
      if (9 : Int32) < v3 then
        some ((0 : Int32), s1)
      else
        bnd (f_X0_like v1 v2 v3 s1) (fun _ s3 =>
        bnd (f_X1_forget s3) (fun _ s4 =>
        some ((1 : Int32), s4))))
set_option maxRecDepth 100000 in
set_option maxHeartbeats 4000000 in
theorem t_X11_liking (w : zWd) (d : Nat) (hd : 2 ≤ d) (v1 : Int32) (v2 : Int32) (v3 : Int32) (s : zM) : zMt w yX11_liking cX11_liking 4 (some .boolean) d zφN zφN zri [.ref (w.2.2.2 + 0), .int v1, .int v2, .int v3] s (f_X11_liking v1 v2 v3 s) := by
  refine zMtN_of (own := RX11) rfl (by decide +kernel) (Nat.le_of_ble_eq_true rfl) cd_X11_liking [(0, .ref (w.2.2.2 + 0)), (1, .int v1), (2, .int v2), (3, .int v3)] rfl ?_
  rintro a rfl K
  unfold f_X11_liking
  refine z_aload_n K 0 rfl dX11_liking_0 ?_
  refine z_iload_n K 1 rfl dX11_liking_1 ?_
  refine z_iload_n K 2 rfl dX11_liking_2 ?_
  refine z_cVi (As := [.int v1, .int v2]) (rest := []) K (t_X11_areTwo a.1 (d - 1) (by omega) v1 v2 s) mf_X11_areTwo ml_X11_106 (Nat.le_of_ble_eq_true rfl) (by omega) rfl rc_0 rfl (Nat.le_of_ble_eq_true rfl) dX11_liking_3 (fun r2 s1 => ?_)
  refine z_if_eq K (tgt := 21) dX11_liking_6 (by decide) ?_ ?_
  · refine z_iconst K ci_0 dX11_liking_21 ?_
    exact z_zret (Or.inl rfl) K dX11_liking_22
  · refine z_iload_n K 3 rfl dX11_liking_9 ?_
    refine z_bipush K cb_m9 dX11_liking_10 ?_
    refine z_icmp_lt K (tgt := 21) dX11_liking_12 (by decide) ?_ ?_
    · refine z_iconst K ci_0 dX11_liking_21 ?_
      exact z_zret (Or.inl rfl) K dX11_liking_22
    · refine z_iload_n K 3 rfl dX11_liking_15 ?_
      refine z_bipush K cb_9 dX11_liking_16 ?_
      refine z_icmp_le K (tgt := 23) dX11_liking_18 (by decide) ?_ ?_
      · refine z_aload_n K 0 rfl dX11_liking_23 ?_
        refine z_getr K fd_X11_24 ob_0_1 dX11_liking_24 ?_
        refine z_iload_n K 1 rfl dX11_liking_27 ?_
        refine z_iload_n K 2 rfl dX11_liking_28 ?_
        refine z_iload_n K 3 rfl dX11_liking_29 ?_
        refine z_cVv (As := [.int v1, .int v2, .int v3]) (rest := []) K (t_X0_like a.1 (d - 1) (by omega) v1 v2 v3 s1) mf_X0_like ml_X11_110 (Nat.le_of_ble_eq_true rfl) (by omega) rfl rc_3 rfl (Nat.le_of_ble_eq_true rfl) dX11_liking_30 (fun _ s3 => ?_)
        refine z_aload_n K 0 rfl dX11_liking_33 ?_
        refine z_getr K fd_X11_37 ob_0_3 dX11_liking_34 ?_
        refine z_cVv (As := []) (rest := []) K (t_X1_forget a.1 (d - 1) (by omega) s3) mf_X1_forget ml_X11_114 (Nat.le_of_ble_eq_true rfl) (by omega) rfl rc_12 rfl (Nat.le_of_ble_eq_true rfl) dX11_liking_37 (fun _ s4 => ?_)
        refine z_iconst K ci_1 dX11_liking_40 ?_
        exact z_zret (Or.inr rfl) K dX11_liking_41
      · refine z_iconst K ci_0 dX11_liking_21 ?_
        exact z_zret (Or.inl rfl) K dX11_liking_22
def f_X11_sit (v1 : Int32) (v2 : Int32) (s : zM) : Option (Int32 × zM) :=
  bnd (f_X0_lives v1 s) (fun r2 s1 =>
  if r2 = 0 then
    some ((0 : Int32), s1)
  else
    if v2 = (-1 : Int32) then
      bnd (f_X0_place v1 v2 s1) (fun _ s3 =>
      some ((1 : Int32), s3))
    else
      bnd (f_X8_isSeat v2 s1) (fun r5 s4 =>
      if r5 = 0 then
        some ((0 : Int32), s4)
      else
        bnd (f_X0_at v2 s4) (fun r7 s6 =>
        if r7 = (-1 : Int32) then
          bnd (f_X0_place v1 v2 s6) (fun _ s8 =>
          some ((1 : Int32), s8))
        else
          some ((0 : Int32), s6))))
set_option maxRecDepth 100000 in
set_option maxHeartbeats 4000000 in
theorem t_X11_sit (w : zWd) (d : Nat) (hd : 2 ≤ d) (v1 : Int32) (v2 : Int32) (s : zM) : zMt w yX11_sit cX11_sit 3 (some .boolean) d zφN zφN zri [.ref (w.2.2.2 + 0), .int v1, .int v2] s (f_X11_sit v1 v2 s) := by
  refine zMtN_of (own := RX11) rfl (by decide +kernel) (Nat.le_of_ble_eq_true rfl) cd_X11_sit [(0, .ref (w.2.2.2 + 0)), (1, .int v1), (2, .int v2)] rfl ?_
  rintro a rfl K
  unfold f_X11_sit
  refine z_aload_n K 0 rfl dX11_sit_0 ?_
  refine z_getr K fd_X11_24 ob_0_1 dX11_sit_1 ?_
  refine z_iload_n K 1 rfl dX11_sit_4 ?_
  refine z_cVi (As := [.int v1]) (rest := []) K (t_X0_lives a.1 (d - 1) (by omega) v1 s) mf_X0_lives ml_X11_117 (Nat.le_of_ble_eq_true rfl) (by omega) rfl rc_3 rfl (Nat.le_of_ble_eq_true rfl) dX11_sit_5 (fun r2 s1 => ?_)
  refine z_if_ne K (tgt := 13) dX11_sit_8 (by decide) ?_ ?_
  · refine z_iload_n K 2 rfl dX11_sit_13 ?_
    refine z_iconst K ci_m1 dX11_sit_14 ?_
    refine z_icmp_eq K (tgt := 39) dX11_sit_15 (by decide) ?_ ?_
    · refine z_aload_n K 0 rfl dX11_sit_39 ?_
      refine z_getr K fd_X11_24 ob_0_1 dX11_sit_40 ?_
      refine z_iload_n K 1 rfl dX11_sit_43 ?_
      refine z_iload_n K 2 rfl dX11_sit_44 ?_
      refine z_cVv (As := [.int v1, .int v2]) (rest := []) K (t_X0_place a.1 (d - 1) (by omega) v1 v2 s1) mf_X0_place ml_X11_120 (Nat.le_of_ble_eq_true rfl) (by omega) rfl rc_3 rfl (Nat.le_of_ble_eq_true rfl) dX11_sit_45 (fun _ s3 => ?_)
      refine z_iconst K ci_1 dX11_sit_48 ?_
      exact z_zret (Or.inr rfl) K dX11_sit_49
    · refine z_iload_n K 2 rfl dX11_sit_18 ?_
      refine z_cSi (As := [.int v2]) (rest := []) K (t_X8_isSeat a.1 (d - 1) (by omega) v2 s1) mf_X8_isSeat ml_X11_88 (Nat.le_of_ble_eq_true rfl) (by omega) rfl rfl (Nat.le_of_ble_eq_true rfl) dX11_sit_19 (fun r5 s4 => ?_)
      refine z_if_eq K (tgt := 37) dX11_sit_22 (by decide) ?_ ?_
      · refine z_iconst K ci_0 dX11_sit_37 ?_
        exact z_zret (Or.inl rfl) K dX11_sit_38
      · refine z_aload_n K 0 rfl dX11_sit_25 ?_
        refine z_getr K fd_X11_24 ob_0_1 dX11_sit_26 ?_
        refine z_iload_n K 2 rfl dX11_sit_29 ?_
        refine z_cVi (As := [.int v2]) (rest := []) K (t_X0_at a.1 (d - 1) (by omega) v2 s4) mf_X0_at ml_X11_98 (Nat.le_of_ble_eq_true rfl) (by omega) rfl rc_3 rfl (Nat.le_of_ble_eq_true rfl) dX11_sit_30 (fun r7 s6 => ?_)
        refine z_iconst K ci_m1 dX11_sit_33 ?_
        refine z_icmp_eq K (tgt := 39) dX11_sit_34 (by decide) ?_ ?_
        · refine z_aload_n K 0 rfl dX11_sit_39 ?_
          refine z_getr K fd_X11_24 ob_0_1 dX11_sit_40 ?_
          refine z_iload_n K 1 rfl dX11_sit_43 ?_
          refine z_iload_n K 2 rfl dX11_sit_44 ?_
          refine z_cVv (As := [.int v1, .int v2]) (rest := []) K (t_X0_place a.1 (d - 1) (by omega) v1 v2 s6) mf_X0_place ml_X11_120 (Nat.le_of_ble_eq_true rfl) (by omega) rfl rc_3 rfl (Nat.le_of_ble_eq_true rfl) dX11_sit_45 (fun _ s8 => ?_)
          refine z_iconst K ci_1 dX11_sit_48 ?_
          exact z_zret (Or.inr rfl) K dX11_sit_49
        · refine z_iconst K ci_0 dX11_sit_37 ?_
          exact z_zret (Or.inl rfl) K dX11_sit_38
  · refine z_iconst K ci_0 dX11_sit_11 ?_
    exact z_zret (Or.inl rfl) K dX11_sit_12
def f_X11_feed (F : Nat) (v1 : Int32) (v2 : Int32) (v3 : Int32) (v4 : Int32) (v5 : Int32) (s : zM) : Option (Int32 × zM) :=
  bnd (f_X10_hasRoom s) (fun r2 s1 =>
  if r2 = 0 then
    some ((-1 : Int32), s1)
  else
    bnd (f_X10_add F v1 s1) (fun _ s3 =>
    bnd (f_X10_add F v2 s3) (fun _ s4 =>
    bnd (f_X10_add F v3 s4) (fun _ s5 =>
    bnd (f_X10_add F v4 s5) (fun _ s6 =>
    bnd (f_X10_add F v5 s6) (fun _ s7 =>
    bnd (f_X10_length s7) (fun r9 s8 =>
    some (r9, s8))))))))
set_option maxRecDepth 100000 in
set_option maxHeartbeats 4000000 in
theorem t_X11_feed (w : zWd) (F : Nat) (d : Nat) (hd : 1 ≤ d) (v1 : Int32) (v2 : Int32) (v3 : Int32) (v4 : Int32) (v5 : Int32) (s : zM) : zMt w yX11_feed cX11_feed 6 (some .int) d zφN zφN zri [.ref (w.2.2.2 + 0), .int v1, .int v2, .int v3, .int v4, .int v5] s (f_X11_feed F v1 v2 v3 v4 v5 s) := by
  refine zMtN_of (own := RX11) rfl (by decide +kernel) (Nat.le_of_ble_eq_true rfl) cd_X11_feed [(0, .ref (w.2.2.2 + 0)), (1, .int v1), (2, .int v2), (3, .int v3), (4, .int v4), (5, .int v5)] rfl ?_
  rintro a rfl K
  unfold f_X11_feed
  refine z_aload_n K 0 rfl dX11_feed_0 ?_
  refine z_getr K fd_X11_18 ob_0_0 dX11_feed_1 ?_
  refine z_cVi (As := []) (rest := []) K (t_X10_hasRoom a.1 (d - 1) (by omega) s) mf_X10_hasRoom ml_X11_124 (Nat.le_of_ble_eq_true rfl) (by omega) rfl rc_1 rfl (Nat.le_of_ble_eq_true rfl) dX11_feed_4 (fun r2 s1 => ?_)
  refine z_if_ne K (tgt := 12) dX11_feed_7 (by decide) ?_ ?_
  · refine z_aload_n K 0 rfl dX11_feed_12 ?_
    refine z_getr K fd_X11_18 ob_0_0 dX11_feed_13 ?_
    refine z_iload_n K 1 rfl dX11_feed_16 ?_
    refine z_cVv (As := [.int v1]) (rest := []) K (t_X10_add a.1 F (d - 1) (by omega) v1 s1) mf_X10_add ml_X11_127 (Nat.le_of_ble_eq_true rfl) (by omega) rfl rc_1 rfl (Nat.le_of_ble_eq_true rfl) dX11_feed_17 (fun _ s3 => ?_)
    refine z_aload_n K 0 rfl dX11_feed_20 ?_
    refine z_getr K fd_X11_18 ob_0_0 dX11_feed_21 ?_
    refine z_iload_n K 2 rfl dX11_feed_24 ?_
    refine z_cVv (As := [.int v2]) (rest := []) K (t_X10_add a.1 F (d - 1) (by omega) v2 s3) mf_X10_add ml_X11_127 (Nat.le_of_ble_eq_true rfl) (by omega) rfl rc_1 rfl (Nat.le_of_ble_eq_true rfl) dX11_feed_25 (fun _ s4 => ?_)
    refine z_aload_n K 0 rfl dX11_feed_28 ?_
    refine z_getr K fd_X11_18 ob_0_0 dX11_feed_29 ?_
    refine z_iload_n K 3 rfl dX11_feed_32 ?_
    refine z_cVv (As := [.int v3]) (rest := []) K (t_X10_add a.1 F (d - 1) (by omega) v3 s4) mf_X10_add ml_X11_127 (Nat.le_of_ble_eq_true rfl) (by omega) rfl rc_1 rfl (Nat.le_of_ble_eq_true rfl) dX11_feed_33 (fun _ s5 => ?_)
    refine z_aload_n K 0 rfl dX11_feed_36 ?_
    refine z_getr K fd_X11_18 ob_0_0 dX11_feed_37 ?_
    refine z_iload K 4 rfl dX11_feed_40 ?_
    refine z_cVv (As := [.int v4]) (rest := []) K (t_X10_add a.1 F (d - 1) (by omega) v4 s5) mf_X10_add ml_X11_127 (Nat.le_of_ble_eq_true rfl) (by omega) rfl rc_1 rfl (Nat.le_of_ble_eq_true rfl) dX11_feed_42 (fun _ s6 => ?_)
    refine z_aload_n K 0 rfl dX11_feed_45 ?_
    refine z_getr K fd_X11_18 ob_0_0 dX11_feed_46 ?_
    refine z_iload K 5 rfl dX11_feed_49 ?_
    refine z_cVv (As := [.int v5]) (rest := []) K (t_X10_add a.1 F (d - 1) (by omega) v5 s6) mf_X10_add ml_X11_127 (Nat.le_of_ble_eq_true rfl) (by omega) rfl rc_1 rfl (Nat.le_of_ble_eq_true rfl) dX11_feed_51 (fun _ s7 => ?_)
    refine z_aload_n K 0 rfl dX11_feed_54 ?_
    refine z_getr K fd_X11_18 ob_0_0 dX11_feed_55 ?_
    refine z_cVi (As := []) (rest := []) K (t_X10_length a.1 (d - 1) (by omega) s7) mf_X10_length ml_X11_130 (Nat.le_of_ble_eq_true rfl) (by omega) rfl rc_1 rfl (Nat.le_of_ble_eq_true rfl) dX11_feed_58 (fun r9 s8 => ?_)
    exact z_iret K dX11_feed_61
  · refine z_iconst K ci_m1 dX11_feed_10 ?_
    exact z_iret K dX11_feed_11
def f_X11_law (F : Nat) (D : Nat) (v1 : Int32) (s : zM) : Option (Int32 × zM) :=
  if v1 < (1 : Int32) then
    some ((-1 : Int32), s)
  else
    if (200 : Int32) < v1 then
      some ((-1 : Int32), s)
    else
      bnd (f_X10_length s) (fun r2 s1 =>
      if r2 < v1 then
        some ((-1 : Int32), s1)
      else
        bnd (f_X4_read F D v1 s1) (fun r4 s3 =>
        bnd (f_X10_clear s3) (fun _ s5 =>
        if 0 < r4 then
          bnd (f_X1_inForce s5) (fun r7 s6 =>
          if zLw r7 = true then
            bnd (f_X4_handOut (r7) s6) (fun r10 s9 =>
            if zLw r10 = true then
              bnd (f_X1_take (r10) s9) (fun _ s12 =>
              some (r4, s12))
            else none)
          else none)
        else
          some (r4, s5))))
set_option maxRecDepth 100000 in
set_option maxHeartbeats 4000000 in
theorem t_X11_law (w : zWd) (F : Nat) (D : Nat) (d : Nat) (hd : 2 * D + 7 ≤ d) (v1 : Int32) (s : zM) : zMt w yX11_law cX11_law 3 (some .int) d zφN zφN zri [.ref (w.2.2.2 + 0), .int v1] s (f_X11_law F D v1 s) := by
  refine zMtN_of (own := RX11) rfl (by decide +kernel) (Nat.le_of_ble_eq_true rfl) cd_X11_law [(0, .ref (w.2.2.2 + 0)), (1, .int v1)] rfl ?_
  rintro a rfl K
  unfold f_X11_law
  refine z_iload_n K 1 rfl dX11_law_0 ?_
  refine z_iconst K ci_1 dX11_law_1 ?_
  refine z_icmp_lt K (tgt := 23) dX11_law_2 (by decide) ?_ ?_
  · refine z_iconst K ci_m1 dX11_law_23 ?_
    exact z_iret K dX11_law_24
  · refine z_iload_n K 1 rfl dX11_law_5 ?_
    refine z_sipush K cs_200 dX11_law_6 ?_
    refine z_icmp_gt K (tgt := 23) dX11_law_9 (by decide) ?_ ?_
    · refine z_iconst K ci_m1 dX11_law_23 ?_
      exact z_iret K dX11_law_24
    · refine z_iload_n K 1 rfl dX11_law_12 ?_
      refine z_aload_n K 0 rfl dX11_law_13 ?_
      refine z_getr K fd_X11_18 ob_0_0 dX11_law_14 ?_
      refine z_cVi (As := []) (rest := [.int v1]) K (t_X10_length a.1 (d - 1) (by omega) s) mf_X10_length ml_X11_130 (Nat.le_of_ble_eq_true rfl) (by omega) rfl rc_1 rfl (Nat.le_of_ble_eq_true rfl) dX11_law_17 (fun r2 s1 => ?_)
      refine z_icmp_le K (tgt := 25) dX11_law_20 (by decide) ?_ ?_
      · refine z_aload_n K 0 rfl dX11_law_25 ?_
        refine z_getr K fd_X11_33 ob_0_2 dX11_law_26 ?_
        refine z_iload_n K 1 rfl dX11_law_29 ?_
        refine z_cVi (As := [.int v1]) (rest := []) K (t_X4_read a.1 F D (d - 1) (by omega) v1 s1) mf_X4_read ml_X11_136 (Nat.le_of_ble_eq_true rfl) (by omega) rfl rc_24 rfl (Nat.le_of_ble_eq_true rfl) dX11_law_30 (fun r4 s3 => ?_)
        refine z_istore_n K (lv' := [(2, .int r4), (0, .ref (a.1.2.2.2 + 0)), (1, .int v1)]) dX11_law_33 rfl (Nat.le_of_ble_eq_true rfl) rfl ?_
        refine z_aload_n K 1 rfl dX11_law_34 ?_
        refine z_getr K fd_X11_18 ob_0_0 dX11_law_35 ?_
        refine z_cVv (As := []) (rest := []) K (t_X10_clear a.1 (d - 1) (by omega) s3) mf_X10_clear ml_X11_139 (Nat.le_of_ble_eq_true rfl) (by omega) rfl rc_1 rfl (Nat.le_of_ble_eq_true rfl) dX11_law_38 (fun _ s5 => ?_)
        refine z_iload_n K 0 rfl dX11_law_41 ?_
        refine z_if_le K (tgt := 66) dX11_law_42 (by decide) ?_ ?_
        · refine z_iload_n K 0 rfl dX11_law_66 ?_
          exact z_iret K dX11_law_67
        · refine z_aload_n K 1 rfl dX11_law_45 ?_
          refine z_getr K fd_X11_37 ob_0_3 dX11_law_46 ?_
          refine z_aload_n K 1 rfl dX11_law_49 ?_
          refine z_getr K fd_X11_33 ob_0_2 dX11_law_50 ?_
          refine z_aload_n K 1 rfl dX11_law_53 ?_
          refine z_getr K fd_X11_37 ob_0_3 dX11_law_54 ?_
          refine z_cVr (As := []) (rest := [.ref (a.1.2.2.2 + 24), .ref (a.1.2.2.2 + 12)]) K (t_X1_inForce a.1 (d - 1) (by omega) s5) mf_X1_inForce ml_X11_142 (Nat.le_of_ble_eq_true rfl) (by omega) rfl rc_12 rfl (Nat.le_of_ble_eq_true rfl) dX11_law_57 (fun r7 s6 => ?_)
          refine z_ite (fun hl8 => ?_) (fun _ => z_none)
          refine z_cVr (As := [.ref (a.1.2.2.2 + (r7))]) (rest := [.ref (a.1.2.2.2 + 12)]) K (t_X4_handOut a.1 (d - 1) (by omega) (r7) hl8 s6) mf_X4_handOut ml_X11_146 (Nat.le_of_ble_eq_true rfl) (by omega) rfl rc_24 rfl (Nat.le_of_ble_eq_true rfl) dX11_law_60 (fun r10 s9 => ?_)
          refine z_ite (fun hl11 => ?_) (fun _ => z_none)
          refine z_cVv (As := [.ref (a.1.2.2.2 + (r10))]) (rest := []) K (t_X1_take a.1 (d - 1) (by omega) (r10) hl11 s9) mf_X1_take ml_X11_150 (Nat.le_of_ble_eq_true rfl) (by omega) rfl rc_12 rfl (Nat.le_of_ble_eq_true rfl) dX11_law_63 (fun _ s12 => ?_)
          refine z_iload_n K 0 rfl dX11_law_66 ?_
          exact z_iret K dX11_law_67
      · refine z_iconst K ci_m1 dX11_law_23 ?_
        exact z_iret K dX11_law_24
def f_X11_two_j70 (F : Nat) (v1 : Int32) (v2 : Int32) (v3 : Int32) (s : zM) : Option (Int32 × zM) :=
  if v3 = (1 : Int32) then
    bnd (f_X1_harm F v1 v2 s) (fun r12 s11 =>
    some (r12, s11))
  else
    if v3 = (2 : Int32) then
      bnd (f_X1_seen F v1 v2 s) (fun r10 s9 =>
      some (r10, s9))
    else
      bnd (f_X1_allows F v1 v2 s) (fun r8 s7 =>
      if r8 = 0 then
        some ((0 : Int32), s7)
      else
        some ((1 : Int32), s7))
set_option maxRecDepth 100000 in
set_option maxHeartbeats 4000000 in
theorem t_X11_two_j70 {a : zA} {d : Nat} (F : Nat) (K : zOK a cX11_two 6 RX11 (some .int) d) (hd : 4 ≤ d) (v1 : Int32) (v2 : Int32) (v3 : Int32) (s : zM) : zJ a 6 (zG a zφN zri) zφN 70 [(0, .ref (a.1.2.2.2 + 0)), (1, .int v1), (2, .int v2), (3, .int v3)] [] s (f_X11_two_j70 F v1 v2 v3 s) := by
  unfold f_X11_two_j70
  refine z_iload_n K 3 rfl dX11_two_70 ?_
  refine z_iconst K ci_1 dX11_two_71 ?_
  refine z_icmp_ne K (tgt := 85) dX11_two_72 (by decide) ?_ ?_
  · refine z_iload_n K 3 rfl dX11_two_85 ?_
    refine z_iconst K ci_2 dX11_two_86 ?_
    refine z_icmp_ne K (tgt := 100) dX11_two_87 (by decide) ?_ ?_
    · refine z_aload_n K 0 rfl dX11_two_100 ?_
      refine z_getr K fd_X11_37 ob_0_3 dX11_two_101 ?_
      refine z_iload_n K 1 rfl dX11_two_104 ?_
      refine z_iload_n K 2 rfl dX11_two_105 ?_
      refine z_cVi (As := [.int v1, .int v2]) (rest := []) K (t_X1_allows a.1 F (d - 1) (by omega) v1 v2 s) mf_X1_allows ml_X11_166 (Nat.le_of_ble_eq_true rfl) (by omega) rfl rc_12 rfl (Nat.le_of_ble_eq_true rfl) dX11_two_106 (fun r8 s7 => ?_)
      refine z_if_eq K (tgt := 116) dX11_two_109 (by decide) ?_ ?_
      · refine z_iconst K ci_0 dX11_two_116 ?_
        exact z_iret K dX11_two_117
      · refine z_iconst K ci_1 dX11_two_112 ?_
        refine z_goto K (tgt := 117) dX11_two_113 (by decide) ?_
        exact z_iret K dX11_two_117
    · refine z_aload_n K 0 rfl dX11_two_90 ?_
      refine z_getr K fd_X11_37 ob_0_3 dX11_two_91 ?_
      refine z_iload_n K 1 rfl dX11_two_94 ?_
      refine z_iload_n K 2 rfl dX11_two_95 ?_
      refine z_cVi (As := [.int v1, .int v2]) (rest := []) K (t_X1_seen a.1 F (d - 1) (by omega) v1 v2 s) mf_X1_seen ml_X11_163 (Nat.le_of_ble_eq_true rfl) (by omega) rfl rc_12 rfl (Nat.le_of_ble_eq_true rfl) dX11_two_96 (fun r10 s9 => ?_)
      exact z_iret K dX11_two_99
  · refine z_aload_n K 0 rfl dX11_two_75 ?_
    refine z_getr K fd_X11_37 ob_0_3 dX11_two_76 ?_
    refine z_iload_n K 1 rfl dX11_two_79 ?_
    refine z_iload_n K 2 rfl dX11_two_80 ?_
    refine z_cVi (As := [.int v1, .int v2]) (rest := []) K (t_X1_harm a.1 F (d - 1) (by omega) v1 v2 s) mf_X1_harm ml_X11_160 (Nat.le_of_ble_eq_true rfl) (by omega) rfl rc_12 rfl (Nat.le_of_ble_eq_true rfl) dX11_two_81 (fun r12 s11 => ?_)
    exact z_iret K dX11_two_84
def f_X11_two (F : Nat) (v1 : Int32) (v2 : Int32) (v3 : Int32) (s : zM) : Option (Int32 × zM) :=
  if v3 < 0 then
    some ((-1 : Int32), s)
  else
    if (2 : Int32) < v3 then
      some ((-1 : Int32), s)
    else
      bnd (f_X11_areTwo v1 v2 s) (fun r2 s1 =>
      if r2 = 0 then
        some ((-1 : Int32), s1)
      else
        bnd (f_X0_seatOf v1 s1) (fun r4 s3 =>
        bnd (f_X0_seatOf v2 s3) (fun r6 s5 =>
        if r4 = (-1 : Int32) then
          some ((-2 : Int32), s5)
        else
          if r6 = (-1 : Int32) then
            some ((-2 : Int32), s5)
          else
            if v3 = (1 : Int32) then
              f_X11_two_j70 F v1 v2 v3 s5
            else
              bnd (f_X8_areNext r4 r6 s5) (fun r14 s13 =>
              if r14 = 0 then
                some ((-2 : Int32), s13)
              else
                f_X11_two_j70 F v1 v2 v3 s13))))
set_option maxRecDepth 100000 in
set_option maxHeartbeats 4000000 in
theorem t_X11_two (w : zWd) (F : Nat) (d : Nat) (hd : 4 ≤ d) (v1 : Int32) (v2 : Int32) (v3 : Int32) (s : zM) : zMt w yX11_two cX11_two 6 (some .int) d zφN zφN zri [.ref (w.2.2.2 + 0), .int v1, .int v2, .int v3] s (f_X11_two F v1 v2 v3 s) := by
  refine zMtN_of (own := RX11) rfl (by decide +kernel) (Nat.le_of_ble_eq_true rfl) cd_X11_two [(0, .ref (w.2.2.2 + 0)), (1, .int v1), (2, .int v2), (3, .int v3)] rfl ?_
  rintro a rfl K
  unfold f_X11_two
  refine z_iload_n K 3 rfl dX11_two_0 ?_
  refine z_if_lt K (tgt := 18) dX11_two_1 (by decide) ?_ ?_
  · refine z_iconst K ci_m1 dX11_two_18 ?_
    exact z_iret K dX11_two_19
  · refine z_iload_n K 3 rfl dX11_two_4 ?_
    refine z_iconst K ci_2 dX11_two_5 ?_
    refine z_icmp_gt K (tgt := 18) dX11_two_6 (by decide) ?_ ?_
    · refine z_iconst K ci_m1 dX11_two_18 ?_
      exact z_iret K dX11_two_19
    · refine z_aload_n K 0 rfl dX11_two_9 ?_
      refine z_iload_n K 1 rfl dX11_two_10 ?_
      refine z_iload_n K 2 rfl dX11_two_11 ?_
      refine z_cVi (As := [.int v1, .int v2]) (rest := []) K (t_X11_areTwo a.1 (d - 1) (by omega) v1 v2 s) mf_X11_areTwo ml_X11_106 (Nat.le_of_ble_eq_true rfl) (by omega) rfl rc_0 rfl (Nat.le_of_ble_eq_true rfl) dX11_two_12 (fun r2 s1 => ?_)
      refine z_if_ne K (tgt := 20) dX11_two_15 (by decide) ?_ ?_
      · refine z_aload_n K 0 rfl dX11_two_20 ?_
        refine z_getr K fd_X11_24 ob_0_1 dX11_two_21 ?_
        refine z_iload_n K 1 rfl dX11_two_24 ?_
        refine z_cVi (As := [.int v1]) (rest := []) K (t_X0_seatOf a.1 (d - 1) (by omega) v1 s1) mf_X0_seatOf ml_X11_154 (Nat.le_of_ble_eq_true rfl) (by omega) rfl rc_3 rfl (Nat.le_of_ble_eq_true rfl) dX11_two_25 (fun r4 s3 => ?_)
        refine z_istore K (lv' := [(4, .int r4), (0, .ref (a.1.2.2.2 + 0)), (1, .int v1), (2, .int v2), (3, .int v3)]) dX11_two_28 (Nat.le_of_ble_eq_true rfl) rfl ?_
        refine z_aload_n K 1 rfl dX11_two_30 ?_
        refine z_getr K fd_X11_24 ob_0_1 dX11_two_31 ?_
        refine z_iload_n K 3 rfl dX11_two_34 ?_
        refine z_cVi (As := [.int v2]) (rest := []) K (t_X0_seatOf a.1 (d - 1) (by omega) v2 s3) mf_X0_seatOf ml_X11_154 (Nat.le_of_ble_eq_true rfl) (by omega) rfl rc_3 rfl (Nat.le_of_ble_eq_true rfl) dX11_two_35 (fun r6 s5 => ?_)
        refine z_istore K (lv' := [(5, .int r6), (4, .int r4), (0, .ref (a.1.2.2.2 + 0)), (1, .int v1), (2, .int v2), (3, .int v3)]) dX11_two_38 (Nat.le_of_ble_eq_true rfl) rfl ?_
        refine z_iload K 1 rfl dX11_two_40 ?_
        refine z_iconst K ci_m1 dX11_two_42 ?_
        refine z_icmp_eq K (tgt := 67) dX11_two_43 (by decide) ?_ ?_
        · refine z_bipush K cb_m2 dX11_two_67 ?_
          exact z_iret K dX11_two_69
        · refine z_iload K 0 rfl dX11_two_46 ?_
          refine z_iconst K ci_m1 dX11_two_48 ?_
          refine z_icmp_eq K (tgt := 67) dX11_two_49 (by decide) ?_ ?_
          · refine z_bipush K cb_m2 dX11_two_67 ?_
            exact z_iret K dX11_two_69
          · refine z_iload_n K 5 rfl dX11_two_52 ?_
            refine z_iconst K ci_1 dX11_two_53 ?_
            refine z_icmp_eq K (tgt := 70) dX11_two_54 (by decide) ?_ ?_
            · refine z_sub [2, 3, 4, 5] rfl ?_
              exact t_X11_two_j70 F K hd v1 v2 v3 s5
            · refine z_iload K 1 rfl dX11_two_57 ?_
              refine z_iload K 0 rfl dX11_two_59 ?_
              refine z_cSi (As := [.int r4, .int r6]) (rest := []) K (t_X8_areNext a.1 (d - 1) (by omega) r4 r6 s5) mf_X8_areNext ml_X11_157 (Nat.le_of_ble_eq_true rfl) (by omega) rfl rfl (Nat.le_of_ble_eq_true rfl) dX11_two_61 (fun r14 s13 => ?_)
              refine z_if_ne K (tgt := 70) dX11_two_64 (by decide) ?_ ?_
              · refine z_sub [2, 3, 4, 5] rfl ?_
                exact t_X11_two_j70 F K hd v1 v2 v3 s13
              · refine z_bipush K cb_m2 dX11_two_67 ?_
                exact z_iret K dX11_two_69
      · refine z_iconst K ci_m1 dX11_two_18 ?_
        exact z_iret K dX11_two_19
def f_X11_worth (F : Nat) (v1 : Int32) (v2 : Int32) (s : zM) : Option (Int32 × zM) :=
  bnd (f_X0_knows v1 s) (fun r2 s1 =>
  if r2 = 0 then
    some ((-1000 : Int32), s1)
  else
    bnd (f_X8_isSeat v2 s1) (fun r4 s3 =>
    if r4 = 0 then
      some ((-1000 : Int32), s3)
    else
      bnd (f_X1_value F v1 v2 s3) (fun r6 s5 =>
      some (r6, s5))))
set_option maxRecDepth 100000 in
set_option maxHeartbeats 4000000 in
theorem t_X11_worth (w : zWd) (F : Nat) (d : Nat) (hd : 4 ≤ d) (v1 : Int32) (v2 : Int32) (s : zM) : zMt w yX11_worth cX11_worth 3 (some .int) d zφN zφN zri [.ref (w.2.2.2 + 0), .int v1, .int v2] s (f_X11_worth F v1 v2 s) := by
  refine zMtN_of (own := RX11) rfl (by decide +kernel) (Nat.le_of_ble_eq_true rfl) cd_X11_worth [(0, .ref (w.2.2.2 + 0)), (1, .int v1), (2, .int v2)] rfl ?_
  rintro a rfl K
  unfold f_X11_worth
  refine z_aload_n K 0 rfl dX11_worth_0 ?_
  refine z_getr K fd_X11_24 ob_0_1 dX11_worth_1 ?_
  refine z_iload_n K 1 rfl dX11_worth_4 ?_
  refine z_cVi (As := [.int v1]) (rest := []) K (t_X0_knows a.1 (d - 1) (by omega) v1 s) mf_X0_knows ml_X11_169 (Nat.le_of_ble_eq_true rfl) (by omega) rfl rc_3 rfl (Nat.le_of_ble_eq_true rfl) dX11_worth_5 (fun r2 s1 => ?_)
  refine z_if_eq K (tgt := 30) dX11_worth_8 (by decide) ?_ ?_
  · refine z_sipush K cs_m1000 dX11_worth_30 ?_
    exact z_iret K dX11_worth_33
  · refine z_iload_n K 2 rfl dX11_worth_11 ?_
    refine z_cSi (As := [.int v2]) (rest := []) K (t_X8_isSeat a.1 (d - 1) (by omega) v2 s1) mf_X8_isSeat ml_X11_88 (Nat.le_of_ble_eq_true rfl) (by omega) rfl rfl (Nat.le_of_ble_eq_true rfl) dX11_worth_12 (fun r4 s3 => ?_)
    refine z_if_eq K (tgt := 30) dX11_worth_15 (by decide) ?_ ?_
    · refine z_sipush K cs_m1000 dX11_worth_30 ?_
      exact z_iret K dX11_worth_33
    · refine z_aload_n K 0 rfl dX11_worth_18 ?_
      refine z_getr K fd_X11_37 ob_0_3 dX11_worth_19 ?_
      refine z_iload_n K 1 rfl dX11_worth_22 ?_
      refine z_iload_n K 2 rfl dX11_worth_23 ?_
      refine z_cVi (As := [.int v1, .int v2]) (rest := []) K (t_X1_value a.1 F (d - 1) (by omega) v1 v2 s3) mf_X1_value ml_X11_172 (Nat.le_of_ble_eq_true rfl) (by omega) rfl rc_12 rfl (Nat.le_of_ble_eq_true rfl) dX11_worth_24 (fun r6 s5 => ?_)
      refine z_goto K (tgt := 33) dX11_worth_27 (by decide) ?_
      exact z_iret K dX11_worth_33
def f_X11_rain (v1 : Int32) (v2 : Int32) (v3 : Int32) (s : zM) : Option (Int32 × zM) :=
  bnd (f_X5_isMinute v1 s) (fun r2 s1 =>
  if r2 = 0 then
    some ((-1 : Int32), s1)
  else
    bnd (f_X8_isRow v2 v3 s1) (fun r4 s3 =>
    if r4 = 0 then
      some ((-1 : Int32), s3)
    else
      bnd (f_X5_addRain v1 v2 v3 s3) (fun r6 s5 =>
      some (r6, s5))))
set_option maxRecDepth 100000 in
set_option maxHeartbeats 4000000 in
theorem t_X11_rain (w : zWd) (d : Nat) (hd : 2 ≤ d) (v1 : Int32) (v2 : Int32) (v3 : Int32) (s : zM) : zMt w yX11_rain cX11_rain 4 (some .int) d zφN zφN zri [.ref (w.2.2.2 + 0), .int v1, .int v2, .int v3] s (f_X11_rain v1 v2 v3 s) := by
  refine zMtN_of (own := RX11) rfl (by decide +kernel) (Nat.le_of_ble_eq_true rfl) cd_X11_rain [(0, .ref (w.2.2.2 + 0)), (1, .int v1), (2, .int v2), (3, .int v3)] rfl ?_
  rintro a rfl K
  unfold f_X11_rain
  refine z_iload_n K 1 rfl dX11_rain_0 ?_
  refine z_cSi (As := [.int v1]) (rest := []) K (t_X5_isMinute a.1 (d - 1) (by omega) v1 s) mf_X5_isMinute ml_X11_175 (Nat.le_of_ble_eq_true rfl) (by omega) rfl rfl (Nat.le_of_ble_eq_true rfl) dX11_rain_1 (fun r2 s1 => ?_)
  refine z_if_eq K (tgt := 28) dX11_rain_4 (by decide) ?_ ?_
  · refine z_iconst K ci_m1 dX11_rain_28 ?_
    exact z_iret K dX11_rain_29
  · refine z_iload_n K 2 rfl dX11_rain_7 ?_
    refine z_iload_n K 3 rfl dX11_rain_8 ?_
    refine z_cSi (As := [.int v2, .int v3]) (rest := []) K (t_X8_isRow a.1 (d - 1) (by omega) v2 v3 s1) mf_X8_isRow ml_X11_178 (Nat.le_of_ble_eq_true rfl) (by omega) rfl rfl (Nat.le_of_ble_eq_true rfl) dX11_rain_9 (fun r4 s3 => ?_)
    refine z_if_eq K (tgt := 28) dX11_rain_12 (by decide) ?_ ?_
    · refine z_iconst K ci_m1 dX11_rain_28 ?_
      exact z_iret K dX11_rain_29
    · refine z_aload_n K 0 rfl dX11_rain_15 ?_
      refine z_getr K fd_X11_46 ob_0_4 dX11_rain_16 ?_
      refine z_iload_n K 1 rfl dX11_rain_19 ?_
      refine z_iload_n K 2 rfl dX11_rain_20 ?_
      refine z_iload_n K 3 rfl dX11_rain_21 ?_
      refine z_cVi (As := [.int v1, .int v2, .int v3]) (rest := []) K (t_X5_addRain a.1 (d - 1) (by omega) v1 v2 v3 s3) mf_X5_addRain ml_X11_181 (Nat.le_of_ble_eq_true rfl) (by omega) rfl rc_33 rfl (Nat.le_of_ble_eq_true rfl) dX11_rain_22 (fun r6 s5 => ?_)
      refine z_goto K (tgt := 29) dX11_rain_25 (by decide) ?_
      exact z_iret K dX11_rain_29
def f_X11_soonest (F : Nat) (v1 : Int32) (v2 : Int32) (v3 : Int32) (s : zM) : Option (Int32 × zM) :=
  bnd (f_X5_isStart v3 s) (fun r2 s1 =>
  if r2 = 0 then
    some ((-1 : Int32), s1)
  else
    bnd (f_X0_sits v1 s1) (fun r4 s3 =>
    if r4 = 0 then
      some ((-1 : Int32), s3)
    else
      bnd (f_X0_sits v2 s3) (fun r6 s5 =>
      if r6 = 0 then
        some ((-1 : Int32), s5)
      else
        bnd (f_X5_spread F v1 v3 s5) (fun _ s7 =>
        bnd (f_X5_minuteOf v2 s7) (fun r9 s8 =>
        if r9 = (-1 : Int32) then
          some ((-2 : Int32), s8)
        else
          some (r9, s8))))))
set_option maxRecDepth 100000 in
set_option maxHeartbeats 4000000 in
theorem t_X11_soonest (w : zWd) (F : Nat) (d : Nat) (hd : 6 ≤ d) (v1 : Int32) (v2 : Int32) (v3 : Int32) (s : zM) : zMt w yX11_soonest cX11_soonest 5 (some .int) d zφN zφN zri [.ref (w.2.2.2 + 0), .int v1, .int v2, .int v3] s (f_X11_soonest F v1 v2 v3 s) := by
  refine zMtN_of (own := RX11) rfl (by decide +kernel) (Nat.le_of_ble_eq_true rfl) cd_X11_soonest [(0, .ref (w.2.2.2 + 0)), (1, .int v1), (2, .int v2), (3, .int v3)] rfl ?_
  rintro a rfl K
  unfold f_X11_soonest
  refine z_iload_n K 3 rfl dX11_soonest_0 ?_
  refine z_cSi (As := [.int v3]) (rest := []) K (t_X5_isStart a.1 (d - 1) (by omega) v3 s) mf_X5_isStart ml_X11_185 (Nat.le_of_ble_eq_true rfl) (by omega) rfl rfl (Nat.le_of_ble_eq_true rfl) dX11_soonest_1 (fun r2 s1 => ?_)
  refine z_if_eq K (tgt := 29) dX11_soonest_4 (by decide) ?_ ?_
  · refine z_iconst K ci_m1 dX11_soonest_29 ?_
    exact z_iret K dX11_soonest_30
  · refine z_aload_n K 0 rfl dX11_soonest_7 ?_
    refine z_getr K fd_X11_24 ob_0_1 dX11_soonest_8 ?_
    refine z_iload_n K 1 rfl dX11_soonest_11 ?_
    refine z_cVi (As := [.int v1]) (rest := []) K (t_X0_sits a.1 (d - 1) (by omega) v1 s1) mf_X0_sits ml_X11_188 (Nat.le_of_ble_eq_true rfl) (by omega) rfl rc_3 rfl (Nat.le_of_ble_eq_true rfl) dX11_soonest_12 (fun r4 s3 => ?_)
    refine z_if_eq K (tgt := 29) dX11_soonest_15 (by decide) ?_ ?_
    · refine z_iconst K ci_m1 dX11_soonest_29 ?_
      exact z_iret K dX11_soonest_30
    · refine z_aload_n K 0 rfl dX11_soonest_18 ?_
      refine z_getr K fd_X11_24 ob_0_1 dX11_soonest_19 ?_
      refine z_iload_n K 2 rfl dX11_soonest_22 ?_
      refine z_cVi (As := [.int v2]) (rest := []) K (t_X0_sits a.1 (d - 1) (by omega) v2 s3) mf_X0_sits ml_X11_188 (Nat.le_of_ble_eq_true rfl) (by omega) rfl rc_3 rfl (Nat.le_of_ble_eq_true rfl) dX11_soonest_23 (fun r6 s5 => ?_)
      refine z_if_ne K (tgt := 31) dX11_soonest_26 (by decide) ?_ ?_
      · refine z_aload_n K 0 rfl dX11_soonest_31 ?_
        refine z_getr K fd_X11_46 ob_0_4 dX11_soonest_32 ?_
        refine z_iload_n K 1 rfl dX11_soonest_35 ?_
        refine z_iload_n K 3 rfl dX11_soonest_36 ?_
        refine z_cVv (As := [.int v1, .int v3]) (rest := []) K (t_X5_spread a.1 F (d - 1) (by omega) v1 v3 s5) mf_X5_spread ml_X11_191 (Nat.le_of_ble_eq_true rfl) (by omega) rfl rc_33 rfl (Nat.le_of_ble_eq_true rfl) dX11_soonest_37 (fun _ s7 => ?_)
        refine z_aload_n K 0 rfl dX11_soonest_40 ?_
        refine z_getr K fd_X11_46 ob_0_4 dX11_soonest_41 ?_
        refine z_iload_n K 2 rfl dX11_soonest_44 ?_
        refine z_cVi (As := [.int v2]) (rest := []) K (t_X5_minuteOf a.1 (d - 1) (by omega) v2 s7) mf_X5_minuteOf ml_X11_194 (Nat.le_of_ble_eq_true rfl) (by omega) rfl rc_33 rfl (Nat.le_of_ble_eq_true rfl) dX11_soonest_45 (fun r9 s8 => ?_)
        refine z_istore K (lv' := [(4, .int r9), (0, .ref (a.1.2.2.2 + 0)), (1, .int v1), (2, .int v2), (3, .int v3)]) dX11_soonest_48 (Nat.le_of_ble_eq_true rfl) rfl ?_
        refine z_iload K 0 rfl dX11_soonest_50 ?_
        refine z_iconst K ci_m1 dX11_soonest_52 ?_
        refine z_icmp_ne K (tgt := 61) dX11_soonest_53 (by decide) ?_ ?_
        · refine z_iload K 0 rfl dX11_soonest_61 ?_
          exact z_iret K dX11_soonest_63
        · refine z_bipush K cb_m2 dX11_soonest_56 ?_
          refine z_goto K (tgt := 63) dX11_soonest_58 (by decide) ?_
          exact z_iret K dX11_soonest_63
      · refine z_iconst K ci_m1 dX11_soonest_29 ?_
        exact z_iret K dX11_soonest_30
def f_X11_rumour_j27 (F : Nat) (v1 : Int32) (v2 : Int32) (v3 : Int32) (w0 : Int32) (s : zM) : Option (Int32 × zM) :=
  if w0 = 0 then
    some ((-3 : Int32), s)
  else
    bnd (f_X5_isStart v2 s) (fun r2 s1 =>
    if r2 = 0 then
      some ((-3 : Int32), s1)
    else
      bnd (f_X0_sits v1 s1) (fun r4 s3 =>
      if r4 = 0 then
        some ((-3 : Int32), s3)
      else
        bnd (f_X5_spread F v1 v2 s3) (fun _ s5 =>
        if v3 = (-1 : Int32) then
          bnd (f_X5_howMany F s5) (fun r13 s12 =>
          some (r13, s12))
        else
          if v3 = (20 : Int32) then
            bnd (f_X5_lastMinute F s5) (fun r11 s10 =>
            some (r11, s10))
          else
            bnd (f_X5_minuteOf v3 s5) (fun r7 s6 =>
            if r7 = (-1 : Int32) then
              some ((-2 : Int32), s6)
            else
              bnd (f_X5_teller v3 s6) (fun r9 s8 =>
              some (r9, s8))))))
set_option maxRecDepth 100000 in
set_option maxHeartbeats 4000000 in
theorem t_X11_rumour_j27 {a : zA} {d : Nat} (F : Nat) (K : zOK a cX11_rumour 5 RX11 (some .int) d) (hd : 6 ≤ d) (v1 : Int32) (v2 : Int32) (v3 : Int32) (w0 : Int32) (s : zM) : zJ a 5 (zG a zφN zri) zφN 27 [(0, .ref (a.1.2.2.2 + 0)), (1, .int v1), (2, .int v2), (3, .int v3)] [.int w0] s (f_X11_rumour_j27 F v1 v2 v3 w0 s) := by
  unfold f_X11_rumour_j27
  refine z_istore K (lv' := [(4, .int w0), (0, .ref (a.1.2.2.2 + 0)), (1, .int v1), (2, .int v2), (3, .int v3)]) dX11_rumour_27 (Nat.le_of_ble_eq_true rfl) rfl ?_
  refine z_iload K 0 rfl dX11_rumour_29 ?_
  refine z_if_eq K (tgt := 52) dX11_rumour_31 (by decide) ?_ ?_
  · refine z_bipush K cb_m3 dX11_rumour_52 ?_
    exact z_iret K dX11_rumour_54
  · refine z_iload_n K 3 rfl dX11_rumour_34 ?_
    refine z_cSi (As := [.int v2]) (rest := []) K (t_X5_isStart a.1 (d - 1) (by omega) v2 s) mf_X5_isStart ml_X11_185 (Nat.le_of_ble_eq_true rfl) (by omega) rfl rfl (Nat.le_of_ble_eq_true rfl) dX11_rumour_35 (fun r2 s1 => ?_)
    refine z_if_eq K (tgt := 52) dX11_rumour_38 (by decide) ?_ ?_
    · refine z_bipush K cb_m3 dX11_rumour_52 ?_
      exact z_iret K dX11_rumour_54
    · refine z_aload_n K 1 rfl dX11_rumour_41 ?_
      refine z_getr K fd_X11_24 ob_0_1 dX11_rumour_42 ?_
      refine z_iload_n K 2 rfl dX11_rumour_45 ?_
      refine z_cVi (As := [.int v1]) (rest := []) K (t_X0_sits a.1 (d - 1) (by omega) v1 s1) mf_X0_sits ml_X11_188 (Nat.le_of_ble_eq_true rfl) (by omega) rfl rc_3 rfl (Nat.le_of_ble_eq_true rfl) dX11_rumour_46 (fun r4 s3 => ?_)
      refine z_if_ne K (tgt := 55) dX11_rumour_49 (by decide) ?_ ?_
      · refine z_aload_n K 1 rfl dX11_rumour_55 ?_
        refine z_getr K fd_X11_46 ob_0_4 dX11_rumour_56 ?_
        refine z_iload_n K 2 rfl dX11_rumour_59 ?_
        refine z_iload_n K 3 rfl dX11_rumour_60 ?_
        refine z_cVv (As := [.int v1, .int v2]) (rest := []) K (t_X5_spread a.1 F (d - 1) (by omega) v1 v2 s3) mf_X5_spread ml_X11_191 (Nat.le_of_ble_eq_true rfl) (by omega) rfl rc_33 rfl (Nat.le_of_ble_eq_true rfl) dX11_rumour_61 (fun _ s5 => ?_)
        refine z_iload_n K 4 rfl dX11_rumour_64 ?_
        refine z_iconst K ci_m1 dX11_rumour_65 ?_
        refine z_icmp_ne K (tgt := 77) dX11_rumour_66 (by decide) ?_ ?_
        · refine z_iload_n K 4 rfl dX11_rumour_77 ?_
          refine z_bipush K cb_20 dX11_rumour_78 ?_
          refine z_icmp_ne K (tgt := 91) dX11_rumour_80 (by decide) ?_ ?_
          · refine z_aload_n K 1 rfl dX11_rumour_91 ?_
            refine z_getr K fd_X11_46 ob_0_4 dX11_rumour_92 ?_
            refine z_iload_n K 4 rfl dX11_rumour_95 ?_
            refine z_cVi (As := [.int v3]) (rest := []) K (t_X5_minuteOf a.1 (d - 1) (by omega) v3 s5) mf_X5_minuteOf ml_X11_194 (Nat.le_of_ble_eq_true rfl) (by omega) rfl rc_33 rfl (Nat.le_of_ble_eq_true rfl) dX11_rumour_96 (fun r7 s6 => ?_)
            refine z_iconst K ci_m1 dX11_rumour_99 ?_
            refine z_icmp_ne K (tgt := 108) dX11_rumour_100 (by decide) ?_ ?_
            · refine z_aload_n K 1 rfl dX11_rumour_108 ?_
              refine z_getr K fd_X11_46 ob_0_4 dX11_rumour_109 ?_
              refine z_iload_n K 4 rfl dX11_rumour_112 ?_
              refine z_cVi (As := [.int v3]) (rest := []) K (t_X5_teller a.1 (d - 1) (by omega) v3 s6) mf_X5_teller ml_X11_203 (Nat.le_of_ble_eq_true rfl) (by omega) rfl rc_33 rfl (Nat.le_of_ble_eq_true rfl) dX11_rumour_113 (fun r9 s8 => ?_)
              exact z_iret K dX11_rumour_116
            · refine z_bipush K cb_m2 dX11_rumour_103 ?_
              refine z_goto K (tgt := 116) dX11_rumour_105 (by decide) ?_
              exact z_iret K dX11_rumour_116
          · refine z_aload_n K 1 rfl dX11_rumour_83 ?_
            refine z_getr K fd_X11_46 ob_0_4 dX11_rumour_84 ?_
            refine z_cVi (As := []) (rest := []) K (t_X5_lastMinute a.1 F (d - 1) (by omega) s5) mf_X5_lastMinute ml_X11_200 (Nat.le_of_ble_eq_true rfl) (by omega) rfl rc_33 rfl (Nat.le_of_ble_eq_true rfl) dX11_rumour_87 (fun r11 s10 => ?_)
            exact z_iret K dX11_rumour_90
        · refine z_aload_n K 1 rfl dX11_rumour_69 ?_
          refine z_getr K fd_X11_46 ob_0_4 dX11_rumour_70 ?_
          refine z_cVi (As := []) (rest := []) K (t_X5_howMany a.1 F (d - 1) (by omega) s5) mf_X5_howMany ml_X11_197 (Nat.le_of_ble_eq_true rfl) (by omega) rfl rc_33 rfl (Nat.le_of_ble_eq_true rfl) dX11_rumour_73 (fun r13 s12 => ?_)
          exact z_iret K dX11_rumour_76
      · refine z_bipush K cb_m3 dX11_rumour_52 ?_
        exact z_iret K dX11_rumour_54
def f_X11_rumour_j22 (F : Nat) (v1 : Int32) (v2 : Int32) (v3 : Int32) (s : zM) : Option (Int32 × zM) :=
  f_X11_rumour_j27 F v1 v2 v3 (1 : Int32) s
set_option maxRecDepth 100000 in
set_option maxHeartbeats 4000000 in
theorem t_X11_rumour_j22 {a : zA} {d : Nat} (F : Nat) (K : zOK a cX11_rumour 5 RX11 (some .int) d) (hd : 6 ≤ d) (v1 : Int32) (v2 : Int32) (v3 : Int32) (s : zM) : zJ a 5 (zG a zφN zri) zφN 22 [(0, .ref (a.1.2.2.2 + 0)), (1, .int v1), (2, .int v2), (3, .int v3)] [] s (f_X11_rumour_j22 F v1 v2 v3 s) := by
  unfold f_X11_rumour_j22
  refine z_iconst K ci_1 dX11_rumour_22 ?_
  refine z_goto K (tgt := 27) dX11_rumour_23 (by decide) ?_
  exact t_X11_rumour_j27 F K hd v1 v2 v3 (1 : Int32) s
def f_X11_rumour (F : Nat) (v1 : Int32) (v2 : Int32) (v3 : Int32) (s : zM) : Option (Int32 × zM) :=
  if v3 = (-1 : Int32) then
    f_X11_rumour_j22 F v1 v2 v3 s
  else
    if v3 = (20 : Int32) then
      f_X11_rumour_j22 F v1 v2 v3 s
    else
      bnd (f_X0_knows v3 s) (fun r15 s14 =>
      if r15 = 0 then
        f_X11_rumour_j27 F v1 v2 v3 (0 : Int32) s14
      else
        f_X11_rumour_j22 F v1 v2 v3 s14)
set_option maxRecDepth 100000 in
set_option maxHeartbeats 4000000 in
theorem t_X11_rumour (w : zWd) (F : Nat) (d : Nat) (hd : 6 ≤ d) (v1 : Int32) (v2 : Int32) (v3 : Int32) (s : zM) : zMt w yX11_rumour cX11_rumour 5 (some .int) d zφN zφN zri [.ref (w.2.2.2 + 0), .int v1, .int v2, .int v3] s (f_X11_rumour F v1 v2 v3 s) := by
  refine zMtN_of (own := RX11) rfl (by decide +kernel) (Nat.le_of_ble_eq_true rfl) cd_X11_rumour [(0, .ref (w.2.2.2 + 0)), (1, .int v1), (2, .int v2), (3, .int v3)] rfl ?_
  rintro a rfl K
  unfold f_X11_rumour
  refine z_iload_n K 3 rfl dX11_rumour_0 ?_
  refine z_iconst K ci_m1 dX11_rumour_1 ?_
  refine z_icmp_eq K (tgt := 22) dX11_rumour_2 (by decide) ?_ ?_
  · exact t_X11_rumour_j22 F K hd v1 v2 v3 s
  · refine z_iload_n K 3 rfl dX11_rumour_5 ?_
    refine z_bipush K cb_20 dX11_rumour_6 ?_
    refine z_icmp_eq K (tgt := 22) dX11_rumour_8 (by decide) ?_ ?_
    · exact t_X11_rumour_j22 F K hd v1 v2 v3 s
    · refine z_aload_n K 0 rfl dX11_rumour_11 ?_
      refine z_getr K fd_X11_24 ob_0_1 dX11_rumour_12 ?_
      refine z_iload_n K 3 rfl dX11_rumour_15 ?_
      refine z_cVi (As := [.int v3]) (rest := []) K (t_X0_knows a.1 (d - 1) (by omega) v3 s) mf_X0_knows ml_X11_169 (Nat.le_of_ble_eq_true rfl) (by omega) rfl rc_3 rfl (Nat.le_of_ble_eq_true rfl) dX11_rumour_16 (fun r15 s14 => ?_)
      refine z_if_eq K (tgt := 26) dX11_rumour_19 (by decide) ?_ ?_
      · refine z_iconst K ci_0 dX11_rumour_26 ?_
        exact t_X11_rumour_j27 F K hd v1 v2 v3 (0 : Int32) s14
      · exact t_X11_rumour_j22 F K hd v1 v2 v3 s14
def f_X11_speech_j29 (v1 : Int32) (v2 : Int32) (v3 : Int32) (w0 : Int32) (s : zM) : Option (Int32 × zM) :=
  if w0 = 0 then
    some ((-1 : Int32), s)
  else
    bnd (f_X5_addSpeech v1 v2 v3 s) (fun r4 s3 =>
    some (r4, s3))
set_option maxRecDepth 100000 in
set_option maxHeartbeats 4000000 in
theorem t_X11_speech_j29 {a : zA} {d : Nat} (K : zOK a cX11_speech 5 RX11 (some .int) d) (hd : 1 ≤ d) (v1 : Int32) (v2 : Int32) (v3 : Int32) (w0 : Int32) (s : zM) : zJ a 5 (zG a zφN zri) zφN 29 [(0, .ref (a.1.2.2.2 + 0)), (1, .int v1), (2, .int v2), (3, .int v3)] [.int w0] s (f_X11_speech_j29 v1 v2 v3 w0 s) := by
  unfold f_X11_speech_j29
  refine z_istore K (lv' := [(4, .int w0), (0, .ref (a.1.2.2.2 + 0)), (1, .int v1), (2, .int v2), (3, .int v3)]) dX11_speech_29 (Nat.le_of_ble_eq_true rfl) rfl ?_
  refine z_iload K 0 rfl dX11_speech_31 ?_
  refine z_if_eq K (tgt := 49) dX11_speech_33 (by decide) ?_ ?_
  · refine z_iconst K ci_m1 dX11_speech_49 ?_
    exact z_iret K dX11_speech_50
  · refine z_aload_n K 1 rfl dX11_speech_36 ?_
    refine z_getr K fd_X11_46 ob_0_4 dX11_speech_37 ?_
    refine z_iload_n K 2 rfl dX11_speech_40 ?_
    refine z_iload_n K 3 rfl dX11_speech_41 ?_
    refine z_iload_n K 4 rfl dX11_speech_42 ?_
    refine z_cVi (As := [.int v1, .int v2, .int v3]) (rest := []) K (t_X5_addSpeech a.1 (d - 1) (by omega) v1 v2 v3 s) mf_X5_addSpeech ml_X11_209 (Nat.le_of_ble_eq_true rfl) (by omega) rfl rc_33 rfl (Nat.le_of_ble_eq_true rfl) dX11_speech_43 (fun r4 s3 => ?_)
    refine z_goto K (tgt := 50) dX11_speech_46 (by decide) ?_
    exact z_iret K dX11_speech_50
def f_X11_speech_j28 (v1 : Int32) (v2 : Int32) (v3 : Int32) (s : zM) : Option (Int32 × zM) :=
  f_X11_speech_j29 v1 v2 v3 (0 : Int32) s
set_option maxRecDepth 100000 in
set_option maxHeartbeats 4000000 in
theorem t_X11_speech_j28 {a : zA} {d : Nat} (K : zOK a cX11_speech 5 RX11 (some .int) d) (hd : 1 ≤ d) (v1 : Int32) (v2 : Int32) (v3 : Int32) (s : zM) : zJ a 5 (zG a zφN zri) zφN 28 [(0, .ref (a.1.2.2.2 + 0)), (1, .int v1), (2, .int v2), (3, .int v3)] [] s (f_X11_speech_j28 v1 v2 v3 s) := by
  unfold f_X11_speech_j28
  refine z_iconst K ci_0 dX11_speech_28 ?_
  exact t_X11_speech_j29 K hd v1 v2 v3 (0 : Int32) s
def f_X11_speech (v1 : Int32) (v2 : Int32) (v3 : Int32) (s : zM) : Option (Int32 × zM) :=
  bnd (f_X8_isPlace v1 s) (fun r2 s1 =>
  if r2 = 0 then
    f_X11_speech_j28 v1 v2 v3 s1
  else
    bnd (f_X5_isMinute v2 s1) (fun r6 s5 =>
    if r6 = 0 then
      f_X11_speech_j28 v1 v2 v3 s5
    else
      if v3 < (1 : Int32) then
        f_X11_speech_j28 v1 v2 v3 s5
      else
        if (5 : Int32) < v3 then
          f_X11_speech_j28 v1 v2 v3 s5
        else
          f_X11_speech_j29 v1 v2 v3 (1 : Int32) s5))
set_option maxRecDepth 100000 in
set_option maxHeartbeats 4000000 in
theorem t_X11_speech (w : zWd) (d : Nat) (hd : 1 ≤ d) (v1 : Int32) (v2 : Int32) (v3 : Int32) (s : zM) : zMt w yX11_speech cX11_speech 5 (some .int) d zφN zφN zri [.ref (w.2.2.2 + 0), .int v1, .int v2, .int v3] s (f_X11_speech v1 v2 v3 s) := by
  refine zMtN_of (own := RX11) rfl (by decide +kernel) (Nat.le_of_ble_eq_true rfl) cd_X11_speech [(0, .ref (w.2.2.2 + 0)), (1, .int v1), (2, .int v2), (3, .int v3)] rfl ?_
  rintro a rfl K
  unfold f_X11_speech
  refine z_iload_n K 1 rfl dX11_speech_0 ?_
  refine z_cSi (As := [.int v1]) (rest := []) K (t_X8_isPlace a.1 (d - 1) (by omega) v1 s) mf_X8_isPlace ml_X11_206 (Nat.le_of_ble_eq_true rfl) (by omega) rfl rfl (Nat.le_of_ble_eq_true rfl) dX11_speech_1 (fun r2 s1 => ?_)
  refine z_if_eq K (tgt := 28) dX11_speech_4 (by decide) ?_ ?_
  · exact t_X11_speech_j28 K hd v1 v2 v3 s1
  · refine z_iload_n K 2 rfl dX11_speech_7 ?_
    refine z_cSi (As := [.int v2]) (rest := []) K (t_X5_isMinute a.1 (d - 1) (by omega) v2 s1) mf_X5_isMinute ml_X11_175 (Nat.le_of_ble_eq_true rfl) (by omega) rfl rfl (Nat.le_of_ble_eq_true rfl) dX11_speech_8 (fun r6 s5 => ?_)
    refine z_if_eq K (tgt := 28) dX11_speech_11 (by decide) ?_ ?_
    · exact t_X11_speech_j28 K hd v1 v2 v3 s5
    · refine z_iload_n K 3 rfl dX11_speech_14 ?_
      refine z_iconst K ci_1 dX11_speech_15 ?_
      refine z_icmp_lt K (tgt := 28) dX11_speech_16 (by decide) ?_ ?_
      · exact t_X11_speech_j28 K hd v1 v2 v3 s5
      · refine z_iload_n K 3 rfl dX11_speech_19 ?_
        refine z_iconst K ci_5 dX11_speech_20 ?_
        refine z_icmp_gt K (tgt := 28) dX11_speech_21 (by decide) ?_ ?_
        · exact t_X11_speech_j28 K hd v1 v2 v3 s5
        · refine z_iconst K ci_1 dX11_speech_24 ?_
          refine z_goto K (tgt := 29) dX11_speech_25 (by decide) ?_
          exact t_X11_speech_j29 K hd v1 v2 v3 (1 : Int32) s5
def f_X11_heard (F : Nat) (v1 : Int32) (v2 : Int32) (s : zM) : Option (Int32 × zM) :=
  bnd (f_X8_isSeat v1 s) (fun r2 s1 =>
  if r2 = 0 then
    some ((-1 : Int32), s1)
  else
    bnd (f_X5_isMinute v2 s1) (fun r4 s3 =>
    if r4 = 0 then
      some ((-1 : Int32), s3)
    else
      bnd (f_X5_speechesAt F v1 v2 s3) (fun r6 s5 =>
      some (r6, s5))))
set_option maxRecDepth 100000 in
set_option maxHeartbeats 4000000 in
theorem t_X11_heard (w : zWd) (F : Nat) (d : Nat) (hd : 2 ≤ d) (v1 : Int32) (v2 : Int32) (s : zM) : zMt w yX11_heard cX11_heard 3 (some .int) d zφN zφN zri [.ref (w.2.2.2 + 0), .int v1, .int v2] s (f_X11_heard F v1 v2 s) := by
  refine zMtN_of (own := RX11) rfl (by decide +kernel) (Nat.le_of_ble_eq_true rfl) cd_X11_heard [(0, .ref (w.2.2.2 + 0)), (1, .int v1), (2, .int v2)] rfl ?_
  rintro a rfl K
  unfold f_X11_heard
  refine z_iload_n K 1 rfl dX11_heard_0 ?_
  refine z_cSi (As := [.int v1]) (rest := []) K (t_X8_isSeat a.1 (d - 1) (by omega) v1 s) mf_X8_isSeat ml_X11_88 (Nat.le_of_ble_eq_true rfl) (by omega) rfl rfl (Nat.le_of_ble_eq_true rfl) dX11_heard_1 (fun r2 s1 => ?_)
  refine z_if_eq K (tgt := 26) dX11_heard_4 (by decide) ?_ ?_
  · refine z_iconst K ci_m1 dX11_heard_26 ?_
    exact z_iret K dX11_heard_27
  · refine z_iload_n K 2 rfl dX11_heard_7 ?_
    refine z_cSi (As := [.int v2]) (rest := []) K (t_X5_isMinute a.1 (d - 1) (by omega) v2 s1) mf_X5_isMinute ml_X11_175 (Nat.le_of_ble_eq_true rfl) (by omega) rfl rfl (Nat.le_of_ble_eq_true rfl) dX11_heard_8 (fun r4 s3 => ?_)
    refine z_if_eq K (tgt := 26) dX11_heard_11 (by decide) ?_ ?_
    · refine z_iconst K ci_m1 dX11_heard_26 ?_
      exact z_iret K dX11_heard_27
    · refine z_aload_n K 0 rfl dX11_heard_14 ?_
      refine z_getr K fd_X11_46 ob_0_4 dX11_heard_15 ?_
      refine z_iload_n K 1 rfl dX11_heard_18 ?_
      refine z_iload_n K 2 rfl dX11_heard_19 ?_
      refine z_cVi (As := [.int v1, .int v2]) (rest := []) K (t_X5_speechesAt a.1 F (d - 1) (by omega) v1 v2 s3) mf_X5_speechesAt ml_X11_212 (Nat.le_of_ble_eq_true rfl) (by omega) rfl rc_33 rfl (Nat.le_of_ble_eq_true rfl) dX11_heard_20 (fun r6 s5 => ?_)
      refine z_goto K (tgt := 27) dX11_heard_23 (by decide) ?_
      exact z_iret K dX11_heard_27
def f_X11_smuggled_j38 (F : Nat) (D : Nat) (v1 : Int32) (v2 : Int32) (v3 : Int32) (v4 : Int32) (w0 : Int32) (s : zM) : Option (Int64 × zM) :=
  if w0 = 0 then
    some ((-1 : Int64), s)
  else
    if v1 = v2 then
      some ((-1 : Int64), s)
    else
      bnd (f_X0_sits v1 s) (fun r2 s1 =>
      if r2 = 0 then
        some ((-1 : Int64), s1)
      else
        bnd (f_X0_sits v2 s1) (fun r4 s3 =>
        if r4 = 0 then
          some ((-1 : Int64), s3)
        else
          bnd (f_X9_find F D v1 v2 s3) (fun r6 s5 =>
          if r6 = 0 then
            some ((-2 : Int64), s5)
          else
            if v4 = 0 then
              if v3 = (2 : Int32) then
                bnd (f_X9_passings s5) (fun r12 s11 =>
                some ((r12).toInt64, s11))
              else
                if v3 = 0 then
                  bnd (f_X9_above F s5) (fun r10 s9 =>
                  some (r10, s9))
                else
                  bnd (f_X9_below F s5) (fun r8 s7 =>
                  some (r8, s7))
            else
              bnd (f_X9_guestAt (v3 - (10 : Int32)) s5) (fun r14 s13 =>
              some ((r14).toInt64, s13)))))
set_option maxRecDepth 100000 in
set_option maxHeartbeats 4000000 in
theorem t_X11_smuggled_j38 {a : zA} {d : Nat} (F : Nat) (D : Nat) (K : zOK a cX11_smuggled 6 RX11 (some .long) d) (hd : 2 * D + 7 ≤ d) (v1 : Int32) (v2 : Int32) (v3 : Int32) (v4 : Int32) (w0 : Int32) (s : zM) : zJ a 6 (zG a zφN zrl) zφN 38 [(0, .ref (a.1.2.2.2 + 0)), (1, .int v1), (2, .int v2), (3, .int v3), (4, .int v4)] [.int w0] s (f_X11_smuggled_j38 F D v1 v2 v3 v4 w0 s) := by
  unfold f_X11_smuggled_j38
  refine z_istore K (lv' := [(5, .int w0), (0, .ref (a.1.2.2.2 + 0)), (1, .int v1), (2, .int v2), (3, .int v3), (4, .int v4)]) dX11_smuggled_38 (Nat.le_of_ble_eq_true rfl) rfl ?_
  refine z_iload K 0 rfl dX11_smuggled_40 ?_
  refine z_if_eq K (tgt := 72) dX11_smuggled_42 (by decide) ?_ ?_
  · refine z_ldc2 K cst_X11_215 dX11_smuggled_72 ?_
    exact z_lret K dX11_smuggled_75
  · refine z_iload_n K 2 rfl dX11_smuggled_45 ?_
    refine z_iload_n K 3 rfl dX11_smuggled_46 ?_
    refine z_icmp_eq K (tgt := 72) dX11_smuggled_47 (by decide) ?_ ?_
    · refine z_ldc2 K cst_X11_215 dX11_smuggled_72 ?_
      exact z_lret K dX11_smuggled_75
    · refine z_aload_n K 1 rfl dX11_smuggled_50 ?_
      refine z_getr K fd_X11_24 ob_0_1 dX11_smuggled_51 ?_
      refine z_iload_n K 2 rfl dX11_smuggled_54 ?_
      refine z_cVi (As := [.int v1]) (rest := []) K (t_X0_sits a.1 (d - 1) (by omega) v1 s) mf_X0_sits ml_X11_188 (Nat.le_of_ble_eq_true rfl) (by omega) rfl rc_3 rfl (Nat.le_of_ble_eq_true rfl) dX11_smuggled_55 (fun r2 s1 => ?_)
      refine z_if_eq K (tgt := 72) dX11_smuggled_58 (by decide) ?_ ?_
      · refine z_ldc2 K cst_X11_215 dX11_smuggled_72 ?_
        exact z_lret K dX11_smuggled_75
      · refine z_aload_n K 1 rfl dX11_smuggled_61 ?_
        refine z_getr K fd_X11_24 ob_0_1 dX11_smuggled_62 ?_
        refine z_iload_n K 3 rfl dX11_smuggled_65 ?_
        refine z_cVi (As := [.int v2]) (rest := []) K (t_X0_sits a.1 (d - 1) (by omega) v2 s1) mf_X0_sits ml_X11_188 (Nat.le_of_ble_eq_true rfl) (by omega) rfl rc_3 rfl (Nat.le_of_ble_eq_true rfl) dX11_smuggled_66 (fun r4 s3 => ?_)
        refine z_if_ne K (tgt := 76) dX11_smuggled_69 (by decide) ?_ ?_
        · refine z_aload_n K 1 rfl dX11_smuggled_76 ?_
          refine z_getr K fd_X11_53 ob_0_5 dX11_smuggled_77 ?_
          refine z_iload_n K 2 rfl dX11_smuggled_80 ?_
          refine z_iload_n K 3 rfl dX11_smuggled_81 ?_
          refine z_cVi (As := [.int v1, .int v2]) (rest := []) K (t_X9_find a.1 F D (d - 1) (by omega) v1 v2 s3) mf_X9_find ml_X11_217 (Nat.le_of_ble_eq_true rfl) (by omega) rfl rc_42 rfl (Nat.le_of_ble_eq_true rfl) dX11_smuggled_82 (fun r6 s5 => ?_)
          refine z_if_ne K (tgt := 92) dX11_smuggled_85 (by decide) ?_ ?_
          · refine z_iload K 5 rfl dX11_smuggled_92 ?_
            refine z_if_eq K (tgt := 110) dX11_smuggled_94 (by decide) ?_ ?_
            · refine z_iload_n K 4 rfl dX11_smuggled_110 ?_
              refine z_iconst K ci_2 dX11_smuggled_111 ?_
              refine z_icmp_ne K (tgt := 124) dX11_smuggled_112 (by decide) ?_ ?_
              · refine z_iload_n K 4 rfl dX11_smuggled_124 ?_
                refine z_if_ne K (tgt := 138) dX11_smuggled_125 (by decide) ?_ ?_
                · refine z_aload_n K 1 rfl dX11_smuggled_138 ?_
                  refine z_getr K fd_X11_53 ob_0_5 dX11_smuggled_139 ?_
                  refine z_cVl (As := []) (rest := []) K (t_X9_below a.1 F (d - 1) (by omega) s5) mf_X9_below ml_X11_232 (Nat.le_of_ble_eq_true rfl) (by omega) rfl rc_42 rfl (Nat.le_of_ble_eq_true rfl) dX11_smuggled_142 (fun r8 s7 => ?_)
                  exact z_lret K dX11_smuggled_145
                · refine z_aload_n K 1 rfl dX11_smuggled_128 ?_
                  refine z_getr K fd_X11_53 ob_0_5 dX11_smuggled_129 ?_
                  refine z_cVl (As := []) (rest := []) K (t_X9_above a.1 F (d - 1) (by omega) s5) mf_X9_above ml_X11_228 (Nat.le_of_ble_eq_true rfl) (by omega) rfl rc_42 rfl (Nat.le_of_ble_eq_true rfl) dX11_smuggled_132 (fun r10 s9 => ?_)
                  refine z_goto K (tgt := 145) dX11_smuggled_135 (by decide) ?_
                  exact z_lret K dX11_smuggled_145
              · refine z_aload_n K 1 rfl dX11_smuggled_115 ?_
                refine z_getr K fd_X11_53 ob_0_5 dX11_smuggled_116 ?_
                refine z_cVi (As := []) (rest := []) K (t_X9_passings a.1 (d - 1) (by omega) s5) mf_X9_passings ml_X11_225 (Nat.le_of_ble_eq_true rfl) (by omega) rfl rc_42 rfl (Nat.le_of_ble_eq_true rfl) dX11_smuggled_119 (fun r12 s11 => ?_)
                refine z_i2l K dX11_smuggled_122 ?_
                exact z_lret K dX11_smuggled_123
            · refine z_aload_n K 1 rfl dX11_smuggled_97 ?_
              refine z_getr K fd_X11_53 ob_0_5 dX11_smuggled_98 ?_
              refine z_iload_n K 4 rfl dX11_smuggled_101 ?_
              refine z_bipush K cb_10 dX11_smuggled_102 ?_
              refine z_isub K dX11_smuggled_104 ?_
              refine z_cVi (As := [.int (v3 - (10 : Int32))]) (rest := []) K (t_X9_guestAt a.1 (d - 1) (by omega) (v3 - (10 : Int32)) s5) mf_X9_guestAt ml_X11_222 (Nat.le_of_ble_eq_true rfl) (by omega) rfl rc_42 rfl (Nat.le_of_ble_eq_true rfl) dX11_smuggled_105 (fun r14 s13 => ?_)
              refine z_i2l K dX11_smuggled_108 ?_
              exact z_lret K dX11_smuggled_109
          · refine z_ldc2 K cst_X11_220 dX11_smuggled_88 ?_
            exact z_lret K dX11_smuggled_91
        · refine z_ldc2 K cst_X11_215 dX11_smuggled_72 ?_
          exact z_lret K dX11_smuggled_75
def f_X11_smuggled_j33 (F : Nat) (D : Nat) (v1 : Int32) (v2 : Int32) (v3 : Int32) (v4 : Int32) (s : zM) : Option (Int64 × zM) :=
  f_X11_smuggled_j38 F D v1 v2 v3 v4 (1 : Int32) s
set_option maxRecDepth 100000 in
set_option maxHeartbeats 4000000 in
theorem t_X11_smuggled_j33 {a : zA} {d : Nat} (F : Nat) (D : Nat) (K : zOK a cX11_smuggled 6 RX11 (some .long) d) (hd : 2 * D + 7 ≤ d) (v1 : Int32) (v2 : Int32) (v3 : Int32) (v4 : Int32) (s : zM) : zJ a 6 (zG a zφN zrl) zφN 33 [(0, .ref (a.1.2.2.2 + 0)), (1, .int v1), (2, .int v2), (3, .int v3), (4, .int v4)] [] s (f_X11_smuggled_j33 F D v1 v2 v3 v4 s) := by
  unfold f_X11_smuggled_j33
  refine z_iconst K ci_1 dX11_smuggled_33 ?_
  refine z_goto K (tgt := 38) dX11_smuggled_34 (by decide) ?_
  exact t_X11_smuggled_j38 F D K hd v1 v2 v3 v4 (1 : Int32) s
def f_X11_smuggled_j37 (F : Nat) (D : Nat) (v1 : Int32) (v2 : Int32) (v3 : Int32) (v4 : Int32) (s : zM) : Option (Int64 × zM) :=
  f_X11_smuggled_j38 F D v1 v2 v3 v4 (0 : Int32) s
set_option maxRecDepth 100000 in
set_option maxHeartbeats 4000000 in
theorem t_X11_smuggled_j37 {a : zA} {d : Nat} (F : Nat) (D : Nat) (K : zOK a cX11_smuggled 6 RX11 (some .long) d) (hd : 2 * D + 7 ≤ d) (v1 : Int32) (v2 : Int32) (v3 : Int32) (v4 : Int32) (s : zM) : zJ a 6 (zG a zφN zrl) zφN 37 [(0, .ref (a.1.2.2.2 + 0)), (1, .int v1), (2, .int v2), (3, .int v3), (4, .int v4)] [] s (f_X11_smuggled_j37 F D v1 v2 v3 v4 s) := by
  unfold f_X11_smuggled_j37
  refine z_iconst K ci_0 dX11_smuggled_37 ?_
  exact t_X11_smuggled_j38 F D K hd v1 v2 v3 v4 (0 : Int32) s
def f_X11_smuggled_j17 (F : Nat) (D : Nat) (v1 : Int32) (v2 : Int32) (v3 : Int32) (w0 : Int32) (s : zM) : Option (Int64 × zM) :=
  if w0 = 0 then
    if v3 < 0 then
      f_X11_smuggled_j37 F D v1 v2 v3 w0 s
    else
      if (2 : Int32) < v3 then
        f_X11_smuggled_j37 F D v1 v2 v3 w0 s
      else
        f_X11_smuggled_j33 F D v1 v2 v3 w0 s
  else
    f_X11_smuggled_j33 F D v1 v2 v3 w0 s
set_option maxRecDepth 100000 in
set_option maxHeartbeats 4000000 in
theorem t_X11_smuggled_j17 {a : zA} {d : Nat} (F : Nat) (D : Nat) (K : zOK a cX11_smuggled 6 RX11 (some .long) d) (hd : 2 * D + 7 ≤ d) (v1 : Int32) (v2 : Int32) (v3 : Int32) (w0 : Int32) (s : zM) : zJ a 6 (zG a zφN zrl) zφN 17 [(0, .ref (a.1.2.2.2 + 0)), (1, .int v1), (2, .int v2), (3, .int v3)] [.int w0] s (f_X11_smuggled_j17 F D v1 v2 v3 w0 s) := by
  unfold f_X11_smuggled_j17
  refine z_istore K (lv' := [(4, .int w0), (0, .ref (a.1.2.2.2 + 0)), (1, .int v1), (2, .int v2), (3, .int v3)]) dX11_smuggled_17 (Nat.le_of_ble_eq_true rfl) rfl ?_
  refine z_iload K 0 rfl dX11_smuggled_19 ?_
  refine z_if_ne K (tgt := 33) dX11_smuggled_21 (by decide) ?_ ?_
  · refine z_sub [1, 2, 3, 4, 0] rfl ?_
    exact t_X11_smuggled_j33 F D K hd v1 v2 v3 w0 s
  · refine z_iload_n K 4 rfl dX11_smuggled_24 ?_
    refine z_if_lt K (tgt := 37) dX11_smuggled_25 (by decide) ?_ ?_
    · refine z_sub [1, 2, 3, 4, 0] rfl ?_
      exact t_X11_smuggled_j37 F D K hd v1 v2 v3 w0 s
    · refine z_iload_n K 4 rfl dX11_smuggled_28 ?_
      refine z_iconst K ci_2 dX11_smuggled_29 ?_
      refine z_icmp_gt K (tgt := 37) dX11_smuggled_30 (by decide) ?_ ?_
      · refine z_sub [1, 2, 3, 4, 0] rfl ?_
        exact t_X11_smuggled_j37 F D K hd v1 v2 v3 w0 s
      · refine z_sub [1, 2, 3, 4, 0] rfl ?_
        exact t_X11_smuggled_j33 F D K hd v1 v2 v3 w0 s
def f_X11_smuggled_j16 (F : Nat) (D : Nat) (v1 : Int32) (v2 : Int32) (v3 : Int32) (s : zM) : Option (Int64 × zM) :=
  f_X11_smuggled_j17 F D v1 v2 v3 (0 : Int32) s
set_option maxRecDepth 100000 in
set_option maxHeartbeats 4000000 in
theorem t_X11_smuggled_j16 {a : zA} {d : Nat} (F : Nat) (D : Nat) (K : zOK a cX11_smuggled 6 RX11 (some .long) d) (hd : 2 * D + 7 ≤ d) (v1 : Int32) (v2 : Int32) (v3 : Int32) (s : zM) : zJ a 6 (zG a zφN zrl) zφN 16 [(0, .ref (a.1.2.2.2 + 0)), (1, .int v1), (2, .int v2), (3, .int v3)] [] s (f_X11_smuggled_j16 F D v1 v2 v3 s) := by
  unfold f_X11_smuggled_j16
  refine z_iconst K ci_0 dX11_smuggled_16 ?_
  exact t_X11_smuggled_j17 F D K hd v1 v2 v3 (0 : Int32) s
def f_X11_smuggled (F : Nat) (D : Nat) (v1 : Int32) (v2 : Int32) (v3 : Int32) (s : zM) : Option (Int64 × zM) :=
  if v3 < (10 : Int32) then
    f_X11_smuggled_j16 F D v1 v2 v3 s
  else
    if (16 : Int32) < v3 then
      f_X11_smuggled_j16 F D v1 v2 v3 s
    else
      f_X11_smuggled_j17 F D v1 v2 v3 (1 : Int32) s
set_option maxRecDepth 100000 in
set_option maxHeartbeats 4000000 in
theorem t_X11_smuggled (w : zWd) (F : Nat) (D : Nat) (d : Nat) (hd : 2 * D + 7 ≤ d) (v1 : Int32) (v2 : Int32) (v3 : Int32) (s : zM) : zMt w yX11_smuggled cX11_smuggled 6 (some .long) d zφN zφN zrl [.ref (w.2.2.2 + 0), .int v1, .int v2, .int v3] s (f_X11_smuggled F D v1 v2 v3 s) := by
  refine zMtN_of (own := RX11) rfl (by decide +kernel) (Nat.le_of_ble_eq_true rfl) cd_X11_smuggled [(0, .ref (w.2.2.2 + 0)), (1, .int v1), (2, .int v2), (3, .int v3)] rfl ?_
  rintro a rfl K
  unfold f_X11_smuggled
  refine z_iload_n K 3 rfl dX11_smuggled_0 ?_
  refine z_bipush K cb_10 dX11_smuggled_1 ?_
  refine z_icmp_lt K (tgt := 16) dX11_smuggled_3 (by decide) ?_ ?_
  · exact t_X11_smuggled_j16 F D K hd v1 v2 v3 s
  · refine z_iload_n K 3 rfl dX11_smuggled_6 ?_
    refine z_bipush K cb_16 dX11_smuggled_7 ?_
    refine z_icmp_gt K (tgt := 16) dX11_smuggled_9 (by decide) ?_ ?_
    · exact t_X11_smuggled_j16 F D K hd v1 v2 v3 s
    · refine z_iconst K ci_1 dX11_smuggled_12 ?_
      refine z_goto K (tgt := 17) dX11_smuggled_13 (by decide) ?_
      exact t_X11_smuggled_j17 F D K hd v1 v2 v3 (1 : Int32) s
def f_X11_sum (F : Nat) (s : zM) : Option (Int32 × zM) :=
  bnd (f_X6_total F (0 : Int32) s) (fun r2 s1 =>
  some (r2, s1))
set_option maxRecDepth 100000 in
set_option maxHeartbeats 4000000 in
theorem t_X11_sum (w : zWd) (F : Nat) (d : Nat) (hd : 5 ≤ d) (s : zM) : zMt w yX11_sum cX11_sum 1 (some .int) d zφN zφN zri [.ref (w.2.2.2 + 0)] s (f_X11_sum F s) := by
  refine zMtN_of (own := RX11) rfl (by decide +kernel) (Nat.le_of_ble_eq_true rfl) cd_X11_sum [(0, .ref (w.2.2.2 + 0))] rfl ?_
  rintro a rfl K
  unfold f_X11_sum
  refine z_aload_n K 0 rfl dX11_sum_0 ?_
  refine z_getr K fd_X11_60 ob_0_6 dX11_sum_1 ?_
  refine z_iconst K ci_0 dX11_sum_4 ?_
  refine z_cVi (As := [.int (0 : Int32)]) (rest := []) K (t_X6_total a.1 F (d - 1) (by omega) (0 : Int32) s) mf_X6_total ml_X11_235 (Nat.le_of_ble_eq_true rfl) (by omega) rfl rc_45 rfl (Nat.le_of_ble_eq_true rfl) dX11_sum_5 (fun r2 s1 => ?_)
  exact z_iret K dX11_sum_8
def f_X11_seating_j103 (F : Nat) (D : Nat) (v3 : Int32) (v5 : Int32) (s : zM) : Option (Int32 × zM) :=
  if v3 = (-1 : Int32) then
    some (v5, s)
  else
    if v3 = (16 : Int32) then
      some (v5, s)
    else
      bnd (f_X6_seatFor F v3 s) (fun r11 s10 =>
      some (r11, s10))
set_option maxRecDepth 100000 in
set_option maxHeartbeats 4000000 in
theorem t_X11_seating_j103 {a : zA} {d : Nat} (F : Nat) (D : Nat) (K : zOK a cX11_seating 6 RX11 (some .int) d) (hd : 2 * D + 7 ≤ d) (v3 : Int32) (v5 : Int32) (s : zM) : zJ a 6 (zG a zφN zri) zφN 103 [(0, .ref (a.1.2.2.2 + 0)), (3, .int v3), (5, .int v5)] [] s (f_X11_seating_j103 F D v3 v5 s) := by
  unfold f_X11_seating_j103
  refine z_iload_n K 1 rfl dX11_seating_103 ?_
  refine z_iconst K ci_m1 dX11_seating_104 ?_
  refine z_icmp_eq K (tgt := 114) dX11_seating_105 (by decide) ?_ ?_
  · refine z_iload K 2 rfl dX11_seating_114 ?_
    refine z_goto K (tgt := 127) dX11_seating_116 (by decide) ?_
    exact z_iret K dX11_seating_127
  · refine z_iload_n K 1 rfl dX11_seating_108 ?_
    refine z_bipush K cb_16 dX11_seating_109 ?_
    refine z_icmp_ne K (tgt := 119) dX11_seating_111 (by decide) ?_ ?_
    · refine z_aload_n K 0 rfl dX11_seating_119 ?_
      refine z_getr K fd_X11_60 ob_0_6 dX11_seating_120 ?_
      refine z_iload_n K 1 rfl dX11_seating_123 ?_
      refine z_cVi (As := [.int v3]) (rest := []) K (t_X6_seatFor a.1 F (d - 1) (by omega) v3 s) mf_X6_seatFor ml_X11_256 (Nat.le_of_ble_eq_true rfl) (by omega) rfl rc_45 rfl (Nat.le_of_ble_eq_true rfl) dX11_seating_124 (fun r11 s10 => ?_)
      exact z_iret K dX11_seating_127
    · refine z_iload K 2 rfl dX11_seating_114 ?_
      refine z_goto K (tgt := 127) dX11_seating_116 (by decide) ?_
      exact z_iret K dX11_seating_127
def f_X11_seating_j52 (F : Nat) (D : Nat) (v1 : Int32) (v3 : Int32) (s : zM) : Option (Int32 × zM) :=
  bnd (f_X6_tell F v1 s) (fun r6 s5 =>
  bnd (f_X10_clear s5) (fun _ s7 =>
  if r6 = 0 then
    some ((-999999 : Int32), s7)
  else
    bnd (f_X6_seatBest F D s7) (fun r9 s8 =>
    if v3 = (16 : Int32) then
      bnd (f_X6_moveAll F s8) (fun _ s12 =>
      f_X11_seating_j103 F D v3 r9 s12)
    else
      f_X11_seating_j103 F D v3 r9 s8)))
set_option maxRecDepth 100000 in
set_option maxHeartbeats 4000000 in
theorem t_X11_seating_j52 {a : zA} {d : Nat} (F : Nat) (D : Nat) (K : zOK a cX11_seating 6 RX11 (some .int) d) (hd : 2 * D + 7 ≤ d) (v1 : Int32) (v3 : Int32) (s : zM) : zJ a 6 (zG a zφN zri) zφN 52 [(0, .ref (a.1.2.2.2 + 0)), (1, .int v1), (3, .int v3)] [] s (f_X11_seating_j52 F D v1 v3 s) := by
  unfold f_X11_seating_j52
  refine z_aload_n K 0 rfl dX11_seating_52 ?_
  refine z_getr K fd_X11_60 ob_0_6 dX11_seating_53 ?_
  refine z_iload_n K 1 rfl dX11_seating_56 ?_
  refine z_aload_n K 0 rfl dX11_seating_57 ?_
  refine z_getr K fd_X11_18 ob_0_0 dX11_seating_58 ?_
  refine z_cVi (As := [.int v1, .ref (a.1.2.2.2 + 1)]) (rest := []) K (t_X6_tell a.1 F (d - 1) (by omega) v1 s) mf_X6_tell ml_X11_245 (Nat.le_of_ble_eq_true rfl) (by omega) rfl rc_45 rfl (Nat.le_of_ble_eq_true rfl) dX11_seating_61 (fun r6 s5 => ?_)
  refine z_istore K (lv' := [(4, .int r6), (0, .ref (a.1.2.2.2 + 0)), (1, .int v1), (3, .int v3)]) dX11_seating_64 (Nat.le_of_ble_eq_true rfl) rfl ?_
  refine z_aload_n K 1 rfl dX11_seating_66 ?_
  refine z_getr K fd_X11_18 ob_0_0 dX11_seating_67 ?_
  refine z_cVv (As := []) (rest := []) K (t_X10_clear a.1 (d - 1) (by omega) s5) mf_X10_clear ml_X11_139 (Nat.le_of_ble_eq_true rfl) (by omega) rfl rc_1 rfl (Nat.le_of_ble_eq_true rfl) dX11_seating_70 (fun _ s7 => ?_)
  refine z_iload K 0 rfl dX11_seating_73 ?_
  refine z_if_ne K (tgt := 81) dX11_seating_75 (by decide) ?_ ?_
  · refine z_aload_n K 1 rfl dX11_seating_81 ?_
    refine z_getr K fd_X11_60 ob_0_6 dX11_seating_82 ?_
    refine z_cVi (As := []) (rest := []) K (t_X6_seatBest a.1 F D (d - 1) (by omega) s7) mf_X6_seatBest ml_X11_250 (Nat.le_of_ble_eq_true rfl) (by omega) rfl rc_45 rfl (Nat.le_of_ble_eq_true rfl) dX11_seating_85 (fun r9 s8 => ?_)
    refine z_istore K (lv' := [(5, .int r9), (4, .int r6), (0, .ref (a.1.2.2.2 + 0)), (1, .int v1), (3, .int v3)]) dX11_seating_88 (Nat.le_of_ble_eq_true rfl) rfl ?_
    refine z_iload_n K 4 rfl dX11_seating_90 ?_
    refine z_bipush K cb_16 dX11_seating_91 ?_
    refine z_icmp_ne K (tgt := 103) dX11_seating_93 (by decide) ?_ ?_
    · refine z_sub [2, 4, 0] rfl ?_
      exact t_X11_seating_j103 F D K hd v3 r9 s8
    · refine z_aload_n K 2 rfl dX11_seating_96 ?_
      refine z_getr K fd_X11_60 ob_0_6 dX11_seating_97 ?_
      refine z_cVv (As := []) (rest := []) K (t_X6_moveAll a.1 F (d - 1) (by omega) s8) mf_X6_moveAll ml_X11_253 (Nat.le_of_ble_eq_true rfl) (by omega) rfl rc_45 rfl (Nat.le_of_ble_eq_true rfl) dX11_seating_100 (fun _ s12 => ?_)
      refine z_sub [2, 4, 0] rfl ?_
      exact t_X11_seating_j103 F D K hd v3 r9 s12
  · refine z_ldc K cst_X11_249 dX11_seating_78 ?_
    exact z_iret K dX11_seating_80
def f_X11_seating (F : Nat) (D : Nat) (v1 : Int32) (v2 : Int32) (v3 : Int32) (s : zM) : Option (Int32 × zM) :=
  bnd (f_X6_canTell v1 v2 s) (fun r2 s1 =>
  if r2 = 0 then
    some ((-1000000 : Int32), s1)
  else
    bnd (f_X10_length s1) (fun r4 s3 =>
    if r4 < v2 then
      some ((-1000000 : Int32), s3)
    else
      if v3 = (-1 : Int32) then
        f_X11_seating_j52 F D v1 v3 s3
      else
        if v3 = (16 : Int32) then
          f_X11_seating_j52 F D v1 v3 s3
        else
          bnd (f_X6_isTold v1 v3 s3) (fun r14 s13 =>
          if r14 = 0 then
            some ((-1000000 : Int32), s13)
          else
            f_X11_seating_j52 F D v1 v3 s13)))
set_option maxRecDepth 100000 in
set_option maxHeartbeats 4000000 in
theorem t_X11_seating (w : zWd) (F : Nat) (D : Nat) (d : Nat) (hd : 2 * D + 7 ≤ d) (v1 : Int32) (v2 : Int32) (v3 : Int32) (s : zM) : zMt w yX11_seating cX11_seating 6 (some .int) d zφN zφN zri [.ref (w.2.2.2 + 0), .int v1, .int v2, .int v3] s (f_X11_seating F D v1 v2 v3 s) := by
  refine zMtN_of (own := RX11) rfl (by decide +kernel) (Nat.le_of_ble_eq_true rfl) cd_X11_seating [(0, .ref (w.2.2.2 + 0)), (1, .int v1), (2, .int v2), (3, .int v3)] rfl ?_
  rintro a rfl K
  unfold f_X11_seating
  refine z_aload_n K 0 rfl dX11_seating_0 ?_
  refine z_getr K fd_X11_60 ob_0_6 dX11_seating_1 ?_
  refine z_iload_n K 1 rfl dX11_seating_4 ?_
  refine z_iload_n K 2 rfl dX11_seating_5 ?_
  refine z_cVi (As := [.int v1, .int v2]) (rest := []) K (t_X6_canTell a.1 (d - 1) (by omega) v1 v2 s) mf_X6_canTell ml_X11_238 (Nat.le_of_ble_eq_true rfl) (by omega) rfl rc_45 rfl (Nat.le_of_ble_eq_true rfl) dX11_seating_6 (fun r2 s1 => ?_)
  refine z_if_eq K (tgt := 23) dX11_seating_9 (by decide) ?_ ?_
  · refine z_ldc K cst_X11_241 dX11_seating_23 ?_
    exact z_iret K dX11_seating_25
  · refine z_iload_n K 2 rfl dX11_seating_12 ?_
    refine z_aload_n K 0 rfl dX11_seating_13 ?_
    refine z_getr K fd_X11_18 ob_0_0 dX11_seating_14 ?_
    refine z_cVi (As := []) (rest := [.int v2]) K (t_X10_length a.1 (d - 1) (by omega) s1) mf_X10_length ml_X11_130 (Nat.le_of_ble_eq_true rfl) (by omega) rfl rc_1 rfl (Nat.le_of_ble_eq_true rfl) dX11_seating_17 (fun r4 s3 => ?_)
    refine z_icmp_le K (tgt := 26) dX11_seating_20 (by decide) ?_ ?_
    · refine z_iload_n K 3 rfl dX11_seating_26 ?_
      refine z_iconst K ci_m1 dX11_seating_27 ?_
      refine z_icmp_eq K (tgt := 52) dX11_seating_28 (by decide) ?_ ?_
      · refine z_sub [0, 1, 3] rfl ?_
        exact t_X11_seating_j52 F D K hd v1 v3 s3
      · refine z_iload_n K 3 rfl dX11_seating_31 ?_
        refine z_bipush K cb_16 dX11_seating_32 ?_
        refine z_icmp_eq K (tgt := 52) dX11_seating_34 (by decide) ?_ ?_
        · refine z_sub [0, 1, 3] rfl ?_
          exact t_X11_seating_j52 F D K hd v1 v3 s3
        · refine z_aload_n K 0 rfl dX11_seating_37 ?_
          refine z_getr K fd_X11_60 ob_0_6 dX11_seating_38 ?_
          refine z_iload_n K 1 rfl dX11_seating_41 ?_
          refine z_iload_n K 3 rfl dX11_seating_42 ?_
          refine z_cVi (As := [.int v1, .int v3]) (rest := []) K (t_X6_isTold a.1 (d - 1) (by omega) v1 v3 s3) mf_X6_isTold ml_X11_242 (Nat.le_of_ble_eq_true rfl) (by omega) rfl rc_45 rfl (Nat.le_of_ble_eq_true rfl) dX11_seating_43 (fun r14 s13 => ?_)
          refine z_if_ne K (tgt := 52) dX11_seating_46 (by decide) ?_ ?_
          · refine z_sub [0, 1, 3] rfl ?_
            exact t_X11_seating_j52 F D K hd v1 v3 s13
          · refine z_ldc K cst_X11_241 dX11_seating_49 ?_
            exact z_iret K dX11_seating_51
    · refine z_ldc K cst_X11_241 dX11_seating_23 ?_
      exact z_iret K dX11_seating_25
def f_X11_exchange (F : Nat) (v1 : Int32) (s : zM) : Option (Int32 × zM) :=
  if v1 < 0 then
    some ((-1000000 : Int32), s)
  else
    if (2 : Int32) < v1 then
      some ((-1000000 : Int32), s)
    else
      bnd (f_X6_find F s) (fun r2 s1 =>
      if v1 = (2 : Int32) then
        bnd (f_X6_sumThen s1) (fun r8 s7 =>
        some (r8, s7))
      else
        if r2 = 0 then
          some ((-2 : Int32), s1)
        else
          if v1 = 0 then
            bnd (f_X6_guestToMove s1) (fun r6 s5 =>
            some (r6, s5))
          else
            bnd (f_X6_seatToTake s1) (fun r4 s3 =>
            some (r4, s3)))
set_option maxRecDepth 100000 in
set_option maxHeartbeats 4000000 in
theorem t_X11_exchange (w : zWd) (F : Nat) (d : Nat) (hd : 7 ≤ d) (v1 : Int32) (s : zM) : zMt w yX11_exchange cX11_exchange 3 (some .int) d zφN zφN zri [.ref (w.2.2.2 + 0), .int v1] s (f_X11_exchange F v1 s) := by
  refine zMtN_of (own := RX11) rfl (by decide +kernel) (Nat.le_of_ble_eq_true rfl) cd_X11_exchange [(0, .ref (w.2.2.2 + 0)), (1, .int v1)] rfl ?_
  rintro a rfl K
  unfold f_X11_exchange
  refine z_iload_n K 1 rfl dX11_exchange_0 ?_
  refine z_if_lt K (tgt := 9) dX11_exchange_1 (by decide) ?_ ?_
  · refine z_ldc K cst_X11_241 dX11_exchange_9 ?_
    exact z_iret K dX11_exchange_11
  · refine z_iload_n K 1 rfl dX11_exchange_4 ?_
    refine z_iconst K ci_2 dX11_exchange_5 ?_
    refine z_icmp_le K (tgt := 12) dX11_exchange_6 (by decide) ?_ ?_
    · refine z_aload_n K 0 rfl dX11_exchange_12 ?_
      refine z_getr K fd_X11_60 ob_0_6 dX11_exchange_13 ?_
      refine z_cVi (As := []) (rest := []) K (t_X6_find a.1 F (d - 1) (by omega) s) mf_X6_find ml_X11_259 (Nat.le_of_ble_eq_true rfl) (by omega) rfl rc_45 rfl (Nat.le_of_ble_eq_true rfl) dX11_exchange_16 (fun r2 s1 => ?_)
      refine z_istore_n K (lv' := [(2, .int r2), (0, .ref (a.1.2.2.2 + 0)), (1, .int v1)]) dX11_exchange_19 rfl (Nat.le_of_ble_eq_true rfl) rfl ?_
      refine z_iload_n K 2 rfl dX11_exchange_20 ?_
      refine z_iconst K ci_2 dX11_exchange_21 ?_
      refine z_icmp_ne K (tgt := 33) dX11_exchange_22 (by decide) ?_ ?_
      · refine z_iload_n K 0 rfl dX11_exchange_33 ?_
        refine z_if_ne K (tgt := 40) dX11_exchange_34 (by decide) ?_ ?_
        · refine z_iload_n K 2 rfl dX11_exchange_40 ?_
          refine z_if_ne K (tgt := 54) dX11_exchange_41 (by decide) ?_ ?_
          · refine z_aload_n K 1 rfl dX11_exchange_54 ?_
            refine z_getr K fd_X11_60 ob_0_6 dX11_exchange_55 ?_
            refine z_cVi (As := []) (rest := []) K (t_X6_seatToTake a.1 (d - 1) (by omega) s1) mf_X6_seatToTake ml_X11_267 (Nat.le_of_ble_eq_true rfl) (by omega) rfl rc_45 rfl (Nat.le_of_ble_eq_true rfl) dX11_exchange_58 (fun r4 s3 => ?_)
            exact z_iret K dX11_exchange_61
          · refine z_aload_n K 1 rfl dX11_exchange_44 ?_
            refine z_getr K fd_X11_60 ob_0_6 dX11_exchange_45 ?_
            refine z_cVi (As := []) (rest := []) K (t_X6_guestToMove a.1 (d - 1) (by omega) s1) mf_X6_guestToMove ml_X11_264 (Nat.le_of_ble_eq_true rfl) (by omega) rfl rc_45 rfl (Nat.le_of_ble_eq_true rfl) dX11_exchange_48 (fun r6 s5 => ?_)
            refine z_goto K (tgt := 61) dX11_exchange_51 (by decide) ?_
            exact z_iret K dX11_exchange_61
        · refine z_bipush K cb_m2 dX11_exchange_37 ?_
          exact z_iret K dX11_exchange_39
      · refine z_aload_n K 1 rfl dX11_exchange_25 ?_
        refine z_getr K fd_X11_60 ob_0_6 dX11_exchange_26 ?_
        refine z_cVi (As := []) (rest := []) K (t_X6_sumThen a.1 (d - 1) (by omega) s1) mf_X6_sumThen ml_X11_261 (Nat.le_of_ble_eq_true rfl) (by omega) rfl rc_45 rfl (Nat.le_of_ble_eq_true rfl) dX11_exchange_29 (fun r8 s7 => ?_)
        exact z_iret K dX11_exchange_32
    · refine z_ldc K cst_X11_241 dX11_exchange_9 ?_
      exact z_iret K dX11_exchange_11
def f_X11_strays_L4 (F : Nat) (k38 : Int32 → zM → Option (Int32 × zM)) : Nat → Int32 → Int32 → zM → Option (Int32 × zM)
  | 0, _, _, _ => none
  | n + 1, v1, v2, s =>
    bnd (f_X0_number s) (fun r2 s1 =>
    if v2 < r2 then
      bnd (f_X0_isStray v2 s1) (fun r4 s3 =>
      if r4 = 0 then
        lt (v2 + (1 : Int32)) (fun y5 =>
        f_X11_strays_L4 F k38 n v1 y5 s3)
      else
        lt ((v1 ||| ((1 : Int32) <<< (v2 &&& 31)))) (fun y6 =>
        lt (v2 + (1 : Int32)) (fun y7 =>
        f_X11_strays_L4 F k38 n y6 y7 s3)))
    else
      k38 v1 s1)
set_option maxRecDepth 100000 in
set_option maxHeartbeats 4000000 in
theorem t_X11_strays_L4 {a : zA} {d : Nat} (F : Nat) (K : zOK a cX11_strays 3 RX11 (some .int) d) (hd : 4 ≤ d) {k38 : Int32 → zM → Option (Int32 × zM)} (h38 : ∀ (v1 : Int32) (s : zM), zJ a 3 (zG a zφN zri) zφN 38 [(1, .int v1)] [] s (k38 v1 s)) : ∀ (n : Nat) (v1 : Int32) (v2 : Int32) (s : zM), zJ a 3 (zG a zφN zri) zφN 4 [(0, .ref (a.1.2.2.2 + 0)), (1, .int v1), (2, .int v2)] [] s (f_X11_strays_L4 F k38 n v1 v2 s) := by
  intro n
  induction n with
  | zero => intros; exact z_none
  | succ n ih =>
    intro v1 v2 s
    rw [f_X11_strays_L4]
    refine z_iload_n K 2 rfl dX11_strays_4 ?_
    refine z_aload_n K 0 rfl dX11_strays_5 ?_
    refine z_getr K fd_X11_24 ob_0_1 dX11_strays_6 ?_
    refine z_cVi (As := []) (rest := [.int v2]) K (t_X0_number a.1 (d - 1) (by omega) s) mf_X0_number ml_X11_273 (Nat.le_of_ble_eq_true rfl) (by omega) rfl rc_3 rfl (Nat.le_of_ble_eq_true rfl) dX11_strays_9 (fun r2 s1 => ?_)
    refine z_icmp_ge K (tgt := 38) dX11_strays_12 (by decide) ?_ ?_
    · refine z_sub [1] rfl ?_
      exact h38 v1 s1
    · refine z_aload_n K 0 rfl dX11_strays_15 ?_
      refine z_getr K fd_X11_24 ob_0_1 dX11_strays_16 ?_
      refine z_iload_n K 2 rfl dX11_strays_19 ?_
      refine z_cVi (As := [.int v2]) (rest := []) K (t_X0_isStray a.1 (d - 1) (by omega) v2 s1) mf_X0_isStray ml_X11_276 (Nat.le_of_ble_eq_true rfl) (by omega) rfl rc_3 rfl (Nat.le_of_ble_eq_true rfl) dX11_strays_20 (fun r4 s3 => ?_)
      refine z_if_eq K (tgt := 32) dX11_strays_23 (by decide) ?_ ?_
      · refine z_iincN K (j := 2) (lv' := [(0, .ref (a.1.2.2.2 + 0)), (1, .int v1)]) ci_1 rfl dX11_strays_32 (Nat.le_of_ble_eq_true rfl) rfl (fun y5 => ?_)
        refine z_goto K (tgt := 4) dX11_strays_35 (by decide) ?_
        refine z_sub [1, 2, 0] rfl ?_
        exact ih v1 y5 s3
      · refine z_iload_n K 1 rfl dX11_strays_26 ?_
        refine z_iconst K ci_1 dX11_strays_27 ?_
        refine z_iload_n K 2 rfl dX11_strays_28 ?_
        refine z_ishl K dX11_strays_29 ?_
        refine z_ior K dX11_strays_30 ?_
        refine z_topi (fun y6 => ?_)
        refine z_istore_n K (lv' := [(1, .int y6), (0, .ref (a.1.2.2.2 + 0)), (2, .int v2)]) dX11_strays_31 rfl (Nat.le_of_ble_eq_true rfl) rfl ?_
        refine z_iincN K (j := 2) (lv' := [(1, .int y6), (0, .ref (a.1.2.2.2 + 0))]) ci_1 rfl dX11_strays_32 (Nat.le_of_ble_eq_true rfl) rfl (fun y7 => ?_)
        refine z_goto K (tgt := 4) dX11_strays_35 (by decide) ?_
        refine z_sub [2, 1, 0] rfl ?_
        exact ih y6 y7 s3
def f_X11_strays (F : Nat) (s : zM) : Option (Int32 × zM) :=
  f_X11_strays_L4 F (fun y9 s8 =>
    some (y9, s8)) F (0 : Int32) (0 : Int32) s
set_option maxRecDepth 100000 in
set_option maxHeartbeats 4000000 in
theorem t_X11_strays (w : zWd) (F : Nat) (d : Nat) (hd : 4 ≤ d) (s : zM) : zMt w yX11_strays cX11_strays 3 (some .int) d zφN zφN zri [.ref (w.2.2.2 + 0)] s (f_X11_strays F s) := by
  refine zMtN_of (own := RX11) rfl (by decide +kernel) (Nat.le_of_ble_eq_true rfl) cd_X11_strays [(0, .ref (w.2.2.2 + 0))] rfl ?_
  rintro a rfl K
  unfold f_X11_strays
  refine z_iconst K ci_0 dX11_strays_0 ?_
  refine z_istore_n K (lv' := [(1, .int (0 : Int32)), (0, .ref (a.1.2.2.2 + 0))]) dX11_strays_1 rfl (Nat.le_of_ble_eq_true rfl) rfl ?_
  refine z_iconst K ci_0 dX11_strays_2 ?_
  refine z_istore_n K (lv' := [(2, .int (0 : Int32)), (1, .int (0 : Int32)), (0, .ref (a.1.2.2.2 + 0))]) dX11_strays_3 rfl (Nat.le_of_ble_eq_true rfl) rfl ?_
  refine z_sub [2, 1, 0] rfl ?_
  refine t_X11_strays_L4 F K hd (fun y9 s8 => ?_) F (0 : Int32) (0 : Int32) s
  refine z_iload_n K 0 rfl dX11_strays_38 ?_
  exact z_iret K dX11_strays_39
def f_X11_home_j45 (F : Nat) (k6 : Int32 → Int32 → Int32 → zM → Option (Int32 × zM)) (v1 : Int32) (v2 : Int32) (v3 : Int32) (s : zM) : Option (Int32 × zM) :=
  bnd (f_X0_isStray v3 s) (fun r6 s5 =>
  if r6 = 0 then
    lt (v3 + (1 : Int32)) (fun y7 =>
    k6 v1 v2 y7 s5)
  else
    lt (v2 + (1 : Int32)) (fun y8 =>
    lt (v3 + (1 : Int32)) (fun y9 =>
    k6 v1 y8 y9 s5)))
set_option maxRecDepth 100000 in
set_option maxHeartbeats 4000000 in
theorem t_X11_home_j45 {a : zA} {d : Nat} (F : Nat) (K : zOK a cX11_home 4 RX11 (some .int) d) (hd : 4 ≤ d) {k6 : Int32 → Int32 → Int32 → zM → Option (Int32 × zM)} (h6 : ∀ (v1 : Int32) (v2 : Int32) (v3 : Int32) (s : zM), zJ a 4 (zG a zφN zri) zφN 6 [(0, .ref (a.1.2.2.2 + 0)), (1, .int v1), (2, .int v2), (3, .int v3)] [] s (k6 v1 v2 v3 s)) (v1 : Int32) (v2 : Int32) (v3 : Int32) (s : zM) : zJ a 4 (zG a zφN zri) zφN 45 [(0, .ref (a.1.2.2.2 + 0)), (1, .int v1), (2, .int v2), (3, .int v3)] [] s (f_X11_home_j45 F k6 v1 v2 v3 s) := by
  unfold f_X11_home_j45
  refine z_aload_n K 0 rfl dX11_home_45 ?_
  refine z_getr K fd_X11_24 ob_0_1 dX11_home_46 ?_
  refine z_iload_n K 3 rfl dX11_home_49 ?_
  refine z_cVi (As := [.int v3]) (rest := []) K (t_X0_isStray a.1 (d - 1) (by omega) v3 s) mf_X0_isStray ml_X11_276 (Nat.le_of_ble_eq_true rfl) (by omega) rfl rc_3 rfl (Nat.le_of_ble_eq_true rfl) dX11_home_50 (fun r6 s5 => ?_)
  refine z_if_eq K (tgt := 59) dX11_home_53 (by decide) ?_ ?_
  · refine z_iincN K (j := 3) (lv' := [(0, .ref (a.1.2.2.2 + 0)), (1, .int v1), (2, .int v2)]) ci_1 rfl dX11_home_59 (Nat.le_of_ble_eq_true rfl) rfl (fun y7 => ?_)
    refine z_goto K (tgt := 6) dX11_home_62 (by decide) ?_
    refine z_sub [1, 2, 3, 0] rfl ?_
    exact h6 v1 v2 y7 s5
  · refine z_iincN K (j := 2) (lv' := [(0, .ref (a.1.2.2.2 + 0)), (1, .int v1), (3, .int v3)]) ci_1 rfl dX11_home_56 (Nat.le_of_ble_eq_true rfl) rfl (fun y8 => ?_)
    refine z_iincN K (j := 3) (lv' := [(2, .int y8), (0, .ref (a.1.2.2.2 + 0)), (1, .int v1)]) ci_1 rfl dX11_home_59 (Nat.le_of_ble_eq_true rfl) rfl (fun y9 => ?_)
    refine z_goto K (tgt := 6) dX11_home_62 (by decide) ?_
    refine z_sub [2, 3, 1, 0] rfl ?_
    exact h6 v1 y8 y9 s5
def f_X11_home_L6 (F : Nat) (k65 : Int32 → Int32 → zM → Option (Int32 × zM)) : Nat → Int32 → Int32 → Int32 → zM → Option (Int32 × zM)
  | 0, _, _, _, _ => none
  | n + 1, v1, v2, v3, s =>
    bnd (f_X0_number s) (fun r2 s1 =>
    if v3 < r2 then
      bnd (f_X0_isStray v3 s1) (fun r4 s3 =>
      if r4 = 0 then
        f_X11_home_j45 F (f_X11_home_L6 F k65 n) v1 v2 v3 s3
      else
        bnd (f_X0_landOf v3 s3) (fun r11 s10 =>
        if r11 = 0 then
          lt (v1 + (1 : Int32)) (fun y12 =>
          lt (v3 + (1 : Int32)) (fun y13 =>
          f_X11_home_L6 F k65 n y12 v2 y13 s10))
        else
          f_X11_home_j45 F (f_X11_home_L6 F k65 n) v1 v2 v3 s10))
    else
      k65 v1 v2 s1)
set_option maxRecDepth 100000 in
set_option maxHeartbeats 4000000 in
theorem t_X11_home_L6 {a : zA} {d : Nat} (F : Nat) (K : zOK a cX11_home 4 RX11 (some .int) d) (hd : 4 ≤ d) {k65 : Int32 → Int32 → zM → Option (Int32 × zM)} (h65 : ∀ (v1 : Int32) (v2 : Int32) (s : zM), zJ a 4 (zG a zφN zri) zφN 65 [(1, .int v1), (2, .int v2)] [] s (k65 v1 v2 s)) : ∀ (n : Nat) (v1 : Int32) (v2 : Int32) (v3 : Int32) (s : zM), zJ a 4 (zG a zφN zri) zφN 6 [(0, .ref (a.1.2.2.2 + 0)), (1, .int v1), (2, .int v2), (3, .int v3)] [] s (f_X11_home_L6 F k65 n v1 v2 v3 s) := by
  intro n
  induction n with
  | zero => intros; exact z_none
  | succ n ih =>
    intro v1 v2 v3 s
    rw [f_X11_home_L6]
    refine z_iload_n K 3 rfl dX11_home_6 ?_
    refine z_aload_n K 0 rfl dX11_home_7 ?_
    refine z_getr K fd_X11_24 ob_0_1 dX11_home_8 ?_
    refine z_cVi (As := []) (rest := [.int v3]) K (t_X0_number a.1 (d - 1) (by omega) s) mf_X0_number ml_X11_273 (Nat.le_of_ble_eq_true rfl) (by omega) rfl rc_3 rfl (Nat.le_of_ble_eq_true rfl) dX11_home_11 (fun r2 s1 => ?_)
    refine z_icmp_ge K (tgt := 65) dX11_home_14 (by decide) ?_ ?_
    · refine z_sub [1, 2] rfl ?_
      exact h65 v1 v2 s1
    · refine z_aload_n K 0 rfl dX11_home_17 ?_
      refine z_getr K fd_X11_24 ob_0_1 dX11_home_18 ?_
      refine z_iload_n K 3 rfl dX11_home_21 ?_
      refine z_cVi (As := [.int v3]) (rest := []) K (t_X0_isStray a.1 (d - 1) (by omega) v3 s1) mf_X0_isStray ml_X11_276 (Nat.le_of_ble_eq_true rfl) (by omega) rfl rc_3 rfl (Nat.le_of_ble_eq_true rfl) dX11_home_22 (fun r4 s3 => ?_)
      refine z_if_eq K (tgt := 45) dX11_home_25 (by decide) ?_ ?_
      · exact t_X11_home_j45 F K hd ih v1 v2 v3 s3
      · refine z_aload_n K 0 rfl dX11_home_28 ?_
        refine z_getr K fd_X11_24 ob_0_1 dX11_home_29 ?_
        refine z_iload_n K 3 rfl dX11_home_32 ?_
        refine z_cVi (As := [.int v3]) (rest := []) K (t_X0_landOf a.1 (d - 1) (by omega) v3 s3) mf_X0_landOf ml_X11_279 (Nat.le_of_ble_eq_true rfl) (by omega) rfl rc_3 rfl (Nat.le_of_ble_eq_true rfl) dX11_home_33 (fun r11 s10 => ?_)
        refine z_if_ne K (tgt := 45) dX11_home_36 (by decide) ?_ ?_
        · exact t_X11_home_j45 F K hd ih v1 v2 v3 s10
        · refine z_iincN K (j := 1) (lv' := [(0, .ref (a.1.2.2.2 + 0)), (2, .int v2), (3, .int v3)]) ci_1 rfl dX11_home_39 (Nat.le_of_ble_eq_true rfl) rfl (fun y12 => ?_)
          refine z_goto K (tgt := 59) dX11_home_42 (by decide) ?_
          refine z_iincN K (j := 3) (lv' := [(1, .int y12), (0, .ref (a.1.2.2.2 + 0)), (2, .int v2)]) ci_1 rfl dX11_home_59 (Nat.le_of_ble_eq_true rfl) rfl (fun y13 => ?_)
          refine z_goto K (tgt := 6) dX11_home_62 (by decide) ?_
          refine z_sub [2, 1, 3, 0] rfl ?_
          exact ih y12 v2 y13 s10
def f_X11_home (F : Nat) (s : zM) : Option (Int32 × zM) :=
  f_X11_home_L6 F (fun y15 y16 s14 =>
    some ((if y15 < y16 then y16 else y15), s14)) F (0 : Int32) (0 : Int32) (0 : Int32) s
set_option maxRecDepth 100000 in
set_option maxHeartbeats 4000000 in
theorem t_X11_home (w : zWd) (F : Nat) (d : Nat) (hd : 4 ≤ d) (s : zM) : zMt w yX11_home cX11_home 4 (some .int) d zφN zφN zri [.ref (w.2.2.2 + 0)] s (f_X11_home F s) := by
  refine zMtN_of (own := RX11) rfl (by decide +kernel) (Nat.le_of_ble_eq_true rfl) cd_X11_home [(0, .ref (w.2.2.2 + 0))] rfl ?_
  rintro a rfl K
  unfold f_X11_home
  refine z_iconst K ci_0 dX11_home_0 ?_
  refine z_istore_n K (lv' := [(1, .int (0 : Int32)), (0, .ref (a.1.2.2.2 + 0))]) dX11_home_1 rfl (Nat.le_of_ble_eq_true rfl) rfl ?_
  refine z_iconst K ci_0 dX11_home_2 ?_
  refine z_istore_n K (lv' := [(2, .int (0 : Int32)), (1, .int (0 : Int32)), (0, .ref (a.1.2.2.2 + 0))]) dX11_home_3 rfl (Nat.le_of_ble_eq_true rfl) rfl ?_
  refine z_iconst K ci_0 dX11_home_4 ?_
  refine z_istore_n K (lv' := [(3, .int (0 : Int32)), (2, .int (0 : Int32)), (1, .int (0 : Int32)), (0, .ref (a.1.2.2.2 + 0))]) dX11_home_5 rfl (Nat.le_of_ble_eq_true rfl) rfl ?_
  refine z_sub [3, 2, 1, 0] rfl ?_
  refine t_X11_home_L6 F K hd (fun y15 y16 s14 => ?_) F (0 : Int32) (0 : Int32) (0 : Int32) s
  refine z_iload_n K 0 rfl dX11_home_65 ?_
  refine z_iload_n K 1 rfl dX11_home_66 ?_
  refine z_max K jm_max_s jm_ini jm_max_c ml_X11_282 rfl (by omega) (Nat.le_of_ble_eq_true rfl) dX11_home_67 ?_
  exact z_iret K dX11_home_70
def f_X11_heir (v1 : Int32) (v2 : Int32) (s : zM) : Option (Int32 × zM) :=
  bnd (f_X0_knows v1 s) (fun r2 s1 =>
  if r2 = 0 then
    some ((0 : Int32), s1)
  else
    if v1 = v2 then
      some ((0 : Int32), s1)
    else
      if v2 = (-1 : Int32) then
        bnd (f_X0_bequeath v1 v2 s1) (fun _ s3 =>
        some ((1 : Int32), s3))
      else
        bnd (f_X0_knows v2 s1) (fun r5 s4 =>
        if r5 = 0 then
          some ((0 : Int32), s4)
        else
          bnd (f_X0_bequeath v1 v2 s4) (fun _ s6 =>
          some ((1 : Int32), s6))))
set_option maxRecDepth 100000 in
set_option maxHeartbeats 4000000 in
theorem t_X11_heir (w : zWd) (d : Nat) (hd : 2 ≤ d) (v1 : Int32) (v2 : Int32) (s : zM) : zMt w yX11_heir cX11_heir 3 (some .boolean) d zφN zφN zri [.ref (w.2.2.2 + 0), .int v1, .int v2] s (f_X11_heir v1 v2 s) := by
  refine zMtN_of (own := RX11) rfl (by decide +kernel) (Nat.le_of_ble_eq_true rfl) cd_X11_heir [(0, .ref (w.2.2.2 + 0)), (1, .int v1), (2, .int v2)] rfl ?_
  rintro a rfl K
  unfold f_X11_heir
  refine z_aload_n K 0 rfl dX11_heir_0 ?_
  refine z_getr K fd_X11_24 ob_0_1 dX11_heir_1 ?_
  refine z_iload_n K 1 rfl dX11_heir_4 ?_
  refine z_cVi (As := [.int v1]) (rest := []) K (t_X0_knows a.1 (d - 1) (by omega) v1 s) mf_X0_knows ml_X11_169 (Nat.le_of_ble_eq_true rfl) (by omega) rfl rc_3 rfl (Nat.le_of_ble_eq_true rfl) dX11_heir_5 (fun r2 s1 => ?_)
  refine z_if_eq K (tgt := 32) dX11_heir_8 (by decide) ?_ ?_
  · refine z_iconst K ci_0 dX11_heir_32 ?_
    exact z_zret (Or.inl rfl) K dX11_heir_33
  · refine z_iload_n K 1 rfl dX11_heir_11 ?_
    refine z_iload_n K 2 rfl dX11_heir_12 ?_
    refine z_icmp_eq K (tgt := 32) dX11_heir_13 (by decide) ?_ ?_
    · refine z_iconst K ci_0 dX11_heir_32 ?_
      exact z_zret (Or.inl rfl) K dX11_heir_33
    · refine z_iload_n K 2 rfl dX11_heir_16 ?_
      refine z_iconst K ci_m1 dX11_heir_17 ?_
      refine z_icmp_eq K (tgt := 34) dX11_heir_18 (by decide) ?_ ?_
      · refine z_aload_n K 0 rfl dX11_heir_34 ?_
        refine z_getr K fd_X11_24 ob_0_1 dX11_heir_35 ?_
        refine z_iload_n K 1 rfl dX11_heir_38 ?_
        refine z_iload_n K 2 rfl dX11_heir_39 ?_
        refine z_cVv (As := [.int v1, .int v2]) (rest := []) K (t_X0_bequeath a.1 (d - 1) (by omega) v1 v2 s1) mf_X0_bequeath ml_X11_287 (Nat.le_of_ble_eq_true rfl) (by omega) rfl rc_3 rfl (Nat.le_of_ble_eq_true rfl) dX11_heir_40 (fun _ s3 => ?_)
        refine z_iconst K ci_1 dX11_heir_43 ?_
        exact z_zret (Or.inr rfl) K dX11_heir_44
      · refine z_aload_n K 0 rfl dX11_heir_21 ?_
        refine z_getr K fd_X11_24 ob_0_1 dX11_heir_22 ?_
        refine z_iload_n K 2 rfl dX11_heir_25 ?_
        refine z_cVi (As := [.int v2]) (rest := []) K (t_X0_knows a.1 (d - 1) (by omega) v2 s1) mf_X0_knows ml_X11_169 (Nat.le_of_ble_eq_true rfl) (by omega) rfl rc_3 rfl (Nat.le_of_ble_eq_true rfl) dX11_heir_26 (fun r5 s4 => ?_)
        refine z_if_ne K (tgt := 34) dX11_heir_29 (by decide) ?_ ?_
        · refine z_aload_n K 0 rfl dX11_heir_34 ?_
          refine z_getr K fd_X11_24 ob_0_1 dX11_heir_35 ?_
          refine z_iload_n K 1 rfl dX11_heir_38 ?_
          refine z_iload_n K 2 rfl dX11_heir_39 ?_
          refine z_cVv (As := [.int v1, .int v2]) (rest := []) K (t_X0_bequeath a.1 (d - 1) (by omega) v1 v2 s4) mf_X0_bequeath ml_X11_287 (Nat.le_of_ble_eq_true rfl) (by omega) rfl rc_3 rfl (Nat.le_of_ble_eq_true rfl) dX11_heir_40 (fun _ s6 => ?_)
          refine z_iconst K ci_1 dX11_heir_43 ?_
          exact z_zret (Or.inr rfl) K dX11_heir_44
        · refine z_iconst K ci_0 dX11_heir_32 ?_
          exact z_zret (Or.inl rfl) K dX11_heir_33
def f_X11_dies_L42 (F : Nat) (k107 : zM → Option (Int32 × zM)) (v2 : Int32) : Nat → Int32 → Int32 → zM → Option (Int32 × zM)
  | 0, _, _, _ => none
  | n + 1, v3, v4, s =>
    if v4 < (15 : Int32) then
      if v2 = (-1 : Int32) then
        k107 s
      else
        if v3 = (-1 : Int32) then
          k107 s
        else
          bnd (f_X0_lives v3 s) (fun r9 s8 =>
          if r9 = 0 then
            bnd (f_X0_heirOf v3 s8) (fun r11 s10 =>
            lt (v4 + (1 : Int32)) (fun y12 =>
            f_X11_dies_L42 F k107 v2 n r11 y12 s10))
          else
            bnd (f_X0_sits v3 s8) (fun r14 s13 =>
            if r14 = 0 then
              bnd (f_X0_place v3 v2 s13) (fun _ s18 =>
              some (v3, s18))
            else
              bnd (f_X0_heirOf v3 s13) (fun r16 s15 =>
              lt (v4 + (1 : Int32)) (fun y17 =>
              f_X11_dies_L42 F k107 v2 n r16 y17 s15))))
    else
      k107 s
set_option maxRecDepth 100000 in
set_option maxHeartbeats 4000000 in
theorem t_X11_dies_L42 {a : zA} {d : Nat} (F : Nat) (K : zOK a cX11_dies 5 RX11 (some .int) d) (hd : 3 ≤ d) {k107 : zM → Option (Int32 × zM)} (v2 : Int32) (h107 : ∀ (s : zM), zJ a 5 (zG a zφN zri) zφN 107 [] [] s (k107 s)) : ∀ (n : Nat) (v3 : Int32) (v4 : Int32) (s : zM), zJ a 5 (zG a zφN zri) zφN 42 [(0, .ref (a.1.2.2.2 + 0)), (2, .int v2), (3, .int v3), (4, .int v4)] [] s (f_X11_dies_L42 F k107 v2 n v3 v4 s) := by
  intro n
  induction n with
  | zero => intros; exact z_none
  | succ n ih =>
    intro v3 v4 s
    rw [f_X11_dies_L42]
    refine z_iload K 3 rfl dX11_dies_42 ?_
    refine z_bipush K cb_15 dX11_dies_44 ?_
    refine z_icmp_ge K (tgt := 107) dX11_dies_46 (by decide) ?_ ?_
    · refine z_sub [] rfl ?_
      exact h107 s
    · refine z_iload_n K 1 rfl dX11_dies_49 ?_
      refine z_iconst K ci_m1 dX11_dies_50 ?_
      refine z_icmp_eq K (tgt := 107) dX11_dies_51 (by decide) ?_ ?_
      · refine z_sub [] rfl ?_
        exact h107 s
      · refine z_iload_n K 2 rfl dX11_dies_54 ?_
        refine z_iconst K ci_m1 dX11_dies_55 ?_
        refine z_icmp_eq K (tgt := 107) dX11_dies_56 (by decide) ?_ ?_
        · refine z_sub [] rfl ?_
          exact h107 s
        · refine z_aload_n K 0 rfl dX11_dies_59 ?_
          refine z_getr K fd_X11_24 ob_0_1 dX11_dies_60 ?_
          refine z_iload_n K 2 rfl dX11_dies_63 ?_
          refine z_cVi (As := [.int v3]) (rest := []) K (t_X0_lives a.1 (d - 1) (by omega) v3 s) mf_X0_lives ml_X11_117 (Nat.le_of_ble_eq_true rfl) (by omega) rfl rc_3 rfl (Nat.le_of_ble_eq_true rfl) dX11_dies_64 (fun r9 s8 => ?_)
          refine z_if_eq K (tgt := 92) dX11_dies_67 (by decide) ?_ ?_
          · refine z_aload_n K 0 rfl dX11_dies_92 ?_
            refine z_getr K fd_X11_24 ob_0_1 dX11_dies_93 ?_
            refine z_iload_n K 2 rfl dX11_dies_96 ?_
            refine z_cVi (As := [.int v3]) (rest := []) K (t_X0_heirOf a.1 (d - 1) (by omega) v3 s8) mf_X0_heirOf ml_X11_293 (Nat.le_of_ble_eq_true rfl) (by omega) rfl rc_3 rfl (Nat.le_of_ble_eq_true rfl) dX11_dies_97 (fun r11 s10 => ?_)
            refine z_istore_n K (lv' := [(3, .int r11), (0, .ref (a.1.2.2.2 + 0)), (2, .int v2), (4, .int v4)]) dX11_dies_100 rfl (Nat.le_of_ble_eq_true rfl) rfl ?_
            refine z_iincN K (j := 3) (lv' := [(3, .int r11), (0, .ref (a.1.2.2.2 + 0)), (2, .int v2)]) ci_1 rfl dX11_dies_101 (Nat.le_of_ble_eq_true rfl) rfl (fun y12 => ?_)
            refine z_goto K (tgt := 42) dX11_dies_104 (by decide) ?_
            refine z_sub [2, 3, 1, 0] rfl ?_
            exact ih r11 y12 s10
          · refine z_aload_n K 0 rfl dX11_dies_70 ?_
            refine z_getr K fd_X11_24 ob_0_1 dX11_dies_71 ?_
            refine z_iload_n K 2 rfl dX11_dies_74 ?_
            refine z_cVi (As := [.int v3]) (rest := []) K (t_X0_sits a.1 (d - 1) (by omega) v3 s8) mf_X0_sits ml_X11_188 (Nat.le_of_ble_eq_true rfl) (by omega) rfl rc_3 rfl (Nat.le_of_ble_eq_true rfl) dX11_dies_75 (fun r14 s13 => ?_)
            refine z_if_ne K (tgt := 92) dX11_dies_78 (by decide) ?_ ?_
            · refine z_aload_n K 0 rfl dX11_dies_92 ?_
              refine z_getr K fd_X11_24 ob_0_1 dX11_dies_93 ?_
              refine z_iload_n K 2 rfl dX11_dies_96 ?_
              refine z_cVi (As := [.int v3]) (rest := []) K (t_X0_heirOf a.1 (d - 1) (by omega) v3 s13) mf_X0_heirOf ml_X11_293 (Nat.le_of_ble_eq_true rfl) (by omega) rfl rc_3 rfl (Nat.le_of_ble_eq_true rfl) dX11_dies_97 (fun r16 s15 => ?_)
              refine z_istore_n K (lv' := [(3, .int r16), (0, .ref (a.1.2.2.2 + 0)), (2, .int v2), (4, .int v4)]) dX11_dies_100 rfl (Nat.le_of_ble_eq_true rfl) rfl ?_
              refine z_iincN K (j := 3) (lv' := [(3, .int r16), (0, .ref (a.1.2.2.2 + 0)), (2, .int v2)]) ci_1 rfl dX11_dies_101 (Nat.le_of_ble_eq_true rfl) rfl (fun y17 => ?_)
              refine z_goto K (tgt := 42) dX11_dies_104 (by decide) ?_
              refine z_sub [2, 3, 1, 0] rfl ?_
              exact ih r16 y17 s15
            · refine z_aload_n K 0 rfl dX11_dies_81 ?_
              refine z_getr K fd_X11_24 ob_0_1 dX11_dies_82 ?_
              refine z_iload_n K 2 rfl dX11_dies_85 ?_
              refine z_iload_n K 1 rfl dX11_dies_86 ?_
              refine z_cVv (As := [.int v3, .int v2]) (rest := []) K (t_X0_place a.1 (d - 1) (by omega) v3 v2 s13) mf_X0_place ml_X11_120 (Nat.le_of_ble_eq_true rfl) (by omega) rfl rc_3 rfl (Nat.le_of_ble_eq_true rfl) dX11_dies_87 (fun _ s18 => ?_)
              refine z_iload_n K 2 rfl dX11_dies_90 ?_
              exact z_iret K dX11_dies_91
def f_X11_dies (F : Nat) (v1 : Int32) (s : zM) : Option (Int32 × zM) :=
  bnd (f_X0_lives v1 s) (fun r2 s1 =>
  if r2 = 0 then
    some ((-1 : Int32), s1)
  else
    bnd (f_X0_seatOf v1 s1) (fun r4 s3 =>
    bnd (f_X0_bury v1 s3) (fun _ s5 =>
    bnd (f_X0_heirOf v1 s5) (fun r7 s6 =>
    f_X11_dies_L42 F (fun s19 =>
      some ((-2 : Int32), s19)) r4 F r7 (0 : Int32) s6))))
set_option maxRecDepth 100000 in
set_option maxHeartbeats 4000000 in
theorem t_X11_dies (w : zWd) (F : Nat) (d : Nat) (hd : 3 ≤ d) (v1 : Int32) (s : zM) : zMt w yX11_dies cX11_dies 5 (some .int) d zφN zφN zri [.ref (w.2.2.2 + 0), .int v1] s (f_X11_dies F v1 s) := by
  refine zMtN_of (own := RX11) rfl (by decide +kernel) (Nat.le_of_ble_eq_true rfl) cd_X11_dies [(0, .ref (w.2.2.2 + 0)), (1, .int v1)] rfl ?_
  rintro a rfl K
  unfold f_X11_dies
  refine z_aload_n K 0 rfl dX11_dies_0 ?_
  refine z_getr K fd_X11_24 ob_0_1 dX11_dies_1 ?_
  refine z_iload_n K 1 rfl dX11_dies_4 ?_
  refine z_cVi (As := [.int v1]) (rest := []) K (t_X0_lives a.1 (d - 1) (by omega) v1 s) mf_X0_lives ml_X11_117 (Nat.le_of_ble_eq_true rfl) (by omega) rfl rc_3 rfl (Nat.le_of_ble_eq_true rfl) dX11_dies_5 (fun r2 s1 => ?_)
  refine z_if_ne K (tgt := 13) dX11_dies_8 (by decide) ?_ ?_
  · refine z_aload_n K 0 rfl dX11_dies_13 ?_
    refine z_getr K fd_X11_24 ob_0_1 dX11_dies_14 ?_
    refine z_iload_n K 1 rfl dX11_dies_17 ?_
    refine z_cVi (As := [.int v1]) (rest := []) K (t_X0_seatOf a.1 (d - 1) (by omega) v1 s1) mf_X0_seatOf ml_X11_154 (Nat.le_of_ble_eq_true rfl) (by omega) rfl rc_3 rfl (Nat.le_of_ble_eq_true rfl) dX11_dies_18 (fun r4 s3 => ?_)
    refine z_istore_n K (lv' := [(2, .int r4), (0, .ref (a.1.2.2.2 + 0)), (1, .int v1)]) dX11_dies_21 rfl (Nat.le_of_ble_eq_true rfl) rfl ?_
    refine z_aload_n K 1 rfl dX11_dies_22 ?_
    refine z_getr K fd_X11_24 ob_0_1 dX11_dies_23 ?_
    refine z_iload_n K 2 rfl dX11_dies_26 ?_
    refine z_cVv (As := [.int v1]) (rest := []) K (t_X0_bury a.1 (d - 1) (by omega) v1 s3) mf_X0_bury ml_X11_290 (Nat.le_of_ble_eq_true rfl) (by omega) rfl rc_3 rfl (Nat.le_of_ble_eq_true rfl) dX11_dies_27 (fun _ s5 => ?_)
    refine z_aload_n K 1 rfl dX11_dies_30 ?_
    refine z_getr K fd_X11_24 ob_0_1 dX11_dies_31 ?_
    refine z_iload_n K 2 rfl dX11_dies_34 ?_
    refine z_cVi (As := [.int v1]) (rest := []) K (t_X0_heirOf a.1 (d - 1) (by omega) v1 s5) mf_X0_heirOf ml_X11_293 (Nat.le_of_ble_eq_true rfl) (by omega) rfl rc_3 rfl (Nat.le_of_ble_eq_true rfl) dX11_dies_35 (fun r7 s6 => ?_)
    refine z_istore_n K (lv' := [(3, .int r7), (2, .int r4), (0, .ref (a.1.2.2.2 + 0)), (1, .int v1)]) dX11_dies_38 rfl (Nat.le_of_ble_eq_true rfl) rfl ?_
    refine z_iconst K ci_0 dX11_dies_39 ?_
    refine z_istore K (lv' := [(4, .int (0 : Int32)), (3, .int r7), (2, .int r4), (0, .ref (a.1.2.2.2 + 0)), (1, .int v1)]) dX11_dies_40 (Nat.le_of_ble_eq_true rfl) rfl ?_
    refine z_sub [3, 2, 1, 0] rfl ?_
    refine t_X11_dies_L42 F K hd r4 (fun s19 => ?_) F r7 (0 : Int32) s6
    refine z_bipush K cb_m2 dX11_dies_107 ?_
    exact z_iret K dX11_dies_109
  · refine z_iconst K ci_m1 dX11_dies_11 ?_
    exact z_iret K dX11_dies_12
def f_X11_knives (v1 : Int32) (v2 : Int32) (s : zM) : Option (Int32 × zM) :=
  bnd (f_X8_isSeat v1 s) (fun r2 s1 =>
  if r2 = 0 then
    some ((0 : Int32), s1)
  else
    if v2 < 0 then
      some ((0 : Int32), s1)
    else
      if (9 : Int32) < v2 then
        some ((0 : Int32), s1)
      else
        bnd (f_X2_lay v1 v2 s1) (fun _ s3 =>
        some ((1 : Int32), s3)))
set_option maxRecDepth 100000 in
set_option maxHeartbeats 4000000 in
theorem t_X11_knives (w : zWd) (d : Nat) (hd : 2 ≤ d) (v1 : Int32) (v2 : Int32) (s : zM) : zMt w yX11_knives cX11_knives 3 (some .boolean) d zφN zφN zri [.ref (w.2.2.2 + 0), .int v1, .int v2] s (f_X11_knives v1 v2 s) := by
  refine zMtN_of (own := RX11) rfl (by decide +kernel) (Nat.le_of_ble_eq_true rfl) cd_X11_knives [(0, .ref (w.2.2.2 + 0)), (1, .int v1), (2, .int v2)] rfl ?_
  rintro a rfl K
  unfold f_X11_knives
  refine z_iload_n K 1 rfl dX11_knives_0 ?_
  refine z_cSi (As := [.int v1]) (rest := []) K (t_X8_isSeat a.1 (d - 1) (by omega) v1 s) mf_X8_isSeat ml_X11_88 (Nat.le_of_ble_eq_true rfl) (by omega) rfl rfl (Nat.le_of_ble_eq_true rfl) dX11_knives_1 (fun r2 s1 => ?_)
  refine z_if_eq K (tgt := 17) dX11_knives_4 (by decide) ?_ ?_
  · refine z_iconst K ci_0 dX11_knives_17 ?_
    exact z_zret (Or.inl rfl) K dX11_knives_18
  · refine z_iload_n K 2 rfl dX11_knives_7 ?_
    refine z_if_lt K (tgt := 17) dX11_knives_8 (by decide) ?_ ?_
    · refine z_iconst K ci_0 dX11_knives_17 ?_
      exact z_zret (Or.inl rfl) K dX11_knives_18
    · refine z_iload_n K 2 rfl dX11_knives_11 ?_
      refine z_bipush K cb_9 dX11_knives_12 ?_
      refine z_icmp_le K (tgt := 19) dX11_knives_14 (by decide) ?_ ?_
      · refine z_aload_n K 0 rfl dX11_knives_19 ?_
        refine z_getr K fd_X11_67 ob_0_7 dX11_knives_20 ?_
        refine z_iload_n K 1 rfl dX11_knives_23 ?_
        refine z_iload_n K 2 rfl dX11_knives_24 ?_
        refine z_cVv (As := [.int v1, .int v2]) (rest := []) K (t_X2_lay a.1 (d - 1) (by omega) v1 v2 s1) mf_X2_lay ml_X11_296 (Nat.le_of_ble_eq_true rfl) (by omega) rfl rc_51 rfl (Nat.le_of_ble_eq_true rfl) dX11_knives_25 (fun _ s3 => ?_)
        refine z_iconst K ci_1 dX11_knives_28 ?_
        exact z_zret (Or.inr rfl) K dX11_knives_29
      · refine z_iconst K ci_0 dX11_knives_17 ?_
        exact z_zret (Or.inl rfl) K dX11_knives_18
def f_X11_put (v1 : Int32) (v2 : Int32) (v3 : Int32) (s : zM) : Option (Int32 × zM) :=
  bnd (f_X8_isSeat v1 s) (fun r2 s1 =>
  if r2 = 0 then
    some ((0 : Int32), s1)
  else
    bnd (f_X8_isSeat v2 s1) (fun r4 s3 =>
    if r4 = 0 then
      some ((0 : Int32), s3)
    else
      if v1 = v2 then
        some ((0 : Int32), s3)
      else
        if v3 < (1 : Int32) then
          some ((0 : Int32), s3)
        else
          bnd (f_X2_move v1 v2 v3 s3) (fun r6 s5 =>
          if r6 = 0 then
            some ((0 : Int32), s5)
          else
            some ((1 : Int32), s5))))
set_option maxRecDepth 100000 in
set_option maxHeartbeats 4000000 in
theorem t_X11_put (w : zWd) (d : Nat) (hd : 2 ≤ d) (v1 : Int32) (v2 : Int32) (v3 : Int32) (s : zM) : zMt w yX11_put cX11_put 4 (some .boolean) d zφN zφN zri [.ref (w.2.2.2 + 0), .int v1, .int v2, .int v3] s (f_X11_put v1 v2 v3 s) := by
  refine zMtN_of (own := RX11) rfl (by decide +kernel) (Nat.le_of_ble_eq_true rfl) cd_X11_put [(0, .ref (w.2.2.2 + 0)), (1, .int v1), (2, .int v2), (3, .int v3)] rfl ?_
  rintro a rfl K
  unfold f_X11_put
  refine z_iload_n K 1 rfl dX11_put_0 ?_
  refine z_cSi (As := [.int v1]) (rest := []) K (t_X8_isSeat a.1 (d - 1) (by omega) v1 s) mf_X8_isSeat ml_X11_88 (Nat.le_of_ble_eq_true rfl) (by omega) rfl rfl (Nat.le_of_ble_eq_true rfl) dX11_put_1 (fun r2 s1 => ?_)
  refine z_if_eq K (tgt := 41) dX11_put_4 (by decide) ?_ ?_
  · refine z_iconst K ci_0 dX11_put_41 ?_
    exact z_zret (Or.inl rfl) K dX11_put_42
  · refine z_iload_n K 2 rfl dX11_put_7 ?_
    refine z_cSi (As := [.int v2]) (rest := []) K (t_X8_isSeat a.1 (d - 1) (by omega) v2 s1) mf_X8_isSeat ml_X11_88 (Nat.le_of_ble_eq_true rfl) (by omega) rfl rfl (Nat.le_of_ble_eq_true rfl) dX11_put_8 (fun r4 s3 => ?_)
    refine z_if_eq K (tgt := 41) dX11_put_11 (by decide) ?_ ?_
    · refine z_iconst K ci_0 dX11_put_41 ?_
      exact z_zret (Or.inl rfl) K dX11_put_42
    · refine z_iload_n K 1 rfl dX11_put_14 ?_
      refine z_iload_n K 2 rfl dX11_put_15 ?_
      refine z_icmp_eq K (tgt := 41) dX11_put_16 (by decide) ?_ ?_
      · refine z_iconst K ci_0 dX11_put_41 ?_
        exact z_zret (Or.inl rfl) K dX11_put_42
      · refine z_iload_n K 3 rfl dX11_put_19 ?_
        refine z_iconst K ci_1 dX11_put_20 ?_
        refine z_icmp_lt K (tgt := 41) dX11_put_21 (by decide) ?_ ?_
        · refine z_iconst K ci_0 dX11_put_41 ?_
          exact z_zret (Or.inl rfl) K dX11_put_42
        · refine z_aload_n K 0 rfl dX11_put_24 ?_
          refine z_getr K fd_X11_67 ob_0_7 dX11_put_25 ?_
          refine z_iload_n K 1 rfl dX11_put_28 ?_
          refine z_iload_n K 2 rfl dX11_put_29 ?_
          refine z_iload_n K 3 rfl dX11_put_30 ?_
          refine z_cVi (As := [.int v1, .int v2, .int v3]) (rest := []) K (t_X2_move a.1 (d - 1) (by omega) v1 v2 v3 s3) mf_X2_move ml_X11_299 (Nat.le_of_ble_eq_true rfl) (by omega) rfl rc_51 rfl (Nat.le_of_ble_eq_true rfl) dX11_put_31 (fun r6 s5 => ?_)
          refine z_if_eq K (tgt := 41) dX11_put_34 (by decide) ?_ ?_
          · refine z_iconst K ci_0 dX11_put_41 ?_
            exact z_zret (Or.inl rfl) K dX11_put_42
          · refine z_iconst K ci_1 dX11_put_37 ?_
            refine z_goto K (tgt := 42) dX11_put_38 (by decide) ?_
            exact z_zret (Or.inr rfl) K dX11_put_42
def f_X11_counted_j35 (v1 : Int32) (v2 : Int32) (v3 : Int32) (v4 : Int32) (w0 : Int32) (s : zM) : Option (Int32 × zM) :=
  if w0 = 0 then
    some ((-1 : Int32), s)
  else
    bnd (f_X2_addCount v1 v2 v3 v4 s) (fun r4 s3 =>
    some (r4, s3))
set_option maxRecDepth 100000 in
set_option maxHeartbeats 4000000 in
theorem t_X11_counted_j35 {a : zA} {d : Nat} (K : zOK a cX11_counted 6 RX11 (some .int) d) (hd : 2 ≤ d) (v1 : Int32) (v2 : Int32) (v3 : Int32) (v4 : Int32) (w0 : Int32) (s : zM) : zJ a 6 (zG a zφN zri) zφN 35 [(0, .ref (a.1.2.2.2 + 0)), (1, .int v1), (2, .int v2), (3, .int v3), (4, .int v4)] [.int w0] s (f_X11_counted_j35 v1 v2 v3 v4 w0 s) := by
  unfold f_X11_counted_j35
  refine z_istore K (lv' := [(5, .int w0), (0, .ref (a.1.2.2.2 + 0)), (1, .int v1), (2, .int v2), (3, .int v3), (4, .int v4)]) dX11_counted_35 (Nat.le_of_ble_eq_true rfl) rfl ?_
  refine z_iload K 0 rfl dX11_counted_37 ?_
  refine z_if_eq K (tgt := 57) dX11_counted_39 (by decide) ?_ ?_
  · refine z_iconst K ci_m1 dX11_counted_57 ?_
    exact z_iret K dX11_counted_58
  · refine z_aload_n K 1 rfl dX11_counted_42 ?_
    refine z_getr K fd_X11_67 ob_0_7 dX11_counted_43 ?_
    refine z_iload_n K 2 rfl dX11_counted_46 ?_
    refine z_iload_n K 3 rfl dX11_counted_47 ?_
    refine z_iload_n K 4 rfl dX11_counted_48 ?_
    refine z_iload K 5 rfl dX11_counted_49 ?_
    refine z_cVi (As := [.int v1, .int v2, .int v3, .int v4]) (rest := []) K (t_X2_addCount a.1 (d - 1) (by omega) v1 v2 v3 v4 s) mf_X2_addCount ml_X11_303 (Nat.le_of_ble_eq_true rfl) (by omega) rfl rc_51 rfl (Nat.le_of_ble_eq_true rfl) dX11_counted_51 (fun r4 s3 => ?_)
    refine z_goto K (tgt := 58) dX11_counted_54 (by decide) ?_
    exact z_iret K dX11_counted_58
def f_X11_counted_j34 (v1 : Int32) (v2 : Int32) (v3 : Int32) (v4 : Int32) (s : zM) : Option (Int32 × zM) :=
  f_X11_counted_j35 v1 v2 v3 v4 (0 : Int32) s
set_option maxRecDepth 100000 in
set_option maxHeartbeats 4000000 in
theorem t_X11_counted_j34 {a : zA} {d : Nat} (K : zOK a cX11_counted 6 RX11 (some .int) d) (hd : 2 ≤ d) (v1 : Int32) (v2 : Int32) (v3 : Int32) (v4 : Int32) (s : zM) : zJ a 6 (zG a zφN zri) zφN 34 [(0, .ref (a.1.2.2.2 + 0)), (1, .int v1), (2, .int v2), (3, .int v3), (4, .int v4)] [] s (f_X11_counted_j34 v1 v2 v3 v4 s) := by
  unfold f_X11_counted_j34
  refine z_iconst K ci_0 dX11_counted_34 ?_
  exact t_X11_counted_j35 K hd v1 v2 v3 v4 (0 : Int32) s
def f_X11_counted_j9 (v1 : Int32) (v2 : Int32) (v3 : Int32) (v4 : Int32) (s : zM) : Option (Int32 × zM) :=
  bnd (f_X8_isRow v2 v3 s) (fun r2 s1 =>
  if r2 = 0 then
    f_X11_counted_j34 v1 v2 v3 v4 s1
  else
    if v4 < 0 then
      f_X11_counted_j34 v1 v2 v3 v4 s1
    else
      if (999 : Int32) < v4 then
        f_X11_counted_j34 v1 v2 v3 v4 s1
      else
        f_X11_counted_j35 v1 v2 v3 v4 (1 : Int32) s1)
set_option maxRecDepth 100000 in
set_option maxHeartbeats 4000000 in
theorem t_X11_counted_j9 {a : zA} {d : Nat} (K : zOK a cX11_counted 6 RX11 (some .int) d) (hd : 2 ≤ d) (v1 : Int32) (v2 : Int32) (v3 : Int32) (v4 : Int32) (s : zM) : zJ a 6 (zG a zφN zri) zφN 9 [(0, .ref (a.1.2.2.2 + 0)), (1, .int v1), (2, .int v2), (3, .int v3), (4, .int v4)] [] s (f_X11_counted_j9 v1 v2 v3 v4 s) := by
  unfold f_X11_counted_j9
  refine z_iload_n K 2 rfl dX11_counted_9 ?_
  refine z_iload_n K 3 rfl dX11_counted_10 ?_
  refine z_cSi (As := [.int v2, .int v3]) (rest := []) K (t_X8_isRow a.1 (d - 1) (by omega) v2 v3 s) mf_X8_isRow ml_X11_178 (Nat.le_of_ble_eq_true rfl) (by omega) rfl rfl (Nat.le_of_ble_eq_true rfl) dX11_counted_11 (fun r2 s1 => ?_)
  refine z_if_eq K (tgt := 34) dX11_counted_14 (by decide) ?_ ?_
  · exact t_X11_counted_j34 K hd v1 v2 v3 v4 s1
  · refine z_iload K 4 rfl dX11_counted_17 ?_
    refine z_if_lt K (tgt := 34) dX11_counted_19 (by decide) ?_ ?_
    · exact t_X11_counted_j34 K hd v1 v2 v3 v4 s1
    · refine z_iload K 4 rfl dX11_counted_22 ?_
      refine z_sipush K cs_999 dX11_counted_24 ?_
      refine z_icmp_gt K (tgt := 34) dX11_counted_27 (by decide) ?_ ?_
      · exact t_X11_counted_j34 K hd v1 v2 v3 v4 s1
      · refine z_iconst K ci_1 dX11_counted_30 ?_
        refine z_goto K (tgt := 35) dX11_counted_31 (by decide) ?_
        exact t_X11_counted_j35 K hd v1 v2 v3 v4 (1 : Int32) s1
def f_X11_counted (v1 : Int32) (v2 : Int32) (v3 : Int32) (v4 : Int32) (s : zM) : Option (Int32 × zM) :=
  if v1 = 0 then
    f_X11_counted_j9 v1 v2 v3 v4 s
  else
    if v1 = (1 : Int32) then
      f_X11_counted_j9 v1 v2 v3 v4 s
    else
      f_X11_counted_j34 v1 v2 v3 v4 s
set_option maxRecDepth 100000 in
set_option maxHeartbeats 4000000 in
theorem t_X11_counted (w : zWd) (d : Nat) (hd : 2 ≤ d) (v1 : Int32) (v2 : Int32) (v3 : Int32) (v4 : Int32) (s : zM) : zMt w yX11_counted cX11_counted 6 (some .int) d zφN zφN zri [.ref (w.2.2.2 + 0), .int v1, .int v2, .int v3, .int v4] s (f_X11_counted v1 v2 v3 v4 s) := by
  refine zMtN_of (own := RX11) rfl (by decide +kernel) (Nat.le_of_ble_eq_true rfl) cd_X11_counted [(0, .ref (w.2.2.2 + 0)), (1, .int v1), (2, .int v2), (3, .int v3), (4, .int v4)] rfl ?_
  rintro a rfl K
  unfold f_X11_counted
  refine z_iload_n K 1 rfl dX11_counted_0 ?_
  refine z_if_eq K (tgt := 9) dX11_counted_1 (by decide) ?_ ?_
  · exact t_X11_counted_j9 K hd v1 v2 v3 v4 s
  · refine z_iload_n K 1 rfl dX11_counted_4 ?_
    refine z_iconst K ci_1 dX11_counted_5 ?_
    refine z_icmp_ne K (tgt := 34) dX11_counted_6 (by decide) ?_ ?_
    · exact t_X11_counted_j34 K hd v1 v2 v3 v4 s
    · exact t_X11_counted_j9 K hd v1 v2 v3 v4 s
def f_X11_missing (F : Nat) (v1 : Int32) (s : zM) : Option (Int32 × zM) :=
  bnd (f_X2_hasCount v1 s) (fun r2 s1 =>
  if r2 = 0 then
    some ((-100000 : Int32), s1)
  else
    bnd (f_X2_moreThanSaid F v1 s1) (fun r4 s3 =>
    some (r4, s3)))
set_option maxRecDepth 100000 in
set_option maxHeartbeats 4000000 in
theorem t_X11_missing (w : zWd) (F : Nat) (d : Nat) (hd : 4 ≤ d) (v1 : Int32) (s : zM) : zMt w yX11_missing cX11_missing 2 (some .int) d zφN zφN zri [.ref (w.2.2.2 + 0), .int v1] s (f_X11_missing F v1 s) := by
  refine zMtN_of (own := RX11) rfl (by decide +kernel) (Nat.le_of_ble_eq_true rfl) cd_X11_missing [(0, .ref (w.2.2.2 + 0)), (1, .int v1)] rfl ?_
  rintro a rfl K
  unfold f_X11_missing
  refine z_aload_n K 0 rfl dX11_missing_0 ?_
  refine z_getr K fd_X11_67 ob_0_7 dX11_missing_1 ?_
  refine z_iload_n K 1 rfl dX11_missing_4 ?_
  refine z_cVi (As := [.int v1]) (rest := []) K (t_X2_hasCount a.1 (d - 1) (by omega) v1 s) mf_X2_hasCount ml_X11_307 (Nat.le_of_ble_eq_true rfl) (by omega) rfl rc_51 rfl (Nat.le_of_ble_eq_true rfl) dX11_missing_5 (fun r2 s1 => ?_)
  refine z_if_eq K (tgt := 22) dX11_missing_8 (by decide) ?_ ?_
  · refine z_ldcw K cst_X11_313 dX11_missing_22 ?_
    exact z_iret K dX11_missing_25
  · refine z_aload_n K 0 rfl dX11_missing_11 ?_
    refine z_getr K fd_X11_67 ob_0_7 dX11_missing_12 ?_
    refine z_iload_n K 1 rfl dX11_missing_15 ?_
    refine z_cVi (As := [.int v1]) (rest := []) K (t_X2_moreThanSaid a.1 F (d - 1) (by omega) v1 s1) mf_X2_moreThanSaid ml_X11_310 (Nat.le_of_ble_eq_true rfl) (by omega) rfl rc_51 rfl (Nat.le_of_ble_eq_true rfl) dX11_missing_16 (fun r4 s3 => ?_)
    refine z_goto K (tgt := 25) dX11_missing_19 (by decide) ?_
    exact z_iret K dX11_missing_25
def f_X11_wrong (F : Nat) (s : zM) : Option (Int32 × zM) :=
  bnd (f_X2_firstWrong F s) (fun r2 s1 =>
  some (r2, s1))
set_option maxRecDepth 100000 in
set_option maxHeartbeats 4000000 in
theorem t_X11_wrong (w : zWd) (F : Nat) (d : Nat) (hd : 4 ≤ d) (s : zM) : zMt w yX11_wrong cX11_wrong 1 (some .int) d zφN zφN zri [.ref (w.2.2.2 + 0)] s (f_X11_wrong F s) := by
  refine zMtN_of (own := RX11) rfl (by decide +kernel) (Nat.le_of_ble_eq_true rfl) cd_X11_wrong [(0, .ref (w.2.2.2 + 0))] rfl ?_
  rintro a rfl K
  unfold f_X11_wrong
  refine z_aload_n K 0 rfl dX11_wrong_0 ?_
  refine z_getr K fd_X11_67 ob_0_7 dX11_wrong_1 ?_
  refine z_cVi (As := []) (rest := []) K (t_X2_firstWrong a.1 F (d - 1) (by omega) s) mf_X2_firstWrong ml_X11_314 (Nat.le_of_ble_eq_true rfl) (by omega) rfl rc_51 rfl (Nat.le_of_ble_eq_true rfl) dX11_wrong_4 (fun r2 s1 => ?_)
  exact z_iret K dX11_wrong_7
def f_X11_gives (v1 : Int32) (v2 : Int32) (s : zM) : Option (Int32 × zM) :=
  bnd (f_X0_knows v1 s) (fun r2 s1 =>
  if r2 = 0 then
    some ((-1 : Int32), s1)
  else
    bnd (f_X7_isHandful v2 s1) (fun r4 s3 =>
    if r4 = 0 then
      some ((-1 : Int32), s3)
    else
      bnd (f_X0_sits v1 s3) (fun r6 s5 =>
      if r6 = 0 then
        some ((-2 : Int32), s5)
      else
        bnd (f_X7_hasRoom v1 v2 s5) (fun r8 s7 =>
        if r8 = 0 then
          some ((-2 : Int32), s7)
        else
          bnd (f_X7_serve v1 v2 s7) (fun _ s9 =>
          bnd (f_X7_had v1 s9) (fun r11 s10 =>
          some (r11, s10)))))))
set_option maxRecDepth 100000 in
set_option maxHeartbeats 4000000 in
theorem t_X11_gives (w : zWd) (d : Nat) (hd : 3 ≤ d) (v1 : Int32) (v2 : Int32) (s : zM) : zMt w yX11_gives cX11_gives 3 (some .int) d zφN zφN zri [.ref (w.2.2.2 + 0), .int v1, .int v2] s (f_X11_gives v1 v2 s) := by
  refine zMtN_of (own := RX11) rfl (by decide +kernel) (Nat.le_of_ble_eq_true rfl) cd_X11_gives [(0, .ref (w.2.2.2 + 0)), (1, .int v1), (2, .int v2)] rfl ?_
  rintro a rfl K
  unfold f_X11_gives
  refine z_aload_n K 0 rfl dX11_gives_0 ?_
  refine z_getr K fd_X11_24 ob_0_1 dX11_gives_1 ?_
  refine z_iload_n K 1 rfl dX11_gives_4 ?_
  refine z_cVi (As := [.int v1]) (rest := []) K (t_X0_knows a.1 (d - 1) (by omega) v1 s) mf_X0_knows ml_X11_169 (Nat.le_of_ble_eq_true rfl) (by omega) rfl rc_3 rfl (Nat.le_of_ble_eq_true rfl) dX11_gives_5 (fun r2 s1 => ?_)
  refine z_if_eq K (tgt := 18) dX11_gives_8 (by decide) ?_ ?_
  · refine z_iconst K ci_m1 dX11_gives_18 ?_
    exact z_iret K dX11_gives_19
  · refine z_iload_n K 2 rfl dX11_gives_11 ?_
    refine z_cSi (As := [.int v2]) (rest := []) K (t_X7_isHandful a.1 (d - 1) (by omega) v2 s1) mf_X7_isHandful ml_X11_317 (Nat.le_of_ble_eq_true rfl) (by omega) rfl rfl (Nat.le_of_ble_eq_true rfl) dX11_gives_12 (fun r4 s3 => ?_)
    refine z_if_ne K (tgt := 20) dX11_gives_15 (by decide) ?_ ?_
    · refine z_aload_n K 0 rfl dX11_gives_20 ?_
      refine z_getr K fd_X11_24 ob_0_1 dX11_gives_21 ?_
      refine z_iload_n K 1 rfl dX11_gives_24 ?_
      refine z_cVi (As := [.int v1]) (rest := []) K (t_X0_sits a.1 (d - 1) (by omega) v1 s3) mf_X0_sits ml_X11_188 (Nat.le_of_ble_eq_true rfl) (by omega) rfl rc_3 rfl (Nat.le_of_ble_eq_true rfl) dX11_gives_25 (fun r6 s5 => ?_)
      refine z_if_eq K (tgt := 43) dX11_gives_28 (by decide) ?_ ?_
      · refine z_bipush K cb_m2 dX11_gives_43 ?_
        exact z_iret K dX11_gives_45
      · refine z_aload_n K 0 rfl dX11_gives_31 ?_
        refine z_getr K fd_X11_74 ob_0_8 dX11_gives_32 ?_
        refine z_iload_n K 1 rfl dX11_gives_35 ?_
        refine z_iload_n K 2 rfl dX11_gives_36 ?_
        refine z_cVi (As := [.int v1, .int v2]) (rest := []) K (t_X7_hasRoom a.1 (d - 1) (by omega) v1 v2 s5) mf_X7_hasRoom ml_X11_320 (Nat.le_of_ble_eq_true rfl) (by omega) rfl rc_60 rfl (Nat.le_of_ble_eq_true rfl) dX11_gives_37 (fun r8 s7 => ?_)
        refine z_if_ne K (tgt := 46) dX11_gives_40 (by decide) ?_ ?_
        · refine z_aload_n K 0 rfl dX11_gives_46 ?_
          refine z_getr K fd_X11_74 ob_0_8 dX11_gives_47 ?_
          refine z_iload_n K 1 rfl dX11_gives_50 ?_
          refine z_iload_n K 2 rfl dX11_gives_51 ?_
          refine z_cVv (As := [.int v1, .int v2]) (rest := []) K (t_X7_serve a.1 (d - 1) (by omega) v1 v2 s7) mf_X7_serve ml_X11_322 (Nat.le_of_ble_eq_true rfl) (by omega) rfl rc_60 rfl (Nat.le_of_ble_eq_true rfl) dX11_gives_52 (fun _ s9 => ?_)
          refine z_aload_n K 0 rfl dX11_gives_55 ?_
          refine z_getr K fd_X11_74 ob_0_8 dX11_gives_56 ?_
          refine z_iload_n K 1 rfl dX11_gives_59 ?_
          refine z_cVi (As := [.int v1]) (rest := []) K (t_X7_had a.1 (d - 1) (by omega) v1 s9) mf_X7_had ml_X11_325 (Nat.le_of_ble_eq_true rfl) (by omega) rfl rc_60 rfl (Nat.le_of_ble_eq_true rfl) dX11_gives_60 (fun r11 s10 => ?_)
          exact z_iret K dX11_gives_63
        · refine z_bipush K cb_m2 dX11_gives_43 ?_
          exact z_iret K dX11_gives_45
    · refine z_iconst K ci_m1 dX11_gives_18 ?_
      exact z_iret K dX11_gives_19
def f_X11_handOver (F : Nat) (v1 : Int32) (v2 : Int32) (v3 : Int32) (s : zM) : Option (Int32 × zM) :=
  bnd (f_X0_seatOf v1 s) (fun r2 s1 =>
  bnd (f_X0_seatOf v2 s1) (fun r4 s3 =>
  if r2 = (-1 : Int32) then
    some ((-2 : Int32), s3)
  else
    if r4 = (-1 : Int32) then
      some ((-2 : Int32), s3)
    else
      bnd (f_X8_areNext r2 r4 s3) (fun r6 s5 =>
      if r6 = 0 then
        some ((-2 : Int32), s5)
      else
        bnd (f_X1_allows F v1 v2 s5) (fun r8 s7 =>
        if r8 = 0 then
          some ((-2 : Int32), s7)
        else
          bnd (f_X7_hasRoom v2 v3 s7) (fun r10 s9 =>
          if r10 = 0 then
            some ((-2 : Int32), s9)
          else
            bnd (f_X7_handed v1 v2 s9) (fun r12 s11 =>
            if (9999 : Int32) < (r12 + v3) then
              some ((-2 : Int32), s11)
            else
              bnd (f_X7_had v1 s11) (fun r14 s13 =>
              if r14 < v3 then
                some ((-3 : Int32), s13)
              else
                bnd (f_X7_hand v1 v2 v3 s13) (fun _ s15 =>
                bnd (f_X7_had v1 s15) (fun r17 s16 =>
                some (r17, s16))))))))))
set_option maxRecDepth 100000 in
set_option maxHeartbeats 4000000 in
theorem t_X11_handOver (w : zWd) (F : Nat) (d : Nat) (hd : 4 ≤ d) (v1 : Int32) (v2 : Int32) (v3 : Int32) (s : zM) : zMt w yX11_handOver cX11_handOver 6 (some .int) d zφN zφN zri [.ref (w.2.2.2 + 0), .int v1, .int v2, .int v3] s (f_X11_handOver F v1 v2 v3 s) := by
  refine zMtN_of (own := RX11) rfl (by decide +kernel) (Nat.le_of_ble_eq_true rfl) cd_X11_handOver [(0, .ref (w.2.2.2 + 0)), (1, .int v1), (2, .int v2), (3, .int v3)] rfl ?_
  rintro a rfl K
  unfold f_X11_handOver
  refine z_aload_n K 0 rfl dX11_handOver_0 ?_
  refine z_getr K fd_X11_24 ob_0_1 dX11_handOver_1 ?_
  refine z_iload_n K 1 rfl dX11_handOver_4 ?_
  refine z_cVi (As := [.int v1]) (rest := []) K (t_X0_seatOf a.1 (d - 1) (by omega) v1 s) mf_X0_seatOf ml_X11_154 (Nat.le_of_ble_eq_true rfl) (by omega) rfl rc_3 rfl (Nat.le_of_ble_eq_true rfl) dX11_handOver_5 (fun r2 s1 => ?_)
  refine z_istore K (lv' := [(4, .int r2), (0, .ref (a.1.2.2.2 + 0)), (1, .int v1), (2, .int v2), (3, .int v3)]) dX11_handOver_8 (Nat.le_of_ble_eq_true rfl) rfl ?_
  refine z_aload_n K 1 rfl dX11_handOver_10 ?_
  refine z_getr K fd_X11_24 ob_0_1 dX11_handOver_11 ?_
  refine z_iload_n K 3 rfl dX11_handOver_14 ?_
  refine z_cVi (As := [.int v2]) (rest := []) K (t_X0_seatOf a.1 (d - 1) (by omega) v2 s1) mf_X0_seatOf ml_X11_154 (Nat.le_of_ble_eq_true rfl) (by omega) rfl rc_3 rfl (Nat.le_of_ble_eq_true rfl) dX11_handOver_15 (fun r4 s3 => ?_)
  refine z_istore K (lv' := [(5, .int r4), (4, .int r2), (0, .ref (a.1.2.2.2 + 0)), (1, .int v1), (2, .int v2), (3, .int v3)]) dX11_handOver_18 (Nat.le_of_ble_eq_true rfl) rfl ?_
  refine z_iload K 1 rfl dX11_handOver_20 ?_
  refine z_iconst K ci_m1 dX11_handOver_22 ?_
  refine z_icmp_eq K (tgt := 54) dX11_handOver_23 (by decide) ?_ ?_
  · refine z_bipush K cb_m2 dX11_handOver_54 ?_
    exact z_iret K dX11_handOver_56
  · refine z_iload K 0 rfl dX11_handOver_26 ?_
    refine z_iconst K ci_m1 dX11_handOver_28 ?_
    refine z_icmp_eq K (tgt := 54) dX11_handOver_29 (by decide) ?_ ?_
    · refine z_bipush K cb_m2 dX11_handOver_54 ?_
      exact z_iret K dX11_handOver_56
    · refine z_iload K 1 rfl dX11_handOver_32 ?_
      refine z_iload K 0 rfl dX11_handOver_34 ?_
      refine z_cSi (As := [.int r2, .int r4]) (rest := []) K (t_X8_areNext a.1 (d - 1) (by omega) r2 r4 s3) mf_X8_areNext ml_X11_157 (Nat.le_of_ble_eq_true rfl) (by omega) rfl rfl (Nat.le_of_ble_eq_true rfl) dX11_handOver_36 (fun r6 s5 => ?_)
      refine z_if_eq K (tgt := 54) dX11_handOver_39 (by decide) ?_ ?_
      · refine z_bipush K cb_m2 dX11_handOver_54 ?_
        exact z_iret K dX11_handOver_56
      · refine z_aload_n K 2 rfl dX11_handOver_42 ?_
        refine z_getr K fd_X11_37 ob_0_3 dX11_handOver_43 ?_
        refine z_iload_n K 3 rfl dX11_handOver_46 ?_
        refine z_iload_n K 4 rfl dX11_handOver_47 ?_
        refine z_cVi (As := [.int v1, .int v2]) (rest := []) K (t_X1_allows a.1 F (d - 1) (by omega) v1 v2 s5) mf_X1_allows ml_X11_166 (Nat.le_of_ble_eq_true rfl) (by omega) rfl rc_12 rfl (Nat.le_of_ble_eq_true rfl) dX11_handOver_48 (fun r8 s7 => ?_)
        refine z_if_ne K (tgt := 57) dX11_handOver_51 (by decide) ?_ ?_
        · refine z_aload_n K 2 rfl dX11_handOver_57 ?_
          refine z_getr K fd_X11_74 ob_0_8 dX11_handOver_58 ?_
          refine z_iload_n K 4 rfl dX11_handOver_61 ?_
          refine z_iload_n K 5 rfl dX11_handOver_62 ?_
          refine z_cVi (As := [.int v2, .int v3]) (rest := []) K (t_X7_hasRoom a.1 (d - 1) (by omega) v2 v3 s7) mf_X7_hasRoom ml_X11_320 (Nat.le_of_ble_eq_true rfl) (by omega) rfl rc_60 rfl (Nat.le_of_ble_eq_true rfl) dX11_handOver_63 (fun r10 s9 => ?_)
          refine z_if_eq K (tgt := 86) dX11_handOver_66 (by decide) ?_ ?_
          · refine z_bipush K cb_m2 dX11_handOver_86 ?_
            exact z_iret K dX11_handOver_88
          · refine z_aload_n K 2 rfl dX11_handOver_69 ?_
            refine z_getr K fd_X11_74 ob_0_8 dX11_handOver_70 ?_
            refine z_iload_n K 3 rfl dX11_handOver_73 ?_
            refine z_iload_n K 4 rfl dX11_handOver_74 ?_
            refine z_cVi (As := [.int v1, .int v2]) (rest := []) K (t_X7_handed a.1 (d - 1) (by omega) v1 v2 s9) mf_X7_handed ml_X11_334 (Nat.le_of_ble_eq_true rfl) (by omega) rfl rc_60 rfl (Nat.le_of_ble_eq_true rfl) dX11_handOver_75 (fun r12 s11 => ?_)
            refine z_iload_n K 5 rfl dX11_handOver_78 ?_
            refine z_iadd K dX11_handOver_79 ?_
            refine z_sipush K cs_9999 dX11_handOver_80 ?_
            refine z_icmp_le K (tgt := 89) dX11_handOver_83 (by decide) ?_ ?_
            · refine z_aload_n K 2 rfl dX11_handOver_89 ?_
              refine z_getr K fd_X11_74 ob_0_8 dX11_handOver_90 ?_
              refine z_iload_n K 3 rfl dX11_handOver_93 ?_
              refine z_cVi (As := [.int v1]) (rest := []) K (t_X7_had a.1 (d - 1) (by omega) v1 s11) mf_X7_had ml_X11_325 (Nat.le_of_ble_eq_true rfl) (by omega) rfl rc_60 rfl (Nat.le_of_ble_eq_true rfl) dX11_handOver_94 (fun r14 s13 => ?_)
              refine z_iload_n K 5 rfl dX11_handOver_97 ?_
              refine z_icmp_ge K (tgt := 104) dX11_handOver_98 (by decide) ?_ ?_
              · refine z_aload_n K 2 rfl dX11_handOver_104 ?_
                refine z_getr K fd_X11_74 ob_0_8 dX11_handOver_105 ?_
                refine z_iload_n K 3 rfl dX11_handOver_108 ?_
                refine z_iload_n K 4 rfl dX11_handOver_109 ?_
                refine z_iload_n K 5 rfl dX11_handOver_110 ?_
                refine z_cVv (As := [.int v1, .int v2, .int v3]) (rest := []) K (t_X7_hand a.1 (d - 1) (by omega) v1 v2 v3 s13) mf_X7_hand ml_X11_368 (Nat.le_of_ble_eq_true rfl) (by omega) rfl rc_60 rfl (Nat.le_of_ble_eq_true rfl) dX11_handOver_111 (fun _ s15 => ?_)
                refine z_aload_n K 2 rfl dX11_handOver_114 ?_
                refine z_getr K fd_X11_74 ob_0_8 dX11_handOver_115 ?_
                refine z_iload_n K 3 rfl dX11_handOver_118 ?_
                refine z_cVi (As := [.int v1]) (rest := []) K (t_X7_had a.1 (d - 1) (by omega) v1 s15) mf_X7_had ml_X11_325 (Nat.le_of_ble_eq_true rfl) (by omega) rfl rc_60 rfl (Nat.le_of_ble_eq_true rfl) dX11_handOver_119 (fun r17 s16 => ?_)
                exact z_iret K dX11_handOver_122
              · refine z_bipush K cb_m3 dX11_handOver_101 ?_
                exact z_iret K dX11_handOver_103
            · refine z_bipush K cb_m2 dX11_handOver_86 ?_
              exact z_iret K dX11_handOver_88
        · refine z_bipush K cb_m2 dX11_handOver_54 ?_
          exact z_iret K dX11_handOver_56
def f_X11_passes (F : Nat) (v1 : Int32) (v2 : Int32) (v3 : Int32) (s : zM) : Option (Int32 × zM) :=
  bnd (f_X11_areTwo v1 v2 s) (fun r2 s1 =>
  if r2 = 0 then
    some ((-1 : Int32), s1)
  else
    bnd (f_X7_isHandful v3 s1) (fun r4 s3 =>
    if r4 = 0 then
      some ((-1 : Int32), s3)
    else
      bnd (f_X11_handOver F v1 v2 v3 s3) (fun r6 s5 =>
      some (r6, s5))))
set_option maxRecDepth 100000 in
set_option maxHeartbeats 4000000 in
theorem t_X11_passes (w : zWd) (F : Nat) (d : Nat) (hd : 5 ≤ d) (v1 : Int32) (v2 : Int32) (v3 : Int32) (s : zM) : zMt w yX11_passes cX11_passes 4 (some .int) d zφN zφN zri [.ref (w.2.2.2 + 0), .int v1, .int v2, .int v3] s (f_X11_passes F v1 v2 v3 s) := by
  refine zMtN_of (own := RX11) rfl (by decide +kernel) (Nat.le_of_ble_eq_true rfl) cd_X11_passes [(0, .ref (w.2.2.2 + 0)), (1, .int v1), (2, .int v2), (3, .int v3)] rfl ?_
  rintro a rfl K
  unfold f_X11_passes
  refine z_aload_n K 0 rfl dX11_passes_0 ?_
  refine z_iload_n K 1 rfl dX11_passes_1 ?_
  refine z_iload_n K 2 rfl dX11_passes_2 ?_
  refine z_cVi (As := [.int v1, .int v2]) (rest := []) K (t_X11_areTwo a.1 (d - 1) (by omega) v1 v2 s) mf_X11_areTwo ml_X11_106 (Nat.le_of_ble_eq_true rfl) (by omega) rfl rc_0 rfl (Nat.le_of_ble_eq_true rfl) dX11_passes_3 (fun r2 s1 => ?_)
  refine z_if_eq K (tgt := 26) dX11_passes_6 (by decide) ?_ ?_
  · refine z_iconst K ci_m1 dX11_passes_26 ?_
    exact z_iret K dX11_passes_27
  · refine z_iload_n K 3 rfl dX11_passes_9 ?_
    refine z_cSi (As := [.int v3]) (rest := []) K (t_X7_isHandful a.1 (d - 1) (by omega) v3 s1) mf_X7_isHandful ml_X11_317 (Nat.le_of_ble_eq_true rfl) (by omega) rfl rfl (Nat.le_of_ble_eq_true rfl) dX11_passes_10 (fun r4 s3 => ?_)
    refine z_if_eq K (tgt := 26) dX11_passes_13 (by decide) ?_ ?_
    · refine z_iconst K ci_m1 dX11_passes_26 ?_
      exact z_iret K dX11_passes_27
    · refine z_aload_n K 0 rfl dX11_passes_16 ?_
      refine z_iload_n K 1 rfl dX11_passes_17 ?_
      refine z_iload_n K 2 rfl dX11_passes_18 ?_
      refine z_iload_n K 3 rfl dX11_passes_19 ?_
      refine z_cVi (As := [.int v1, .int v2, .int v3]) (rest := []) K (t_X11_handOver a.1 F (d - 1) (by omega) v1 v2 v3 s3) mf_X11_handOver ml_X11_328 (Nat.le_of_ble_eq_true rfl) (by omega) rfl rc_0 rfl (Nat.le_of_ble_eq_true rfl) dX11_passes_20 (fun r6 s5 => ?_)
      refine z_goto K (tgt := 27) dX11_passes_23 (by decide) ?_
      exact z_iret K dX11_passes_27
def f_X11_eats (v1 : Int32) (v2 : Int32) (s : zM) : Option (Int32 × zM) :=
  bnd (f_X0_knows v1 s) (fun r2 s1 =>
  if r2 = 0 then
    some ((-1 : Int32), s1)
  else
    bnd (f_X7_isHandful v2 s1) (fun r4 s3 =>
    if r4 = 0 then
      some ((-1 : Int32), s3)
    else
      bnd (f_X7_had v1 s3) (fun r6 s5 =>
      if r6 < v2 then
        some ((-3 : Int32), s5)
      else
        bnd (f_X7_eat v1 v2 s5) (fun _ s7 =>
        bnd (f_X7_had v1 s7) (fun r9 s8 =>
        some (r9, s8))))))
set_option maxRecDepth 100000 in
set_option maxHeartbeats 4000000 in
theorem t_X11_eats (w : zWd) (d : Nat) (hd : 2 ≤ d) (v1 : Int32) (v2 : Int32) (s : zM) : zMt w yX11_eats cX11_eats 3 (some .int) d zφN zφN zri [.ref (w.2.2.2 + 0), .int v1, .int v2] s (f_X11_eats v1 v2 s) := by
  refine zMtN_of (own := RX11) rfl (by decide +kernel) (Nat.le_of_ble_eq_true rfl) cd_X11_eats [(0, .ref (w.2.2.2 + 0)), (1, .int v1), (2, .int v2)] rfl ?_
  rintro a rfl K
  unfold f_X11_eats
  refine z_aload_n K 0 rfl dX11_eats_0 ?_
  refine z_getr K fd_X11_24 ob_0_1 dX11_eats_1 ?_
  refine z_iload_n K 1 rfl dX11_eats_4 ?_
  refine z_cVi (As := [.int v1]) (rest := []) K (t_X0_knows a.1 (d - 1) (by omega) v1 s) mf_X0_knows ml_X11_169 (Nat.le_of_ble_eq_true rfl) (by omega) rfl rc_3 rfl (Nat.le_of_ble_eq_true rfl) dX11_eats_5 (fun r2 s1 => ?_)
  refine z_if_eq K (tgt := 18) dX11_eats_8 (by decide) ?_ ?_
  · refine z_iconst K ci_m1 dX11_eats_18 ?_
    exact z_iret K dX11_eats_19
  · refine z_iload_n K 2 rfl dX11_eats_11 ?_
    refine z_cSi (As := [.int v2]) (rest := []) K (t_X7_isHandful a.1 (d - 1) (by omega) v2 s1) mf_X7_isHandful ml_X11_317 (Nat.le_of_ble_eq_true rfl) (by omega) rfl rfl (Nat.le_of_ble_eq_true rfl) dX11_eats_12 (fun r4 s3 => ?_)
    refine z_if_ne K (tgt := 20) dX11_eats_15 (by decide) ?_ ?_
    · refine z_aload_n K 0 rfl dX11_eats_20 ?_
      refine z_getr K fd_X11_74 ob_0_8 dX11_eats_21 ?_
      refine z_iload_n K 1 rfl dX11_eats_24 ?_
      refine z_cVi (As := [.int v1]) (rest := []) K (t_X7_had a.1 (d - 1) (by omega) v1 s3) mf_X7_had ml_X11_325 (Nat.le_of_ble_eq_true rfl) (by omega) rfl rc_60 rfl (Nat.le_of_ble_eq_true rfl) dX11_eats_25 (fun r6 s5 => ?_)
      refine z_iload_n K 2 rfl dX11_eats_28 ?_
      refine z_icmp_ge K (tgt := 35) dX11_eats_29 (by decide) ?_ ?_
      · refine z_aload_n K 0 rfl dX11_eats_35 ?_
        refine z_getr K fd_X11_74 ob_0_8 dX11_eats_36 ?_
        refine z_iload_n K 1 rfl dX11_eats_39 ?_
        refine z_iload_n K 2 rfl dX11_eats_40 ?_
        refine z_cVv (As := [.int v1, .int v2]) (rest := []) K (t_X7_eat a.1 (d - 1) (by omega) v1 v2 s5) mf_X7_eat ml_X11_331 (Nat.le_of_ble_eq_true rfl) (by omega) rfl rc_60 rfl (Nat.le_of_ble_eq_true rfl) dX11_eats_41 (fun _ s7 => ?_)
        refine z_aload_n K 0 rfl dX11_eats_44 ?_
        refine z_getr K fd_X11_74 ob_0_8 dX11_eats_45 ?_
        refine z_iload_n K 1 rfl dX11_eats_48 ?_
        refine z_cVi (As := [.int v1]) (rest := []) K (t_X7_had a.1 (d - 1) (by omega) v1 s7) mf_X7_had ml_X11_325 (Nat.le_of_ble_eq_true rfl) (by omega) rfl rc_60 rfl (Nat.le_of_ble_eq_true rfl) dX11_eats_49 (fun r9 s8 => ?_)
        exact z_iret K dX11_eats_52
      · refine z_bipush K cb_m3 dX11_eats_32 ?_
        exact z_iret K dX11_eats_34
    · refine z_iconst K ci_m1 dX11_eats_18 ?_
      exact z_iret K dX11_eats_19
def f_X11_fed (v1 : Int32) (v2 : Int32) (s : zM) : Option (Int32 × zM) :=
  bnd (f_X11_areTwo v1 v2 s) (fun r2 s1 =>
  if r2 = 0 then
    some ((-1 : Int32), s1)
  else
    bnd (f_X7_handed v1 v2 s1) (fun r4 s3 =>
    some (r4, s3)))
set_option maxRecDepth 100000 in
set_option maxHeartbeats 4000000 in
theorem t_X11_fed (w : zWd) (d : Nat) (hd : 2 ≤ d) (v1 : Int32) (v2 : Int32) (s : zM) : zMt w yX11_fed cX11_fed 3 (some .int) d zφN zφN zri [.ref (w.2.2.2 + 0), .int v1, .int v2] s (f_X11_fed v1 v2 s) := by
  refine zMtN_of (own := RX11) rfl (by decide +kernel) (Nat.le_of_ble_eq_true rfl) cd_X11_fed [(0, .ref (w.2.2.2 + 0)), (1, .int v1), (2, .int v2)] rfl ?_
  rintro a rfl K
  unfold f_X11_fed
  refine z_aload_n K 0 rfl dX11_fed_0 ?_
  refine z_iload_n K 1 rfl dX11_fed_1 ?_
  refine z_iload_n K 2 rfl dX11_fed_2 ?_
  refine z_cVi (As := [.int v1, .int v2]) (rest := []) K (t_X11_areTwo a.1 (d - 1) (by omega) v1 v2 s) mf_X11_areTwo ml_X11_106 (Nat.le_of_ble_eq_true rfl) (by omega) rfl rc_0 rfl (Nat.le_of_ble_eq_true rfl) dX11_fed_3 (fun r2 s1 => ?_)
  refine z_if_eq K (tgt := 21) dX11_fed_6 (by decide) ?_ ?_
  · refine z_iconst K ci_m1 dX11_fed_21 ?_
    exact z_iret K dX11_fed_22
  · refine z_aload_n K 0 rfl dX11_fed_9 ?_
    refine z_getr K fd_X11_74 ob_0_8 dX11_fed_10 ?_
    refine z_iload_n K 1 rfl dX11_fed_13 ?_
    refine z_iload_n K 2 rfl dX11_fed_14 ?_
    refine z_cVi (As := [.int v1, .int v2]) (rest := []) K (t_X7_handed a.1 (d - 1) (by omega) v1 v2 s1) mf_X7_handed ml_X11_334 (Nat.le_of_ble_eq_true rfl) (by omega) rfl rc_60 rfl (Nat.le_of_ble_eq_true rfl) dX11_fed_15 (fun r4 s3 => ?_)
    refine z_goto K (tgt := 22) dX11_fed_18 (by decide) ?_
    exact z_iret K dX11_fed_22
def f_X11_led (F : Nat) (v1 : Int32) (v2 : Int32) (s : zM) : Option (Int32 × zM) :=
  bnd (f_X0_knows v1 s) (fun r2 s1 =>
  if r2 = 0 then
    some ((-1 : Int32), s1)
  else
    bnd (f_X7_told F v1 v2 s1) (fun r4 s3 =>
    some (r4, s3)))
set_option maxRecDepth 100000 in
set_option maxHeartbeats 4000000 in
theorem t_X11_led (w : zWd) (F : Nat) (d : Nat) (hd : 3 ≤ d) (v1 : Int32) (v2 : Int32) (s : zM) : zMt w yX11_led cX11_led 3 (some .int) d zφN zφN zri [.ref (w.2.2.2 + 0), .int v1, .int v2] s (f_X11_led F v1 v2 s) := by
  refine zMtN_of (own := RX11) rfl (by decide +kernel) (Nat.le_of_ble_eq_true rfl) cd_X11_led [(0, .ref (w.2.2.2 + 0)), (1, .int v1), (2, .int v2)] rfl ?_
  rintro a rfl K
  unfold f_X11_led
  refine z_aload_n K 0 rfl dX11_led_0 ?_
  refine z_getr K fd_X11_24 ob_0_1 dX11_led_1 ?_
  refine z_iload_n K 1 rfl dX11_led_4 ?_
  refine z_cVi (As := [.int v1]) (rest := []) K (t_X0_knows a.1 (d - 1) (by omega) v1 s) mf_X0_knows ml_X11_169 (Nat.le_of_ble_eq_true rfl) (by omega) rfl rc_3 rfl (Nat.le_of_ble_eq_true rfl) dX11_led_5 (fun r2 s1 => ?_)
  refine z_if_eq K (tgt := 23) dX11_led_8 (by decide) ?_ ?_
  · refine z_iconst K ci_m1 dX11_led_23 ?_
    exact z_iret K dX11_led_24
  · refine z_aload_n K 0 rfl dX11_led_11 ?_
    refine z_getr K fd_X11_74 ob_0_8 dX11_led_12 ?_
    refine z_iload_n K 1 rfl dX11_led_15 ?_
    refine z_iload_n K 2 rfl dX11_led_16 ?_
    refine z_cVi (As := [.int v1, .int v2]) (rest := []) K (t_X7_told a.1 F (d - 1) (by omega) v1 v2 s1) mf_X7_told ml_X11_337 (Nat.le_of_ble_eq_true rfl) (by omega) rfl rc_60 rfl (Nat.le_of_ble_eq_true rfl) dX11_led_17 (fun r4 s3 => ?_)
    refine z_goto K (tgt := 24) dX11_led_20 (by decide) ?_
    exact z_iret K dX11_led_24
def f_X11_seed (v1 : Int32) (s : zM) : Option (Int32 × zM) :=
  if v1 < 0 then
    some ((0 : Int32), s)
  else
    if (65535 : Int32) < v1 then
      some ((0 : Int32), s)
    else
      lt (zs s 0 9 v1) (fun s1 =>
      some ((1 : Int32), s1))
set_option maxRecDepth 100000 in
set_option maxHeartbeats 4000000 in
theorem t_X11_seed (w : zWd) (d : Nat) (hd : 0 ≤ d) (v1 : Int32) (s : zM) : zMt w yX11_seed cX11_seed 2 (some .boolean) d zφN zφN zri [.ref (w.2.2.2 + 0), .int v1] s (f_X11_seed v1 s) := by
  refine zMtN_of (own := RX11) rfl (by decide +kernel) (Nat.le_of_ble_eq_true rfl) cd_X11_seed [(0, .ref (w.2.2.2 + 0)), (1, .int v1)] rfl ?_
  rintro a rfl K
  unfold f_X11_seed
  refine z_iload_n K 1 rfl dX11_seed_0 ?_
  refine z_if_lt K (tgt := 11) dX11_seed_1 (by decide) ?_ ?_
  · refine z_iconst K ci_0 dX11_seed_11 ?_
    exact z_zret (Or.inl rfl) K dX11_seed_12
  · refine z_iload_n K 1 rfl dX11_seed_4 ?_
    refine z_ldcw K cst_X11_340 dX11_seed_5 ?_
    refine z_icmp_le K (tgt := 13) dX11_seed_8 (by decide) ?_ ?_
    · refine z_aload_n K 0 rfl dX11_seed_13 ?_
      refine z_iload_n K 1 rfl dX11_seed_14 ?_
      refine z_puti K fw_X11_78 ob_0_9 dX11_seed_15 ?_
      refine z_ltm (fun s1 => ?_)
      refine z_iconst K ci_1 dX11_seed_18 ?_
      exact z_zret (Or.inr rfl) K dX11_seed_19
    · refine z_iconst K ci_0 dX11_seed_11 ?_
      exact z_zret (Or.inl rfl) K dX11_seed_12
def f_X11_draw_L17 (F : Nat) (k108 : Int32 → zM → Option (Int32 × zM)) (v1 : Int32) : Nat → Int32 → Int32 → zM → Option (Int32 × zM)
  | 0, _, _, _ => none
  | n + 1, v2, v3, s =>
    if v3 < v1 then
      lt (zs s 0 9 ((((25173 : Int32) * (zg s 0 9)) + (13849 : Int32)) &&& (65535 : Int32))) (fun s1 =>
      lt (((zg s1 0 9) - (zg s1 0 9) / (16 : Int32) * (16 : Int32))) (fun y2 =>
      bnd (f_X0_seatOf y2 s1) (fun r4 s3 =>
      bnd (f_X8_beside r4 (((zg s3 0 9) / (16 : Int32)) - ((zg s3 0 9) / (16 : Int32)) / (3 : Int32) * (3 : Int32)) s3) (fun r6 s5 =>
      bnd (f_X0_at r6 s5) (fun r8 s7 =>
      if r8 = (-1 : Int32) then
        lt (v3 + (1 : Int32)) (fun y9 =>
        f_X11_draw_L17 F k108 v1 n v2 y9 s7)
      else
        bnd (f_X11_handOver F y2 r8 (1 : Int32) s7) (fun r11 s10 =>
        if r11 < 0 then
          lt (v3 + (1 : Int32)) (fun y12 =>
          f_X11_draw_L17 F k108 v1 n v2 y12 s10)
        else
          lt (v2 + (1 : Int32)) (fun y13 =>
          lt (v3 + (1 : Int32)) (fun y14 =>
          f_X11_draw_L17 F k108 v1 n y13 y14 s10))))))))
    else
      k108 v2 s
set_option maxRecDepth 100000 in
set_option maxHeartbeats 4000000 in
theorem t_X11_draw_L17 {a : zA} {d : Nat} (F : Nat) (K : zOK a cX11_draw 6 RX11 (some .int) d) (hd : 5 ≤ d) {k108 : Int32 → zM → Option (Int32 × zM)} (v1 : Int32) (h108 : ∀ (v2 : Int32) (s : zM), zJ a 6 (zG a zφN zri) zφN 108 [(2, .int v2)] [] s (k108 v2 s)) : ∀ (n : Nat) (v2 : Int32) (v3 : Int32) (s : zM), zJ a 6 (zG a zφN zri) zφN 17 [(0, .ref (a.1.2.2.2 + 0)), (1, .int v1), (2, .int v2), (3, .int v3)] [] s (f_X11_draw_L17 F k108 v1 n v2 v3 s) := by
  intro n
  induction n with
  | zero => intros; exact z_none
  | succ n ih =>
    intro v2 v3 s
    rw [f_X11_draw_L17]
    refine z_iload_n K 3 rfl dX11_draw_17 ?_
    refine z_iload_n K 1 rfl dX11_draw_18 ?_
    refine z_icmp_ge K (tgt := 108) dX11_draw_19 (by decide) ?_ ?_
    · refine z_sub [2] rfl ?_
      exact h108 v2 s
    · refine z_aload_n K 0 rfl dX11_draw_22 ?_
      refine z_sipush K cs_25173 dX11_draw_23 ?_
      refine z_aload_n K 0 rfl dX11_draw_26 ?_
      refine z_geti K fd_X11_78 ob_0_9 dX11_draw_27 ?_
      refine z_imul K dX11_draw_30 ?_
      refine z_sipush K cs_13849 dX11_draw_31 ?_
      refine z_iadd K dX11_draw_34 ?_
      refine z_ldcw K cst_X11_340 dX11_draw_35 ?_
      refine z_iand K dX11_draw_38 ?_
      refine z_puti K fw_X11_78 ob_0_9 dX11_draw_39 ?_
      refine z_ltm (fun s1 => ?_)
      refine z_aload_n K 0 rfl dX11_draw_42 ?_
      refine z_geti K fd_X11_78 ob_0_9 dX11_draw_43 ?_
      refine z_bipush K cb_16 dX11_draw_46 ?_
      refine z_iremc K (by decide) dX11_draw_48 ?_
      refine z_topi (fun y2 => ?_)
      refine z_istore K (lv' := [(4, .int y2), (0, .ref (a.1.2.2.2 + 0)), (1, .int v1), (2, .int v2), (3, .int v3)]) dX11_draw_49 (Nat.le_of_ble_eq_true rfl) rfl ?_
      refine z_aload_n K 1 rfl dX11_draw_51 ?_
      refine z_getr K fd_X11_24 ob_0_1 dX11_draw_52 ?_
      refine z_aload_n K 1 rfl dX11_draw_55 ?_
      refine z_getr K fd_X11_24 ob_0_1 dX11_draw_56 ?_
      refine z_iload K 0 rfl dX11_draw_59 ?_
      refine z_cVi (As := [.int y2]) (rest := [.ref (a.1.2.2.2 + 3)]) K (t_X0_seatOf a.1 (d - 1) (by omega) y2 s1) mf_X0_seatOf ml_X11_154 (Nat.le_of_ble_eq_true rfl) (by omega) rfl rc_3 rfl (Nat.le_of_ble_eq_true rfl) dX11_draw_61 (fun r4 s3 => ?_)
      refine z_aload_n K 1 rfl dX11_draw_64 ?_
      refine z_geti K fd_X11_78 ob_0_9 dX11_draw_65 ?_
      refine z_bipush K cb_16 dX11_draw_68 ?_
      refine z_idivc K (by decide) dX11_draw_70 ?_
      refine z_iconst K ci_3 dX11_draw_71 ?_
      refine z_iremc K (by decide) dX11_draw_72 ?_
      refine z_cSi (As := [.int r4, .int (((zg s3 0 9) / (16 : Int32)) - ((zg s3 0 9) / (16 : Int32)) / (3 : Int32) * (3 : Int32))]) (rest := [.ref (a.1.2.2.2 + 3)]) K (t_X8_beside a.1 (d - 1) (by omega) r4 (((zg s3 0 9) / (16 : Int32)) - ((zg s3 0 9) / (16 : Int32)) / (3 : Int32) * (3 : Int32)) s3) mf_X8_beside ml_X11_341 (Nat.le_of_ble_eq_true rfl) (by omega) rfl rfl (Nat.le_of_ble_eq_true rfl) dX11_draw_73 (fun r6 s5 => ?_)
      refine z_cVi (As := [.int r6]) (rest := []) K (t_X0_at a.1 (d - 1) (by omega) r6 s5) mf_X0_at ml_X11_98 (Nat.le_of_ble_eq_true rfl) (by omega) rfl rc_3 rfl (Nat.le_of_ble_eq_true rfl) dX11_draw_76 (fun r8 s7 => ?_)
      refine z_istore K (lv' := [(5, .int r8), (4, .int y2), (0, .ref (a.1.2.2.2 + 0)), (1, .int v1), (2, .int v2), (3, .int v3)]) dX11_draw_79 (Nat.le_of_ble_eq_true rfl) rfl ?_
      refine z_iload K 0 rfl dX11_draw_81 ?_
      refine z_iconst K ci_m1 dX11_draw_83 ?_
      refine z_icmp_eq K (tgt := 102) dX11_draw_84 (by decide) ?_ ?_
      · refine z_iincN K (j := 5) (lv' := [(5, .int r8), (4, .int y2), (0, .ref (a.1.2.2.2 + 0)), (1, .int v1), (2, .int v2)]) ci_1 rfl dX11_draw_102 (Nat.le_of_ble_eq_true rfl) rfl (fun y9 => ?_)
        refine z_goto K (tgt := 17) dX11_draw_105 (by decide) ?_
        refine z_sub [3, 4, 5, 0] rfl ?_
        exact ih v2 y9 s7
      · refine z_aload_n K 2 rfl dX11_draw_87 ?_
        refine z_iload K 1 rfl dX11_draw_88 ?_
        refine z_iload K 0 rfl dX11_draw_90 ?_
        refine z_iconst K ci_1 dX11_draw_92 ?_
        refine z_cVi (As := [.int y2, .int r8, .int (1 : Int32)]) (rest := []) K (t_X11_handOver a.1 F (d - 1) (by omega) y2 r8 (1 : Int32) s7) mf_X11_handOver ml_X11_328 (Nat.le_of_ble_eq_true rfl) (by omega) rfl rc_0 rfl (Nat.le_of_ble_eq_true rfl) dX11_draw_93 (fun r11 s10 => ?_)
        refine z_if_lt K (tgt := 102) dX11_draw_96 (by decide) ?_ ?_
        · refine z_iincN K (j := 5) (lv' := [(5, .int r8), (4, .int y2), (0, .ref (a.1.2.2.2 + 0)), (1, .int v1), (2, .int v2)]) ci_1 rfl dX11_draw_102 (Nat.le_of_ble_eq_true rfl) rfl (fun y12 => ?_)
          refine z_goto K (tgt := 17) dX11_draw_105 (by decide) ?_
          refine z_sub [3, 4, 5, 0] rfl ?_
          exact ih v2 y12 s10
        · refine z_iincN K (j := 4) (lv' := [(5, .int r8), (4, .int y2), (0, .ref (a.1.2.2.2 + 0)), (1, .int v1), (3, .int v3)]) ci_1 rfl dX11_draw_99 (Nat.le_of_ble_eq_true rfl) rfl (fun y13 => ?_)
          refine z_iincN K (j := 5) (lv' := [(2, .int y13), (5, .int r8), (4, .int y2), (0, .ref (a.1.2.2.2 + 0)), (1, .int v1)]) ci_1 rfl dX11_draw_102 (Nat.le_of_ble_eq_true rfl) rfl (fun y14 => ?_)
          refine z_goto K (tgt := 17) dX11_draw_105 (by decide) ?_
          refine z_sub [4, 5, 1, 0] rfl ?_
          exact ih y13 y14 s10
def f_X11_draw (F : Nat) (v1 : Int32) (s : zM) : Option (Int32 × zM) :=
  if v1 < (1 : Int32) then
    some ((-1 : Int32), s)
  else
    if (60 : Int32) < v1 then
      some ((-1 : Int32), s)
    else
      f_X11_draw_L17 F (fun y16 s15 =>
        some (y16, s15)) v1 F (0 : Int32) (0 : Int32) s
set_option maxRecDepth 100000 in
set_option maxHeartbeats 4000000 in
theorem t_X11_draw (w : zWd) (F : Nat) (d : Nat) (hd : 5 ≤ d) (v1 : Int32) (s : zM) : zMt w yX11_draw cX11_draw 6 (some .int) d zφN zφN zri [.ref (w.2.2.2 + 0), .int v1] s (f_X11_draw F v1 s) := by
  refine zMtN_of (own := RX11) rfl (by decide +kernel) (Nat.le_of_ble_eq_true rfl) cd_X11_draw [(0, .ref (w.2.2.2 + 0)), (1, .int v1)] rfl ?_
  rintro a rfl K
  unfold f_X11_draw
  refine z_iload_n K 1 rfl dX11_draw_0 ?_
  refine z_iconst K ci_1 dX11_draw_1 ?_
  refine z_icmp_lt K (tgt := 11) dX11_draw_2 (by decide) ?_ ?_
  · refine z_iconst K ci_m1 dX11_draw_11 ?_
    exact z_iret K dX11_draw_12
  · refine z_iload_n K 1 rfl dX11_draw_5 ?_
    refine z_bipush K cb_60 dX11_draw_6 ?_
    refine z_icmp_le K (tgt := 13) dX11_draw_8 (by decide) ?_ ?_
    · refine z_iconst K ci_0 dX11_draw_13 ?_
      refine z_istore_n K (lv' := [(2, .int (0 : Int32)), (0, .ref (a.1.2.2.2 + 0)), (1, .int v1)]) dX11_draw_14 rfl (Nat.le_of_ble_eq_true rfl) rfl ?_
      refine z_iconst K ci_0 dX11_draw_15 ?_
      refine z_istore_n K (lv' := [(3, .int (0 : Int32)), (2, .int (0 : Int32)), (0, .ref (a.1.2.2.2 + 0)), (1, .int v1)]) dX11_draw_16 rfl (Nat.le_of_ble_eq_true rfl) rfl ?_
      refine z_sub [2, 3, 1, 0] rfl ?_
      refine t_X11_draw_L17 F K hd v1 (fun y16 s15 => ?_) F (0 : Int32) (0 : Int32) s
      refine z_iload_n K 0 rfl dX11_draw_108 ?_
      exact z_iret K dX11_draw_109
    · refine z_iconst K ci_m1 dX11_draw_11 ?_
      exact z_iret K dX11_draw_12
def f_X11_keep_L44 (F : Nat) (k75 : Int32 → zM → Option (Int32 × zM)) : Nat → Int32 → Int32 → zM → Option (Int32 × zM)
  | 0, _, _, _ => none
  | n + 1, v1, v2, s =>
    bnd (f_X0_number s) (fun r9 s8 =>
    if v2 < r9 then
      bnd (f_X0_sits v2 s8) (fun r11 s10 =>
      if r11 = 0 then
        lt (v2 + (1 : Int32)) (fun y12 =>
        f_X11_keep_L44 F k75 n v1 y12 s10)
      else
        lt (v1 + (1 : Int32)) (fun y13 =>
        lt (v2 + (1 : Int32)) (fun y14 =>
        f_X11_keep_L44 F k75 n y13 y14 s10)))
    else
      k75 v1 s8)
set_option maxRecDepth 100000 in
set_option maxHeartbeats 4000000 in
theorem t_X11_keep_L44 {a : zA} {d : Nat} (F : Nat) (K : zOK a cX11_keep 3 RX11 (some .int) d) (hd : 3 ≤ d) {k75 : Int32 → zM → Option (Int32 × zM)} (h75 : ∀ (v1 : Int32) (s : zM), zJ a 3 (zG a zφN zri) zφN 75 [(1, .int v1)] [] s (k75 v1 s)) : ∀ (n : Nat) (v1 : Int32) (v2 : Int32) (s : zM), zJ a 3 (zG a zφN zri) zφN 44 [(0, .ref (a.1.2.2.2 + 0)), (1, .int v1), (2, .int v2)] [] s (f_X11_keep_L44 F k75 n v1 v2 s) := by
  intro n
  induction n with
  | zero => intros; exact z_none
  | succ n ih =>
    intro v1 v2 s
    rw [f_X11_keep_L44]
    refine z_iload_n K 2 rfl dX11_keep_44 ?_
    refine z_aload_n K 0 rfl dX11_keep_45 ?_
    refine z_getr K fd_X11_24 ob_0_1 dX11_keep_46 ?_
    refine z_cVi (As := []) (rest := [.int v2]) K (t_X0_number a.1 (d - 1) (by omega) s) mf_X0_number ml_X11_273 (Nat.le_of_ble_eq_true rfl) (by omega) rfl rc_3 rfl (Nat.le_of_ble_eq_true rfl) dX11_keep_49 (fun r9 s8 => ?_)
    refine z_icmp_ge K (tgt := 75) dX11_keep_52 (by decide) ?_ ?_
    · refine z_sub [1] rfl ?_
      exact h75 v1 s8
    · refine z_aload_n K 0 rfl dX11_keep_55 ?_
      refine z_getr K fd_X11_24 ob_0_1 dX11_keep_56 ?_
      refine z_iload_n K 2 rfl dX11_keep_59 ?_
      refine z_cVi (As := [.int v2]) (rest := []) K (t_X0_sits a.1 (d - 1) (by omega) v2 s8) mf_X0_sits ml_X11_188 (Nat.le_of_ble_eq_true rfl) (by omega) rfl rc_3 rfl (Nat.le_of_ble_eq_true rfl) dX11_keep_60 (fun r11 s10 => ?_)
      refine z_if_eq K (tgt := 69) dX11_keep_63 (by decide) ?_ ?_
      · refine z_iincN K (j := 2) (lv' := [(0, .ref (a.1.2.2.2 + 0)), (1, .int v1)]) ci_1 rfl dX11_keep_69 (Nat.le_of_ble_eq_true rfl) rfl (fun y12 => ?_)
        refine z_goto K (tgt := 44) dX11_keep_72 (by decide) ?_
        refine z_sub [1, 2, 0] rfl ?_
        exact ih v1 y12 s10
      · refine z_iincN K (j := 1) (lv' := [(0, .ref (a.1.2.2.2 + 0)), (2, .int v2)]) ci_1 rfl dX11_keep_66 (Nat.le_of_ble_eq_true rfl) rfl (fun y13 => ?_)
        refine z_iincN K (j := 2) (lv' := [(1, .int y13), (0, .ref (a.1.2.2.2 + 0))]) ci_1 rfl dX11_keep_69 (Nat.le_of_ble_eq_true rfl) rfl (fun y14 => ?_)
        refine z_goto K (tgt := 44) dX11_keep_72 (by decide) ?_
        refine z_sub [2, 1, 0] rfl ?_
        exact ih y13 y14 s10
def f_X11_keep (F : Nat) (s : zM) : Option (Int32 × zM) :=
  bnd (f_X0_number s) (fun r2 s1 =>
  lt (zs s1 0 11 r2) (fun s3 =>
  lt (zs s3 0 10 (zg s3 0 9)) (fun s4 =>
  bnd (f_X0_store F s4) (fun _ s5 =>
  bnd (f_X2_store s5) (fun _ s6 =>
  bnd (f_X7_store s6) (fun _ s7 =>
  f_X11_keep_L44 F (fun y16 s15 =>
    some (y16, s15)) F (0 : Int32) (0 : Int32) s7))))))
set_option maxRecDepth 100000 in
set_option maxHeartbeats 4000000 in
theorem t_X11_keep (w : zWd) (F : Nat) (d : Nat) (hd : 3 ≤ d) (s : zM) : zMt w yX11_keep cX11_keep 3 (some .int) d zφN zφN zri [.ref (w.2.2.2 + 0)] s (f_X11_keep F s) := by
  refine zMtN_of (own := RX11) rfl (by decide +kernel) (Nat.le_of_ble_eq_true rfl) cd_X11_keep [(0, .ref (w.2.2.2 + 0))] rfl ?_
  rintro a rfl K
  unfold f_X11_keep
  refine z_aload_n K 0 rfl dX11_keep_0 ?_
  refine z_aload_n K 0 rfl dX11_keep_1 ?_
  refine z_getr K fd_X11_24 ob_0_1 dX11_keep_2 ?_
  refine z_cVi (As := []) (rest := [.ref (a.1.2.2.2 + 0)]) K (t_X0_number a.1 (d - 1) (by omega) s) mf_X0_number ml_X11_273 (Nat.le_of_ble_eq_true rfl) (by omega) rfl rc_3 rfl (Nat.le_of_ble_eq_true rfl) dX11_keep_5 (fun r2 s1 => ?_)
  refine z_puti K fw_X11_85 ob_0_11 dX11_keep_8 ?_
  refine z_ltm (fun s3 => ?_)
  refine z_aload_n K 0 rfl dX11_keep_11 ?_
  refine z_aload_n K 0 rfl dX11_keep_12 ?_
  refine z_geti K fd_X11_78 ob_0_9 dX11_keep_13 ?_
  refine z_puti K fw_X11_82 ob_0_10 dX11_keep_16 ?_
  refine z_ltm (fun s4 => ?_)
  refine z_aload_n K 0 rfl dX11_keep_19 ?_
  refine z_getr K fd_X11_24 ob_0_1 dX11_keep_20 ?_
  refine z_cVv (As := []) (rest := []) K (t_X0_store a.1 F (d - 1) (by omega) s4) mf_X0_store ml_X11_344 (Nat.le_of_ble_eq_true rfl) (by omega) rfl rc_3 rfl (Nat.le_of_ble_eq_true rfl) dX11_keep_23 (fun _ s5 => ?_)
  refine z_aload_n K 0 rfl dX11_keep_26 ?_
  refine z_getr K fd_X11_67 ob_0_7 dX11_keep_27 ?_
  refine z_cVv (As := []) (rest := []) K (t_X2_store a.1 (d - 1) (by omega) s5) mf_X2_store ml_X11_347 (Nat.le_of_ble_eq_true rfl) (by omega) rfl rc_51 rfl (Nat.le_of_ble_eq_true rfl) dX11_keep_30 (fun _ s6 => ?_)
  refine z_aload_n K 0 rfl dX11_keep_33 ?_
  refine z_getr K fd_X11_74 ob_0_8 dX11_keep_34 ?_
  refine z_cVv (As := []) (rest := []) K (t_X7_store a.1 (d - 1) (by omega) s6) mf_X7_store ml_X11_348 (Nat.le_of_ble_eq_true rfl) (by omega) rfl rc_60 rfl (Nat.le_of_ble_eq_true rfl) dX11_keep_37 (fun _ s7 => ?_)
  refine z_iconst K ci_0 dX11_keep_40 ?_
  refine z_istore_n K (lv' := [(1, .int (0 : Int32)), (0, .ref (a.1.2.2.2 + 0))]) dX11_keep_41 rfl (Nat.le_of_ble_eq_true rfl) rfl ?_
  refine z_iconst K ci_0 dX11_keep_42 ?_
  refine z_istore_n K (lv' := [(2, .int (0 : Int32)), (1, .int (0 : Int32)), (0, .ref (a.1.2.2.2 + 0))]) dX11_keep_43 rfl (Nat.le_of_ble_eq_true rfl) rfl ?_
  refine z_sub [2, 1, 0] rfl ?_
  refine t_X11_keep_L44 F K hd (fun y16 s15 => ?_) F (0 : Int32) (0 : Int32) s7
  refine z_iload_n K 0 rfl dX11_keep_75 ?_
  exact z_iret K dX11_keep_76
def f_X11_undo (F : Nat) (s : zM) : Option (Int32 × zM) :=
  bnd (f_X0_number s) (fun r2 s1 =>
  if (zg s 0 11) = r2 then
    lt (zs s1 0 9 (zg s1 0 10)) (fun s3 =>
    bnd (f_X0_restore F s3) (fun _ s4 =>
    bnd (f_X2_restore s4) (fun _ s5 =>
    bnd (f_X7_restore s5) (fun _ s6 =>
    some ((1 : Int32), s6)))))
  else
    some ((0 : Int32), s1))
set_option maxRecDepth 100000 in
set_option maxHeartbeats 4000000 in
theorem t_X11_undo (w : zWd) (F : Nat) (d : Nat) (hd : 3 ≤ d) (s : zM) : zMt w yX11_undo cX11_undo 1 (some .boolean) d zφN zφN zri [.ref (w.2.2.2 + 0)] s (f_X11_undo F s) := by
  refine zMtN_of (own := RX11) rfl (by decide +kernel) (Nat.le_of_ble_eq_true rfl) cd_X11_undo [(0, .ref (w.2.2.2 + 0))] rfl ?_
  rintro a rfl K
  unfold f_X11_undo
  refine z_aload_n K 0 rfl dX11_undo_0 ?_
  refine z_geti K fd_X11_85 ob_0_11 dX11_undo_1 ?_
  refine z_aload_n K 0 rfl dX11_undo_4 ?_
  refine z_getr K fd_X11_24 ob_0_1 dX11_undo_5 ?_
  refine z_cVi (As := []) (rest := [.int (zg s 0 11)]) K (t_X0_number a.1 (d - 1) (by omega) s) mf_X0_number ml_X11_273 (Nat.le_of_ble_eq_true rfl) (by omega) rfl rc_3 rfl (Nat.le_of_ble_eq_true rfl) dX11_undo_8 (fun r2 s1 => ?_)
  refine z_icmp_eq K (tgt := 16) dX11_undo_11 (by decide) ?_ ?_
  · refine z_aload_n K 0 rfl dX11_undo_16 ?_
    refine z_aload_n K 0 rfl dX11_undo_17 ?_
    refine z_geti K fd_X11_82 ob_0_10 dX11_undo_18 ?_
    refine z_puti K fw_X11_78 ob_0_9 dX11_undo_21 ?_
    refine z_ltm (fun s3 => ?_)
    refine z_aload_n K 0 rfl dX11_undo_24 ?_
    refine z_getr K fd_X11_24 ob_0_1 dX11_undo_25 ?_
    refine z_cVv (As := []) (rest := []) K (t_X0_restore a.1 F (d - 1) (by omega) s3) mf_X0_restore ml_X11_349 (Nat.le_of_ble_eq_true rfl) (by omega) rfl rc_3 rfl (Nat.le_of_ble_eq_true rfl) dX11_undo_28 (fun _ s4 => ?_)
    refine z_aload_n K 0 rfl dX11_undo_31 ?_
    refine z_getr K fd_X11_67 ob_0_7 dX11_undo_32 ?_
    refine z_cVv (As := []) (rest := []) K (t_X2_restore a.1 (d - 1) (by omega) s4) mf_X2_restore ml_X11_352 (Nat.le_of_ble_eq_true rfl) (by omega) rfl rc_51 rfl (Nat.le_of_ble_eq_true rfl) dX11_undo_35 (fun _ s5 => ?_)
    refine z_aload_n K 0 rfl dX11_undo_38 ?_
    refine z_getr K fd_X11_74 ob_0_8 dX11_undo_39 ?_
    refine z_cVv (As := []) (rest := []) K (t_X7_restore a.1 (d - 1) (by omega) s5) mf_X7_restore ml_X11_353 (Nat.le_of_ble_eq_true rfl) (by omega) rfl rc_60 rfl (Nat.le_of_ble_eq_true rfl) dX11_undo_42 (fun _ s6 => ?_)
    refine z_iconst K ci_1 dX11_undo_45 ?_
    exact z_zret (Or.inr rfl) K dX11_undo_46
  · refine z_iconst K ci_0 dX11_undo_14 ?_
    exact z_zret (Or.inl rfl) K dX11_undo_15
def f_X11_check_L37 (F : Nat) (k73 : Int32 → zM → Option (Int32 × zM)) (v1 : Int32) (v2 : Int32) : Nat → Int32 → zM → Option (Int32 × zM)
  | 0, _, _ => none
  | n + 1, v3, s =>
    if v3 < v2 then
      bnd (f_X10_numberAt F ((4 : Int32) * v3) s) (fun r4 s3 =>
      bnd (f_X0_at (((2 : Int32) * v3) + v1) s3) (fun r6 s5 =>
      if r4 = r6 then
        lt (v3 + (1 : Int32)) (fun y7 =>
        f_X11_check_L37 F k73 v1 v2 n y7 s5)
      else
        k73 v3 s5))
    else
      k73 v3 s
set_option maxRecDepth 100000 in
set_option maxHeartbeats 4000000 in
theorem t_X11_check_L37 {a : zA} {d : Nat} (F : Nat) (K : zOK a cX11_check 4 RX11 (some .int) d) (hd : 2 ≤ d) {k73 : Int32 → zM → Option (Int32 × zM)} (v1 : Int32) (v2 : Int32) (h73 : ∀ (v3 : Int32) (s : zM), zJ a 4 (zG a zφN zri) zφN 73 [(0, .ref (a.1.2.2.2 + 0)), (2, .int v2), (3, .int v3)] [] s (k73 v3 s)) : ∀ (n : Nat) (v3 : Int32) (s : zM), zJ a 4 (zG a zφN zri) zφN 37 [(0, .ref (a.1.2.2.2 + 0)), (1, .int v1), (2, .int v2), (3, .int v3)] [] s (f_X11_check_L37 F k73 v1 v2 n v3 s) := by
  intro n
  induction n with
  | zero => intros; exact z_none
  | succ n ih =>
    intro v3 s
    rw [f_X11_check_L37]
    refine z_iload_n K 3 rfl dX11_check_37 ?_
    refine z_iload_n K 2 rfl dX11_check_38 ?_
    refine z_icmp_ge K (tgt := 73) dX11_check_39 (by decide) ?_ ?_
    · refine z_sub [0, 2, 3] rfl ?_
      exact h73 v3 s
    · refine z_aload_n K 0 rfl dX11_check_42 ?_
      refine z_getr K fd_X11_18 ob_0_0 dX11_check_43 ?_
      refine z_iconst K ci_4 dX11_check_46 ?_
      refine z_iload_n K 3 rfl dX11_check_47 ?_
      refine z_imul K dX11_check_48 ?_
      refine z_cVi (As := [.int ((4 : Int32) * v3)]) (rest := []) K (t_X10_numberAt a.1 F (d - 1) (by omega) ((4 : Int32) * v3) s) mf_X10_numberAt ml_X11_354 (Nat.le_of_ble_eq_true rfl) (by omega) rfl rc_1 rfl (Nat.le_of_ble_eq_true rfl) dX11_check_49 (fun r4 s3 => ?_)
      refine z_aload_n K 0 rfl dX11_check_52 ?_
      refine z_getr K fd_X11_24 ob_0_1 dX11_check_53 ?_
      refine z_iconst K ci_2 dX11_check_56 ?_
      refine z_iload_n K 3 rfl dX11_check_57 ?_
      refine z_imul K dX11_check_58 ?_
      refine z_iload_n K 1 rfl dX11_check_59 ?_
      refine z_iadd K dX11_check_60 ?_
      refine z_cVi (As := [.int (((2 : Int32) * v3) + v1)]) (rest := [.int r4]) K (t_X0_at a.1 (d - 1) (by omega) (((2 : Int32) * v3) + v1) s3) mf_X0_at ml_X11_98 (Nat.le_of_ble_eq_true rfl) (by omega) rfl rc_3 rfl (Nat.le_of_ble_eq_true rfl) dX11_check_61 (fun r6 s5 => ?_)
      refine z_icmp_ne K (tgt := 73) dX11_check_64 (by decide) ?_ ?_
      · refine z_sub [0, 2, 3] rfl ?_
        exact h73 v3 s5
      · refine z_iincN K (j := 3) (lv' := [(0, .ref (a.1.2.2.2 + 0)), (1, .int v1), (2, .int v2)]) ci_1 rfl dX11_check_67 (Nat.le_of_ble_eq_true rfl) rfl (fun y7 => ?_)
        refine z_goto K (tgt := 37) dX11_check_70 (by decide) ?_
        refine z_sub [1, 2, 3, 0] rfl ?_
        exact ih y7 s5
def f_X11_check_j73 (F : Nat) (v2 : Int32) (v3 : Int32) (s : zM) : Option (Int32 × zM) :=
  bnd (f_X10_clear s) (fun _ s10 =>
  if v3 = v2 then
    some ((-1 : Int32), s10)
  else
    some (v3, s10))
set_option maxRecDepth 100000 in
set_option maxHeartbeats 4000000 in
theorem t_X11_check_j73 {a : zA} {d : Nat} (F : Nat) (K : zOK a cX11_check 4 RX11 (some .int) d) (hd : 2 ≤ d) (v2 : Int32) (v3 : Int32) (s : zM) : zJ a 4 (zG a zφN zri) zφN 73 [(0, .ref (a.1.2.2.2 + 0)), (2, .int v2), (3, .int v3)] [] s (f_X11_check_j73 F v2 v3 s) := by
  unfold f_X11_check_j73
  refine z_aload_n K 0 rfl dX11_check_73 ?_
  refine z_getr K fd_X11_18 ob_0_0 dX11_check_74 ?_
  refine z_cVv (As := []) (rest := []) K (t_X10_clear a.1 (d - 1) (by omega) s) mf_X10_clear ml_X11_139 (Nat.le_of_ble_eq_true rfl) (by omega) rfl rc_1 rfl (Nat.le_of_ble_eq_true rfl) dX11_check_77 (fun _ s10 => ?_)
  refine z_iload_n K 2 rfl dX11_check_80 ?_
  refine z_iload_n K 1 rfl dX11_check_81 ?_
  refine z_icmp_ne K (tgt := 89) dX11_check_82 (by decide) ?_ ?_
  · refine z_iload_n K 2 rfl dX11_check_89 ?_
    exact z_iret K dX11_check_90
  · refine z_iconst K ci_m1 dX11_check_85 ?_
    refine z_goto K (tgt := 90) dX11_check_86 (by decide) ?_
    exact z_iret K dX11_check_90
def f_X11_check (F : Nat) (v1 : Int32) (v2 : Int32) (s : zM) : Option (Int32 × zM) :=
  if v1 < 0 then
    some ((-2 : Int32), s)
  else
    if (1 : Int32) < v1 then
      some ((-2 : Int32), s)
    else
      if v2 < 0 then
        some ((-2 : Int32), s)
      else
        if (20 : Int32) < v2 then
          some ((-2 : Int32), s)
        else
          bnd (f_X10_length s) (fun r2 s1 =>
          if r2 < ((4 : Int32) * v2) then
            some ((-2 : Int32), s1)
          else
            f_X11_check_L37 F (fun y9 s8 =>
              f_X11_check_j73 F v2 y9 s8) v1 v2 F (0 : Int32) s1)
set_option maxRecDepth 100000 in
set_option maxHeartbeats 4000000 in
theorem t_X11_check (w : zWd) (F : Nat) (d : Nat) (hd : 2 ≤ d) (v1 : Int32) (v2 : Int32) (s : zM) : zMt w yX11_check cX11_check 4 (some .int) d zφN zφN zri [.ref (w.2.2.2 + 0), .int v1, .int v2] s (f_X11_check F v1 v2 s) := by
  refine zMtN_of (own := RX11) rfl (by decide +kernel) (Nat.le_of_ble_eq_true rfl) cd_X11_check [(0, .ref (w.2.2.2 + 0)), (1, .int v1), (2, .int v2)] rfl ?_
  rintro a rfl K
  unfold f_X11_check
  refine z_iload_n K 1 rfl dX11_check_0 ?_
  refine z_if_lt K (tgt := 32) dX11_check_1 (by decide) ?_ ?_
  · refine z_bipush K cb_m2 dX11_check_32 ?_
    exact z_iret K dX11_check_34
  · refine z_iload_n K 1 rfl dX11_check_4 ?_
    refine z_iconst K ci_1 dX11_check_5 ?_
    refine z_icmp_gt K (tgt := 32) dX11_check_6 (by decide) ?_ ?_
    · refine z_bipush K cb_m2 dX11_check_32 ?_
      exact z_iret K dX11_check_34
    · refine z_iload_n K 2 rfl dX11_check_9 ?_
      refine z_if_lt K (tgt := 32) dX11_check_10 (by decide) ?_ ?_
      · refine z_bipush K cb_m2 dX11_check_32 ?_
        exact z_iret K dX11_check_34
      · refine z_iload_n K 2 rfl dX11_check_13 ?_
        refine z_bipush K cb_20 dX11_check_14 ?_
        refine z_icmp_gt K (tgt := 32) dX11_check_16 (by decide) ?_ ?_
        · refine z_bipush K cb_m2 dX11_check_32 ?_
          exact z_iret K dX11_check_34
        · refine z_iconst K ci_4 dX11_check_19 ?_
          refine z_iload_n K 2 rfl dX11_check_20 ?_
          refine z_imul K dX11_check_21 ?_
          refine z_aload_n K 0 rfl dX11_check_22 ?_
          refine z_getr K fd_X11_18 ob_0_0 dX11_check_23 ?_
          refine z_cVi (As := []) (rest := [.int ((4 : Int32) * v2)]) K (t_X10_length a.1 (d - 1) (by omega) s) mf_X10_length ml_X11_130 (Nat.le_of_ble_eq_true rfl) (by omega) rfl rc_1 rfl (Nat.le_of_ble_eq_true rfl) dX11_check_26 (fun r2 s1 => ?_)
          refine z_icmp_le K (tgt := 35) dX11_check_29 (by decide) ?_ ?_
          · refine z_iconst K ci_0 dX11_check_35 ?_
            refine z_istore_n K (lv' := [(3, .int (0 : Int32)), (0, .ref (a.1.2.2.2 + 0)), (1, .int v1), (2, .int v2)]) dX11_check_36 rfl (Nat.le_of_ble_eq_true rfl) rfl ?_
            refine z_sub [1, 2, 3, 0] rfl ?_
            refine t_X11_check_L37 F K hd v1 v2 (fun y9 s8 => ?_) F (0 : Int32) s1
            exact t_X11_check_j73 F K hd v2 y9 s8
          · refine z_bipush K cb_m2 dX11_check_32 ?_
            exact z_iret K dX11_check_34
def f_X11_count (v1 : Int32) (s : zM) : Option (Int32 × zM) :=
  if v1 < (40 : Int32) then
    if v1 < (20 : Int32) then
      if v1 = (0 : Int32) then
        bnd (f_X0_number s) (fun r15 s14 =>
        some (r15, s14))
      else
        if v1 = (1 : Int32) then
          bnd (f_X1_inForce s) (fun r10 s9 =>
          if zLw r10 = true then
            bnd (f_X3_number (r10) s9) (fun r13 s12 =>
            some (r13, s12))
          else none)
        else
          if v1 = (2 : Int32) then
            bnd (f_X10_length s) (fun r8 s7 =>
            some (r8, s7))
          else
            if v1 = (3 : Int32) then
              bnd (f_X5_rains s) (fun r6 s5 =>
              some (r6, s5))
            else
              if v1 = (4 : Int32) then
                bnd (f_X5_speeches s) (fun r4 s3 =>
                some (r4, s3))
              else
                if v1 = (5 : Int32) then
                  bnd (f_X2_counts s) (fun r2 s1 =>
                  some (r2, s1))
                else
                  if v1 = (6 : Int32) then
                    some ((zg s 0 9), s)
                  else
                    some ((-1 : Int32), s)
    else
      lt ((v1 - (20 : Int32))) (fun y16 =>
      bnd (f_X0_knows y16 s) (fun r18 s17 =>
      if r18 = 0 then
        bnd (f_X0_seatOf y16 s17) (fun r20 s19 =>
        some (r20, s19))
      else
        bnd (f_X0_lives y16 s17) (fun r22 s21 =>
        if r22 = 0 then
          some ((-2 : Int32), s21)
        else
          bnd (f_X0_seatOf y16 s21) (fun r24 s23 =>
          some (r24, s23)))))
  else
    bnd (f_X8_isSeat (v1 - (40 : Int32)) s) (fun r26 s25 =>
    if r26 = 0 then
      some ((-1 : Int32), s25)
    else
      bnd (f_X2_at (v1 - (40 : Int32)) s25) (fun r28 s27 =>
      some (r28, s27)))
set_option maxRecDepth 100000 in
set_option maxHeartbeats 4000000 in
theorem t_X11_count (w : zWd) (d : Nat) (hd : 2 ≤ d) (v1 : Int32) (s : zM) : zMt w yX11_count cX11_count 3 (some .int) d zφN zφN zri [.ref (w.2.2.2 + 0), .int v1] s (f_X11_count v1 s) := by
  refine zMtN_of (own := RX11) rfl (by decide +kernel) (Nat.le_of_ble_eq_true rfl) cd_X11_count [(0, .ref (w.2.2.2 + 0)), (1, .int v1)] rfl ?_
  rintro a rfl K
  unfold f_X11_count
  refine z_iload_n K 1 rfl dX11_count_0 ?_
  refine z_bipush K cb_40 dX11_count_1 ?_
  refine z_icmp_lt K (tgt := 32) dX11_count_3 (by decide) ?_ ?_
  · refine z_iload_n K 1 rfl dX11_count_32 ?_
    refine z_bipush K cb_20 dX11_count_33 ?_
    refine z_icmp_lt K (tgt := 79) dX11_count_35 (by decide) ?_ ?_
    · refine z_iload_n K 1 rfl dX11_count_79 ?_
      refine z_ite (fun hs0 => ?_) (fun hs0 => ?_)
      · refine z_tswIn K (tgt := 124) (off := 44) dX11_count_80 (by rw [hs0]; decide) (by rw [hs0]; decide) (by rw [hs0]; rfl) (by decide) ?_
        refine z_aload_n K 0 rfl dX11_count_124 ?_
        refine z_getr K fd_X11_24 ob_0_1 dX11_count_125 ?_
        refine z_cVi (As := []) (rest := []) K (t_X0_number a.1 (d - 1) (by omega) s) mf_X0_number ml_X11_273 (Nat.le_of_ble_eq_true rfl) (by omega) rfl rc_3 rfl (Nat.le_of_ble_eq_true rfl) dX11_count_128 (fun r15 s14 => ?_)
        exact z_iret K dX11_count_131
      · refine z_ite (fun hs1 => ?_) (fun hs1 => ?_)
        · refine z_tswIn K (tgt := 132) (off := 52) dX11_count_80 (by rw [hs1]; decide) (by rw [hs1]; decide) (by rw [hs1]; rfl) (by decide) ?_
          refine z_aload_n K 0 rfl dX11_count_132 ?_
          refine z_getr K fd_X11_37 ob_0_3 dX11_count_133 ?_
          refine z_cVr (As := []) (rest := []) K (t_X1_inForce a.1 (d - 1) (by omega) s) mf_X1_inForce ml_X11_142 (Nat.le_of_ble_eq_true rfl) (by omega) rfl rc_12 rfl (Nat.le_of_ble_eq_true rfl) dX11_count_136 (fun r10 s9 => ?_)
          refine z_ite (fun hl11 => ?_) (fun _ => z_none)
          refine z_cVi (As := []) (rest := []) K (t_X3_number a.1 (d - 1) (by omega) (r10) hl11 s9) mf_X3_number ml_X11_358 (Nat.le_of_ble_eq_true rfl) (by omega) rfl (rcL hl11) rfl (Nat.le_of_ble_eq_true rfl) dX11_count_139 (fun r13 s12 => ?_)
          exact z_iret K dX11_count_142
        · refine z_ite (fun hs2 => ?_) (fun hs2 => ?_)
          · refine z_tswIn K (tgt := 143) (off := 63) dX11_count_80 (by rw [hs2]; decide) (by rw [hs2]; decide) (by rw [hs2]; rfl) (by decide) ?_
            refine z_aload_n K 0 rfl dX11_count_143 ?_
            refine z_getr K fd_X11_18 ob_0_0 dX11_count_144 ?_
            refine z_cVi (As := []) (rest := []) K (t_X10_length a.1 (d - 1) (by omega) s) mf_X10_length ml_X11_130 (Nat.le_of_ble_eq_true rfl) (by omega) rfl rc_1 rfl (Nat.le_of_ble_eq_true rfl) dX11_count_147 (fun r8 s7 => ?_)
            exact z_iret K dX11_count_150
          · refine z_ite (fun hs3 => ?_) (fun hs3 => ?_)
            · refine z_tswIn K (tgt := 151) (off := 71) dX11_count_80 (by rw [hs3]; decide) (by rw [hs3]; decide) (by rw [hs3]; rfl) (by decide) ?_
              refine z_aload_n K 0 rfl dX11_count_151 ?_
              refine z_getr K fd_X11_46 ob_0_4 dX11_count_152 ?_
              refine z_cVi (As := []) (rest := []) K (t_X5_rains a.1 (d - 1) (by omega) s) mf_X5_rains ml_X11_359 (Nat.le_of_ble_eq_true rfl) (by omega) rfl rc_33 rfl (Nat.le_of_ble_eq_true rfl) dX11_count_155 (fun r6 s5 => ?_)
              exact z_iret K dX11_count_158
            · refine z_ite (fun hs4 => ?_) (fun hs4 => ?_)
              · refine z_tswIn K (tgt := 159) (off := 79) dX11_count_80 (by rw [hs4]; decide) (by rw [hs4]; decide) (by rw [hs4]; rfl) (by decide) ?_
                refine z_aload_n K 0 rfl dX11_count_159 ?_
                refine z_getr K fd_X11_46 ob_0_4 dX11_count_160 ?_
                refine z_cVi (As := []) (rest := []) K (t_X5_speeches a.1 (d - 1) (by omega) s) mf_X5_speeches ml_X11_362 (Nat.le_of_ble_eq_true rfl) (by omega) rfl rc_33 rfl (Nat.le_of_ble_eq_true rfl) dX11_count_163 (fun r4 s3 => ?_)
                exact z_iret K dX11_count_166
              · refine z_ite (fun hs5 => ?_) (fun hs5 => ?_)
                · refine z_tswIn K (tgt := 167) (off := 87) dX11_count_80 (by rw [hs5]; decide) (by rw [hs5]; decide) (by rw [hs5]; rfl) (by decide) ?_
                  refine z_aload_n K 0 rfl dX11_count_167 ?_
                  refine z_getr K fd_X11_67 ob_0_7 dX11_count_168 ?_
                  refine z_cVi (As := []) (rest := []) K (t_X2_counts a.1 (d - 1) (by omega) s) mf_X2_counts ml_X11_365 (Nat.le_of_ble_eq_true rfl) (by omega) rfl rc_51 rfl (Nat.le_of_ble_eq_true rfl) dX11_count_171 (fun r2 s1 => ?_)
                  exact z_iret K dX11_count_174
                · refine z_ite (fun hs6 => ?_) (fun hs6 => ?_)
                  · refine z_tswIn K (tgt := 175) (off := 95) dX11_count_80 (by rw [hs6]; decide) (by rw [hs6]; decide) (by rw [hs6]; rfl) (by decide) ?_
                    refine z_aload_n K 0 rfl dX11_count_175 ?_
                    refine z_geti K fd_X11_78 ob_0_9 dX11_count_176 ?_
                    exact z_iret K dX11_count_179
                  · have hsw : v1.toInt < 0 ∨ 6 < v1.toInt := by
                      have q0 := lv_neT hs0 (a := 0) rfl
                      have q1 := lv_neT hs1 (a := 1) rfl
                      have q2 := lv_neT hs2 (a := 2) rfl
                      have q3 := lv_neT hs3 (a := 3) rfl
                      have q4 := lv_neT hs4 (a := 4) rfl
                      have q5 := lv_neT hs5 (a := 5) rfl
                      have q6 := lv_neT hs6 (a := 6) rfl
                      omega
                    refine z_tswOut K (tgt := 180) dX11_count_80 hsw (by decide) ?_
                    refine z_iconst K ci_m1 dX11_count_180 ?_
                    exact z_iret K dX11_count_181
    · refine z_iload_n K 1 rfl dX11_count_38 ?_
      refine z_bipush K cb_20 dX11_count_39 ?_
      refine z_isub K dX11_count_41 ?_
      refine z_topi (fun y16 => ?_)
      refine z_istore_n K (lv' := [(2, .int y16), (0, .ref (a.1.2.2.2 + 0)), (1, .int v1)]) dX11_count_42 rfl (Nat.le_of_ble_eq_true rfl) rfl ?_
      refine z_aload_n K 1 rfl dX11_count_43 ?_
      refine z_getr K fd_X11_24 ob_0_1 dX11_count_44 ?_
      refine z_iload_n K 0 rfl dX11_count_47 ?_
      refine z_cVi (As := [.int y16]) (rest := []) K (t_X0_knows a.1 (d - 1) (by omega) y16 s) mf_X0_knows ml_X11_169 (Nat.le_of_ble_eq_true rfl) (by omega) rfl rc_3 rfl (Nat.le_of_ble_eq_true rfl) dX11_count_48 (fun r18 s17 => ?_)
      refine z_if_eq K (tgt := 70) dX11_count_51 (by decide) ?_ ?_
      · refine z_aload_n K 1 rfl dX11_count_70 ?_
        refine z_getr K fd_X11_24 ob_0_1 dX11_count_71 ?_
        refine z_iload_n K 0 rfl dX11_count_74 ?_
        refine z_cVi (As := [.int y16]) (rest := []) K (t_X0_seatOf a.1 (d - 1) (by omega) y16 s17) mf_X0_seatOf ml_X11_154 (Nat.le_of_ble_eq_true rfl) (by omega) rfl rc_3 rfl (Nat.le_of_ble_eq_true rfl) dX11_count_75 (fun r20 s19 => ?_)
        exact z_iret K dX11_count_78
      · refine z_aload_n K 1 rfl dX11_count_54 ?_
        refine z_getr K fd_X11_24 ob_0_1 dX11_count_55 ?_
        refine z_iload_n K 0 rfl dX11_count_58 ?_
        refine z_cVi (As := [.int y16]) (rest := []) K (t_X0_lives a.1 (d - 1) (by omega) y16 s17) mf_X0_lives ml_X11_117 (Nat.le_of_ble_eq_true rfl) (by omega) rfl rc_3 rfl (Nat.le_of_ble_eq_true rfl) dX11_count_59 (fun r22 s21 => ?_)
        refine z_if_ne K (tgt := 70) dX11_count_62 (by decide) ?_ ?_
        · refine z_aload_n K 1 rfl dX11_count_70 ?_
          refine z_getr K fd_X11_24 ob_0_1 dX11_count_71 ?_
          refine z_iload_n K 0 rfl dX11_count_74 ?_
          refine z_cVi (As := [.int y16]) (rest := []) K (t_X0_seatOf a.1 (d - 1) (by omega) y16 s21) mf_X0_seatOf ml_X11_154 (Nat.le_of_ble_eq_true rfl) (by omega) rfl rc_3 rfl (Nat.le_of_ble_eq_true rfl) dX11_count_75 (fun r24 s23 => ?_)
          exact z_iret K dX11_count_78
        · refine z_bipush K cb_m2 dX11_count_65 ?_
          refine z_goto K (tgt := 78) dX11_count_67 (by decide) ?_
          exact z_iret K dX11_count_78
  · refine z_iload_n K 1 rfl dX11_count_6 ?_
    refine z_bipush K cb_40 dX11_count_7 ?_
    refine z_isub K dX11_count_9 ?_
    refine z_cSi (As := [.int (v1 - (40 : Int32))]) (rest := []) K (t_X8_isSeat a.1 (d - 1) (by omega) (v1 - (40 : Int32)) s) mf_X8_isSeat ml_X11_88 (Nat.le_of_ble_eq_true rfl) (by omega) rfl rfl (Nat.le_of_ble_eq_true rfl) dX11_count_10 (fun r26 s25 => ?_)
    refine z_if_eq K (tgt := 30) dX11_count_13 (by decide) ?_ ?_
    · refine z_iconst K ci_m1 dX11_count_30 ?_
      exact z_iret K dX11_count_31
    · refine z_aload_n K 0 rfl dX11_count_16 ?_
      refine z_getr K fd_X11_67 ob_0_7 dX11_count_17 ?_
      refine z_iload_n K 1 rfl dX11_count_20 ?_
      refine z_bipush K cb_40 dX11_count_21 ?_
      refine z_isub K dX11_count_23 ?_
      refine z_cVi (As := [.int (v1 - (40 : Int32))]) (rest := []) K (t_X2_at a.1 (d - 1) (by omega) (v1 - (40 : Int32)) s25) mf_X2_at ml_X11_357 (Nat.le_of_ble_eq_true rfl) (by omega) rfl rc_51 rfl (Nat.le_of_ble_eq_true rfl) dX11_count_24 (fun r28 s27 => ?_)
      refine z_goto K (tgt := 31) dX11_count_27 (by decide) ?_
      exact z_iret K dX11_count_31
