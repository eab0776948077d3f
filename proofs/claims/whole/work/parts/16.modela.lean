def f_X12_in (v0 : Int32) (v1 : Int32) (v2 : Int32) (s : zM) : Option (Int32 × zM) :=
  if v0 < v1 then
    some ((0 : Int32), s)
  else
    if v2 < v0 then
      some ((0 : Int32), s)
    else
      some ((1 : Int32), s)
set_option maxRecDepth 100000 in
set_option maxHeartbeats 4000000 in
theorem t_X12_in (w : zWd) (d : Nat) (hd : 0 ≤ d) (v0 : Int32) (v1 : Int32) (v2 : Int32) (s : zM) : zMt w yX12_in cX12_in 3 (some .boolean) d zφN zφN zri [.int v0, .int v1, .int v2] s (f_X12_in v0 v1 v2 s) := by
  refine zMtN_of (own := RX12) rfl (by decide +kernel) (Nat.le_of_ble_eq_true rfl) cd_X12_in [(0, .int v0), (1, .int v1), (2, .int v2)] rfl ?_
  rintro a rfl K
  unfold f_X12_in
  refine z_iload_n K 0 rfl dX12_in_0 ?_
  refine z_iload_n K 1 rfl dX12_in_1 ?_
  refine z_icmp_lt K (tgt := 14) dX12_in_2 (by decide) ?_ ?_
  · refine z_iconst K ci_0 dX12_in_14 ?_
    exact z_zret (Or.inl rfl) K dX12_in_15
  · refine z_iload_n K 0 rfl dX12_in_5 ?_
    refine z_iload_n K 2 rfl dX12_in_6 ?_
    refine z_icmp_gt K (tgt := 14) dX12_in_7 (by decide) ?_ ?_
    · refine z_iconst K ci_0 dX12_in_14 ?_
      exact z_zret (Or.inl rfl) K dX12_in_15
    · refine z_iconst K ci_1 dX12_in_10 ?_
      refine z_goto K (tgt := 15) dX12_in_11 (by decide) ?_
      exact z_zret (Or.inr rfl) K dX12_in_15
def f_X12_size (v0 : Int32) (s : zM) : Option (Int32 × zM) :=
  if v0 < 0 then
    some ((-v0), s)
  else
    some (v0, s)
set_option maxRecDepth 100000 in
set_option maxHeartbeats 4000000 in
theorem t_X12_size (w : zWd) (d : Nat) (hd : 0 ≤ d) (v0 : Int32) (s : zM) : zMt w yX12_size cX12_size 1 (some .int) d zφN zφN zri [.int v0] s (f_X12_size v0 s) := by
  refine zMtN_of (own := RX12) rfl (by decide +kernel) (Nat.le_of_ble_eq_true rfl) cd_X12_size [(0, .int v0)] rfl ?_
  rintro a rfl K
  unfold f_X12_size
  refine z_iload_n K 0 rfl dX12_size_0 ?_
  refine z_if_ge K (tgt := 9) dX12_size_1 (by decide) ?_ ?_
  · refine z_iload_n K 0 rfl dX12_size_9 ?_
    exact z_iret K dX12_size_10
  · refine z_iload_n K 0 rfl dX12_size_4 ?_
    refine z_ineg K dX12_size_5 ?_
    refine z_goto K (tgt := 10) dX12_size_6 (by decide) ?_
    exact z_iret K dX12_size_10
def f_X12_isSeat (v0 : Int32) (s : zM) : Option (Int32 × zM) :=
  if v0 < 0 then
    some ((0 : Int32), s)
  else
    if v0 < (40 : Int32) then
      some ((1 : Int32), s)
    else
      some ((0 : Int32), s)
set_option maxRecDepth 100000 in
set_option maxHeartbeats 4000000 in
theorem t_X12_isSeat (w : zWd) (d : Nat) (hd : 0 ≤ d) (v0 : Int32) (s : zM) : zMt w yX12_isSeat cX12_isSeat 1 (some .boolean) d zφN zφN zri [.int v0] s (f_X12_isSeat v0 s) := by
  refine zMtN_of (own := RX12) rfl (by decide +kernel) (Nat.le_of_ble_eq_true rfl) cd_X12_isSeat [(0, .int v0)] rfl ?_
  rintro a rfl K
  unfold f_X12_isSeat
  refine z_iload_n K 0 rfl dX12_isSeat_0 ?_
  refine z_if_lt K (tgt := 14) dX12_isSeat_1 (by decide) ?_ ?_
  · refine z_iconst K ci_0 dX12_isSeat_14 ?_
    exact z_zret (Or.inl rfl) K dX12_isSeat_15
  · refine z_iload_n K 0 rfl dX12_isSeat_4 ?_
    refine z_bipush K cb_40 dX12_isSeat_5 ?_
    refine z_icmp_ge K (tgt := 14) dX12_isSeat_7 (by decide) ?_ ?_
    · refine z_iconst K ci_0 dX12_isSeat_14 ?_
      exact z_zret (Or.inl rfl) K dX12_isSeat_15
    · refine z_iconst K ci_1 dX12_isSeat_10 ?_
      refine z_goto K (tgt := 15) dX12_isSeat_11 (by decide) ?_
      exact z_zret (Or.inr rfl) K dX12_isSeat_15
def f_X12_isGuest (v1 : Int32) (s : zM) : Option (Int32 × zM) :=
  if v1 < 0 then
    some ((0 : Int32), s)
  else
    if v1 < (zg s 69 0) then
      some ((1 : Int32), s)
    else
      some ((0 : Int32), s)
set_option maxRecDepth 100000 in
set_option maxHeartbeats 4000000 in
theorem t_X12_isGuest (w : zWd) (d : Nat) (hd : 0 ≤ d) (v1 : Int32) (s : zM) : zMt w yX12_isGuest cX12_isGuest 2 (some .boolean) d zφN zφN zri [.ref (w.2.2.2 + 69), .int v1] s (f_X12_isGuest v1 s) := by
  refine zMtN_of (own := RX12) rfl (by decide +kernel) (Nat.le_of_ble_eq_true rfl) cd_X12_isGuest [(0, .ref (w.2.2.2 + 69)), (1, .int v1)] rfl ?_
  rintro a rfl K
  unfold f_X12_isGuest
  refine z_iload_n K 1 rfl dX12_isGuest_0 ?_
  refine z_if_lt K (tgt := 16) dX12_isGuest_1 (by decide) ?_ ?_
  · refine z_iconst K ci_0 dX12_isGuest_16 ?_
    exact z_zret (Or.inl rfl) K dX12_isGuest_17
  · refine z_iload_n K 1 rfl dX12_isGuest_4 ?_
    refine z_aload_n K 0 rfl dX12_isGuest_5 ?_
    refine z_geti K fd_X12_168 ob_69_0 dX12_isGuest_6 ?_
    refine z_icmp_ge K (tgt := 16) dX12_isGuest_9 (by decide) ?_ ?_
    · refine z_iconst K ci_0 dX12_isGuest_16 ?_
      exact z_zret (Or.inl rfl) K dX12_isGuest_17
    · refine z_iconst K ci_1 dX12_isGuest_12 ?_
      refine z_goto K (tgt := 17) dX12_isGuest_13 (by decide) ?_
      exact z_zret (Or.inr rfl) K dX12_isGuest_17
def f_X12_sits (v1 : Int32) (s : zM) : Option (Int32 × zM) :=
  if zin v1 16 = true then
    if (zg s 71 (v1).toNatClampNeg) < 0 then
      some ((0 : Int32), s)
    else
      some ((1 : Int32), s)
  else none
set_option maxRecDepth 100000 in
set_option maxHeartbeats 4000000 in
theorem t_X12_sits (w : zWd) (d : Nat) (hd : 0 ≤ d) (v1 : Int32) (s : zM) : zMt w yX12_sits cX12_sits 2 (some .boolean) d zφN zφN zri [.ref (w.2.2.2 + 69), .int v1] s (f_X12_sits v1 s) := by
  refine zMtN_of (own := RX12) rfl (by decide +kernel) (Nat.le_of_ble_eq_true rfl) cd_X12_sits [(0, .ref (w.2.2.2 + 69)), (1, .int v1)] rfl ?_
  rintro a rfl K
  unfold f_X12_sits
  refine z_aload_n K 0 rfl dX12_sits_0 ?_
  refine z_getr K fd_X12_13 ob_69_3 dX12_sits_1 ?_
  refine z_iload_n K 1 rfl dX12_sits_4 ?_
  refine z_iald K ar_71 dX12_sits_5 ?_
  refine z_if_lt K (tgt := 13) dX12_sits_6 (by decide) ?_ ?_
  · refine z_iconst K ci_0 dX12_sits_13 ?_
    exact z_zret (Or.inl rfl) K dX12_sits_14
  · refine z_iconst K ci_1 dX12_sits_9 ?_
    refine z_goto K (tgt := 14) dX12_sits_10 (by decide) ?_
    exact z_zret (Or.inr rfl) K dX12_sits_14
def f_X12_guestAt_L2 (F : Nat) (k28 : zM → Option (Int32 × zM)) (v1 : Int32) : Nat → Int32 → zM → Option (Int32 × zM)
  | 0, _, _ => none
  | n + 1, v2, s =>
    if v2 < (zg s 69 0) then
      if zin v2 16 = true then
        if (zg s 71 (v2).toNatClampNeg) = v1 then
          some (v2, s)
        else
          lt (v2 + (1 : Int32)) (fun y1 =>
          f_X12_guestAt_L2 F k28 v1 n y1 s)
      else none
    else
      k28 s
set_option maxRecDepth 100000 in
set_option maxHeartbeats 4000000 in
theorem t_X12_guestAt_L2 {a : zA} {d : Nat} (F : Nat) (K : zOK a cX12_guestAt 3 RX12 (some .int) d) (hd : 0 ≤ d) {k28 : zM → Option (Int32 × zM)} (v1 : Int32) (h28 : ∀ (s : zM), zJ a 3 (zG a zφN zri) zφN 28 [] [] s (k28 s)) : ∀ (n : Nat) (v2 : Int32) (s : zM), zJ a 3 (zG a zφN zri) zφN 2 [(0, .ref (a.1.2.2.2 + 69)), (1, .int v1), (2, .int v2)] [] s (f_X12_guestAt_L2 F k28 v1 n v2 s) := by
  intro n
  induction n with
  | zero => intros; exact z_none
  | succ n ih =>
    intro v2 s
    rw [f_X12_guestAt_L2]
    refine z_iload_n K 2 rfl dX12_guestAt_2 ?_
    refine z_aload_n K 0 rfl dX12_guestAt_3 ?_
    refine z_geti K fd_X12_168 ob_69_0 dX12_guestAt_4 ?_
    refine z_icmp_ge K (tgt := 28) dX12_guestAt_7 (by decide) ?_ ?_
    · refine z_sub [] rfl ?_
      exact h28 s
    · refine z_aload_n K 0 rfl dX12_guestAt_10 ?_
      refine z_getr K fd_X12_13 ob_69_3 dX12_guestAt_11 ?_
      refine z_iload_n K 2 rfl dX12_guestAt_14 ?_
      refine z_iald K ar_71 dX12_guestAt_15 ?_
      refine z_iload_n K 1 rfl dX12_guestAt_16 ?_
      refine z_icmp_ne K (tgt := 22) dX12_guestAt_17 (by decide) ?_ ?_
      · refine z_iincN K (j := 2) (lv' := [(0, .ref (a.1.2.2.2 + 69)), (1, .int v1)]) ci_1 rfl dX12_guestAt_22 (Nat.le_of_ble_eq_true rfl) rfl (fun y1 => ?_)
        refine z_goto K (tgt := 2) dX12_guestAt_25 (by decide) ?_
        refine z_sub [1, 2, 0] rfl ?_
        exact ih y1 s
      · refine z_iload_n K 2 rfl dX12_guestAt_20 ?_
        exact z_iret K dX12_guestAt_21
def f_X12_guestAt (F : Nat) (v1 : Int32) (s : zM) : Option (Int32 × zM) :=
  f_X12_guestAt_L2 F (fun s2 =>
    some ((-1 : Int32), s2)) v1 F (0 : Int32) s
set_option maxRecDepth 100000 in
set_option maxHeartbeats 4000000 in
theorem t_X12_guestAt (w : zWd) (F : Nat) (d : Nat) (hd : 0 ≤ d) (v1 : Int32) (s : zM) : zMt w yX12_guestAt cX12_guestAt 3 (some .int) d zφN zφN zri [.ref (w.2.2.2 + 69), .int v1] s (f_X12_guestAt F v1 s) := by
  refine zMtN_of (own := RX12) rfl (by decide +kernel) (Nat.le_of_ble_eq_true rfl) cd_X12_guestAt [(0, .ref (w.2.2.2 + 69)), (1, .int v1)] rfl ?_
  rintro a rfl K
  unfold f_X12_guestAt
  refine z_iconst K ci_0 dX12_guestAt_0 ?_
  refine z_istore_n K (lv' := [(2, .int (0 : Int32)), (0, .ref (a.1.2.2.2 + 69)), (1, .int v1)]) dX12_guestAt_1 rfl (Nat.le_of_ble_eq_true rfl) rfl ?_
  refine z_sub [1, 2, 0] rfl ?_
  refine t_X12_guestAt_L2 F K hd v1 (fun s2 => ?_) F (0 : Int32) s
  refine z_iconst K ci_m1 dX12_guestAt_28 ?_
  exact z_iret K dX12_guestAt_29
def f_X12_guest_j49 (F : Nat) (v1 : Int32) (v2 : Int32) (s : zM) : Option (Int32 × zM) :=
  if zin (zg s 69 0) 16 = true then
    lt (zs s 70 ((zg s 69 0)).toNatClampNeg v1) (fun s3 =>
    if zin (zg s3 69 0) 16 = true then
      lt (zs s3 71 ((zg s3 69 0)).toNatClampNeg v2) (fun s4 =>
      lt (zs s4 69 0 ((zg s4 69 0) + (1 : Int32))) (fun s5 =>
      some (((zg s5 69 0) - (1 : Int32)), s5)))
    else none)
  else none
set_option maxRecDepth 100000 in
set_option maxHeartbeats 4000000 in
theorem t_X12_guest_j49 {a : zA} {d : Nat} (F : Nat) (K : zOK a cX12_guest 3 RX12 (some .int) d) (hd : 1 ≤ d) (v1 : Int32) (v2 : Int32) (s : zM) : zJ a 3 (zG a zφN zri) zφN 49 [(0, .ref (a.1.2.2.2 + 69)), (1, .int v1), (2, .int v2)] [] s (f_X12_guest_j49 F v1 v2 s) := by
  unfold f_X12_guest_j49
  refine z_aload_n K 0 rfl dX12_guest_49 ?_
  refine z_getr K fd_X12_7 ob_69_2 dX12_guest_50 ?_
  refine z_aload_n K 0 rfl dX12_guest_53 ?_
  refine z_geti K fd_X12_168 ob_69_0 dX12_guest_54 ?_
  refine z_iload_n K 1 rfl dX12_guest_57 ?_
  refine z_iast K ar_70 dX12_guest_58 ?_
  refine z_ltm (fun s3 => ?_)
  refine z_aload_n K 0 rfl dX12_guest_59 ?_
  refine z_getr K fd_X12_13 ob_69_3 dX12_guest_60 ?_
  refine z_aload_n K 0 rfl dX12_guest_63 ?_
  refine z_geti K fd_X12_168 ob_69_0 dX12_guest_64 ?_
  refine z_iload_n K 2 rfl dX12_guest_67 ?_
  refine z_iast K ar_71 dX12_guest_68 ?_
  refine z_ltm (fun s4 => ?_)
  refine z_aload_n K 0 rfl dX12_guest_69 ?_
  refine z_aload_n K 0 rfl dX12_guest_70 ?_
  refine z_geti K fd_X12_168 ob_69_0 dX12_guest_71 ?_
  refine z_iconst K ci_1 dX12_guest_74 ?_
  refine z_iadd K dX12_guest_75 ?_
  refine z_puti K fw_X12_168 ob_69_0 dX12_guest_76 ?_
  refine z_ltm (fun s5 => ?_)
  refine z_aload_n K 0 rfl dX12_guest_79 ?_
  refine z_geti K fd_X12_168 ob_69_0 dX12_guest_80 ?_
  refine z_iconst K ci_1 dX12_guest_83 ?_
  refine z_isub K dX12_guest_84 ?_
  exact z_iret K dX12_guest_85
def f_X12_guest_j21 (F : Nat) (v1 : Int32) (v2 : Int32) (s : zM) : Option (Int32 × zM) :=
  if (zg s 69 0) = (16 : Int32) then
    some ((-1 : Int32), s)
  else
    if v2 = (-1 : Int32) then
      f_X12_guest_j49 F v1 v2 s
    else
      bnd (f_X12_guestAt F v2 s) (fun r7 s6 =>
      if r7 = (-1 : Int32) then
        f_X12_guest_j49 F v1 v2 s6
      else
        some ((-2 : Int32), s6))
set_option maxRecDepth 100000 in
set_option maxHeartbeats 4000000 in
theorem t_X12_guest_j21 {a : zA} {d : Nat} (F : Nat) (K : zOK a cX12_guest 3 RX12 (some .int) d) (hd : 1 ≤ d) (v1 : Int32) (v2 : Int32) (s : zM) : zJ a 3 (zG a zφN zri) zφN 21 [(0, .ref (a.1.2.2.2 + 69)), (1, .int v1), (2, .int v2)] [] s (f_X12_guest_j21 F v1 v2 s) := by
  unfold f_X12_guest_j21
  refine z_aload_n K 0 rfl dX12_guest_21 ?_
  refine z_geti K fd_X12_168 ob_69_0 dX12_guest_22 ?_
  refine z_bipush K cb_16 dX12_guest_25 ?_
  refine z_icmp_ne K (tgt := 32) dX12_guest_27 (by decide) ?_ ?_
  · refine z_iload_n K 2 rfl dX12_guest_32 ?_
    refine z_iconst K ci_m1 dX12_guest_33 ?_
    refine z_icmp_eq K (tgt := 49) dX12_guest_34 (by decide) ?_ ?_
    · exact t_X12_guest_j49 F K hd v1 v2 s
    · refine z_aload_n K 0 rfl dX12_guest_37 ?_
      refine z_iload_n K 2 rfl dX12_guest_38 ?_
      refine z_cVi (As := [.int v2]) (rest := []) K (t_X12_guestAt a.1 F (d - 1) (by omega) v2 s) mf_X12_guestAt ml_X12_179 (Nat.le_of_ble_eq_true rfl) (by omega) rfl rc_69 rfl (Nat.le_of_ble_eq_true rfl) dX12_guest_39 (fun r7 s6 => ?_)
      refine z_iconst K ci_m1 dX12_guest_42 ?_
      refine z_icmp_eq K (tgt := 49) dX12_guest_43 (by decide) ?_ ?_
      · exact t_X12_guest_j49 F K hd v1 v2 s6
      · refine z_bipush K cb_m2 dX12_guest_46 ?_
        exact z_iret K dX12_guest_48
  · refine z_iconst K ci_m1 dX12_guest_30 ?_
    exact z_iret K dX12_guest_31
def f_X12_guest (F : Nat) (v1 : Int32) (v2 : Int32) (s : zM) : Option (Int32 × zM) :=
  bnd (f_X12_in v1 (0 : Int32) (1 : Int32) s) (fun r2 s1 =>
  if r2 = 0 then
    some ((-1 : Int32), s1)
  else
    if v2 = (-1 : Int32) then
      f_X12_guest_j21 F v1 v2 s1
    else
      bnd (f_X12_isSeat v2 s1) (fun r9 s8 =>
      if r9 = 0 then
        some ((-1 : Int32), s8)
      else
        f_X12_guest_j21 F v1 v2 s8))
set_option maxRecDepth 100000 in
set_option maxHeartbeats 4000000 in
theorem t_X12_guest (w : zWd) (F : Nat) (d : Nat) (hd : 1 ≤ d) (v1 : Int32) (v2 : Int32) (s : zM) : zMt w yX12_guest cX12_guest 3 (some .int) d zφN zφN zri [.ref (w.2.2.2 + 69), .int v1, .int v2] s (f_X12_guest F v1 v2 s) := by
  refine zMtN_of (own := RX12) rfl (by decide +kernel) (Nat.le_of_ble_eq_true rfl) cd_X12_guest [(0, .ref (w.2.2.2 + 69)), (1, .int v1), (2, .int v2)] rfl ?_
  rintro a rfl K
  unfold f_X12_guest
  refine z_iload_n K 1 rfl dX12_guest_0 ?_
  refine z_iconst K ci_0 dX12_guest_1 ?_
  refine z_iconst K ci_1 dX12_guest_2 ?_
  refine z_cSi (As := [.int v1, .int (0 : Int32), .int (1 : Int32)]) (rest := []) K (t_X12_in a.1 (d - 1) (by omega) v1 (0 : Int32) (1 : Int32) s) mf_X12_in ml_X12_171 (Nat.le_of_ble_eq_true rfl) (by omega) rfl rfl (Nat.le_of_ble_eq_true rfl) dX12_guest_3 (fun r2 s1 => ?_)
  refine z_if_eq K (tgt := 30) dX12_guest_6 (by decide) ?_ ?_
  · refine z_iconst K ci_m1 dX12_guest_30 ?_
    exact z_iret K dX12_guest_31
  · refine z_iload_n K 2 rfl dX12_guest_9 ?_
    refine z_iconst K ci_m1 dX12_guest_10 ?_
    refine z_icmp_eq K (tgt := 21) dX12_guest_11 (by decide) ?_ ?_
    · exact t_X12_guest_j21 F K hd v1 v2 s1
    · refine z_iload_n K 2 rfl dX12_guest_14 ?_
      refine z_cSi (As := [.int v2]) (rest := []) K (t_X12_isSeat a.1 (d - 1) (by omega) v2 s1) mf_X12_isSeat ml_X12_175 (Nat.le_of_ble_eq_true rfl) (by omega) rfl rfl (Nat.le_of_ble_eq_true rfl) dX12_guest_15 (fun r9 s8 => ?_)
      refine z_if_eq K (tgt := 30) dX12_guest_18 (by decide) ?_ ?_
      · refine z_iconst K ci_m1 dX12_guest_30 ?_
        exact z_iret K dX12_guest_31
      · exact t_X12_guest_j21 F K hd v1 v2 s8
def f_X12_liking (v1 : Int32) (v2 : Int32) (v3 : Int32) (s : zM) : Option (Int32 × zM) :=
  bnd (f_X12_isGuest v1 s) (fun r2 s1 =>
  if r2 = 0 then
    some ((0 : Int32), s1)
  else
    bnd (f_X12_isGuest v2 s1) (fun r4 s3 =>
    if r4 = 0 then
      some ((0 : Int32), s3)
    else
      if v1 = v2 then
        some ((0 : Int32), s3)
      else
        bnd (f_X12_in v3 (-9 : Int32) (9 : Int32) s3) (fun r6 s5 =>
        if r6 = 0 then
          some ((0 : Int32), s5)
        else
          if zin (((16 : Int32) * v1) + v2) 256 = true then
            lt (zs s5 72 ((((16 : Int32) * v1) + v2)).toNatClampNeg v3) (fun s7 =>
            some ((1 : Int32), s7))
          else none)))
set_option maxRecDepth 100000 in
set_option maxHeartbeats 4000000 in
theorem t_X12_liking (w : zWd) (d : Nat) (hd : 1 ≤ d) (v1 : Int32) (v2 : Int32) (v3 : Int32) (s : zM) : zMt w yX12_liking cX12_liking 4 (some .boolean) d zφN zφN zri [.ref (w.2.2.2 + 69), .int v1, .int v2, .int v3] s (f_X12_liking v1 v2 v3 s) := by
  refine zMtN_of (own := RX12) rfl (by decide +kernel) (Nat.le_of_ble_eq_true rfl) cd_X12_liking [(0, .ref (w.2.2.2 + 69)), (1, .int v1), (2, .int v2), (3, .int v3)] rfl ?_
  rintro a rfl K
  unfold f_X12_liking
  refine z_aload_n K 0 rfl dX12_liking_0 ?_
  refine z_iload_n K 1 rfl dX12_liking_1 ?_
  refine z_cVi (As := [.int v1]) (rest := []) K (t_X12_isGuest a.1 (d - 1) (by omega) v1 s) mf_X12_isGuest ml_X12_183 (Nat.le_of_ble_eq_true rfl) (by omega) rfl rc_69 rfl (Nat.le_of_ble_eq_true rfl) dX12_liking_2 (fun r2 s1 => ?_)
  refine z_if_eq K (tgt := 32) dX12_liking_5 (by decide) ?_ ?_
  · refine z_iconst K ci_0 dX12_liking_32 ?_
    exact z_zret (Or.inl rfl) K dX12_liking_33
  · refine z_aload_n K 0 rfl dX12_liking_8 ?_
    refine z_iload_n K 2 rfl dX12_liking_9 ?_
    refine z_cVi (As := [.int v2]) (rest := []) K (t_X12_isGuest a.1 (d - 1) (by omega) v2 s1) mf_X12_isGuest ml_X12_183 (Nat.le_of_ble_eq_true rfl) (by omega) rfl rc_69 rfl (Nat.le_of_ble_eq_true rfl) dX12_liking_10 (fun r4 s3 => ?_)
    refine z_if_eq K (tgt := 32) dX12_liking_13 (by decide) ?_ ?_
    · refine z_iconst K ci_0 dX12_liking_32 ?_
      exact z_zret (Or.inl rfl) K dX12_liking_33
    · refine z_iload_n K 1 rfl dX12_liking_16 ?_
      refine z_iload_n K 2 rfl dX12_liking_17 ?_
      refine z_icmp_eq K (tgt := 32) dX12_liking_18 (by decide) ?_ ?_
      · refine z_iconst K ci_0 dX12_liking_32 ?_
        exact z_zret (Or.inl rfl) K dX12_liking_33
      · refine z_iload_n K 3 rfl dX12_liking_21 ?_
        refine z_bipush K cb_m9 dX12_liking_22 ?_
        refine z_bipush K cb_9 dX12_liking_24 ?_
        refine z_cSi (As := [.int v3, .int (-9 : Int32), .int (9 : Int32)]) (rest := []) K (t_X12_in a.1 (d - 1) (by omega) v3 (-9 : Int32) (9 : Int32) s3) mf_X12_in ml_X12_171 (Nat.le_of_ble_eq_true rfl) (by omega) rfl rfl (Nat.le_of_ble_eq_true rfl) dX12_liking_26 (fun r6 s5 => ?_)
        refine z_if_ne K (tgt := 34) dX12_liking_29 (by decide) ?_ ?_
        · refine z_aload_n K 0 rfl dX12_liking_34 ?_
          refine z_getr K fd_X12_16 ob_69_4 dX12_liking_35 ?_
          refine z_bipush K cb_16 dX12_liking_38 ?_
          refine z_iload_n K 1 rfl dX12_liking_40 ?_
          refine z_imul K dX12_liking_41 ?_
          refine z_iload_n K 2 rfl dX12_liking_42 ?_
          refine z_iadd K dX12_liking_43 ?_
          refine z_iload_n K 3 rfl dX12_liking_44 ?_
          refine z_iast K ar_72 dX12_liking_45 ?_
          refine z_ltm (fun s7 => ?_)
          refine z_iconst K ci_1 dX12_liking_46 ?_
          exact z_zret (Or.inr rfl) K dX12_liking_47
        · refine z_iconst K ci_0 dX12_liking_32 ?_
          exact z_zret (Or.inl rfl) K dX12_liking_33
def f_X12_sit (F : Nat) (v1 : Int32) (v2 : Int32) (s : zM) : Option (Int32 × zM) :=
  bnd (f_X12_isGuest v1 s) (fun r2 s1 =>
  if r2 = 0 then
    some ((0 : Int32), s1)
  else
    if zin v1 16 = true then
      if (zg s1 71 (v1).toNatClampNeg) = (-2 : Int32) then
        some ((0 : Int32), s1)
      else
        if v2 = (-1 : Int32) then
          if zin v1 16 = true then
            lt (zs s1 71 (v1).toNatClampNeg v2) (fun s3 =>
            some ((1 : Int32), s3))
          else none
        else
          bnd (f_X12_isSeat v2 s1) (fun r5 s4 =>
          if r5 = 0 then
            some ((0 : Int32), s4)
          else
            bnd (f_X12_guestAt F v2 s4) (fun r7 s6 =>
            if r7 = (-1 : Int32) then
              if zin v1 16 = true then
                lt (zs s6 71 (v1).toNatClampNeg v2) (fun s8 =>
                some ((1 : Int32), s8))
              else none
            else
              some ((0 : Int32), s6)))
    else none)
set_option maxRecDepth 100000 in
set_option maxHeartbeats 4000000 in
theorem t_X12_sit (w : zWd) (F : Nat) (d : Nat) (hd : 1 ≤ d) (v1 : Int32) (v2 : Int32) (s : zM) : zMt w yX12_sit cX12_sit 3 (some .boolean) d zφN zφN zri [.ref (w.2.2.2 + 69), .int v1, .int v2] s (f_X12_sit F v1 v2 s) := by
  refine zMtN_of (own := RX12) rfl (by decide +kernel) (Nat.le_of_ble_eq_true rfl) cd_X12_sit [(0, .ref (w.2.2.2 + 69)), (1, .int v1), (2, .int v2)] rfl ?_
  rintro a rfl K
  unfold f_X12_sit
  refine z_aload_n K 0 rfl dX12_sit_0 ?_
  refine z_iload_n K 1 rfl dX12_sit_1 ?_
  refine z_cVi (As := [.int v1]) (rest := []) K (t_X12_isGuest a.1 (d - 1) (by omega) v1 s) mf_X12_isGuest ml_X12_183 (Nat.le_of_ble_eq_true rfl) (by omega) rfl rc_69 rfl (Nat.le_of_ble_eq_true rfl) dX12_sit_2 (fun r2 s1 => ?_)
  refine z_if_eq K (tgt := 40) dX12_sit_5 (by decide) ?_ ?_
  · refine z_iconst K ci_0 dX12_sit_40 ?_
    exact z_zret (Or.inl rfl) K dX12_sit_41
  · refine z_aload_n K 0 rfl dX12_sit_8 ?_
    refine z_getr K fd_X12_13 ob_69_3 dX12_sit_9 ?_
    refine z_iload_n K 1 rfl dX12_sit_12 ?_
    refine z_iald K ar_71 dX12_sit_13 ?_
    refine z_bipush K cb_m2 dX12_sit_14 ?_
    refine z_icmp_eq K (tgt := 40) dX12_sit_16 (by decide) ?_ ?_
    · refine z_iconst K ci_0 dX12_sit_40 ?_
      exact z_zret (Or.inl rfl) K dX12_sit_41
    · refine z_iload_n K 2 rfl dX12_sit_19 ?_
      refine z_iconst K ci_m1 dX12_sit_20 ?_
      refine z_icmp_eq K (tgt := 42) dX12_sit_21 (by decide) ?_ ?_
      · refine z_aload_n K 0 rfl dX12_sit_42 ?_
        refine z_getr K fd_X12_13 ob_69_3 dX12_sit_43 ?_
        refine z_iload_n K 1 rfl dX12_sit_46 ?_
        refine z_iload_n K 2 rfl dX12_sit_47 ?_
        refine z_iast K ar_71 dX12_sit_48 ?_
        refine z_ltm (fun s3 => ?_)
        refine z_iconst K ci_1 dX12_sit_49 ?_
        exact z_zret (Or.inr rfl) K dX12_sit_50
      · refine z_iload_n K 2 rfl dX12_sit_24 ?_
        refine z_cSi (As := [.int v2]) (rest := []) K (t_X12_isSeat a.1 (d - 1) (by omega) v2 s1) mf_X12_isSeat ml_X12_175 (Nat.le_of_ble_eq_true rfl) (by omega) rfl rfl (Nat.le_of_ble_eq_true rfl) dX12_sit_25 (fun r5 s4 => ?_)
        refine z_if_eq K (tgt := 40) dX12_sit_28 (by decide) ?_ ?_
        · refine z_iconst K ci_0 dX12_sit_40 ?_
          exact z_zret (Or.inl rfl) K dX12_sit_41
        · refine z_aload_n K 0 rfl dX12_sit_31 ?_
          refine z_iload_n K 2 rfl dX12_sit_32 ?_
          refine z_cVi (As := [.int v2]) (rest := []) K (t_X12_guestAt a.1 F (d - 1) (by omega) v2 s4) mf_X12_guestAt ml_X12_179 (Nat.le_of_ble_eq_true rfl) (by omega) rfl rc_69 rfl (Nat.le_of_ble_eq_true rfl) dX12_sit_33 (fun r7 s6 => ?_)
          refine z_iconst K ci_m1 dX12_sit_36 ?_
          refine z_icmp_eq K (tgt := 42) dX12_sit_37 (by decide) ?_ ?_
          · refine z_aload_n K 0 rfl dX12_sit_42 ?_
            refine z_getr K fd_X12_13 ob_69_3 dX12_sit_43 ?_
            refine z_iload_n K 1 rfl dX12_sit_46 ?_
            refine z_iload_n K 2 rfl dX12_sit_47 ?_
            refine z_iast K ar_71 dX12_sit_48 ?_
            refine z_ltm (fun s8 => ?_)
            refine z_iconst K ci_1 dX12_sit_49 ?_
            exact z_zret (Or.inr rfl) K dX12_sit_50
          · refine z_iconst K ci_0 dX12_sit_40 ?_
            exact z_zret (Or.inl rfl) K dX12_sit_41
def f_X12_types_L2 (F : Nat) (k38 : zM → Option (Unit × zM)) (v1 : Int32) : Nat → Int32 → zM → Option (Unit × zM)
  | 0, _, _ => none
  | n + 1, v2, s =>
    if v2 < 0 then
      k38 s
    else
      if zin (zg s 69 7) 220 = true then
        lt (zs s 74 ((zg s 69 7)).toNatClampNeg (vp_nar .byte (((v1 >>> (((8 : Int32) * v2) &&& 31))).toInt8.toInt32))) (fun s1 =>
        lt (zs s1 69 7 ((zg s1 69 7) + (1 : Int32))) (fun s2 =>
        lt (v2 + (-1 : Int32)) (fun y3 =>
        f_X12_types_L2 F k38 v1 n y3 s2)))
      else none
set_option maxRecDepth 100000 in
set_option maxHeartbeats 4000000 in
theorem t_X12_types_L2 {a : zA} {d : Nat} (F : Nat) (K : zOK a cX12_types 3 RX12 none d) (hd : 0 ≤ d) {k38 : zM → Option (Unit × zM)} (v1 : Int32) (h38 : ∀ (s : zM), zJ a 3 (zG a zφN zrv) zφN 38 [] [] s (k38 s)) : ∀ (n : Nat) (v2 : Int32) (s : zM), zJ a 3 (zG a zφN zrv) zφN 2 [(0, .ref (a.1.2.2.2 + 69)), (1, .int v1), (2, .int v2)] [] s (f_X12_types_L2 F k38 v1 n v2 s) := by
  intro n
  induction n with
  | zero => intros; exact z_none
  | succ n ih =>
    intro v2 s
    rw [f_X12_types_L2]
    refine z_iload_n K 2 rfl dX12_types_2 ?_
    refine z_if_lt K (tgt := 38) dX12_types_3 (by decide) ?_ ?_
    · refine z_sub [] rfl ?_
      exact h38 s
    · refine z_aload_n K 0 rfl dX12_types_6 ?_
      refine z_getr K fd_X12_22 ob_69_6 dX12_types_7 ?_
      refine z_aload_n K 0 rfl dX12_types_10 ?_
      refine z_geti K fd_X12_186 ob_69_7 dX12_types_11 ?_
      refine z_iload_n K 1 rfl dX12_types_14 ?_
      refine z_bipush K cb_8 dX12_types_15 ?_
      refine z_iload_n K 2 rfl dX12_types_17 ?_
      refine z_imul K dX12_types_18 ?_
      refine z_ishr K dX12_types_19 ?_
      refine z_i2b K dX12_types_20 ?_
      refine z_bast K ar_74 dX12_types_21 ?_
      refine z_ltm (fun s1 => ?_)
      refine z_aload_n K 0 rfl dX12_types_22 ?_
      refine z_aload_n K 0 rfl dX12_types_23 ?_
      refine z_geti K fd_X12_186 ob_69_7 dX12_types_24 ?_
      refine z_iconst K ci_1 dX12_types_27 ?_
      refine z_iadd K dX12_types_28 ?_
      refine z_puti K fw_X12_186 ob_69_7 dX12_types_29 ?_
      refine z_ltm (fun s2 => ?_)
      refine z_iincN K (j := 2) (lv' := [(0, .ref (a.1.2.2.2 + 69)), (1, .int v1)]) ci_m1 rfl dX12_types_32 (Nat.le_of_ble_eq_true rfl) rfl (fun y3 => ?_)
      refine z_goto K (tgt := 2) dX12_types_35 (by decide) ?_
      refine z_sub [1, 2, 0] rfl ?_
      exact ih y3 s2
def f_X12_types (F : Nat) (v1 : Int32) (s : zM) : Option (Unit × zM) :=
  f_X12_types_L2 F (fun s4 =>
    some ((), s4)) v1 F (3 : Int32) s
set_option maxRecDepth 100000 in
set_option maxHeartbeats 4000000 in
theorem t_X12_types (w : zWd) (F : Nat) (d : Nat) (hd : 0 ≤ d) (v1 : Int32) (s : zM) : zMt w yX12_types cX12_types 3 none d zφN zφN zrv [.ref (w.2.2.2 + 69), .int v1] s (f_X12_types F v1 s) := by
  refine zMtN_of (own := RX12) rfl (by decide +kernel) (Nat.le_of_ble_eq_true rfl) cd_X12_types [(0, .ref (w.2.2.2 + 69)), (1, .int v1)] rfl ?_
  rintro a rfl K
  unfold f_X12_types
  refine z_iconst K ci_3 dX12_types_0 ?_
  refine z_istore_n K (lv' := [(2, .int (3 : Int32)), (0, .ref (a.1.2.2.2 + 69)), (1, .int v1)]) dX12_types_1 rfl (Nat.le_of_ble_eq_true rfl) rfl ?_
  refine z_sub [1, 2, 0] rfl ?_
  refine t_X12_types_L2 F K hd v1 (fun s4 => ?_) F (3 : Int32) s
  exact z_vret K dX12_types_38
def f_X12_feed (F : Nat) (v1 : Int32) (v2 : Int32) (v3 : Int32) (v4 : Int32) (v5 : Int32) (s : zM) : Option (Int32 × zM) :=
  if (220 : Int32) < ((zg s 69 7) + (20 : Int32)) then
    some ((-1 : Int32), s)
  else
    bnd (f_X12_types F v1 s) (fun _ s1 =>
    bnd (f_X12_types F v2 s1) (fun _ s2 =>
    bnd (f_X12_types F v3 s2) (fun _ s3 =>
    bnd (f_X12_types F v4 s3) (fun _ s4 =>
    bnd (f_X12_types F v5 s4) (fun _ s5 =>
    some ((zg s5 69 7), s5))))))
set_option maxRecDepth 100000 in
set_option maxHeartbeats 4000000 in
theorem t_X12_feed (w : zWd) (F : Nat) (d : Nat) (hd : 1 ≤ d) (v1 : Int32) (v2 : Int32) (v3 : Int32) (v4 : Int32) (v5 : Int32) (s : zM) : zMt w yX12_feed cX12_feed 6 (some .int) d zφN zφN zri [.ref (w.2.2.2 + 69), .int v1, .int v2, .int v3, .int v4, .int v5] s (f_X12_feed F v1 v2 v3 v4 v5 s) := by
  refine zMtN_of (own := RX12) rfl (by decide +kernel) (Nat.le_of_ble_eq_true rfl) cd_X12_feed [(0, .ref (w.2.2.2 + 69)), (1, .int v1), (2, .int v2), (3, .int v3), (4, .int v4), (5, .int v5)] rfl ?_
  rintro a rfl K
  unfold f_X12_feed
  refine z_aload_n K 0 rfl dX12_feed_0 ?_
  refine z_geti K fd_X12_186 ob_69_7 dX12_feed_1 ?_
  refine z_bipush K cb_20 dX12_feed_4 ?_
  refine z_iadd K dX12_feed_6 ?_
  refine z_sipush K cs_220 dX12_feed_7 ?_
  refine z_icmp_le K (tgt := 15) dX12_feed_10 (by decide) ?_ ?_
  · refine z_aload_n K 0 rfl dX12_feed_15 ?_
    refine z_iload_n K 1 rfl dX12_feed_16 ?_
    refine z_cVv (As := [.int v1]) (rest := []) K (t_X12_types a.1 F (d - 1) (by omega) v1 s) mf_X12_types ml_X12_189 (Nat.le_of_ble_eq_true rfl) (by omega) rfl rc_69 rfl (Nat.le_of_ble_eq_true rfl) dX12_feed_17 (fun _ s1 => ?_)
    refine z_aload_n K 0 rfl dX12_feed_20 ?_
    refine z_iload_n K 2 rfl dX12_feed_21 ?_
    refine z_cVv (As := [.int v2]) (rest := []) K (t_X12_types a.1 F (d - 1) (by omega) v2 s1) mf_X12_types ml_X12_189 (Nat.le_of_ble_eq_true rfl) (by omega) rfl rc_69 rfl (Nat.le_of_ble_eq_true rfl) dX12_feed_22 (fun _ s2 => ?_)
    refine z_aload_n K 0 rfl dX12_feed_25 ?_
    refine z_iload_n K 3 rfl dX12_feed_26 ?_
    refine z_cVv (As := [.int v3]) (rest := []) K (t_X12_types a.1 F (d - 1) (by omega) v3 s2) mf_X12_types ml_X12_189 (Nat.le_of_ble_eq_true rfl) (by omega) rfl rc_69 rfl (Nat.le_of_ble_eq_true rfl) dX12_feed_27 (fun _ s3 => ?_)
    refine z_aload_n K 0 rfl dX12_feed_30 ?_
    refine z_iload K 4 rfl dX12_feed_31 ?_
    refine z_cVv (As := [.int v4]) (rest := []) K (t_X12_types a.1 F (d - 1) (by omega) v4 s3) mf_X12_types ml_X12_189 (Nat.le_of_ble_eq_true rfl) (by omega) rfl rc_69 rfl (Nat.le_of_ble_eq_true rfl) dX12_feed_33 (fun _ s4 => ?_)
    refine z_aload_n K 0 rfl dX12_feed_36 ?_
    refine z_iload K 5 rfl dX12_feed_37 ?_
    refine z_cVv (As := [.int v5]) (rest := []) K (t_X12_types a.1 F (d - 1) (by omega) v5 s4) mf_X12_types ml_X12_189 (Nat.le_of_ble_eq_true rfl) (by omega) rfl rc_69 rfl (Nat.le_of_ble_eq_true rfl) dX12_feed_39 (fun _ s5 => ?_)
    refine z_aload_n K 0 rfl dX12_feed_42 ?_
    refine z_geti K fd_X12_186 ob_69_7 dX12_feed_43 ?_
    exact z_iret K dX12_feed_46
  · refine z_iconst K ci_m1 dX12_feed_13 ?_
    exact z_iret K dX12_feed_14
def f_X12_here (s : zM) : Option (Int32 × zM) :=
  if (zg s 69 8) < (zg s 69 9) then
    if zin (zg s 69 8) 220 = true then
      some (((zg s 74 ((zg s 69 8)).toNatClampNeg) &&& (255 : Int32)), s)
    else none
  else
    some ((-1 : Int32), s)
set_option maxRecDepth 100000 in
set_option maxHeartbeats 4000000 in
theorem t_X12_here (w : zWd) (d : Nat) (hd : 0 ≤ d) (s : zM) : zMt w yX12_here cX12_here 1 (some .int) d zφN zφN zri [.ref (w.2.2.2 + 69)] s (f_X12_here s) := by
  refine zMtN_of (own := RX12) rfl (by decide +kernel) (Nat.le_of_ble_eq_true rfl) cd_X12_here [(0, .ref (w.2.2.2 + 69))] rfl ?_
  rintro a rfl K
  unfold f_X12_here
  refine z_aload_n K 0 rfl dX12_here_0 ?_
  refine z_geti K fd_X12_193 ob_69_8 dX12_here_1 ?_
  refine z_aload_n K 0 rfl dX12_here_4 ?_
  refine z_geti K fd_X12_196 ob_69_9 dX12_here_5 ?_
  refine z_icmp_ge K (tgt := 27) dX12_here_8 (by decide) ?_ ?_
  · refine z_iconst K ci_m1 dX12_here_27 ?_
    exact z_iret K dX12_here_28
  · refine z_aload_n K 0 rfl dX12_here_11 ?_
    refine z_getr K fd_X12_22 ob_69_6 dX12_here_12 ?_
    refine z_aload_n K 0 rfl dX12_here_15 ?_
    refine z_geti K fd_X12_193 ob_69_8 dX12_here_16 ?_
    refine z_bald K ar_74 dX12_here_19 ?_
    refine z_sipush K cs_255 dX12_here_20 ?_
    refine z_iand K dX12_here_23 ?_
    refine z_goto K (tgt := 28) dX12_here_24 (by decide) ?_
    exact z_iret K dX12_here_28
def f_X12_isDigit (s : zM) : Option (Int32 × zM) :=
  bnd (f_X12_here s) (fun r2 s1 =>
  if r2 < (48 : Int32) then
    some ((0 : Int32), s1)
  else
    bnd (f_X12_here s1) (fun r4 s3 =>
    if (57 : Int32) < r4 then
      some ((0 : Int32), s3)
    else
      some ((1 : Int32), s3)))
set_option maxRecDepth 100000 in
set_option maxHeartbeats 4000000 in
theorem t_X12_isDigit (w : zWd) (d : Nat) (hd : 1 ≤ d) (s : zM) : zMt w yX12_isDigit cX12_isDigit 1 (some .boolean) d zφN zφN zri [.ref (w.2.2.2 + 69)] s (f_X12_isDigit s) := by
  refine zMtN_of (own := RX12) rfl (by decide +kernel) (Nat.le_of_ble_eq_true rfl) cd_X12_isDigit [(0, .ref (w.2.2.2 + 69))] rfl ?_
  rintro a rfl K
  unfold f_X12_isDigit
  refine z_aload_n K 0 rfl dX12_isDigit_0 ?_
  refine z_cVi (As := []) (rest := []) K (t_X12_here a.1 (d - 1) (by omega) s) mf_X12_here ml_X12_199 (Nat.le_of_ble_eq_true rfl) (by omega) rfl rc_69 rfl (Nat.le_of_ble_eq_true rfl) dX12_isDigit_1 (fun r2 s1 => ?_)
  refine z_bipush K cb_48 dX12_isDigit_4 ?_
  refine z_icmp_lt K (tgt := 22) dX12_isDigit_6 (by decide) ?_ ?_
  · refine z_iconst K ci_0 dX12_isDigit_22 ?_
    exact z_zret (Or.inl rfl) K dX12_isDigit_23
  · refine z_aload_n K 0 rfl dX12_isDigit_9 ?_
    refine z_cVi (As := []) (rest := []) K (t_X12_here a.1 (d - 1) (by omega) s1) mf_X12_here ml_X12_199 (Nat.le_of_ble_eq_true rfl) (by omega) rfl rc_69 rfl (Nat.le_of_ble_eq_true rfl) dX12_isDigit_10 (fun r4 s3 => ?_)
    refine z_bipush K cb_57 dX12_isDigit_13 ?_
    refine z_icmp_gt K (tgt := 22) dX12_isDigit_15 (by decide) ?_ ?_
    · refine z_iconst K ci_0 dX12_isDigit_22 ?_
      exact z_zret (Or.inl rfl) K dX12_isDigit_23
    · refine z_iconst K ci_1 dX12_isDigit_18 ?_
      refine z_goto K (tgt := 23) dX12_isDigit_19 (by decide) ?_
      exact z_zret (Or.inr rfl) K dX12_isDigit_23
def f_X12_wrongAt (v1 : Int32) (v2 : Int32) (s : zM) : Option (Int32 × zM) :=
  lt (zs s 69 10 (((-1000 : Int32) * v1) - v2)) (fun s1 =>
  some ((0 : Int32), s1))
set_option maxRecDepth 100000 in
set_option maxHeartbeats 4000000 in
theorem t_X12_wrongAt (w : zWd) (d : Nat) (hd : 0 ≤ d) (v1 : Int32) (v2 : Int32) (s : zM) : zMt w yX12_wrongAt cX12_wrongAt 3 (some .boolean) d zφN zφN zri [.ref (w.2.2.2 + 69), .int v1, .int v2] s (f_X12_wrongAt v1 v2 s) := by
  refine zMtN_of (own := RX12) rfl (by decide +kernel) (Nat.le_of_ble_eq_true rfl) cd_X12_wrongAt [(0, .ref (w.2.2.2 + 69)), (1, .int v1), (2, .int v2)] rfl ?_
  rintro a rfl K
  unfold f_X12_wrongAt
  refine z_aload_n K 0 rfl dX12_wrongAt_0 ?_
  refine z_sipush K cs_m1000 dX12_wrongAt_1 ?_
  refine z_iload_n K 1 rfl dX12_wrongAt_4 ?_
  refine z_imul K dX12_wrongAt_5 ?_
  refine z_iload_n K 2 rfl dX12_wrongAt_6 ?_
  refine z_isub K dX12_wrongAt_7 ?_
  refine z_puti K fw_X12_203 ob_69_10 dX12_wrongAt_8 ?_
  refine z_ltm (fun s1 => ?_)
  refine z_iconst K ci_0 dX12_wrongAt_11 ?_
  exact z_zret (Or.inl rfl) K dX12_wrongAt_12
def f_X12_takes (v1 : Int32) (s : zM) : Option (Int32 × zM) :=
  bnd (f_X12_here s) (fun r2 s1 =>
  if r2 = v1 then
    lt (zs s1 69 8 ((zg s1 69 8) + (1 : Int32))) (fun s3 =>
    some ((1 : Int32), s3))
  else
    bnd (f_X12_wrongAt (1 : Int32) (zg s1 69 8) s1) (fun r5 s4 =>
    if r5 = 0 then some (0, s4) else if r5 = 1 then some (1, s4) else none))
set_option maxRecDepth 100000 in
set_option maxHeartbeats 4000000 in
theorem t_X12_takes (w : zWd) (d : Nat) (hd : 1 ≤ d) (v1 : Int32) (s : zM) : zMt w yX12_takes cX12_takes 2 (some .boolean) d zφN zφN zri [.ref (w.2.2.2 + 69), .int v1] s (f_X12_takes v1 s) := by
  refine zMtN_of (own := RX12) rfl (by decide +kernel) (Nat.le_of_ble_eq_true rfl) cd_X12_takes [(0, .ref (w.2.2.2 + 69)), (1, .int v1)] rfl ?_
  rintro a rfl K
  unfold f_X12_takes
  refine z_aload_n K 0 rfl dX12_takes_0 ?_
  refine z_cVi (As := []) (rest := []) K (t_X12_here a.1 (d - 1) (by omega) s) mf_X12_here ml_X12_199 (Nat.le_of_ble_eq_true rfl) (by omega) rfl rc_69 rfl (Nat.le_of_ble_eq_true rfl) dX12_takes_1 (fun r2 s1 => ?_)
  refine z_iload_n K 1 rfl dX12_takes_4 ?_
  refine z_icmp_eq K (tgt := 18) dX12_takes_5 (by decide) ?_ ?_
  · refine z_aload_n K 0 rfl dX12_takes_18 ?_
    refine z_aload_n K 0 rfl dX12_takes_19 ?_
    refine z_geti K fd_X12_193 ob_69_8 dX12_takes_20 ?_
    refine z_iconst K ci_1 dX12_takes_23 ?_
    refine z_iadd K dX12_takes_24 ?_
    refine z_puti K fw_X12_193 ob_69_8 dX12_takes_25 ?_
    refine z_ltm (fun s3 => ?_)
    refine z_iconst K ci_1 dX12_takes_28 ?_
    exact z_zret (Or.inr rfl) K dX12_takes_29
  · refine z_aload_n K 0 rfl dX12_takes_8 ?_
    refine z_iconst K ci_1 dX12_takes_9 ?_
    refine z_aload_n K 0 rfl dX12_takes_10 ?_
    refine z_geti K fd_X12_193 ob_69_8 dX12_takes_11 ?_
    refine z_cVi (As := [.int (1 : Int32), .int (zg s1 69 8)]) (rest := []) K (t_X12_wrongAt a.1 (d - 1) (by omega) (1 : Int32) (zg s1 69 8) s1) mf_X12_wrongAt ml_X12_206 (Nat.le_of_ble_eq_true rfl) (by omega) rfl rc_69 rfl (Nat.le_of_ble_eq_true rfl) dX12_takes_14 (fun r5 s4 => ?_)
    exact z_zretc K dX12_takes_17
def f_X12_readsNumber_L10 (F : Nat) (k69 : zM → Option (Int32 × zM)) (v1 : Int32) : Nat → zM → Option (Int32 × zM)
  | 0, _ => none
  | n + 1, s =>
    bnd (f_X12_isDigit s) (fun r4 s3 =>
    if r4 = 0 then
      k69 s3
    else
      if (zg s3 69 8) = (v1 + (5 : Int32)) then
        bnd (f_X12_wrongAt (2 : Int32) (zg s3 69 8) s3) (fun r10 s9 =>
        if r10 = 0 then some (0, s9) else if r10 = 1 then some (1, s9) else none)
      else
        bnd (f_X12_here s3) (fun r6 s5 =>
        lt (zs s5 69 15 ((((10 : Int32) * (zg s3 69 15)) + r6) - (48 : Int32))) (fun s7 =>
        lt (zs s7 69 8 ((zg s7 69 8) + (1 : Int32))) (fun s8 =>
        f_X12_readsNumber_L10 F k69 v1 n s8))))
set_option maxRecDepth 100000 in
set_option maxHeartbeats 4000000 in
theorem t_X12_readsNumber_L10 {a : zA} {d : Nat} (F : Nat) (K : zOK a cX12_readsNumber 2 RX12 (some .boolean) d) (hd : 2 ≤ d) {k69 : zM → Option (Int32 × zM)} (v1 : Int32) (h69 : ∀ (s : zM), zJ a 2 (zG a zφN zri) zφN 69 [] [] s (k69 s)) : ∀ (n : Nat) (s : zM), zJ a 2 (zG a zφN zri) zφN 10 [(0, .ref (a.1.2.2.2 + 69)), (1, .int v1)] [] s (f_X12_readsNumber_L10 F k69 v1 n s) := by
  intro n
  induction n with
  | zero => intros; exact z_none
  | succ n ih =>
    intro s
    rw [f_X12_readsNumber_L10]
    refine z_aload_n K 0 rfl dX12_readsNumber_10 ?_
    refine z_cVi (As := []) (rest := []) K (t_X12_isDigit a.1 (d - 1) (by omega) s) mf_X12_isDigit ml_X12_213 (Nat.le_of_ble_eq_true rfl) (by omega) rfl rc_69 rfl (Nat.le_of_ble_eq_true rfl) dX12_readsNumber_11 (fun r4 s3 => ?_)
    refine z_if_eq K (tgt := 69) dX12_readsNumber_14 (by decide) ?_ ?_
    · refine z_sub [] rfl ?_
      exact h69 s3
    · refine z_aload_n K 0 rfl dX12_readsNumber_17 ?_
      refine z_geti K fd_X12_193 ob_69_8 dX12_readsNumber_18 ?_
      refine z_iload_n K 1 rfl dX12_readsNumber_21 ?_
      refine z_iconst K ci_5 dX12_readsNumber_22 ?_
      refine z_iadd K dX12_readsNumber_23 ?_
      refine z_icmp_ne K (tgt := 37) dX12_readsNumber_24 (by decide) ?_ ?_
      · refine z_aload_n K 0 rfl dX12_readsNumber_37 ?_
        refine z_bipush K cb_10 dX12_readsNumber_38 ?_
        refine z_aload_n K 0 rfl dX12_readsNumber_40 ?_
        refine z_geti K fd_X12_210 ob_69_15 dX12_readsNumber_41 ?_
        refine z_imul K dX12_readsNumber_44 ?_
        refine z_aload_n K 0 rfl dX12_readsNumber_45 ?_
        refine z_cVi (As := []) (rest := [.int ((10 : Int32) * (zg s3 69 15)), .ref (a.1.2.2.2 + 69)]) K (t_X12_here a.1 (d - 1) (by omega) s3) mf_X12_here ml_X12_199 (Nat.le_of_ble_eq_true rfl) (by omega) rfl rc_69 rfl (Nat.le_of_ble_eq_true rfl) dX12_readsNumber_46 (fun r6 s5 => ?_)
        refine z_iadd K dX12_readsNumber_49 ?_
        refine z_bipush K cb_48 dX12_readsNumber_50 ?_
        refine z_isub K dX12_readsNumber_52 ?_
        refine z_puti K fw_X12_210 ob_69_15 dX12_readsNumber_53 ?_
        refine z_ltm (fun s7 => ?_)
        refine z_aload_n K 0 rfl dX12_readsNumber_56 ?_
        refine z_aload_n K 0 rfl dX12_readsNumber_57 ?_
        refine z_geti K fd_X12_193 ob_69_8 dX12_readsNumber_58 ?_
        refine z_iconst K ci_1 dX12_readsNumber_61 ?_
        refine z_iadd K dX12_readsNumber_62 ?_
        refine z_puti K fw_X12_193 ob_69_8 dX12_readsNumber_63 ?_
        refine z_ltm (fun s8 => ?_)
        refine z_goto K (tgt := 10) dX12_readsNumber_66 (by decide) ?_
        exact ih s8
      · refine z_aload_n K 0 rfl dX12_readsNumber_27 ?_
        refine z_iconst K ci_2 dX12_readsNumber_28 ?_
        refine z_aload_n K 0 rfl dX12_readsNumber_29 ?_
        refine z_geti K fd_X12_193 ob_69_8 dX12_readsNumber_30 ?_
        refine z_cVi (As := [.int (2 : Int32), .int (zg s3 69 8)]) (rest := []) K (t_X12_wrongAt a.1 (d - 1) (by omega) (2 : Int32) (zg s3 69 8) s3) mf_X12_wrongAt ml_X12_206 (Nat.le_of_ble_eq_true rfl) (by omega) rfl rc_69 rfl (Nat.le_of_ble_eq_true rfl) dX12_readsNumber_33 (fun r10 s9 => ?_)
        exact z_zretc K dX12_readsNumber_36
def f_X12_readsNumber (F : Nat) (s : zM) : Option (Int32 × zM) :=
  lt ((zg s 69 8)) (fun y1 =>
  lt (zs s 69 15 (0 : Int32)) (fun s2 =>
  f_X12_readsNumber_L10 F (fun s11 =>
    some ((1 : Int32), s11)) y1 F s2))
set_option maxRecDepth 100000 in
set_option maxHeartbeats 4000000 in
theorem t_X12_readsNumber (w : zWd) (F : Nat) (d : Nat) (hd : 2 ≤ d) (s : zM) : zMt w yX12_readsNumber cX12_readsNumber 2 (some .boolean) d zφN zφN zri [.ref (w.2.2.2 + 69)] s (f_X12_readsNumber F s) := by
  refine zMtN_of (own := RX12) rfl (by decide +kernel) (Nat.le_of_ble_eq_true rfl) cd_X12_readsNumber [(0, .ref (w.2.2.2 + 69))] rfl ?_
  rintro a rfl K
  unfold f_X12_readsNumber
  refine z_aload_n K 0 rfl dX12_readsNumber_0 ?_
  refine z_geti K fd_X12_193 ob_69_8 dX12_readsNumber_1 ?_
  refine z_topi (fun y1 => ?_)
  refine z_istore_n K (lv' := [(1, .int y1), (0, .ref (a.1.2.2.2 + 69))]) dX12_readsNumber_4 rfl (Nat.le_of_ble_eq_true rfl) rfl ?_
  refine z_aload_n K 1 rfl dX12_readsNumber_5 ?_
  refine z_iconst K ci_0 dX12_readsNumber_6 ?_
  refine z_puti K fw_X12_210 ob_69_15 dX12_readsNumber_7 ?_
  refine z_ltm (fun s2 => ?_)
  refine z_sub [1, 0] rfl ?_
  refine t_X12_readsNumber_L10 F K hd y1 (fun s11 => ?_) F s2
  refine z_iconst K ci_1 dX12_readsNumber_69 ?_
  exact z_zret (Or.inr rfl) K dX12_readsNumber_70
def f_X12_notes (v1 : Int32) (v2 : Int32) (s : zM) : Option (Unit × zM) :=
  if zin (zg s 69 12) 220 = true then
    lt (zs s 75 ((zg s 69 12)).toNatClampNeg (((1048576 : Int32) * v1) + v2)) (fun s1 =>
    lt (zs s1 69 12 ((zg s1 69 12) + (1 : Int32))) (fun s2 =>
    some ((), s2)))
  else none
set_option maxRecDepth 100000 in
set_option maxHeartbeats 4000000 in
theorem t_X12_notes (w : zWd) (d : Nat) (hd : 0 ≤ d) (v1 : Int32) (v2 : Int32) (s : zM) : zMt w yX12_notes cX12_notes 3 none d zφN zφN zrv [.ref (w.2.2.2 + 69), .int v1, .int v2] s (f_X12_notes v1 v2 s) := by
  refine zMtN_of (own := RX12) rfl (by decide +kernel) (Nat.le_of_ble_eq_true rfl) cd_X12_notes [(0, .ref (w.2.2.2 + 69)), (1, .int v1), (2, .int v2)] rfl ?_
  rintro a rfl K
  unfold f_X12_notes
  refine z_aload_n K 0 rfl dX12_notes_0 ?_
  refine z_getr K fd_X12_26 ob_69_17 dX12_notes_1 ?_
  refine z_aload_n K 0 rfl dX12_notes_4 ?_
  refine z_geti K fd_X12_217 ob_69_12 dX12_notes_5 ?_
  refine z_ldc K cst_X12_220 dX12_notes_8 ?_
  refine z_iload_n K 1 rfl dX12_notes_10 ?_
  refine z_imul K dX12_notes_11 ?_
  refine z_iload_n K 2 rfl dX12_notes_12 ?_
  refine z_iadd K dX12_notes_13 ?_
  refine z_iast K ar_75 dX12_notes_14 ?_
  refine z_ltm (fun s1 => ?_)
  refine z_aload_n K 0 rfl dX12_notes_15 ?_
  refine z_aload_n K 0 rfl dX12_notes_16 ?_
  refine z_geti K fd_X12_217 ob_69_12 dX12_notes_17 ?_
  refine z_iconst K ci_1 dX12_notes_20 ?_
  refine z_iadd K dX12_notes_21 ?_
  refine z_puti K fw_X12_217 ob_69_12 dX12_notes_22 ?_
  refine z_ltm (fun s2 => ?_)
  exact z_vret K dX12_notes_25
def f_X12_opens (v1 : Int32) (s : zM) : Option (Int32 × zM) :=
  if (zg s 69 11) = (6 : Int32) then
    bnd (f_X12_wrongAt (5 : Int32) (zg s 69 8) s) (fun r6 s5 =>
    if r6 = 0 then some (0, s5) else if r6 = 1 then some (1, s5) else none)
  else
    lt (zs s 69 11 ((zg s 69 11) + (1 : Int32))) (fun s1 =>
    if zin (zg s1 69 13) 220 = true then
      lt (zs s1 76 ((zg s1 69 13)).toNatClampNeg ((1048576 : Int32) * v1)) (fun s2 =>
      lt (zs s2 69 13 ((zg s2 69 13) + (1 : Int32))) (fun s3 =>
      lt (zs s3 69 8 ((zg s3 69 8) + (1 : Int32))) (fun s4 =>
      some ((1 : Int32), s4))))
    else none)
set_option maxRecDepth 100000 in
set_option maxHeartbeats 4000000 in
theorem t_X12_opens (w : zWd) (d : Nat) (hd : 1 ≤ d) (v1 : Int32) (s : zM) : zMt w yX12_opens cX12_opens 2 (some .boolean) d zφN zφN zri [.ref (w.2.2.2 + 69), .int v1] s (f_X12_opens v1 s) := by
  refine zMtN_of (own := RX12) rfl (by decide +kernel) (Nat.le_of_ble_eq_true rfl) cd_X12_opens [(0, .ref (w.2.2.2 + 69)), (1, .int v1)] rfl ?_
  rintro a rfl K
  unfold f_X12_opens
  refine z_aload_n K 0 rfl dX12_opens_0 ?_
  refine z_geti K fd_X12_221 ob_69_11 dX12_opens_1 ?_
  refine z_bipush K cb_6 dX12_opens_4 ?_
  refine z_icmp_ne K (tgt := 19) dX12_opens_6 (by decide) ?_ ?_
  · refine z_aload_n K 0 rfl dX12_opens_19 ?_
    refine z_aload_n K 0 rfl dX12_opens_20 ?_
    refine z_geti K fd_X12_221 ob_69_11 dX12_opens_21 ?_
    refine z_iconst K ci_1 dX12_opens_24 ?_
    refine z_iadd K dX12_opens_25 ?_
    refine z_puti K fw_X12_221 ob_69_11 dX12_opens_26 ?_
    refine z_ltm (fun s1 => ?_)
    refine z_aload_n K 0 rfl dX12_opens_29 ?_
    refine z_getr K fd_X12_29 ob_69_18 dX12_opens_30 ?_
    refine z_aload_n K 0 rfl dX12_opens_33 ?_
    refine z_geti K fd_X12_224 ob_69_13 dX12_opens_34 ?_
    refine z_ldc K cst_X12_220 dX12_opens_37 ?_
    refine z_iload_n K 1 rfl dX12_opens_39 ?_
    refine z_imul K dX12_opens_40 ?_
    refine z_iast K ar_76 dX12_opens_41 ?_
    refine z_ltm (fun s2 => ?_)
    refine z_aload_n K 0 rfl dX12_opens_42 ?_
    refine z_aload_n K 0 rfl dX12_opens_43 ?_
    refine z_geti K fd_X12_224 ob_69_13 dX12_opens_44 ?_
    refine z_iconst K ci_1 dX12_opens_47 ?_
    refine z_iadd K dX12_opens_48 ?_
    refine z_puti K fw_X12_224 ob_69_13 dX12_opens_49 ?_
    refine z_ltm (fun s3 => ?_)
    refine z_aload_n K 0 rfl dX12_opens_52 ?_
    refine z_aload_n K 0 rfl dX12_opens_53 ?_
    refine z_geti K fd_X12_193 ob_69_8 dX12_opens_54 ?_
    refine z_iconst K ci_1 dX12_opens_57 ?_
    refine z_iadd K dX12_opens_58 ?_
    refine z_puti K fw_X12_193 ob_69_8 dX12_opens_59 ?_
    refine z_ltm (fun s4 => ?_)
    refine z_iconst K ci_1 dX12_opens_62 ?_
    exact z_zret (Or.inr rfl) K dX12_opens_63
  · refine z_aload_n K 0 rfl dX12_opens_9 ?_
    refine z_iconst K ci_5 dX12_opens_10 ?_
    refine z_aload_n K 0 rfl dX12_opens_11 ?_
    refine z_geti K fd_X12_193 ob_69_8 dX12_opens_12 ?_
    refine z_cVi (As := [.int (5 : Int32), .int (zg s 69 8)]) (rest := []) K (t_X12_wrongAt a.1 (d - 1) (by omega) (5 : Int32) (zg s 69 8) s) mf_X12_wrongAt ml_X12_206 (Nat.le_of_ble_eq_true rfl) (by omega) rfl rc_69 rfl (Nat.le_of_ble_eq_true rfl) dX12_opens_15 (fun r6 s5 => ?_)
    exact z_zretc K dX12_opens_18
def f_X12_top (s : zM) : Option (Int32 × zM) :=
  if (zg s 69 13) = 0 then
    some ((-1 : Int32), s)
  else
    if zin ((zg s 69 13) - (1 : Int32)) 220 = true then
      some (((zg s 76 (((zg s 69 13) - (1 : Int32))).toNatClampNeg) / (1048576 : Int32)), s)
    else none
set_option maxRecDepth 100000 in
set_option maxHeartbeats 4000000 in
theorem t_X12_top (w : zWd) (d : Nat) (hd : 0 ≤ d) (s : zM) : zMt w yX12_top cX12_top 1 (some .int) d zφN zφN zri [.ref (w.2.2.2 + 69)] s (f_X12_top s) := by
  refine zMtN_of (own := RX12) rfl (by decide +kernel) (Nat.le_of_ble_eq_true rfl) cd_X12_top [(0, .ref (w.2.2.2 + 69))] rfl ?_
  rintro a rfl K
  unfold f_X12_top
  refine z_aload_n K 0 rfl dX12_top_0 ?_
  refine z_geti K fd_X12_224 ob_69_13 dX12_top_1 ?_
  refine z_if_ne K (tgt := 11) dX12_top_4 (by decide) ?_ ?_
  · refine z_aload_n K 0 rfl dX12_top_11 ?_
    refine z_getr K fd_X12_29 ob_69_18 dX12_top_12 ?_
    refine z_aload_n K 0 rfl dX12_top_15 ?_
    refine z_geti K fd_X12_224 ob_69_13 dX12_top_16 ?_
    refine z_iconst K ci_1 dX12_top_19 ?_
    refine z_isub K dX12_top_20 ?_
    refine z_iald K ar_76 dX12_top_21 ?_
    refine z_ldc K cst_X12_220 dX12_top_22 ?_
    refine z_idivc K (by decide) dX12_top_24 ?_
    exact z_iret K dX12_top_25
  · refine z_iconst K ci_m1 dX12_top_7 ?_
    refine z_goto K (tgt := 25) dX12_top_8 (by decide) ?_
    exact z_iret K dX12_top_25
def f_X12_factOf (v0 : Int32) (s : zM) : Option (Int32 × zM) :=
  if v0 = (97 : Int32) then
    some ((2 : Int32), s)
  else
    if v0 = (98 : Int32) then
      some ((3 : Int32), s)
    else
      if v0 = (99 : Int32) then
        some ((-1 : Int32), s)
      else
        if v0 = (100 : Int32) then
          some ((8 : Int32), s)
        else
          if v0 = (101 : Int32) then
            some ((-1 : Int32), s)
          else
            if v0 = (102 : Int32) then
              some ((0 : Int32), s)
            else
              if v0 = (103 : Int32) then
                some ((1 : Int32), s)
              else
                if v0 = (104 : Int32) then
                  some ((-1 : Int32), s)
                else
                  if v0 = (105 : Int32) then
                    some ((-1 : Int32), s)
                  else
                    if v0 = (106 : Int32) then
                      some ((-1 : Int32), s)
                    else
                      if v0 = (107 : Int32) then
                        some ((-1 : Int32), s)
                      else
                        if v0 = (108 : Int32) then
                          some ((6 : Int32), s)
                        else
                          if v0 = (109 : Int32) then
                            some ((7 : Int32), s)
                          else
                            if v0 = (110 : Int32) then
                              some ((-1 : Int32), s)
                            else
                              if v0 = (111 : Int32) then
                                some ((9 : Int32), s)
                              else
                                if v0 = (112 : Int32) then
                                  some ((-1 : Int32), s)
                                else
                                  if v0 = (113 : Int32) then
                                    some ((-1 : Int32), s)
                                  else
                                    if v0 = (114 : Int32) then
                                      some ((-1 : Int32), s)
                                    else
                                      if v0 = (115 : Int32) then
                                        some ((4 : Int32), s)
                                      else
                                        if v0 = (116 : Int32) then
                                          some ((5 : Int32), s)
                                        else
                                          some ((-1 : Int32), s)
set_option maxRecDepth 100000 in
set_option maxHeartbeats 4000000 in
theorem t_X12_factOf (w : zWd) (d : Nat) (hd : 0 ≤ d) (v0 : Int32) (s : zM) : zMt w yX12_factOf cX12_factOf 1 (some .int) d zφN zφN zri [.int v0] s (f_X12_factOf v0 s) := by
  refine zMtN_of (own := RX12) rfl (by decide +kernel) (Nat.le_of_ble_eq_true rfl) cd_X12_factOf [(0, .int v0)] rfl ?_
  rintro a rfl K
  unfold f_X12_factOf
  refine z_iload_n K 0 rfl dX12_factOf_0 ?_
  refine z_ite (fun hs97 => ?_) (fun hs97 => ?_)
  · refine z_tswIn K (tgt := 100) (off := 99) dX12_factOf_1 (by rw [hs97]; decide) (by rw [hs97]; decide) (by rw [hs97]; rfl) (by decide) ?_
    refine z_iconst K ci_2 dX12_factOf_100 ?_
    exact z_iret K dX12_factOf_101
  · refine z_ite (fun hs98 => ?_) (fun hs98 => ?_)
    · refine z_tswIn K (tgt := 102) (off := 101) dX12_factOf_1 (by rw [hs98]; decide) (by rw [hs98]; decide) (by rw [hs98]; rfl) (by decide) ?_
      refine z_iconst K ci_3 dX12_factOf_102 ?_
      exact z_iret K dX12_factOf_103
    · refine z_ite (fun hs99 => ?_) (fun hs99 => ?_)
      · refine z_tswIn K (tgt := 120) (off := 119) dX12_factOf_1 (by rw [hs99]; decide) (by rw [hs99]; decide) (by rw [hs99]; rfl) (by decide) ?_
        refine z_iconst K ci_m1 dX12_factOf_120 ?_
        exact z_iret K dX12_factOf_121
      · refine z_ite (fun hs100 => ?_) (fun hs100 => ?_)
        · refine z_tswIn K (tgt := 114) (off := 113) dX12_factOf_1 (by rw [hs100]; decide) (by rw [hs100]; decide) (by rw [hs100]; rfl) (by decide) ?_
          refine z_bipush K cb_8 dX12_factOf_114 ?_
          exact z_iret K dX12_factOf_116
        · refine z_ite (fun hs101 => ?_) (fun hs101 => ?_)
          · refine z_tswIn K (tgt := 120) (off := 119) dX12_factOf_1 (by rw [hs101]; decide) (by rw [hs101]; decide) (by rw [hs101]; rfl) (by decide) ?_
            refine z_iconst K ci_m1 dX12_factOf_120 ?_
            exact z_iret K dX12_factOf_121
          · refine z_ite (fun hs102 => ?_) (fun hs102 => ?_)
            · refine z_tswIn K (tgt := 96) (off := 95) dX12_factOf_1 (by rw [hs102]; decide) (by rw [hs102]; decide) (by rw [hs102]; rfl) (by decide) ?_
              refine z_iconst K ci_0 dX12_factOf_96 ?_
              exact z_iret K dX12_factOf_97
            · refine z_ite (fun hs103 => ?_) (fun hs103 => ?_)
              · refine z_tswIn K (tgt := 98) (off := 97) dX12_factOf_1 (by rw [hs103]; decide) (by rw [hs103]; decide) (by rw [hs103]; rfl) (by decide) ?_
                refine z_iconst K ci_1 dX12_factOf_98 ?_
                exact z_iret K dX12_factOf_99
              · refine z_ite (fun hs104 => ?_) (fun hs104 => ?_)
                · refine z_tswIn K (tgt := 120) (off := 119) dX12_factOf_1 (by rw [hs104]; decide) (by rw [hs104]; decide) (by rw [hs104]; rfl) (by decide) ?_
                  refine z_iconst K ci_m1 dX12_factOf_120 ?_
                  exact z_iret K dX12_factOf_121
                · refine z_ite (fun hs105 => ?_) (fun hs105 => ?_)
                  · refine z_tswIn K (tgt := 120) (off := 119) dX12_factOf_1 (by rw [hs105]; decide) (by rw [hs105]; decide) (by rw [hs105]; rfl) (by decide) ?_
                    refine z_iconst K ci_m1 dX12_factOf_120 ?_
                    exact z_iret K dX12_factOf_121
                  · refine z_ite (fun hs106 => ?_) (fun hs106 => ?_)
                    · refine z_tswIn K (tgt := 120) (off := 119) dX12_factOf_1 (by rw [hs106]; decide) (by rw [hs106]; decide) (by rw [hs106]; rfl) (by decide) ?_
                      refine z_iconst K ci_m1 dX12_factOf_120 ?_
                      exact z_iret K dX12_factOf_121
                    · refine z_ite (fun hs107 => ?_) (fun hs107 => ?_)
                      · refine z_tswIn K (tgt := 120) (off := 119) dX12_factOf_1 (by rw [hs107]; decide) (by rw [hs107]; decide) (by rw [hs107]; rfl) (by decide) ?_
                        refine z_iconst K ci_m1 dX12_factOf_120 ?_
                        exact z_iret K dX12_factOf_121
                      · refine z_ite (fun hs108 => ?_) (fun hs108 => ?_)
                        · refine z_tswIn K (tgt := 108) (off := 107) dX12_factOf_1 (by rw [hs108]; decide) (by rw [hs108]; decide) (by rw [hs108]; rfl) (by decide) ?_
                          refine z_bipush K cb_6 dX12_factOf_108 ?_
                          exact z_iret K dX12_factOf_110
                        · refine z_ite (fun hs109 => ?_) (fun hs109 => ?_)
                          · refine z_tswIn K (tgt := 111) (off := 110) dX12_factOf_1 (by rw [hs109]; decide) (by rw [hs109]; decide) (by rw [hs109]; rfl) (by decide) ?_
                            refine z_bipush K cb_7 dX12_factOf_111 ?_
                            exact z_iret K dX12_factOf_113
                          · refine z_ite (fun hs110 => ?_) (fun hs110 => ?_)
                            · refine z_tswIn K (tgt := 120) (off := 119) dX12_factOf_1 (by rw [hs110]; decide) (by rw [hs110]; decide) (by rw [hs110]; rfl) (by decide) ?_
                              refine z_iconst K ci_m1 dX12_factOf_120 ?_
                              exact z_iret K dX12_factOf_121
                            · refine z_ite (fun hs111 => ?_) (fun hs111 => ?_)
                              · refine z_tswIn K (tgt := 117) (off := 116) dX12_factOf_1 (by rw [hs111]; decide) (by rw [hs111]; decide) (by rw [hs111]; rfl) (by decide) ?_
                                refine z_bipush K cb_9 dX12_factOf_117 ?_
                                exact z_iret K dX12_factOf_119
                              · refine z_ite (fun hs112 => ?_) (fun hs112 => ?_)
                                · refine z_tswIn K (tgt := 120) (off := 119) dX12_factOf_1 (by rw [hs112]; decide) (by rw [hs112]; decide) (by rw [hs112]; rfl) (by decide) ?_
                                  refine z_iconst K ci_m1 dX12_factOf_120 ?_
                                  exact z_iret K dX12_factOf_121
                                · refine z_ite (fun hs113 => ?_) (fun hs113 => ?_)
                                  · refine z_tswIn K (tgt := 120) (off := 119) dX12_factOf_1 (by rw [hs113]; decide) (by rw [hs113]; decide) (by rw [hs113]; rfl) (by decide) ?_
                                    refine z_iconst K ci_m1 dX12_factOf_120 ?_
                                    exact z_iret K dX12_factOf_121
                                  · refine z_ite (fun hs114 => ?_) (fun hs114 => ?_)
                                    · refine z_tswIn K (tgt := 120) (off := 119) dX12_factOf_1 (by rw [hs114]; decide) (by rw [hs114]; decide) (by rw [hs114]; rfl) (by decide) ?_
                                      refine z_iconst K ci_m1 dX12_factOf_120 ?_
                                      exact z_iret K dX12_factOf_121
                                    · refine z_ite (fun hs115 => ?_) (fun hs115 => ?_)
                                      · refine z_tswIn K (tgt := 104) (off := 103) dX12_factOf_1 (by rw [hs115]; decide) (by rw [hs115]; decide) (by rw [hs115]; rfl) (by decide) ?_
                                        refine z_iconst K ci_4 dX12_factOf_104 ?_
                                        exact z_iret K dX12_factOf_105
                                      · refine z_ite (fun hs116 => ?_) (fun hs116 => ?_)
                                        · refine z_tswIn K (tgt := 106) (off := 105) dX12_factOf_1 (by rw [hs116]; decide) (by rw [hs116]; decide) (by rw [hs116]; rfl) (by decide) ?_
                                          refine z_iconst K ci_5 dX12_factOf_106 ?_
                                          exact z_iret K dX12_factOf_107
                                        · have hsw : v0.toInt < 97 ∨ 116 < v0.toInt := by
                                            have q97 := lv_neT hs97 (a := 97) rfl
                                            have q98 := lv_neT hs98 (a := 98) rfl
                                            have q99 := lv_neT hs99 (a := 99) rfl
                                            have q100 := lv_neT hs100 (a := 100) rfl
                                            have q101 := lv_neT hs101 (a := 101) rfl
                                            have q102 := lv_neT hs102 (a := 102) rfl
                                            have q103 := lv_neT hs103 (a := 103) rfl
                                            have q104 := lv_neT hs104 (a := 104) rfl
                                            have q105 := lv_neT hs105 (a := 105) rfl
                                            have q106 := lv_neT hs106 (a := 106) rfl
                                            have q107 := lv_neT hs107 (a := 107) rfl
                                            have q108 := lv_neT hs108 (a := 108) rfl
                                            have q109 := lv_neT hs109 (a := 109) rfl
                                            have q110 := lv_neT hs110 (a := 110) rfl
                                            have q111 := lv_neT hs111 (a := 111) rfl
                                            have q112 := lv_neT hs112 (a := 112) rfl
                                            have q113 := lv_neT hs113 (a := 113) rfl
                                            have q114 := lv_neT hs114 (a := 114) rfl
                                            have q115 := lv_neT hs115 (a := 115) rfl
                                            have q116 := lv_neT hs116 (a := 116) rfl
                                            omega
                                          refine z_tswOut K (tgt := 120) dX12_factOf_1 hsw (by decide) ?_
                                          refine z_iconst K ci_m1 dX12_factOf_120 ?_
                                          exact z_iret K dX12_factOf_121
def f_X12_sumSign (v0 : Int32) (s : zM) : Option (Int32 × zM) :=
  if v0 = (43 : Int32) then
    some ((2 : Int32), s)
  else
    if v0 = (45 : Int32) then
      some ((3 : Int32), s)
    else
      if v0 = (42 : Int32) then
        some ((4 : Int32), s)
      else
        if v0 = (47 : Int32) then
          some ((5 : Int32), s)
        else
          if v0 = (37 : Int32) then
            some ((6 : Int32), s)
          else
            some ((-1 : Int32), s)
set_option maxRecDepth 100000 in
set_option maxHeartbeats 4000000 in
theorem t_X12_sumSign (w : zWd) (d : Nat) (hd : 0 ≤ d) (v0 : Int32) (s : zM) : zMt w yX12_sumSign cX12_sumSign 1 (some .int) d zφN zφN zri [.int v0] s (f_X12_sumSign v0 s) := by
  refine zMtN_of (own := RX12) rfl (by decide +kernel) (Nat.le_of_ble_eq_true rfl) cd_X12_sumSign [(0, .int v0)] rfl ?_
  rintro a rfl K
  unfold f_X12_sumSign
  refine z_iload_n K 0 rfl dX12_sumSign_0 ?_
  refine z_bipush K cb_43 dX12_sumSign_1 ?_
  refine z_icmp_ne K (tgt := 10) dX12_sumSign_3 (by decide) ?_ ?_
  · refine z_iload_n K 0 rfl dX12_sumSign_10 ?_
    refine z_bipush K cb_45 dX12_sumSign_11 ?_
    refine z_icmp_ne K (tgt := 20) dX12_sumSign_13 (by decide) ?_ ?_
    · refine z_iload_n K 0 rfl dX12_sumSign_20 ?_
      refine z_bipush K cb_42 dX12_sumSign_21 ?_
      refine z_icmp_ne K (tgt := 30) dX12_sumSign_23 (by decide) ?_ ?_
      · refine z_iload_n K 0 rfl dX12_sumSign_30 ?_
        refine z_bipush K cb_47 dX12_sumSign_31 ?_
        refine z_icmp_ne K (tgt := 40) dX12_sumSign_33 (by decide) ?_ ?_
        · refine z_iload_n K 0 rfl dX12_sumSign_40 ?_
          refine z_bipush K cb_37 dX12_sumSign_41 ?_
          refine z_icmp_ne K (tgt := 51) dX12_sumSign_43 (by decide) ?_ ?_
          · refine z_iconst K ci_m1 dX12_sumSign_51 ?_
            exact z_iret K dX12_sumSign_52
          · refine z_bipush K cb_6 dX12_sumSign_46 ?_
            refine z_goto K (tgt := 52) dX12_sumSign_48 (by decide) ?_
            exact z_iret K dX12_sumSign_52
        · refine z_iconst K ci_5 dX12_sumSign_36 ?_
          refine z_goto K (tgt := 52) dX12_sumSign_37 (by decide) ?_
          exact z_iret K dX12_sumSign_52
      · refine z_iconst K ci_4 dX12_sumSign_26 ?_
        refine z_goto K (tgt := 52) dX12_sumSign_27 (by decide) ?_
        exact z_iret K dX12_sumSign_52
    · refine z_iconst K ci_3 dX12_sumSign_16 ?_
      refine z_goto K (tgt := 52) dX12_sumSign_17 (by decide) ?_
      exact z_iret K dX12_sumSign_52
  · refine z_iconst K ci_2 dX12_sumSign_6 ?_
    refine z_goto K (tgt := 52) dX12_sumSign_7 (by decide) ?_
    exact z_iret K dX12_sumSign_52
def f_X12_closesSums_j37 (F : Nat) (k0 : zM → Option (Unit × zM)) (v1 : Int32) (s : zM) : Option (Unit × zM) :=
  bnd (f_X12_top s) (fun r6 s5 =>
  bnd (f_X12_notes r6 (0 : Int32) s5) (fun _ s7 =>
  lt (zs s7 69 13 ((zg s7 69 13) - (1 : Int32))) (fun s8 =>
  k0 s8)))
set_option maxRecDepth 100000 in
set_option maxHeartbeats 4000000 in
theorem t_X12_closesSums_j37 {a : zA} {d : Nat} (F : Nat) (K : zOK a cX12_closesSums 2 RX12 none d) (hd : 1 ≤ d) {k0 : zM → Option (Unit × zM)} (v1 : Int32) (h0 : ∀ (s : zM), zJ a 2 (zG a zφN zrv) zφN 0 [(0, .ref (a.1.2.2.2 + 69)), (1, .int v1)] [] s (k0 s)) (s : zM) : zJ a 2 (zG a zφN zrv) zφN 37 [(0, .ref (a.1.2.2.2 + 69)), (1, .int v1)] [] s (f_X12_closesSums_j37 F k0 v1 s) := by
  unfold f_X12_closesSums_j37
  refine z_aload_n K 0 rfl dX12_closesSums_37 ?_
  refine z_aload_n K 0 rfl dX12_closesSums_38 ?_
  refine z_cVi (As := []) (rest := [.ref (a.1.2.2.2 + 69)]) K (t_X12_top a.1 (d - 1) (by omega) s) mf_X12_top ml_X12_227 (Nat.le_of_ble_eq_true rfl) (by omega) rfl rc_69 rfl (Nat.le_of_ble_eq_true rfl) dX12_closesSums_39 (fun r6 s5 => ?_)
  refine z_iconst K ci_0 dX12_closesSums_42 ?_
  refine z_cVv (As := [.int r6, .int (0 : Int32)]) (rest := []) K (t_X12_notes a.1 (d - 1) (by omega) r6 (0 : Int32) s5) mf_X12_notes ml_X12_230 (Nat.le_of_ble_eq_true rfl) (by omega) rfl rc_69 rfl (Nat.le_of_ble_eq_true rfl) dX12_closesSums_43 (fun _ s7 => ?_)
  refine z_aload_n K 0 rfl dX12_closesSums_46 ?_
  refine z_aload_n K 0 rfl dX12_closesSums_47 ?_
  refine z_geti K fd_X12_224 ob_69_13 dX12_closesSums_48 ?_
  refine z_iconst K ci_1 dX12_closesSums_51 ?_
  refine z_isub K dX12_closesSums_52 ?_
  refine z_puti K fw_X12_224 ob_69_13 dX12_closesSums_53 ?_
  refine z_ltm (fun s8 => ?_)
  refine z_goto K (tgt := 0) dX12_closesSums_56 (by decide) ?_
  exact h0 s8
def f_X12_closesSums_j17 (F : Nat) (k59 : zM → Option (Unit × zM)) (k0 : zM → Option (Unit × zM)) (v1 : Int32) (s : zM) : Option (Unit × zM) :=
  if v1 = 0 then
    k59 s
  else
    bnd (f_X12_top s) (fun r4 s3 =>
    if r4 = (2 : Int32) then
      f_X12_closesSums_j37 F k0 v1 s3
    else
      bnd (f_X12_top s3) (fun r10 s9 =>
      if r10 = (3 : Int32) then
        f_X12_closesSums_j37 F k0 v1 s9
      else
        k59 s9))
set_option maxRecDepth 100000 in
set_option maxHeartbeats 4000000 in
theorem t_X12_closesSums_j17 {a : zA} {d : Nat} (F : Nat) (K : zOK a cX12_closesSums 2 RX12 none d) (hd : 1 ≤ d) {k59 : zM → Option (Unit × zM)} {k0 : zM → Option (Unit × zM)} (v1 : Int32) (h59 : ∀ (s : zM), zJ a 2 (zG a zφN zrv) zφN 59 [] [] s (k59 s)) (h0 : ∀ (s : zM), zJ a 2 (zG a zφN zrv) zφN 0 [(0, .ref (a.1.2.2.2 + 69)), (1, .int v1)] [] s (k0 s)) (s : zM) : zJ a 2 (zG a zφN zrv) zφN 17 [(0, .ref (a.1.2.2.2 + 69)), (1, .int v1)] [] s (f_X12_closesSums_j17 F k59 k0 v1 s) := by
  unfold f_X12_closesSums_j17
  refine z_iload_n K 1 rfl dX12_closesSums_17 ?_
  refine z_if_eq K (tgt := 59) dX12_closesSums_18 (by decide) ?_ ?_
  · refine z_sub [] rfl ?_
    exact h59 s
  · refine z_aload_n K 0 rfl dX12_closesSums_21 ?_
    refine z_cVi (As := []) (rest := []) K (t_X12_top a.1 (d - 1) (by omega) s) mf_X12_top ml_X12_227 (Nat.le_of_ble_eq_true rfl) (by omega) rfl rc_69 rfl (Nat.le_of_ble_eq_true rfl) dX12_closesSums_22 (fun r4 s3 => ?_)
    refine z_iconst K ci_2 dX12_closesSums_25 ?_
    refine z_icmp_eq K (tgt := 37) dX12_closesSums_26 (by decide) ?_ ?_
    · exact t_X12_closesSums_j37 F K hd v1 h0 s3
    · refine z_aload_n K 0 rfl dX12_closesSums_29 ?_
      refine z_cVi (As := []) (rest := []) K (t_X12_top a.1 (d - 1) (by omega) s3) mf_X12_top ml_X12_227 (Nat.le_of_ble_eq_true rfl) (by omega) rfl rc_69 rfl (Nat.le_of_ble_eq_true rfl) dX12_closesSums_30 (fun r10 s9 => ?_)
      refine z_iconst K ci_3 dX12_closesSums_33 ?_
      refine z_icmp_ne K (tgt := 59) dX12_closesSums_34 (by decide) ?_ ?_
      · refine z_sub [] rfl ?_
        exact h59 s9
      · exact t_X12_closesSums_j37 F K hd v1 h0 s9
def f_X12_closesSums_L0 (F : Nat) (k59 : zM → Option (Unit × zM)) (v1 : Int32) : Nat → zM → Option (Unit × zM)
  | 0, _ => none
  | n + 1, s =>
    bnd (f_X12_top s) (fun r2 s1 =>
    if r2 < (4 : Int32) then
      f_X12_closesSums_j17 F k59 (f_X12_closesSums_L0 F k59 v1 n) v1 s1
    else
      bnd (f_X12_top s1) (fun r12 s11 =>
      if (6 : Int32) < r12 then
        f_X12_closesSums_j17 F k59 (f_X12_closesSums_L0 F k59 v1 n) v1 s11
      else
        f_X12_closesSums_j37 F (f_X12_closesSums_L0 F k59 v1 n) v1 s11))
set_option maxRecDepth 100000 in
set_option maxHeartbeats 4000000 in
theorem t_X12_closesSums_L0 {a : zA} {d : Nat} (F : Nat) (K : zOK a cX12_closesSums 2 RX12 none d) (hd : 1 ≤ d) {k59 : zM → Option (Unit × zM)} (v1 : Int32) (h59 : ∀ (s : zM), zJ a 2 (zG a zφN zrv) zφN 59 [] [] s (k59 s)) : ∀ (n : Nat) (s : zM), zJ a 2 (zG a zφN zrv) zφN 0 [(0, .ref (a.1.2.2.2 + 69)), (1, .int v1)] [] s (f_X12_closesSums_L0 F k59 v1 n s) := by
  intro n
  induction n with
  | zero => intros; exact z_none
  | succ n ih =>
    intro s
    rw [f_X12_closesSums_L0]
    refine z_aload_n K 0 rfl dX12_closesSums_0 ?_
    refine z_cVi (As := []) (rest := []) K (t_X12_top a.1 (d - 1) (by omega) s) mf_X12_top ml_X12_227 (Nat.le_of_ble_eq_true rfl) (by omega) rfl rc_69 rfl (Nat.le_of_ble_eq_true rfl) dX12_closesSums_1 (fun r2 s1 => ?_)
    refine z_iconst K ci_4 dX12_closesSums_4 ?_
    refine z_icmp_lt K (tgt := 17) dX12_closesSums_5 (by decide) ?_ ?_
    · exact t_X12_closesSums_j17 F K hd v1 h59 ih s1
    · refine z_aload_n K 0 rfl dX12_closesSums_8 ?_
      refine z_cVi (As := []) (rest := []) K (t_X12_top a.1 (d - 1) (by omega) s1) mf_X12_top ml_X12_227 (Nat.le_of_ble_eq_true rfl) (by omega) rfl rc_69 rfl (Nat.le_of_ble_eq_true rfl) dX12_closesSums_9 (fun r12 s11 => ?_)
      refine z_bipush K cb_6 dX12_closesSums_12 ?_
      refine z_icmp_le K (tgt := 37) dX12_closesSums_14 (by decide) ?_ ?_
      · exact t_X12_closesSums_j37 F K hd v1 ih s11
      · exact t_X12_closesSums_j17 F K hd v1 h59 ih s11
def f_X12_closesSums (F : Nat) (v1 : Int32) (s : zM) : Option (Unit × zM) :=
  f_X12_closesSums_L0 F (fun s13 =>
    some ((), s13)) v1 F s
set_option maxRecDepth 100000 in
set_option maxHeartbeats 4000000 in
theorem t_X12_closesSums (w : zWd) (F : Nat) (d : Nat) (hd : 1 ≤ d) (v1 : Int32) (s : zM) : zMt w yX12_closesSums cX12_closesSums 2 none d zφN zφN zrv [.ref (w.2.2.2 + 69), .int v1] s (f_X12_closesSums F v1 s) := by
  refine zMtN_of (own := RX12) rfl (by decide +kernel) (Nat.le_of_ble_eq_true rfl) cd_X12_closesSums [(0, .ref (w.2.2.2 + 69)), (1, .int v1)] rfl ?_
  rintro a rfl K
  unfold f_X12_closesSums
  refine t_X12_closesSums_L0 F K hd v1 (fun s13 => ?_) F s
  exact z_vret K dX12_closesSums_59
def f_X12_readsFactor_L0 (F : Nat) (k18 : zM → Option (Int32 × zM)) : Nat → zM → Option (Int32 × zM)
  | 0, _ => none
  | n + 1, s =>
    bnd (f_X12_here s) (fun r2 s1 =>
    if r2 = (91 : Int32) then
      bnd (f_X12_opens (14 : Int32) s1) (fun r17 s16 =>
      if r17 = 0 then
        k18 s16
      else
        f_X12_readsFactor_L0 F k18 n s16)
    else
      bnd (f_X12_isDigit s1) (fun r4 s3 =>
      if r4 = 0 then
        bnd (f_X12_here s3) (fun r6 s5 =>
        bnd (f_X12_factOf r6 s5) (fun r8 s7 =>
        if r8 = (-1 : Int32) then
          bnd (f_X12_wrongAt (1 : Int32) (zg s7 69 8) s7) (fun r12 s11 =>
          if r12 = 0 then some (0, s11) else if r12 = 1 then some (1, s11) else none)
        else
          bnd (f_X12_notes (1 : Int32) r8 s7) (fun _ s9 =>
          lt (zs s9 69 8 ((zg s9 69 8) + (1 : Int32))) (fun s10 =>
          some ((1 : Int32), s10)))))
      else
        bnd (f_X12_readsNumber F s3) (fun r14 s13 =>
        if r14 = 0 then
          some ((0 : Int32), s13)
        else
          bnd (f_X12_notes (0 : Int32) (zg s13 69 15) s13) (fun _ s15 =>
          some ((1 : Int32), s15)))))
set_option maxRecDepth 100000 in
set_option maxHeartbeats 4000000 in
theorem t_X12_readsFactor_L0 {a : zA} {d : Nat} (F : Nat) (K : zOK a cX12_readsFactor 2 RX12 (some .boolean) d) (hd : 3 ≤ d) {k18 : zM → Option (Int32 × zM)} (h18 : ∀ (s : zM), zJ a 2 (zG a zφN zri) zφN 18 [] [] s (k18 s)) : ∀ (n : Nat) (s : zM), zJ a 2 (zG a zφN zri) zφN 0 [(0, .ref (a.1.2.2.2 + 69))] [] s (f_X12_readsFactor_L0 F k18 n s) := by
  intro n
  induction n with
  | zero => intros; exact z_none
  | succ n ih =>
    intro s
    rw [f_X12_readsFactor_L0]
    refine z_aload_n K 0 rfl dX12_readsFactor_0 ?_
    refine z_cVi (As := []) (rest := []) K (t_X12_here a.1 (d - 1) (by omega) s) mf_X12_here ml_X12_199 (Nat.le_of_ble_eq_true rfl) (by omega) rfl rc_69 rfl (Nat.le_of_ble_eq_true rfl) dX12_readsFactor_1 (fun r2 s1 => ?_)
    refine z_bipush K cb_91 dX12_readsFactor_4 ?_
    refine z_icmp_ne K (tgt := 20) dX12_readsFactor_6 (by decide) ?_ ?_
    · refine z_aload_n K 0 rfl dX12_readsFactor_20 ?_
      refine z_cVi (As := []) (rest := []) K (t_X12_isDigit a.1 (d - 1) (by omega) s1) mf_X12_isDigit ml_X12_213 (Nat.le_of_ble_eq_true rfl) (by omega) rfl rc_69 rfl (Nat.le_of_ble_eq_true rfl) dX12_readsFactor_21 (fun r4 s3 => ?_)
      refine z_if_eq K (tgt := 47) dX12_readsFactor_24 (by decide) ?_ ?_
      · refine z_aload_n K 0 rfl dX12_readsFactor_47 ?_
        refine z_cVi (As := []) (rest := []) K (t_X12_here a.1 (d - 1) (by omega) s3) mf_X12_here ml_X12_199 (Nat.le_of_ble_eq_true rfl) (by omega) rfl rc_69 rfl (Nat.le_of_ble_eq_true rfl) dX12_readsFactor_48 (fun r6 s5 => ?_)
        refine z_cSi (As := [.int r6]) (rest := []) K (t_X12_factOf a.1 (d - 1) (by omega) r6 s5) mf_X12_factOf ml_X12_240 (Nat.le_of_ble_eq_true rfl) (by omega) rfl rfl (Nat.le_of_ble_eq_true rfl) dX12_readsFactor_51 (fun r8 s7 => ?_)
        refine z_istore_n K (lv' := [(1, .int r8), (0, .ref (a.1.2.2.2 + 69))]) dX12_readsFactor_54 rfl (Nat.le_of_ble_eq_true rfl) rfl ?_
        refine z_iload_n K 0 rfl dX12_readsFactor_55 ?_
        refine z_iconst K ci_m1 dX12_readsFactor_56 ?_
        refine z_icmp_ne K (tgt := 70) dX12_readsFactor_57 (by decide) ?_ ?_
        · refine z_aload_n K 1 rfl dX12_readsFactor_70 ?_
          refine z_iconst K ci_1 dX12_readsFactor_71 ?_
          refine z_iload_n K 0 rfl dX12_readsFactor_72 ?_
          refine z_cVv (As := [.int (1 : Int32), .int r8]) (rest := []) K (t_X12_notes a.1 (d - 1) (by omega) (1 : Int32) r8 s7) mf_X12_notes ml_X12_230 (Nat.le_of_ble_eq_true rfl) (by omega) rfl rc_69 rfl (Nat.le_of_ble_eq_true rfl) dX12_readsFactor_73 (fun _ s9 => ?_)
          refine z_aload_n K 1 rfl dX12_readsFactor_76 ?_
          refine z_aload_n K 1 rfl dX12_readsFactor_77 ?_
          refine z_geti K fd_X12_193 ob_69_8 dX12_readsFactor_78 ?_
          refine z_iconst K ci_1 dX12_readsFactor_81 ?_
          refine z_iadd K dX12_readsFactor_82 ?_
          refine z_puti K fw_X12_193 ob_69_8 dX12_readsFactor_83 ?_
          refine z_ltm (fun s10 => ?_)
          refine z_iconst K ci_1 dX12_readsFactor_86 ?_
          exact z_zret (Or.inr rfl) K dX12_readsFactor_87
        · refine z_aload_n K 1 rfl dX12_readsFactor_60 ?_
          refine z_iconst K ci_1 dX12_readsFactor_61 ?_
          refine z_aload_n K 1 rfl dX12_readsFactor_62 ?_
          refine z_geti K fd_X12_193 ob_69_8 dX12_readsFactor_63 ?_
          refine z_cVi (As := [.int (1 : Int32), .int (zg s7 69 8)]) (rest := []) K (t_X12_wrongAt a.1 (d - 1) (by omega) (1 : Int32) (zg s7 69 8) s7) mf_X12_wrongAt ml_X12_206 (Nat.le_of_ble_eq_true rfl) (by omega) rfl rc_69 rfl (Nat.le_of_ble_eq_true rfl) dX12_readsFactor_66 (fun r12 s11 => ?_)
          exact z_zretc K dX12_readsFactor_69
      · refine z_aload_n K 0 rfl dX12_readsFactor_27 ?_
        refine z_cVi (As := []) (rest := []) K (t_X12_readsNumber a.1 F (d - 1) (by omega) s3) mf_X12_readsNumber ml_X12_237 (Nat.le_of_ble_eq_true rfl) (by omega) rfl rc_69 rfl (Nat.le_of_ble_eq_true rfl) dX12_readsFactor_28 (fun r14 s13 => ?_)
        refine z_if_ne K (tgt := 36) dX12_readsFactor_31 (by decide) ?_ ?_
        · refine z_aload_n K 0 rfl dX12_readsFactor_36 ?_
          refine z_iconst K ci_0 dX12_readsFactor_37 ?_
          refine z_aload_n K 0 rfl dX12_readsFactor_38 ?_
          refine z_geti K fd_X12_210 ob_69_15 dX12_readsFactor_39 ?_
          refine z_cVv (As := [.int (0 : Int32), .int (zg s13 69 15)]) (rest := []) K (t_X12_notes a.1 (d - 1) (by omega) (0 : Int32) (zg s13 69 15) s13) mf_X12_notes ml_X12_230 (Nat.le_of_ble_eq_true rfl) (by omega) rfl rc_69 rfl (Nat.le_of_ble_eq_true rfl) dX12_readsFactor_42 (fun _ s15 => ?_)
          refine z_iconst K ci_1 dX12_readsFactor_45 ?_
          exact z_zret (Or.inr rfl) K dX12_readsFactor_46
        · refine z_iconst K ci_0 dX12_readsFactor_34 ?_
          exact z_zret (Or.inl rfl) K dX12_readsFactor_35
    · refine z_aload_n K 0 rfl dX12_readsFactor_9 ?_
      refine z_bipush K cb_14 dX12_readsFactor_10 ?_
      refine z_cVi (As := [.int (14 : Int32)]) (rest := []) K (t_X12_opens a.1 (d - 1) (by omega) (14 : Int32) s1) mf_X12_opens ml_X12_234 (Nat.le_of_ble_eq_true rfl) (by omega) rfl rc_69 rfl (Nat.le_of_ble_eq_true rfl) dX12_readsFactor_12 (fun r17 s16 => ?_)
      refine z_if_ne K (tgt := 0) dX12_readsFactor_15 (by decide) ?_ ?_
      · exact ih s16
      · refine z_sub [] rfl ?_
        exact h18 s16
def f_X12_readsFactor (F : Nat) (s : zM) : Option (Int32 × zM) :=
  f_X12_readsFactor_L0 F (fun s18 =>
    some ((0 : Int32), s18)) F s
set_option maxRecDepth 100000 in
set_option maxHeartbeats 4000000 in
theorem t_X12_readsFactor (w : zWd) (F : Nat) (d : Nat) (hd : 3 ≤ d) (s : zM) : zMt w yX12_readsFactor cX12_readsFactor 2 (some .boolean) d zφN zφN zri [.ref (w.2.2.2 + 69)] s (f_X12_readsFactor F s) := by
  refine zMtN_of (own := RX12) rfl (by decide +kernel) (Nat.le_of_ble_eq_true rfl) cd_X12_readsFactor [(0, .ref (w.2.2.2 + 69))] rfl ?_
  rintro a rfl K
  unfold f_X12_readsFactor
  refine t_X12_readsFactor_L0 F K hd (fun s18 => ?_) F s
  refine z_iconst K ci_0 dX12_readsFactor_18 ?_
  exact z_zret (Or.inl rfl) K dX12_readsFactor_19
def f_X12_hasOpenSum_L2 (F : Nat) (k32 : zM → Option (Int32 × zM)) : Nat → Int32 → zM → Option (Int32 × zM)
  | 0, _, _ => none
  | n + 1, v2, s =>
    if v2 < (zg s 69 13) then
      if zin v2 220 = true then
        if ((zg s 76 (v2).toNatClampNeg) / (1048576 : Int32)) = (14 : Int32) then
          some ((1 : Int32), s)
        else
          lt (v2 + (1 : Int32)) (fun y1 =>
          f_X12_hasOpenSum_L2 F k32 n y1 s)
      else none
    else
      k32 s
set_option maxRecDepth 100000 in
set_option maxHeartbeats 4000000 in
theorem t_X12_hasOpenSum_L2 {a : zA} {d : Nat} (F : Nat) (K : zOK a cX12_hasOpenSum 3 RX12 (some .boolean) d) (hd : 0 ≤ d) {k32 : zM → Option (Int32 × zM)} (h32 : ∀ (s : zM), zJ a 3 (zG a zφN zri) zφN 32 [] [] s (k32 s)) : ∀ (n : Nat) (v2 : Int32) (s : zM), zJ a 3 (zG a zφN zri) zφN 2 [(0, .ref (a.1.2.2.2 + 69)), (2, .int v2)] [] s (f_X12_hasOpenSum_L2 F k32 n v2 s) := by
  intro n
  induction n with
  | zero => intros; exact z_none
  | succ n ih =>
    intro v2 s
    rw [f_X12_hasOpenSum_L2]
    refine z_iload_n K 1 rfl dX12_hasOpenSum_2 ?_
    refine z_aload_n K 0 rfl dX12_hasOpenSum_3 ?_
    refine z_geti K fd_X12_224 ob_69_13 dX12_hasOpenSum_4 ?_
    refine z_icmp_ge K (tgt := 32) dX12_hasOpenSum_7 (by decide) ?_ ?_
    · refine z_sub [] rfl ?_
      exact h32 s
    · refine z_aload_n K 0 rfl dX12_hasOpenSum_10 ?_
      refine z_getr K fd_X12_29 ob_69_18 dX12_hasOpenSum_11 ?_
      refine z_iload_n K 1 rfl dX12_hasOpenSum_14 ?_
      refine z_iald K ar_76 dX12_hasOpenSum_15 ?_
      refine z_ldc K cst_X12_220 dX12_hasOpenSum_16 ?_
      refine z_idivc K (by decide) dX12_hasOpenSum_18 ?_
      refine z_bipush K cb_14 dX12_hasOpenSum_19 ?_
      refine z_icmp_ne K (tgt := 26) dX12_hasOpenSum_21 (by decide) ?_ ?_
      · refine z_iincN K (j := 1) (lv' := [(0, .ref (a.1.2.2.2 + 69))]) ci_1 rfl dX12_hasOpenSum_26 (Nat.le_of_ble_eq_true rfl) rfl (fun y1 => ?_)
        refine z_goto K (tgt := 2) dX12_hasOpenSum_29 (by decide) ?_
        refine z_sub [1, 0] rfl ?_
        exact ih y1 s
      · refine z_iconst K ci_1 dX12_hasOpenSum_24 ?_
        exact z_zret (Or.inr rfl) K dX12_hasOpenSum_25
def f_X12_hasOpenSum (F : Nat) (v1 : Int32) (s : zM) : Option (Int32 × zM) :=
  f_X12_hasOpenSum_L2 F (fun s2 =>
    some ((0 : Int32), s2)) F v1 s
set_option maxRecDepth 100000 in
set_option maxHeartbeats 4000000 in
theorem t_X12_hasOpenSum (w : zWd) (F : Nat) (d : Nat) (hd : 0 ≤ d) (v1 : Int32) (s : zM) : zMt w yX12_hasOpenSum cX12_hasOpenSum 3 (some .boolean) d zφN zφN zri [.ref (w.2.2.2 + 69), .int v1] s (f_X12_hasOpenSum F v1 s) := by
  refine zMtN_of (own := RX12) rfl (by decide +kernel) (Nat.le_of_ble_eq_true rfl) cd_X12_hasOpenSum [(0, .ref (w.2.2.2 + 69)), (1, .int v1)] rfl ?_
  rintro a rfl K
  unfold f_X12_hasOpenSum
  refine z_iload_n K 1 rfl dX12_hasOpenSum_0 ?_
  refine z_istore_n K (lv' := [(2, .int v1), (0, .ref (a.1.2.2.2 + 69)), (1, .int v1)]) dX12_hasOpenSum_1 rfl (Nat.le_of_ble_eq_true rfl) rfl ?_
  refine z_sub [1, 0] rfl ?_
  refine t_X12_hasOpenSum_L2 F K hd (fun s2 => ?_) F v1 s
  refine z_iconst K ci_0 dX12_hasOpenSum_32 ?_
  exact z_zret (Or.inl rfl) K dX12_hasOpenSum_33
def f_X12_readsSum_j138 (F : Nat) (v1 : Int32) (s : zM) : Option (Int32 × zM) :=
  bnd (f_X12_hasOpenSum F v1 s) (fun r11 s10 =>
  if r11 = 0 then
    bnd (f_X12_closesSums F (1 : Int32) s10) (fun _ s12 =>
    some ((1 : Int32), s12))
  else
    bnd (f_X12_wrongAt (1 : Int32) (zg s10 69 8) s10) (fun r14 s13 =>
    if r14 = 0 then some (0, s13) else if r14 = 1 then some (1, s13) else none))
set_option maxRecDepth 100000 in
set_option maxHeartbeats 4000000 in
theorem t_X12_readsSum_j138 {a : zA} {d : Nat} (F : Nat) (K : zOK a cX12_readsSum 3 RX12 (some .boolean) d) (hd : 4 ≤ d) (v1 : Int32) (s : zM) : zJ a 3 (zG a zφN zri) zφN 138 [(0, .ref (a.1.2.2.2 + 69)), (1, .int v1)] [] s (f_X12_readsSum_j138 F v1 s) := by
  unfold f_X12_readsSum_j138
  refine z_aload_n K 0 rfl dX12_readsSum_138 ?_
  refine z_iload_n K 1 rfl dX12_readsSum_139 ?_
  refine z_cVi (As := [.int v1]) (rest := []) K (t_X12_hasOpenSum a.1 F (d - 1) (by omega) v1 s) mf_X12_hasOpenSum ml_X12_253 (Nat.le_of_ble_eq_true rfl) (by omega) rfl rc_69 rfl (Nat.le_of_ble_eq_true rfl) dX12_readsSum_140 (fun r11 s10 => ?_)
  refine z_if_eq K (tgt := 156) dX12_readsSum_143 (by decide) ?_ ?_
  · refine z_aload_n K 0 rfl dX12_readsSum_156 ?_
    refine z_iconst K ci_1 dX12_readsSum_157 ?_
    refine z_cVv (As := [.int (1 : Int32)]) (rest := []) K (t_X12_closesSums a.1 F (d - 1) (by omega) (1 : Int32) s10) mf_X12_closesSums ml_X12_249 (Nat.le_of_ble_eq_true rfl) (by omega) rfl rc_69 rfl (Nat.le_of_ble_eq_true rfl) dX12_readsSum_158 (fun _ s12 => ?_)
    refine z_iconst K ci_1 dX12_readsSum_161 ?_
    exact z_zret (Or.inr rfl) K dX12_readsSum_162
  · refine z_aload_n K 0 rfl dX12_readsSum_146 ?_
    refine z_iconst K ci_1 dX12_readsSum_147 ?_
    refine z_aload_n K 0 rfl dX12_readsSum_148 ?_
    refine z_geti K fd_X12_193 ob_69_8 dX12_readsSum_149 ?_
    refine z_cVi (As := [.int (1 : Int32), .int (zg s10 69 8)]) (rest := []) K (t_X12_wrongAt a.1 (d - 1) (by omega) (1 : Int32) (zg s10 69 8) s10) mf_X12_wrongAt ml_X12_206 (Nat.le_of_ble_eq_true rfl) (by omega) rfl rc_69 rfl (Nat.le_of_ble_eq_true rfl) dX12_readsSum_152 (fun r14 s13 => ?_)
    exact z_zretc K dX12_readsSum_155
def f_X12_readsSum_j38 (F : Nat) (k14 : zM → Option (Int32 × zM)) (v1 : Int32) (v2 : Int32) (w0 : Int32) (s : zM) : Option (Int32 × zM) :=
  bnd (f_X12_closesSums F w0 s) (fun _ s21 =>
  if zin (zg s21 69 13) 220 = true then
    lt (zs s21 76 ((zg s21 69 13)).toNatClampNeg ((1048576 : Int32) * v2)) (fun s22 =>
    lt (zs s22 69 13 ((zg s22 69 13) + (1 : Int32))) (fun s23 =>
    lt (zs s23 69 8 ((zg s23 69 8) + (1 : Int32))) (fun s24 =>
    bnd (f_X12_readsFactor F s24) (fun r26 s25 =>
    if r26 = 0 then
      some ((0 : Int32), s25)
    else
      k14 s25))))
  else none)
set_option maxRecDepth 100000 in
set_option maxHeartbeats 4000000 in
theorem t_X12_readsSum_j38 {a : zA} {d : Nat} (F : Nat) (K : zOK a cX12_readsSum 3 RX12 (some .boolean) d) (hd : 4 ≤ d) {k14 : zM → Option (Int32 × zM)} (v1 : Int32) (h14 : ∀ (s : zM), zJ a 3 (zG a zφN zri) zφN 14 [(0, .ref (a.1.2.2.2 + 69)), (1, .int v1)] [] s (k14 s)) (v2 : Int32) (w0 : Int32) (s : zM) : zJ a 3 (zG a zφN zri) zφN 38 [(0, .ref (a.1.2.2.2 + 69)), (1, .int v1), (2, .int v2)] [.int w0, .ref (a.1.2.2.2 + 69)] s (f_X12_readsSum_j38 F k14 v1 v2 w0 s) := by
  unfold f_X12_readsSum_j38
  refine z_cVv (As := [.int w0]) (rest := []) K (t_X12_closesSums a.1 F (d - 1) (by omega) w0 s) mf_X12_closesSums ml_X12_249 (Nat.le_of_ble_eq_true rfl) (by omega) rfl rc_69 rfl (Nat.le_of_ble_eq_true rfl) dX12_readsSum_38 (fun _ s21 => ?_)
  refine z_aload_n K 0 rfl dX12_readsSum_41 ?_
  refine z_getr K fd_X12_29 ob_69_18 dX12_readsSum_42 ?_
  refine z_aload_n K 0 rfl dX12_readsSum_45 ?_
  refine z_geti K fd_X12_224 ob_69_13 dX12_readsSum_46 ?_
  refine z_ldc K cst_X12_220 dX12_readsSum_49 ?_
  refine z_iload_n K 2 rfl dX12_readsSum_51 ?_
  refine z_imul K dX12_readsSum_52 ?_
  refine z_iast K ar_76 dX12_readsSum_53 ?_
  refine z_ltm (fun s22 => ?_)
  refine z_aload_n K 0 rfl dX12_readsSum_54 ?_
  refine z_aload_n K 0 rfl dX12_readsSum_55 ?_
  refine z_geti K fd_X12_224 ob_69_13 dX12_readsSum_56 ?_
  refine z_iconst K ci_1 dX12_readsSum_59 ?_
  refine z_iadd K dX12_readsSum_60 ?_
  refine z_puti K fw_X12_224 ob_69_13 dX12_readsSum_61 ?_
  refine z_ltm (fun s23 => ?_)
  refine z_aload_n K 0 rfl dX12_readsSum_64 ?_
  refine z_aload_n K 0 rfl dX12_readsSum_65 ?_
  refine z_geti K fd_X12_193 ob_69_8 dX12_readsSum_66 ?_
  refine z_iconst K ci_1 dX12_readsSum_69 ?_
  refine z_iadd K dX12_readsSum_70 ?_
  refine z_puti K fw_X12_193 ob_69_8 dX12_readsSum_71 ?_
  refine z_ltm (fun s24 => ?_)
  refine z_aload_n K 0 rfl dX12_readsSum_74 ?_
  refine z_cVi (As := []) (rest := []) K (t_X12_readsFactor a.1 F (d - 1) (by omega) s24) mf_X12_readsFactor ml_X12_243 (Nat.le_of_ble_eq_true rfl) (by omega) rfl rc_69 rfl (Nat.le_of_ble_eq_true rfl) dX12_readsSum_75 (fun r26 s25 => ?_)
  refine z_if_ne K (tgt := 163) dX12_readsSum_78 (by decide) ?_ ?_
  · refine z_goto K (tgt := 14) dX12_readsSum_163 (by decide) ?_
    refine z_sub [0, 1] rfl ?_
    exact h14 s25
  · refine z_iconst K ci_0 dX12_readsSum_81 ?_
    exact z_zret (Or.inl rfl) K dX12_readsSum_82
def f_X12_readsSum_L14 (F : Nat) (v1 : Int32) : Nat → zM → Option (Int32 × zM)
  | 0, _ => none
  | n + 1, s =>
    bnd (f_X12_here s) (fun r5 s4 =>
    bnd (f_X12_sumSign r5 s4) (fun r7 s6 =>
    if r7 = (-1 : Int32) then
      bnd (f_X12_here s6) (fun r9 s8 =>
      if r9 = (93 : Int32) then
        bnd (f_X12_hasOpenSum F v1 s8) (fun r16 s15 =>
        if r16 = 0 then
          f_X12_readsSum_j138 F v1 s15
        else
          bnd (f_X12_closesSums F (1 : Int32) s15) (fun _ s17 =>
          lt (zs s17 69 13 ((zg s17 69 13) - (1 : Int32))) (fun s18 =>
          lt (zs s18 69 11 ((zg s18 69 11) - (1 : Int32))) (fun s19 =>
          lt (zs s19 69 8 ((zg s19 69 8) + (1 : Int32))) (fun s20 =>
          f_X12_readsSum_L14 F v1 n s20)))))
      else
        f_X12_readsSum_j138 F v1 s8)
    else
      if r7 < (4 : Int32) then
        f_X12_readsSum_j38 F (f_X12_readsSum_L14 F v1 n) v1 r7 (1 : Int32) s6
      else
        f_X12_readsSum_j38 F (f_X12_readsSum_L14 F v1 n) v1 r7 (0 : Int32) s6))
set_option maxRecDepth 100000 in
set_option maxHeartbeats 4000000 in
theorem t_X12_readsSum_L14 {a : zA} {d : Nat} (F : Nat) (K : zOK a cX12_readsSum 3 RX12 (some .boolean) d) (hd : 4 ≤ d) (v1 : Int32) : ∀ (n : Nat) (s : zM), zJ a 3 (zG a zφN zri) zφN 14 [(0, .ref (a.1.2.2.2 + 69)), (1, .int v1)] [] s (f_X12_readsSum_L14 F v1 n s) := by
  intro n
  induction n with
  | zero => intros; exact z_none
  | succ n ih =>
    intro s
    rw [f_X12_readsSum_L14]
    refine z_aload_n K 0 rfl dX12_readsSum_14 ?_
    refine z_cVi (As := []) (rest := []) K (t_X12_here a.1 (d - 1) (by omega) s) mf_X12_here ml_X12_199 (Nat.le_of_ble_eq_true rfl) (by omega) rfl rc_69 rfl (Nat.le_of_ble_eq_true rfl) dX12_readsSum_15 (fun r5 s4 => ?_)
    refine z_cSi (As := [.int r5]) (rest := []) K (t_X12_sumSign a.1 (d - 1) (by omega) r5 s4) mf_X12_sumSign ml_X12_246 (Nat.le_of_ble_eq_true rfl) (by omega) rfl rfl (Nat.le_of_ble_eq_true rfl) dX12_readsSum_18 (fun r7 s6 => ?_)
    refine z_istore_n K (lv' := [(2, .int r7), (0, .ref (a.1.2.2.2 + 69)), (1, .int v1)]) dX12_readsSum_21 rfl (Nat.le_of_ble_eq_true rfl) rfl ?_
    refine z_iload_n K 0 rfl dX12_readsSum_22 ?_
    refine z_iconst K ci_m1 dX12_readsSum_23 ?_
    refine z_icmp_eq K (tgt := 83) dX12_readsSum_24 (by decide) ?_ ?_
    · refine z_aload_n K 1 rfl dX12_readsSum_83 ?_
      refine z_cVi (As := []) (rest := []) K (t_X12_here a.1 (d - 1) (by omega) s6) mf_X12_here ml_X12_199 (Nat.le_of_ble_eq_true rfl) (by omega) rfl rc_69 rfl (Nat.le_of_ble_eq_true rfl) dX12_readsSum_84 (fun r9 s8 => ?_)
      refine z_bipush K cb_93 dX12_readsSum_87 ?_
      refine z_icmp_ne K (tgt := 138) dX12_readsSum_89 (by decide) ?_ ?_
      · refine z_sub [1, 2] rfl ?_
        exact t_X12_readsSum_j138 F K hd v1 s8
      · refine z_aload_n K 1 rfl dX12_readsSum_92 ?_
        refine z_iload_n K 2 rfl dX12_readsSum_93 ?_
        refine z_cVi (As := [.int v1]) (rest := []) K (t_X12_hasOpenSum a.1 F (d - 1) (by omega) v1 s8) mf_X12_hasOpenSum ml_X12_253 (Nat.le_of_ble_eq_true rfl) (by omega) rfl rc_69 rfl (Nat.le_of_ble_eq_true rfl) dX12_readsSum_94 (fun r16 s15 => ?_)
        refine z_if_eq K (tgt := 138) dX12_readsSum_97 (by decide) ?_ ?_
        · refine z_sub [1, 2] rfl ?_
          exact t_X12_readsSum_j138 F K hd v1 s15
        · refine z_aload_n K 1 rfl dX12_readsSum_100 ?_
          refine z_iconst K ci_1 dX12_readsSum_101 ?_
          refine z_cVv (As := [.int (1 : Int32)]) (rest := []) K (t_X12_closesSums a.1 F (d - 1) (by omega) (1 : Int32) s15) mf_X12_closesSums ml_X12_249 (Nat.le_of_ble_eq_true rfl) (by omega) rfl rc_69 rfl (Nat.le_of_ble_eq_true rfl) dX12_readsSum_102 (fun _ s17 => ?_)
          refine z_aload_n K 1 rfl dX12_readsSum_105 ?_
          refine z_aload_n K 1 rfl dX12_readsSum_106 ?_
          refine z_geti K fd_X12_224 ob_69_13 dX12_readsSum_107 ?_
          refine z_iconst K ci_1 dX12_readsSum_110 ?_
          refine z_isub K dX12_readsSum_111 ?_
          refine z_puti K fw_X12_224 ob_69_13 dX12_readsSum_112 ?_
          refine z_ltm (fun s18 => ?_)
          refine z_aload_n K 1 rfl dX12_readsSum_115 ?_
          refine z_aload_n K 1 rfl dX12_readsSum_116 ?_
          refine z_geti K fd_X12_221 ob_69_11 dX12_readsSum_117 ?_
          refine z_iconst K ci_1 dX12_readsSum_120 ?_
          refine z_isub K dX12_readsSum_121 ?_
          refine z_puti K fw_X12_221 ob_69_11 dX12_readsSum_122 ?_
          refine z_ltm (fun s19 => ?_)
          refine z_aload_n K 1 rfl dX12_readsSum_125 ?_
          refine z_aload_n K 1 rfl dX12_readsSum_126 ?_
          refine z_geti K fd_X12_193 ob_69_8 dX12_readsSum_127 ?_
          refine z_iconst K ci_1 dX12_readsSum_130 ?_
          refine z_iadd K dX12_readsSum_131 ?_
          refine z_puti K fw_X12_193 ob_69_8 dX12_readsSum_132 ?_
          refine z_ltm (fun s20 => ?_)
          refine z_goto K (tgt := 163) dX12_readsSum_135 (by decide) ?_
          refine z_goto K (tgt := 14) dX12_readsSum_163 (by decide) ?_
          refine z_sub [1, 2] rfl ?_
          exact ih s20
    · refine z_aload_n K 1 rfl dX12_readsSum_27 ?_
      refine z_iload_n K 0 rfl dX12_readsSum_28 ?_
      refine z_iconst K ci_4 dX12_readsSum_29 ?_
      refine z_icmp_ge K (tgt := 37) dX12_readsSum_30 (by decide) ?_ ?_
      · refine z_iconst K ci_0 dX12_readsSum_37 ?_
        refine z_sub [1, 2, 0] rfl ?_
        exact t_X12_readsSum_j38 F K hd v1 ih r7 (0 : Int32) s6
      · refine z_iconst K ci_1 dX12_readsSum_33 ?_
        refine z_goto K (tgt := 38) dX12_readsSum_34 (by decide) ?_
        refine z_sub [1, 2, 0] rfl ?_
        exact t_X12_readsSum_j38 F K hd v1 ih r7 (1 : Int32) s6
def f_X12_readsSum (F : Nat) (s : zM) : Option (Int32 × zM) :=
  lt ((zg s 69 13)) (fun y1 =>
  bnd (f_X12_readsFactor F s) (fun r3 s2 =>
  if r3 = 0 then
    some ((0 : Int32), s2)
  else
    f_X12_readsSum_L14 F y1 F s2))
set_option maxRecDepth 100000 in
set_option maxHeartbeats 4000000 in
theorem t_X12_readsSum (w : zWd) (F : Nat) (d : Nat) (hd : 4 ≤ d) (s : zM) : zMt w yX12_readsSum cX12_readsSum 3 (some .boolean) d zφN zφN zri [.ref (w.2.2.2 + 69)] s (f_X12_readsSum F s) := by
  refine zMtN_of (own := RX12) rfl (by decide +kernel) (Nat.le_of_ble_eq_true rfl) cd_X12_readsSum [(0, .ref (w.2.2.2 + 69))] rfl ?_
  rintro a rfl K
  unfold f_X12_readsSum
  refine z_aload_n K 0 rfl dX12_readsSum_0 ?_
  refine z_geti K fd_X12_224 ob_69_13 dX12_readsSum_1 ?_
  refine z_topi (fun y1 => ?_)
  refine z_istore_n K (lv' := [(1, .int y1), (0, .ref (a.1.2.2.2 + 69))]) dX12_readsSum_4 rfl (Nat.le_of_ble_eq_true rfl) rfl ?_
  refine z_aload_n K 1 rfl dX12_readsSum_5 ?_
  refine z_cVi (As := []) (rest := []) K (t_X12_readsFactor a.1 F (d - 1) (by omega) s) mf_X12_readsFactor ml_X12_243 (Nat.le_of_ble_eq_true rfl) (by omega) rfl rc_69 rfl (Nat.le_of_ble_eq_true rfl) dX12_readsSum_6 (fun r3 s2 => ?_)
  refine z_if_ne K (tgt := 14) dX12_readsSum_9 (by decide) ?_ ?_
  · refine z_sub [1, 0] rfl ?_
    exact t_X12_readsSum_L14 F K hd y1 F s2
  · refine z_iconst K ci_0 dX12_readsSum_12 ?_
    exact z_zret (Or.inl rfl) K dX12_readsSum_13
def f_X12_endsPiece_L0 (F : Nat) (k39 : zM → Option (Unit × zM)) : Nat → zM → Option (Unit × zM)
  | 0, _ => none
  | n + 1, s =>
    bnd (f_X12_top s) (fun r2 s1 =>
    if r2 = (10 : Int32) then
      bnd (f_X12_notes (10 : Int32) (0 : Int32) s1) (fun _ s3 =>
      lt (zs s3 69 13 ((zg s3 69 13) - (1 : Int32))) (fun s4 =>
      lt (zs s4 69 11 ((zg s4 69 11) - (1 : Int32))) (fun s5 =>
      f_X12_endsPiece_L0 F k39 n s5)))
    else
      k39 s1)
set_option maxRecDepth 100000 in
set_option maxHeartbeats 4000000 in
theorem t_X12_endsPiece_L0 {a : zA} {d : Nat} (F : Nat) (K : zOK a cX12_endsPiece 1 RX12 none d) (hd : 1 ≤ d) {k39 : zM → Option (Unit × zM)} (h39 : ∀ (s : zM), zJ a 1 (zG a zφN zrv) zφN 39 [] [] s (k39 s)) : ∀ (n : Nat) (s : zM), zJ a 1 (zG a zφN zrv) zφN 0 [(0, .ref (a.1.2.2.2 + 69))] [] s (f_X12_endsPiece_L0 F k39 n s) := by
  intro n
  induction n with
  | zero => intros; exact z_none
  | succ n ih =>
    intro s
    rw [f_X12_endsPiece_L0]
    refine z_aload_n K 0 rfl dX12_endsPiece_0 ?_
    refine z_cVi (As := []) (rest := []) K (t_X12_top a.1 (d - 1) (by omega) s) mf_X12_top ml_X12_227 (Nat.le_of_ble_eq_true rfl) (by omega) rfl rc_69 rfl (Nat.le_of_ble_eq_true rfl) dX12_endsPiece_1 (fun r2 s1 => ?_)
    refine z_bipush K cb_10 dX12_endsPiece_4 ?_
    refine z_icmp_ne K (tgt := 39) dX12_endsPiece_6 (by decide) ?_ ?_
    · refine z_sub [] rfl ?_
      exact h39 s1
    · refine z_aload_n K 0 rfl dX12_endsPiece_9 ?_
      refine z_bipush K cb_10 dX12_endsPiece_10 ?_
      refine z_iconst K ci_0 dX12_endsPiece_12 ?_
      refine z_cVv (As := [.int (10 : Int32), .int (0 : Int32)]) (rest := []) K (t_X12_notes a.1 (d - 1) (by omega) (10 : Int32) (0 : Int32) s1) mf_X12_notes ml_X12_230 (Nat.le_of_ble_eq_true rfl) (by omega) rfl rc_69 rfl (Nat.le_of_ble_eq_true rfl) dX12_endsPiece_13 (fun _ s3 => ?_)
      refine z_aload_n K 0 rfl dX12_endsPiece_16 ?_
      refine z_aload_n K 0 rfl dX12_endsPiece_17 ?_
      refine z_geti K fd_X12_224 ob_69_13 dX12_endsPiece_18 ?_
      refine z_iconst K ci_1 dX12_endsPiece_21 ?_
      refine z_isub K dX12_endsPiece_22 ?_
      refine z_puti K fw_X12_224 ob_69_13 dX12_endsPiece_23 ?_
      refine z_ltm (fun s4 => ?_)
      refine z_aload_n K 0 rfl dX12_endsPiece_26 ?_
      refine z_aload_n K 0 rfl dX12_endsPiece_27 ?_
      refine z_geti K fd_X12_221 ob_69_11 dX12_endsPiece_28 ?_
      refine z_iconst K ci_1 dX12_endsPiece_31 ?_
      refine z_isub K dX12_endsPiece_32 ?_
      refine z_puti K fw_X12_221 ob_69_11 dX12_endsPiece_33 ?_
      refine z_ltm (fun s5 => ?_)
      refine z_goto K (tgt := 0) dX12_endsPiece_36 (by decide) ?_
      exact ih s5
def f_X12_endsPiece (F : Nat) (s : zM) : Option (Unit × zM) :=
  f_X12_endsPiece_L0 F (fun s6 =>
    some ((), s6)) F s
set_option maxRecDepth 100000 in
set_option maxHeartbeats 4000000 in
theorem t_X12_endsPiece (w : zWd) (F : Nat) (d : Nat) (hd : 1 ≤ d) (s : zM) : zMt w yX12_endsPiece cX12_endsPiece 1 none d zφN zφN zrv [.ref (w.2.2.2 + 69)] s (f_X12_endsPiece F s) := by
  refine zMtN_of (own := RX12) rfl (by decide +kernel) (Nat.le_of_ble_eq_true rfl) cd_X12_endsPiece [(0, .ref (w.2.2.2 + 69))] rfl ?_
  rintro a rfl K
  unfold f_X12_endsPiece
  refine t_X12_endsPiece_L0 F K hd (fun s6 => ?_) F s
  exact z_vret K dX12_endsPiece_39
def f_X12_lands_j22 (F : Nat) (k0 : zM → Option (Unit × zM)) (v1 : Int32) (s : zM) : Option (Unit × zM) :=
  if zin ((zg s 69 13) - (1 : Int32)) 220 = true then
    lt (((zg s 76 (((zg s 69 13) - (1 : Int32))).toNatClampNeg) - (zg s 76 (((zg s 69 13) - (1 : Int32))).toNatClampNeg) / (1048576 : Int32) * (1048576 : Int32))) (fun y3 =>
    if zin y3 220 = true then
      if zin y3 220 = true then
        lt (zs s 75 (y3).toNatClampNeg (((1048576 : Int32) * ((zg s 75 (y3).toNatClampNeg) / (1048576 : Int32))) + (zg s 69 12))) (fun s4 =>
        lt (zs s4 69 13 ((zg s4 69 13) - (1 : Int32))) (fun s5 =>
        k0 s5))
      else none
    else none)
  else none
set_option maxRecDepth 100000 in
set_option maxHeartbeats 4000000 in
theorem t_X12_lands_j22 {a : zA} {d : Nat} (F : Nat) (K : zOK a cX12_lands 3 RX12 none d) (hd : 1 ≤ d) {k0 : zM → Option (Unit × zM)} (v1 : Int32) (h0 : ∀ (s : zM), zJ a 3 (zG a zφN zrv) zφN 0 [(0, .ref (a.1.2.2.2 + 69)), (1, .int v1)] [] s (k0 s)) (s : zM) : zJ a 3 (zG a zφN zrv) zφN 22 [(0, .ref (a.1.2.2.2 + 69)), (1, .int v1)] [] s (f_X12_lands_j22 F k0 v1 s) := by
  unfold f_X12_lands_j22
  refine z_aload_n K 0 rfl dX12_lands_22 ?_
  refine z_getr K fd_X12_29 ob_69_18 dX12_lands_23 ?_
  refine z_aload_n K 0 rfl dX12_lands_26 ?_
  refine z_geti K fd_X12_224 ob_69_13 dX12_lands_27 ?_
  refine z_iconst K ci_1 dX12_lands_30 ?_
  refine z_isub K dX12_lands_31 ?_
  refine z_iald K ar_76 dX12_lands_32 ?_
  refine z_ldc K cst_X12_220 dX12_lands_33 ?_
  refine z_iremc K (by decide) dX12_lands_35 ?_
  refine z_topi (fun y3 => ?_)
  refine z_istore_n K (lv' := [(2, .int y3), (0, .ref (a.1.2.2.2 + 69)), (1, .int v1)]) dX12_lands_36 rfl (Nat.le_of_ble_eq_true rfl) rfl ?_
  refine z_aload_n K 1 rfl dX12_lands_37 ?_
  refine z_getr K fd_X12_26 ob_69_17 dX12_lands_38 ?_
  refine z_iload_n K 0 rfl dX12_lands_41 ?_
  refine z_ldc K cst_X12_220 dX12_lands_42 ?_
  refine z_aload_n K 1 rfl dX12_lands_44 ?_
  refine z_getr K fd_X12_26 ob_69_17 dX12_lands_45 ?_
  refine z_iload_n K 0 rfl dX12_lands_48 ?_
  refine z_iald K ar_75 dX12_lands_49 ?_
  refine z_ldc K cst_X12_220 dX12_lands_50 ?_
  refine z_idivc K (by decide) dX12_lands_52 ?_
  refine z_imul K dX12_lands_53 ?_
  refine z_aload_n K 1 rfl dX12_lands_54 ?_
  refine z_geti K fd_X12_217 ob_69_12 dX12_lands_55 ?_
  refine z_iadd K dX12_lands_58 ?_
  refine z_iast K ar_75 dX12_lands_59 ?_
  refine z_ltm (fun s4 => ?_)
  refine z_aload_n K 1 rfl dX12_lands_60 ?_
  refine z_aload_n K 1 rfl dX12_lands_61 ?_
  refine z_geti K fd_X12_224 ob_69_13 dX12_lands_62 ?_
  refine z_iconst K ci_1 dX12_lands_65 ?_
  refine z_isub K dX12_lands_66 ?_
  refine z_puti K fw_X12_224 ob_69_13 dX12_lands_67 ?_
  refine z_ltm (fun s5 => ?_)
  refine z_goto K (tgt := 0) dX12_lands_70 (by decide) ?_
  refine z_sub [1, 2] rfl ?_
  exact h0 s5
def f_X12_lands_L0 (F : Nat) (k73 : zM → Option (Unit × zM)) (v1 : Int32) : Nat → zM → Option (Unit × zM)
  | 0, _ => none
  | n + 1, s =>
    bnd (f_X12_top s) (fun r2 s1 =>
    if r2 = (11 : Int32) then
      f_X12_lands_j22 F (f_X12_lands_L0 F k73 v1 n) v1 s1
    else
      if v1 = 0 then
        k73 s1
      else
        bnd (f_X12_top s1) (fun r7 s6 =>
        if r7 = (12 : Int32) then
          f_X12_lands_j22 F (f_X12_lands_L0 F k73 v1 n) v1 s6
        else
          k73 s6))
set_option maxRecDepth 100000 in
set_option maxHeartbeats 4000000 in
theorem t_X12_lands_L0 {a : zA} {d : Nat} (F : Nat) (K : zOK a cX12_lands 3 RX12 none d) (hd : 1 ≤ d) {k73 : zM → Option (Unit × zM)} (v1 : Int32) (h73 : ∀ (s : zM), zJ a 3 (zG a zφN zrv) zφN 73 [] [] s (k73 s)) : ∀ (n : Nat) (s : zM), zJ a 3 (zG a zφN zrv) zφN 0 [(0, .ref (a.1.2.2.2 + 69)), (1, .int v1)] [] s (f_X12_lands_L0 F k73 v1 n s) := by
  intro n
  induction n with
  | zero => intros; exact z_none
  | succ n ih =>
    intro s
    rw [f_X12_lands_L0]
    refine z_aload_n K 0 rfl dX12_lands_0 ?_
    refine z_cVi (As := []) (rest := []) K (t_X12_top a.1 (d - 1) (by omega) s) mf_X12_top ml_X12_227 (Nat.le_of_ble_eq_true rfl) (by omega) rfl rc_69 rfl (Nat.le_of_ble_eq_true rfl) dX12_lands_1 (fun r2 s1 => ?_)
    refine z_bipush K cb_11 dX12_lands_4 ?_
    refine z_icmp_eq K (tgt := 22) dX12_lands_6 (by decide) ?_ ?_
    · exact t_X12_lands_j22 F K hd v1 ih s1
    · refine z_iload_n K 1 rfl dX12_lands_9 ?_
      refine z_if_eq K (tgt := 73) dX12_lands_10 (by decide) ?_ ?_
      · refine z_sub [] rfl ?_
        exact h73 s1
      · refine z_aload_n K 0 rfl dX12_lands_13 ?_
        refine z_cVi (As := []) (rest := []) K (t_X12_top a.1 (d - 1) (by omega) s1) mf_X12_top ml_X12_227 (Nat.le_of_ble_eq_true rfl) (by omega) rfl rc_69 rfl (Nat.le_of_ble_eq_true rfl) dX12_lands_14 (fun r7 s6 => ?_)
        refine z_bipush K cb_12 dX12_lands_17 ?_
        refine z_icmp_ne K (tgt := 73) dX12_lands_19 (by decide) ?_ ?_
        · refine z_sub [] rfl ?_
          exact h73 s6
        · exact t_X12_lands_j22 F K hd v1 ih s6
def f_X12_lands (F : Nat) (v1 : Int32) (s : zM) : Option (Unit × zM) :=
  f_X12_lands_L0 F (fun s8 =>
    some ((), s8)) v1 F s
set_option maxRecDepth 100000 in
set_option maxHeartbeats 4000000 in
theorem t_X12_lands (w : zWd) (F : Nat) (d : Nat) (hd : 1 ≤ d) (v1 : Int32) (s : zM) : zMt w yX12_lands cX12_lands 3 none d zφN zφN zrv [.ref (w.2.2.2 + 69), .int v1] s (f_X12_lands F v1 s) := by
  refine zMtN_of (own := RX12) rfl (by decide +kernel) (Nat.le_of_ble_eq_true rfl) cd_X12_lands [(0, .ref (w.2.2.2 + 69)), (1, .int v1)] rfl ?_
  rintro a rfl K
  unfold f_X12_lands
  refine t_X12_lands_L0 F K hd v1 (fun s8 => ?_) F s
  exact z_vret K dX12_lands_73
def f_X12_jumps (v1 : Int32) (s : zM) : Option (Unit × zM) :=
  if zin (zg s 69 13) 220 = true then
    lt (zs s 76 ((zg s 69 13)).toNatClampNeg (((1048576 : Int32) * v1) + (zg s 69 12))) (fun s1 =>
    lt (zs s1 69 13 ((zg s1 69 13) + (1 : Int32))) (fun s2 =>
    bnd (f_X12_notes v1 (0 : Int32) s2) (fun _ s3 =>
    lt (zs s3 69 8 ((zg s3 69 8) + (1 : Int32))) (fun s4 =>
    some ((), s4)))))
  else none
set_option maxRecDepth 100000 in
set_option maxHeartbeats 4000000 in
theorem t_X12_jumps (w : zWd) (d : Nat) (hd : 1 ≤ d) (v1 : Int32) (s : zM) : zMt w yX12_jumps cX12_jumps 2 none d zφN zφN zrv [.ref (w.2.2.2 + 69), .int v1] s (f_X12_jumps v1 s) := by
  refine zMtN_of (own := RX12) rfl (by decide +kernel) (Nat.le_of_ble_eq_true rfl) cd_X12_jumps [(0, .ref (w.2.2.2 + 69)), (1, .int v1)] rfl ?_
  rintro a rfl K
  unfold f_X12_jumps
  refine z_aload_n K 0 rfl dX12_jumps_0 ?_
  refine z_getr K fd_X12_29 ob_69_18 dX12_jumps_1 ?_
  refine z_aload_n K 0 rfl dX12_jumps_4 ?_
  refine z_geti K fd_X12_224 ob_69_13 dX12_jumps_5 ?_
  refine z_ldc K cst_X12_220 dX12_jumps_8 ?_
  refine z_iload_n K 1 rfl dX12_jumps_10 ?_
  refine z_imul K dX12_jumps_11 ?_
  refine z_aload_n K 0 rfl dX12_jumps_12 ?_
  refine z_geti K fd_X12_217 ob_69_12 dX12_jumps_13 ?_
  refine z_iadd K dX12_jumps_16 ?_
  refine z_iast K ar_76 dX12_jumps_17 ?_
  refine z_ltm (fun s1 => ?_)
  refine z_aload_n K 0 rfl dX12_jumps_18 ?_
  refine z_aload_n K 0 rfl dX12_jumps_19 ?_
  refine z_geti K fd_X12_224 ob_69_13 dX12_jumps_20 ?_
  refine z_iconst K ci_1 dX12_jumps_23 ?_
  refine z_iadd K dX12_jumps_24 ?_
  refine z_puti K fw_X12_224 ob_69_13 dX12_jumps_25 ?_
  refine z_ltm (fun s2 => ?_)
  refine z_aload_n K 0 rfl dX12_jumps_28 ?_
  refine z_iload_n K 1 rfl dX12_jumps_29 ?_
  refine z_iconst K ci_0 dX12_jumps_30 ?_
  refine z_cVv (As := [.int v1, .int (0 : Int32)]) (rest := []) K (t_X12_notes a.1 (d - 1) (by omega) v1 (0 : Int32) s2) mf_X12_notes ml_X12_230 (Nat.le_of_ble_eq_true rfl) (by omega) rfl rc_69 rfl (Nat.le_of_ble_eq_true rfl) dX12_jumps_31 (fun _ s3 => ?_)
  refine z_aload_n K 0 rfl dX12_jumps_34 ?_
  refine z_aload_n K 0 rfl dX12_jumps_35 ?_
  refine z_geti K fd_X12_193 ob_69_8 dX12_jumps_36 ?_
  refine z_iconst K ci_1 dX12_jumps_39 ?_
  refine z_iadd K dX12_jumps_40 ?_
  refine z_puti K fw_X12_193 ob_69_8 dX12_jumps_41 ?_
  refine z_ltm (fun s4 => ?_)
  exact z_vret K dX12_jumps_44
def f_X12_readsCompared_j52 (F : Nat) (w0 : Int32) (s : zM) : Option (Int32 × zM) :=
  if w0 = (-1 : Int32) then
    bnd (f_X12_wrongAt (1 : Int32) (zg s 69 8) s) (fun r15 s14 =>
    if r15 = 0 then some (0, s14) else if r15 = 1 then some (1, s14) else none)
  else
    lt (zs s 69 8 ((zg s 69 8) + (1 : Int32))) (fun s9 =>
    bnd (f_X12_readsSum F s9) (fun r11 s10 =>
    if r11 = 0 then
      some ((0 : Int32), s10)
    else
      bnd (f_X12_notes w0 (0 : Int32) s10) (fun _ s12 =>
      bnd (f_X12_endsPiece F s12) (fun _ s13 =>
      some ((1 : Int32), s13)))))
set_option maxRecDepth 100000 in
set_option maxHeartbeats 4000000 in
theorem t_X12_readsCompared_j52 {a : zA} {d : Nat} (F : Nat) (K : zOK a cX12_readsCompared 2 RX12 (some .boolean) d) (hd : 5 ≤ d) (w0 : Int32) (s : zM) : zJ a 2 (zG a zφN zri) zφN 52 [(0, .ref (a.1.2.2.2 + 69))] [.int w0] s (f_X12_readsCompared_j52 F w0 s) := by
  unfold f_X12_readsCompared_j52
  refine z_istore_n K (lv' := [(1, .int w0), (0, .ref (a.1.2.2.2 + 69))]) dX12_readsCompared_52 rfl (Nat.le_of_ble_eq_true rfl) rfl ?_
  refine z_iload_n K 0 rfl dX12_readsCompared_53 ?_
  refine z_iconst K ci_m1 dX12_readsCompared_54 ?_
  refine z_icmp_ne K (tgt := 68) dX12_readsCompared_55 (by decide) ?_ ?_
  · refine z_aload_n K 1 rfl dX12_readsCompared_68 ?_
    refine z_aload_n K 1 rfl dX12_readsCompared_69 ?_
    refine z_geti K fd_X12_193 ob_69_8 dX12_readsCompared_70 ?_
    refine z_iconst K ci_1 dX12_readsCompared_73 ?_
    refine z_iadd K dX12_readsCompared_74 ?_
    refine z_puti K fw_X12_193 ob_69_8 dX12_readsCompared_75 ?_
    refine z_ltm (fun s9 => ?_)
    refine z_aload_n K 1 rfl dX12_readsCompared_78 ?_
    refine z_cVi (As := []) (rest := []) K (t_X12_readsSum a.1 F (d - 1) (by omega) s9) mf_X12_readsSum ml_X12_256 (Nat.le_of_ble_eq_true rfl) (by omega) rfl rc_69 rfl (Nat.le_of_ble_eq_true rfl) dX12_readsCompared_79 (fun r11 s10 => ?_)
    refine z_if_ne K (tgt := 87) dX12_readsCompared_82 (by decide) ?_ ?_
    · refine z_aload_n K 1 rfl dX12_readsCompared_87 ?_
      refine z_iload_n K 0 rfl dX12_readsCompared_88 ?_
      refine z_iconst K ci_0 dX12_readsCompared_89 ?_
      refine z_cVv (As := [.int w0, .int (0 : Int32)]) (rest := []) K (t_X12_notes a.1 (d - 1) (by omega) w0 (0 : Int32) s10) mf_X12_notes ml_X12_230 (Nat.le_of_ble_eq_true rfl) (by omega) rfl rc_69 rfl (Nat.le_of_ble_eq_true rfl) dX12_readsCompared_90 (fun _ s12 => ?_)
      refine z_aload_n K 1 rfl dX12_readsCompared_93 ?_
      refine z_cVv (As := []) (rest := []) K (t_X12_endsPiece a.1 F (d - 1) (by omega) s12) mf_X12_endsPiece ml_X12_259 (Nat.le_of_ble_eq_true rfl) (by omega) rfl rc_69 rfl (Nat.le_of_ble_eq_true rfl) dX12_readsCompared_94 (fun _ s13 => ?_)
      refine z_iconst K ci_1 dX12_readsCompared_97 ?_
      exact z_zret (Or.inr rfl) K dX12_readsCompared_98
    · refine z_iconst K ci_0 dX12_readsCompared_85 ?_
      exact z_zret (Or.inl rfl) K dX12_readsCompared_86
  · refine z_aload_n K 1 rfl dX12_readsCompared_58 ?_
    refine z_iconst K ci_1 dX12_readsCompared_59 ?_
    refine z_aload_n K 1 rfl dX12_readsCompared_60 ?_
    refine z_geti K fd_X12_193 ob_69_8 dX12_readsCompared_61 ?_
    refine z_cVi (As := [.int (1 : Int32), .int (zg s 69 8)]) (rest := []) K (t_X12_wrongAt a.1 (d - 1) (by omega) (1 : Int32) (zg s 69 8) s) mf_X12_wrongAt ml_X12_206 (Nat.le_of_ble_eq_true rfl) (by omega) rfl rc_69 rfl (Nat.le_of_ble_eq_true rfl) dX12_readsCompared_64 (fun r15 s14 => ?_)
    exact z_zretc K dX12_readsCompared_67
def f_X12_readsCompared (F : Nat) (s : zM) : Option (Int32 × zM) :=
  bnd (f_X12_readsSum F s) (fun r2 s1 =>
  if r2 = 0 then
    some ((0 : Int32), s1)
  else
    bnd (f_X12_here s1) (fun r4 s3 =>
    if r4 = (60 : Int32) then
      f_X12_readsCompared_j52 F (7 : Int32) s3
    else
      bnd (f_X12_here s3) (fun r6 s5 =>
      if r6 = (62 : Int32) then
        f_X12_readsCompared_j52 F (8 : Int32) s5
      else
        bnd (f_X12_here s5) (fun r8 s7 =>
        if r8 = (61 : Int32) then
          f_X12_readsCompared_j52 F (9 : Int32) s7
        else
          f_X12_readsCompared_j52 F (-1 : Int32) s7))))
set_option maxRecDepth 100000 in
set_option maxHeartbeats 4000000 in
theorem t_X12_readsCompared (w : zWd) (F : Nat) (d : Nat) (hd : 5 ≤ d) (s : zM) : zMt w yX12_readsCompared cX12_readsCompared 2 (some .boolean) d zφN zφN zri [.ref (w.2.2.2 + 69)] s (f_X12_readsCompared F s) := by
  refine zMtN_of (own := RX12) rfl (by decide +kernel) (Nat.le_of_ble_eq_true rfl) cd_X12_readsCompared [(0, .ref (w.2.2.2 + 69))] rfl ?_
  rintro a rfl K
  unfold f_X12_readsCompared
  refine z_aload_n K 0 rfl dX12_readsCompared_0 ?_
  refine z_cVi (As := []) (rest := []) K (t_X12_readsSum a.1 F (d - 1) (by omega) s) mf_X12_readsSum ml_X12_256 (Nat.le_of_ble_eq_true rfl) (by omega) rfl rc_69 rfl (Nat.le_of_ble_eq_true rfl) dX12_readsCompared_1 (fun r2 s1 => ?_)
  refine z_if_ne K (tgt := 9) dX12_readsCompared_4 (by decide) ?_ ?_
  · refine z_aload_n K 0 rfl dX12_readsCompared_9 ?_
    refine z_cVi (As := []) (rest := []) K (t_X12_here a.1 (d - 1) (by omega) s1) mf_X12_here ml_X12_199 (Nat.le_of_ble_eq_true rfl) (by omega) rfl rc_69 rfl (Nat.le_of_ble_eq_true rfl) dX12_readsCompared_10 (fun r4 s3 => ?_)
    refine z_bipush K cb_60 dX12_readsCompared_13 ?_
    refine z_icmp_ne K (tgt := 23) dX12_readsCompared_15 (by decide) ?_ ?_
    · refine z_aload_n K 0 rfl dX12_readsCompared_23 ?_
      refine z_cVi (As := []) (rest := []) K (t_X12_here a.1 (d - 1) (by omega) s3) mf_X12_here ml_X12_199 (Nat.le_of_ble_eq_true rfl) (by omega) rfl rc_69 rfl (Nat.le_of_ble_eq_true rfl) dX12_readsCompared_24 (fun r6 s5 => ?_)
      refine z_bipush K cb_62 dX12_readsCompared_27 ?_
      refine z_icmp_ne K (tgt := 37) dX12_readsCompared_29 (by decide) ?_ ?_
      · refine z_aload_n K 0 rfl dX12_readsCompared_37 ?_
        refine z_cVi (As := []) (rest := []) K (t_X12_here a.1 (d - 1) (by omega) s5) mf_X12_here ml_X12_199 (Nat.le_of_ble_eq_true rfl) (by omega) rfl rc_69 rfl (Nat.le_of_ble_eq_true rfl) dX12_readsCompared_38 (fun r8 s7 => ?_)
        refine z_bipush K cb_61 dX12_readsCompared_41 ?_
        refine z_icmp_ne K (tgt := 51) dX12_readsCompared_43 (by decide) ?_ ?_
        · refine z_iconst K ci_m1 dX12_readsCompared_51 ?_
          exact t_X12_readsCompared_j52 F K hd (-1 : Int32) s7
        · refine z_bipush K cb_9 dX12_readsCompared_46 ?_
          refine z_goto K (tgt := 52) dX12_readsCompared_48 (by decide) ?_
          exact t_X12_readsCompared_j52 F K hd (9 : Int32) s7
      · refine z_bipush K cb_8 dX12_readsCompared_32 ?_
        refine z_goto K (tgt := 52) dX12_readsCompared_34 (by decide) ?_
        exact t_X12_readsCompared_j52 F K hd (8 : Int32) s5
    · refine z_bipush K cb_7 dX12_readsCompared_18 ?_
      refine z_goto K (tgt := 52) dX12_readsCompared_20 (by decide) ?_
      exact t_X12_readsCompared_j52 F K hd (7 : Int32) s3
  · refine z_iconst K ci_0 dX12_readsCompared_7 ?_
    exact z_zret (Or.inl rfl) K dX12_readsCompared_8
def f_X12_readsCondition_j58 (F : Nat) (k40 : zM → Option (Int32 × zM)) (s : zM) : Option (Int32 × zM) :=
  bnd (f_X12_here s) (fun r10 s9 =>
  if r10 = (33 : Int32) then
    bnd (f_X12_opens (10 : Int32) s9) (fun r14 s13 =>
    if r14 = 0 then
      some ((0 : Int32), s13)
    else
      k40 s13)
  else
    bnd (f_X12_opens (13 : Int32) s9) (fun r12 s11 =>
    if r12 = 0 then
      some ((0 : Int32), s11)
    else
      k40 s11))
set_option maxRecDepth 100000 in
set_option maxHeartbeats 4000000 in
theorem t_X12_readsCondition_j58 {a : zA} {d : Nat} (F : Nat) (K : zOK a cX12_readsCondition 1 RX12 (some .boolean) d) (hd : 6 ≤ d) {k40 : zM → Option (Int32 × zM)} (h40 : ∀ (s : zM), zJ a 1 (zG a zφN zri) zφN 40 [(0, .ref (a.1.2.2.2 + 69))] [] s (k40 s)) (s : zM) : zJ a 1 (zG a zφN zri) zφN 58 [(0, .ref (a.1.2.2.2 + 69))] [] s (f_X12_readsCondition_j58 F k40 s) := by
  unfold f_X12_readsCondition_j58
  refine z_aload_n K 0 rfl dX12_readsCondition_58 ?_
  refine z_aload_n K 0 rfl dX12_readsCondition_59 ?_
  refine z_cVi (As := []) (rest := [.ref (a.1.2.2.2 + 69)]) K (t_X12_here a.1 (d - 1) (by omega) s) mf_X12_here ml_X12_199 (Nat.le_of_ble_eq_true rfl) (by omega) rfl rc_69 rfl (Nat.le_of_ble_eq_true rfl) dX12_readsCondition_60 (fun r10 s9 => ?_)
  refine z_bipush K cb_33 dX12_readsCondition_63 ?_
  refine z_icmp_ne K (tgt := 73) dX12_readsCondition_65 (by decide) ?_ ?_
  · refine z_bipush K cb_13 dX12_readsCondition_73 ?_
    refine z_cVi (As := [.int (13 : Int32)]) (rest := []) K (t_X12_opens a.1 (d - 1) (by omega) (13 : Int32) s9) mf_X12_opens ml_X12_234 (Nat.le_of_ble_eq_true rfl) (by omega) rfl rc_69 rfl (Nat.le_of_ble_eq_true rfl) dX12_readsCondition_75 (fun r12 s11 => ?_)
    refine z_if_ne K (tgt := 40) dX12_readsCondition_78 (by decide) ?_ ?_
    · exact h40 s11
    · refine z_iconst K ci_0 dX12_readsCondition_81 ?_
      exact z_zret (Or.inl rfl) K dX12_readsCondition_82
  · refine z_bipush K cb_10 dX12_readsCondition_68 ?_
    refine z_goto K (tgt := 75) dX12_readsCondition_70 (by decide) ?_
    refine z_cVi (As := [.int (10 : Int32)]) (rest := []) K (t_X12_opens a.1 (d - 1) (by omega) (10 : Int32) s9) mf_X12_opens ml_X12_234 (Nat.le_of_ble_eq_true rfl) (by omega) rfl rc_69 rfl (Nat.le_of_ble_eq_true rfl) dX12_readsCondition_75 (fun r14 s13 => ?_)
    refine z_if_ne K (tgt := 40) dX12_readsCondition_78 (by decide) ?_ ?_
    · exact h40 s13
    · refine z_iconst K ci_0 dX12_readsCondition_81 ?_
      exact z_zret (Or.inl rfl) K dX12_readsCondition_82
def f_X12_readsCondition_L92 (F : Nat) (k152 : zM → Option (Int32 × zM)) : Nat → zM → Option (Int32 × zM)
  | 0, _ => none
  | n + 1, s =>
    bnd (f_X12_here s) (fun r20 s19 =>
    if r20 = (41 : Int32) then
      bnd (f_X12_lands F (1 : Int32) s19) (fun _ s21 =>
      lt (zs s21 69 13 ((zg s21 69 13) - (1 : Int32))) (fun s22 =>
      lt (zs s22 69 11 ((zg s22 69 11) - (1 : Int32))) (fun s23 =>
      lt (zs s23 69 8 ((zg s23 69 8) + (1 : Int32))) (fun s24 =>
      if (zg s24 69 13) = 0 then
        some ((1 : Int32), s24)
      else
        bnd (f_X12_endsPiece F s24) (fun _ s25 =>
        f_X12_readsCondition_L92 F k152 n s25)))))
    else
      k152 s19)
set_option maxRecDepth 100000 in
set_option maxHeartbeats 4000000 in
theorem t_X12_readsCondition_L92 {a : zA} {d : Nat} (F : Nat) (K : zOK a cX12_readsCondition 1 RX12 (some .boolean) d) (hd : 6 ≤ d) {k152 : zM → Option (Int32 × zM)} (h152 : ∀ (s : zM), zJ a 1 (zG a zφN zri) zφN 152 [(0, .ref (a.1.2.2.2 + 69))] [] s (k152 s)) : ∀ (n : Nat) (s : zM), zJ a 1 (zG a zφN zri) zφN 92 [(0, .ref (a.1.2.2.2 + 69))] [] s (f_X12_readsCondition_L92 F k152 n s) := by
  intro n
  induction n with
  | zero => intros; exact z_none
  | succ n ih =>
    intro s
    rw [f_X12_readsCondition_L92]
    refine z_aload_n K 0 rfl dX12_readsCondition_92 ?_
    refine z_cVi (As := []) (rest := []) K (t_X12_here a.1 (d - 1) (by omega) s) mf_X12_here ml_X12_199 (Nat.le_of_ble_eq_true rfl) (by omega) rfl rc_69 rfl (Nat.le_of_ble_eq_true rfl) dX12_readsCondition_93 (fun r20 s19 => ?_)
    refine z_bipush K cb_41 dX12_readsCondition_96 ?_
    refine z_icmp_ne K (tgt := 152) dX12_readsCondition_98 (by decide) ?_ ?_
    · exact h152 s19
    · refine z_aload_n K 0 rfl dX12_readsCondition_101 ?_
      refine z_iconst K ci_1 dX12_readsCondition_102 ?_
      refine z_cVv (As := [.int (1 : Int32)]) (rest := []) K (t_X12_lands a.1 F (d - 1) (by omega) (1 : Int32) s19) mf_X12_lands ml_X12_265 (Nat.le_of_ble_eq_true rfl) (by omega) rfl rc_69 rfl (Nat.le_of_ble_eq_true rfl) dX12_readsCondition_103 (fun _ s21 => ?_)
      refine z_aload_n K 0 rfl dX12_readsCondition_106 ?_
      refine z_aload_n K 0 rfl dX12_readsCondition_107 ?_
      refine z_geti K fd_X12_224 ob_69_13 dX12_readsCondition_108 ?_
      refine z_iconst K ci_1 dX12_readsCondition_111 ?_
      refine z_isub K dX12_readsCondition_112 ?_
      refine z_puti K fw_X12_224 ob_69_13 dX12_readsCondition_113 ?_
      refine z_ltm (fun s22 => ?_)
      refine z_aload_n K 0 rfl dX12_readsCondition_116 ?_
      refine z_aload_n K 0 rfl dX12_readsCondition_117 ?_
      refine z_geti K fd_X12_221 ob_69_11 dX12_readsCondition_118 ?_
      refine z_iconst K ci_1 dX12_readsCondition_121 ?_
      refine z_isub K dX12_readsCondition_122 ?_
      refine z_puti K fw_X12_221 ob_69_11 dX12_readsCondition_123 ?_
      refine z_ltm (fun s23 => ?_)
      refine z_aload_n K 0 rfl dX12_readsCondition_126 ?_
      refine z_aload_n K 0 rfl dX12_readsCondition_127 ?_
      refine z_geti K fd_X12_193 ob_69_8 dX12_readsCondition_128 ?_
      refine z_iconst K ci_1 dX12_readsCondition_131 ?_
      refine z_iadd K dX12_readsCondition_132 ?_
      refine z_puti K fw_X12_193 ob_69_8 dX12_readsCondition_133 ?_
      refine z_ltm (fun s24 => ?_)
      refine z_aload_n K 0 rfl dX12_readsCondition_136 ?_
      refine z_geti K fd_X12_224 ob_69_13 dX12_readsCondition_137 ?_
      refine z_if_ne K (tgt := 145) dX12_readsCondition_140 (by decide) ?_ ?_
      · refine z_aload_n K 0 rfl dX12_readsCondition_145 ?_
        refine z_cVv (As := []) (rest := []) K (t_X12_endsPiece a.1 F (d - 1) (by omega) s24) mf_X12_endsPiece ml_X12_259 (Nat.le_of_ble_eq_true rfl) (by omega) rfl rc_69 rfl (Nat.le_of_ble_eq_true rfl) dX12_readsCondition_146 (fun _ s25 => ?_)
        refine z_goto K (tgt := 92) dX12_readsCondition_149 (by decide) ?_
        exact ih s25
      · refine z_iconst K ci_1 dX12_readsCondition_143 ?_
        exact z_zret (Or.inr rfl) K dX12_readsCondition_144
def f_X12_readsCondition_j195 (F : Nat) (k40 : zM → Option (Int32 × zM)) (w0 : Int32) (s : zM) : Option (Int32 × zM) :=
  bnd (f_X12_lands F w0 s) (fun _ s31 =>
  bnd (f_X12_here s31) (fun r33 s32 =>
  if r33 = (38 : Int32) then
    bnd (f_X12_jumps (11 : Int32) s32) (fun _ s35 =>
    k40 s35)
  else
    bnd (f_X12_jumps (12 : Int32) s32) (fun _ s34 =>
    k40 s34)))
set_option maxRecDepth 100000 in
set_option maxHeartbeats 4000000 in
theorem t_X12_readsCondition_j195 {a : zA} {d : Nat} (F : Nat) (K : zOK a cX12_readsCondition 1 RX12 (some .boolean) d) (hd : 6 ≤ d) {k40 : zM → Option (Int32 × zM)} (h40 : ∀ (s : zM), zJ a 1 (zG a zφN zri) zφN 40 [(0, .ref (a.1.2.2.2 + 69))] [] s (k40 s)) (w0 : Int32) (s : zM) : zJ a 1 (zG a zφN zri) zφN 195 [(0, .ref (a.1.2.2.2 + 69))] [.int w0, .ref (a.1.2.2.2 + 69)] s (f_X12_readsCondition_j195 F k40 w0 s) := by
  unfold f_X12_readsCondition_j195
  refine z_cVv (As := [.int w0]) (rest := []) K (t_X12_lands a.1 F (d - 1) (by omega) w0 s) mf_X12_lands ml_X12_265 (Nat.le_of_ble_eq_true rfl) (by omega) rfl rc_69 rfl (Nat.le_of_ble_eq_true rfl) dX12_readsCondition_195 (fun _ s31 => ?_)
  refine z_aload_n K 0 rfl dX12_readsCondition_198 ?_
  refine z_aload_n K 0 rfl dX12_readsCondition_199 ?_
  refine z_cVi (As := []) (rest := [.ref (a.1.2.2.2 + 69)]) K (t_X12_here a.1 (d - 1) (by omega) s31) mf_X12_here ml_X12_199 (Nat.le_of_ble_eq_true rfl) (by omega) rfl rc_69 rfl (Nat.le_of_ble_eq_true rfl) dX12_readsCondition_200 (fun r33 s32 => ?_)
  refine z_bipush K cb_38 dX12_readsCondition_203 ?_
  refine z_icmp_ne K (tgt := 213) dX12_readsCondition_205 (by decide) ?_ ?_
  · refine z_bipush K cb_12 dX12_readsCondition_213 ?_
    refine z_cVv (As := [.int (12 : Int32)]) (rest := []) K (t_X12_jumps a.1 (d - 1) (by omega) (12 : Int32) s32) mf_X12_jumps ml_X12_268 (Nat.le_of_ble_eq_true rfl) (by omega) rfl rc_69 rfl (Nat.le_of_ble_eq_true rfl) dX12_readsCondition_215 (fun _ s34 => ?_)
    refine z_goto K (tgt := 40) dX12_readsCondition_218 (by decide) ?_
    exact h40 s34
  · refine z_bipush K cb_11 dX12_readsCondition_208 ?_
    refine z_goto K (tgt := 215) dX12_readsCondition_210 (by decide) ?_
    refine z_cVv (As := [.int (11 : Int32)]) (rest := []) K (t_X12_jumps a.1 (d - 1) (by omega) (11 : Int32) s32) mf_X12_jumps ml_X12_268 (Nat.le_of_ble_eq_true rfl) (by omega) rfl rc_69 rfl (Nat.le_of_ble_eq_true rfl) dX12_readsCondition_215 (fun _ s35 => ?_)
    refine z_goto K (tgt := 40) dX12_readsCondition_218 (by decide) ?_
    exact h40 s35
def f_X12_readsCondition_j180 (F : Nat) (k40 : zM → Option (Int32 × zM)) (s : zM) : Option (Int32 × zM) :=
  bnd (f_X12_here s) (fun r30 s29 =>
  if r30 = (124 : Int32) then
    f_X12_readsCondition_j195 F k40 (1 : Int32) s29
  else
    f_X12_readsCondition_j195 F k40 (0 : Int32) s29)
set_option maxRecDepth 100000 in
set_option maxHeartbeats 4000000 in
theorem t_X12_readsCondition_j180 {a : zA} {d : Nat} (F : Nat) (K : zOK a cX12_readsCondition 1 RX12 (some .boolean) d) (hd : 6 ≤ d) {k40 : zM → Option (Int32 × zM)} (h40 : ∀ (s : zM), zJ a 1 (zG a zφN zri) zφN 40 [(0, .ref (a.1.2.2.2 + 69))] [] s (k40 s)) (s : zM) : zJ a 1 (zG a zφN zri) zφN 180 [(0, .ref (a.1.2.2.2 + 69))] [] s (f_X12_readsCondition_j180 F k40 s) := by
  unfold f_X12_readsCondition_j180
  refine z_aload_n K 0 rfl dX12_readsCondition_180 ?_
  refine z_aload_n K 0 rfl dX12_readsCondition_181 ?_
  refine z_cVi (As := []) (rest := [.ref (a.1.2.2.2 + 69)]) K (t_X12_here a.1 (d - 1) (by omega) s) mf_X12_here ml_X12_199 (Nat.le_of_ble_eq_true rfl) (by omega) rfl rc_69 rfl (Nat.le_of_ble_eq_true rfl) dX12_readsCondition_182 (fun r30 s29 => ?_)
  refine z_bipush K cb_124 dX12_readsCondition_185 ?_
  refine z_icmp_ne K (tgt := 194) dX12_readsCondition_187 (by decide) ?_ ?_
  · refine z_iconst K ci_0 dX12_readsCondition_194 ?_
    exact t_X12_readsCondition_j195 F K hd h40 (0 : Int32) s29
  · refine z_iconst K ci_1 dX12_readsCondition_190 ?_
    refine z_goto K (tgt := 195) dX12_readsCondition_191 (by decide) ?_
    exact t_X12_readsCondition_j195 F K hd h40 (1 : Int32) s29
def f_X12_readsCondition_L40 (F : Nat) : Nat → zM → Option (Int32 × zM)
  | 0, _ => none
  | n + 1, s =>
    bnd (f_X12_here s) (fun r8 s7 =>
    if r8 = (33 : Int32) then
      f_X12_readsCondition_j58 F (f_X12_readsCondition_L40 F n) s7
    else
      bnd (f_X12_here s7) (fun r16 s15 =>
      if r16 = (40 : Int32) then
        f_X12_readsCondition_j58 F (f_X12_readsCondition_L40 F n) s15
      else
        bnd (f_X12_readsCompared F s15) (fun r18 s17 =>
        if r18 = 0 then
          some ((0 : Int32), s17)
        else
          f_X12_readsCondition_L92 F (fun s26 =>
            bnd (f_X12_here s26) (fun r28 s27 =>
            if r28 = (38 : Int32) then
              f_X12_readsCondition_j180 F (f_X12_readsCondition_L40 F n) s27
            else
              bnd (f_X12_here s27) (fun r37 s36 =>
              if r37 = (124 : Int32) then
                f_X12_readsCondition_j180 F (f_X12_readsCondition_L40 F n) s36
              else
                bnd (f_X12_wrongAt (1 : Int32) (zg s36 69 8) s36) (fun r39 s38 =>
                if r39 = 0 then some (0, s38) else if r39 = 1 then some (1, s38) else none)))) F s17)))
set_option maxRecDepth 100000 in
set_option maxHeartbeats 4000000 in
theorem t_X12_readsCondition_L40 {a : zA} {d : Nat} (F : Nat) (K : zOK a cX12_readsCondition 1 RX12 (some .boolean) d) (hd : 6 ≤ d) : ∀ (n : Nat) (s : zM), zJ a 1 (zG a zφN zri) zφN 40 [(0, .ref (a.1.2.2.2 + 69))] [] s (f_X12_readsCondition_L40 F n s) := by
  intro n
  induction n with
  | zero => intros; exact z_none
  | succ n ih =>
    intro s
    rw [f_X12_readsCondition_L40]
    refine z_aload_n K 0 rfl dX12_readsCondition_40 ?_
    refine z_cVi (As := []) (rest := []) K (t_X12_here a.1 (d - 1) (by omega) s) mf_X12_here ml_X12_199 (Nat.le_of_ble_eq_true rfl) (by omega) rfl rc_69 rfl (Nat.le_of_ble_eq_true rfl) dX12_readsCondition_41 (fun r8 s7 => ?_)
    refine z_bipush K cb_33 dX12_readsCondition_44 ?_
    refine z_icmp_eq K (tgt := 58) dX12_readsCondition_46 (by decide) ?_ ?_
    · exact t_X12_readsCondition_j58 F K hd ih s7
    · refine z_aload_n K 0 rfl dX12_readsCondition_49 ?_
      refine z_cVi (As := []) (rest := []) K (t_X12_here a.1 (d - 1) (by omega) s7) mf_X12_here ml_X12_199 (Nat.le_of_ble_eq_true rfl) (by omega) rfl rc_69 rfl (Nat.le_of_ble_eq_true rfl) dX12_readsCondition_50 (fun r16 s15 => ?_)
      refine z_bipush K cb_40 dX12_readsCondition_53 ?_
      refine z_icmp_ne K (tgt := 83) dX12_readsCondition_55 (by decide) ?_ ?_
      · refine z_aload_n K 0 rfl dX12_readsCondition_83 ?_
        refine z_cVi (As := []) (rest := []) K (t_X12_readsCompared a.1 F (d - 1) (by omega) s15) mf_X12_readsCompared ml_X12_262 (Nat.le_of_ble_eq_true rfl) (by omega) rfl rc_69 rfl (Nat.le_of_ble_eq_true rfl) dX12_readsCondition_84 (fun r18 s17 => ?_)
        refine z_if_ne K (tgt := 92) dX12_readsCondition_87 (by decide) ?_ ?_
        · refine t_X12_readsCondition_L92 F K hd (fun s26 => ?_) F s17
          refine z_aload_n K 0 rfl dX12_readsCondition_152 ?_
          refine z_cVi (As := []) (rest := []) K (t_X12_here a.1 (d - 1) (by omega) s26) mf_X12_here ml_X12_199 (Nat.le_of_ble_eq_true rfl) (by omega) rfl rc_69 rfl (Nat.le_of_ble_eq_true rfl) dX12_readsCondition_153 (fun r28 s27 => ?_)
          refine z_bipush K cb_38 dX12_readsCondition_156 ?_
          refine z_icmp_eq K (tgt := 180) dX12_readsCondition_158 (by decide) ?_ ?_
          · exact t_X12_readsCondition_j180 F K hd ih s27
          · refine z_aload_n K 0 rfl dX12_readsCondition_161 ?_
            refine z_cVi (As := []) (rest := []) K (t_X12_here a.1 (d - 1) (by omega) s27) mf_X12_here ml_X12_199 (Nat.le_of_ble_eq_true rfl) (by omega) rfl rc_69 rfl (Nat.le_of_ble_eq_true rfl) dX12_readsCondition_162 (fun r37 s36 => ?_)
            refine z_bipush K cb_124 dX12_readsCondition_165 ?_
            refine z_icmp_eq K (tgt := 180) dX12_readsCondition_167 (by decide) ?_ ?_
            · exact t_X12_readsCondition_j180 F K hd ih s36
            · refine z_aload_n K 0 rfl dX12_readsCondition_170 ?_
              refine z_iconst K ci_1 dX12_readsCondition_171 ?_
              refine z_aload_n K 0 rfl dX12_readsCondition_172 ?_
              refine z_geti K fd_X12_193 ob_69_8 dX12_readsCondition_173 ?_
              refine z_cVi (As := [.int (1 : Int32), .int (zg s36 69 8)]) (rest := []) K (t_X12_wrongAt a.1 (d - 1) (by omega) (1 : Int32) (zg s36 69 8) s36) mf_X12_wrongAt ml_X12_206 (Nat.le_of_ble_eq_true rfl) (by omega) rfl rc_69 rfl (Nat.le_of_ble_eq_true rfl) dX12_readsCondition_176 (fun r39 s38 => ?_)
              exact z_zretc K dX12_readsCondition_179
        · refine z_iconst K ci_0 dX12_readsCondition_90 ?_
          exact z_zret (Or.inl rfl) K dX12_readsCondition_91
      · exact t_X12_readsCondition_j58 F K hd ih s15
def f_X12_readsCondition (F : Nat) (s : zM) : Option (Int32 × zM) :=
  bnd (f_X12_here s) (fun r2 s1 =>
  if r2 = (40 : Int32) then
    lt (zs s1 69 11 (0 : Int32)) (fun s3 =>
    lt (zs s3 69 13 (0 : Int32)) (fun s4 =>
    bnd (f_X12_opens (13 : Int32) s4) (fun r6 s5 =>
    if r6 = 0 then
      some ((0 : Int32), s5)
    else
      f_X12_readsCondition_L40 F F s5)))
  else
    bnd (f_X12_wrongAt (1 : Int32) (zg s1 69 8) s1) (fun r41 s40 =>
    if r41 = 0 then some (0, s40) else if r41 = 1 then some (1, s40) else none))
set_option maxRecDepth 100000 in
set_option maxHeartbeats 4000000 in
theorem t_X12_readsCondition (w : zWd) (F : Nat) (d : Nat) (hd : 6 ≤ d) (s : zM) : zMt w yX12_readsCondition cX12_readsCondition 1 (some .boolean) d zφN zφN zri [.ref (w.2.2.2 + 69)] s (f_X12_readsCondition F s) := by
  refine zMtN_of (own := RX12) rfl (by decide +kernel) (Nat.le_of_ble_eq_true rfl) cd_X12_readsCondition [(0, .ref (w.2.2.2 + 69))] rfl ?_
  rintro a rfl K
  unfold f_X12_readsCondition
  refine z_aload_n K 0 rfl dX12_readsCondition_0 ?_
  refine z_cVi (As := []) (rest := []) K (t_X12_here a.1 (d - 1) (by omega) s) mf_X12_here ml_X12_199 (Nat.le_of_ble_eq_true rfl) (by omega) rfl rc_69 rfl (Nat.le_of_ble_eq_true rfl) dX12_readsCondition_1 (fun r2 s1 => ?_)
  refine z_bipush K cb_40 dX12_readsCondition_4 ?_
  refine z_icmp_eq K (tgt := 19) dX12_readsCondition_6 (by decide) ?_ ?_
  · refine z_aload_n K 0 rfl dX12_readsCondition_19 ?_
    refine z_iconst K ci_0 dX12_readsCondition_20 ?_
    refine z_puti K fw_X12_221 ob_69_11 dX12_readsCondition_21 ?_
    refine z_ltm (fun s3 => ?_)
    refine z_aload_n K 0 rfl dX12_readsCondition_24 ?_
    refine z_iconst K ci_0 dX12_readsCondition_25 ?_
    refine z_puti K fw_X12_224 ob_69_13 dX12_readsCondition_26 ?_
    refine z_ltm (fun s4 => ?_)
    refine z_aload_n K 0 rfl dX12_readsCondition_29 ?_
    refine z_bipush K cb_13 dX12_readsCondition_30 ?_
    refine z_cVi (As := [.int (13 : Int32)]) (rest := []) K (t_X12_opens a.1 (d - 1) (by omega) (13 : Int32) s4) mf_X12_opens ml_X12_234 (Nat.le_of_ble_eq_true rfl) (by omega) rfl rc_69 rfl (Nat.le_of_ble_eq_true rfl) dX12_readsCondition_32 (fun r6 s5 => ?_)
    refine z_if_ne K (tgt := 40) dX12_readsCondition_35 (by decide) ?_ ?_
    · exact t_X12_readsCondition_L40 F K hd F s5
    · refine z_iconst K ci_0 dX12_readsCondition_38 ?_
      exact z_zret (Or.inl rfl) K dX12_readsCondition_39
  · refine z_aload_n K 0 rfl dX12_readsCondition_9 ?_
    refine z_iconst K ci_1 dX12_readsCondition_10 ?_
    refine z_aload_n K 0 rfl dX12_readsCondition_11 ?_
    refine z_geti K fd_X12_193 ob_69_8 dX12_readsCondition_12 ?_
    refine z_cVi (As := [.int (1 : Int32), .int (zg s1 69 8)]) (rest := []) K (t_X12_wrongAt a.1 (d - 1) (by omega) (1 : Int32) (zg s1 69 8) s1) mf_X12_wrongAt ml_X12_206 (Nat.le_of_ble_eq_true rfl) (by omega) rfl rc_69 rfl (Nat.le_of_ble_eq_true rfl) dX12_readsCondition_15 (fun r41 s40 => ?_)
    exact z_zretc K dX12_readsCondition_18
def f_X12_readsClause_j116 (F : Nat) (s : zM) : Option (Int32 × zM) :=
  if zin (zg s 69 14) 14 = true then
    lt (zs s 79 ((zg s 69 14)).toNatClampNeg (zg s 69 12)) (fun s8 =>
    bnd (f_X12_readsCondition F s8) (fun r10 s9 =>
    if r10 = 0 then
      some ((0 : Int32), s9)
    else
      if zin (zg s9 69 14) 14 = true then
        lt (zs s9 80 ((zg s9 69 14)).toNatClampNeg (zg s9 69 12)) (fun s11 =>
        lt (zs s11 69 14 ((zg s11 69 14) + (1 : Int32))) (fun s12 =>
        some ((1 : Int32), s12)))
      else none))
  else none
set_option maxRecDepth 100000 in
set_option maxHeartbeats 4000000 in
theorem t_X12_readsClause_j116 {a : zA} {d : Nat} (F : Nat) (K : zOK a cX12_readsClause 2 RX12 (some .boolean) d) (hd : 7 ≤ d) (s : zM) : zJ a 2 (zG a zφN zri) zφN 116 [(0, .ref (a.1.2.2.2 + 69))] [] s (f_X12_readsClause_j116 F s) := by
  unfold f_X12_readsClause_j116
  refine z_aload_n K 0 rfl dX12_readsClause_116 ?_
  refine z_getr K fd_X12_38 ob_69_21 dX12_readsClause_117 ?_
  refine z_aload_n K 0 rfl dX12_readsClause_120 ?_
  refine z_geti K fd_X12_271 ob_69_14 dX12_readsClause_121 ?_
  refine z_aload_n K 0 rfl dX12_readsClause_124 ?_
  refine z_geti K fd_X12_217 ob_69_12 dX12_readsClause_125 ?_
  refine z_iast K ar_79 dX12_readsClause_128 ?_
  refine z_ltm (fun s8 => ?_)
  refine z_aload_n K 0 rfl dX12_readsClause_129 ?_
  refine z_cVi (As := []) (rest := []) K (t_X12_readsCondition a.1 F (d - 1) (by omega) s8) mf_X12_readsCondition ml_X12_274 (Nat.le_of_ble_eq_true rfl) (by omega) rfl rc_69 rfl (Nat.le_of_ble_eq_true rfl) dX12_readsClause_130 (fun r10 s9 => ?_)
  refine z_if_ne K (tgt := 138) dX12_readsClause_133 (by decide) ?_ ?_
  · refine z_aload_n K 0 rfl dX12_readsClause_138 ?_
    refine z_getr K fd_X12_41 ob_69_22 dX12_readsClause_139 ?_
    refine z_aload_n K 0 rfl dX12_readsClause_142 ?_
    refine z_geti K fd_X12_271 ob_69_14 dX12_readsClause_143 ?_
    refine z_aload_n K 0 rfl dX12_readsClause_146 ?_
    refine z_geti K fd_X12_217 ob_69_12 dX12_readsClause_147 ?_
    refine z_iast K ar_80 dX12_readsClause_150 ?_
    refine z_ltm (fun s11 => ?_)
    refine z_aload_n K 0 rfl dX12_readsClause_151 ?_
    refine z_aload_n K 0 rfl dX12_readsClause_152 ?_
    refine z_geti K fd_X12_271 ob_69_14 dX12_readsClause_153 ?_
    refine z_iconst K ci_1 dX12_readsClause_156 ?_
    refine z_iadd K dX12_readsClause_157 ?_
    refine z_puti K fw_X12_271 ob_69_14 dX12_readsClause_158 ?_
    refine z_ltm (fun s12 => ?_)
    refine z_iconst K ci_1 dX12_readsClause_161 ?_
    exact z_zret (Or.inr rfl) K dX12_readsClause_162
  · refine z_iconst K ci_0 dX12_readsClause_136 ?_
    exact z_zret (Or.inl rfl) K dX12_readsClause_137
def f_X12_readsClause_j39 (F : Nat) (v1 : Int32) (s : zM) : Option (Int32 × zM) :=
  if (zg s 69 14) = (14 : Int32) then
    bnd (f_X12_wrongAt (4 : Int32) (zg s 69 8) s) (fun r16 s15 =>
    if r16 = 0 then some (0, s15) else if r16 = 1 then some (1, s15) else none)
  else
    if zin (zg s 69 14) 14 = true then
      lt (zs s 77 ((zg s 69 14)).toNatClampNeg v1) (fun s3 =>
      lt (zs s3 69 8 ((zg s3 69 8) + (1 : Int32))) (fun s4 =>
      if zin (zg s4 69 14) 14 = true then
        lt (zs s4 78 ((zg s4 69 14)).toNatClampNeg (zg s4 69 12)) (fun s5 =>
        lt (zs s5 69 11 (0 : Int32)) (fun s6 =>
        lt (zs s6 69 13 (0 : Int32)) (fun s7 =>
        if v1 = (112 : Int32) then
          f_X12_readsClause_j116 F s7
        else
          bnd (f_X12_readsSum F s7) (fun r14 s13 =>
          if r14 = 0 then
            some ((0 : Int32), s13)
          else
            f_X12_readsClause_j116 F s13))))
      else none))
    else none
set_option maxRecDepth 100000 in
set_option maxHeartbeats 4000000 in
theorem t_X12_readsClause_j39 {a : zA} {d : Nat} (F : Nat) (K : zOK a cX12_readsClause 2 RX12 (some .boolean) d) (hd : 7 ≤ d) (v1 : Int32) (s : zM) : zJ a 2 (zG a zφN zri) zφN 39 [(0, .ref (a.1.2.2.2 + 69)), (1, .int v1)] [] s (f_X12_readsClause_j39 F v1 s) := by
  unfold f_X12_readsClause_j39
  refine z_aload_n K 0 rfl dX12_readsClause_39 ?_
  refine z_geti K fd_X12_271 ob_69_14 dX12_readsClause_40 ?_
  refine z_bipush K cb_14 dX12_readsClause_43 ?_
  refine z_icmp_ne K (tgt := 58) dX12_readsClause_45 (by decide) ?_ ?_
  · refine z_aload_n K 0 rfl dX12_readsClause_58 ?_
    refine z_getr K fd_X12_32 ob_69_19 dX12_readsClause_59 ?_
    refine z_aload_n K 0 rfl dX12_readsClause_62 ?_
    refine z_geti K fd_X12_271 ob_69_14 dX12_readsClause_63 ?_
    refine z_iload_n K 1 rfl dX12_readsClause_66 ?_
    refine z_iast K ar_77 dX12_readsClause_67 ?_
    refine z_ltm (fun s3 => ?_)
    refine z_aload_n K 0 rfl dX12_readsClause_68 ?_
    refine z_aload_n K 0 rfl dX12_readsClause_69 ?_
    refine z_geti K fd_X12_193 ob_69_8 dX12_readsClause_70 ?_
    refine z_iconst K ci_1 dX12_readsClause_73 ?_
    refine z_iadd K dX12_readsClause_74 ?_
    refine z_puti K fw_X12_193 ob_69_8 dX12_readsClause_75 ?_
    refine z_ltm (fun s4 => ?_)
    refine z_aload_n K 0 rfl dX12_readsClause_78 ?_
    refine z_getr K fd_X12_35 ob_69_20 dX12_readsClause_79 ?_
    refine z_aload_n K 0 rfl dX12_readsClause_82 ?_
    refine z_geti K fd_X12_271 ob_69_14 dX12_readsClause_83 ?_
    refine z_aload_n K 0 rfl dX12_readsClause_86 ?_
    refine z_geti K fd_X12_217 ob_69_12 dX12_readsClause_87 ?_
    refine z_iast K ar_78 dX12_readsClause_90 ?_
    refine z_ltm (fun s5 => ?_)
    refine z_aload_n K 0 rfl dX12_readsClause_91 ?_
    refine z_iconst K ci_0 dX12_readsClause_92 ?_
    refine z_puti K fw_X12_221 ob_69_11 dX12_readsClause_93 ?_
    refine z_ltm (fun s6 => ?_)
    refine z_aload_n K 0 rfl dX12_readsClause_96 ?_
    refine z_iconst K ci_0 dX12_readsClause_97 ?_
    refine z_puti K fw_X12_224 ob_69_13 dX12_readsClause_98 ?_
    refine z_ltm (fun s7 => ?_)
    refine z_iload_n K 1 rfl dX12_readsClause_101 ?_
    refine z_bipush K cb_112 dX12_readsClause_102 ?_
    refine z_icmp_eq K (tgt := 116) dX12_readsClause_104 (by decide) ?_ ?_
    · refine z_sub [0] rfl ?_
      exact t_X12_readsClause_j116 F K hd s7
    · refine z_aload_n K 0 rfl dX12_readsClause_107 ?_
      refine z_cVi (As := []) (rest := []) K (t_X12_readsSum a.1 F (d - 1) (by omega) s7) mf_X12_readsSum ml_X12_256 (Nat.le_of_ble_eq_true rfl) (by omega) rfl rc_69 rfl (Nat.le_of_ble_eq_true rfl) dX12_readsClause_108 (fun r14 s13 => ?_)
      refine z_if_ne K (tgt := 116) dX12_readsClause_111 (by decide) ?_ ?_
      · refine z_sub [0] rfl ?_
        exact t_X12_readsClause_j116 F K hd s13
      · refine z_iconst K ci_0 dX12_readsClause_114 ?_
        exact z_zret (Or.inl rfl) K dX12_readsClause_115
  · refine z_aload_n K 0 rfl dX12_readsClause_48 ?_
    refine z_iconst K ci_4 dX12_readsClause_49 ?_
    refine z_aload_n K 0 rfl dX12_readsClause_50 ?_
    refine z_geti K fd_X12_193 ob_69_8 dX12_readsClause_51 ?_
    refine z_cVi (As := [.int (4 : Int32), .int (zg s 69 8)]) (rest := []) K (t_X12_wrongAt a.1 (d - 1) (by omega) (4 : Int32) (zg s 69 8) s) mf_X12_wrongAt ml_X12_206 (Nat.le_of_ble_eq_true rfl) (by omega) rfl rc_69 rfl (Nat.le_of_ble_eq_true rfl) dX12_readsClause_54 (fun r16 s15 => ?_)
    exact z_zretc K dX12_readsClause_57
def f_X12_readsClause (F : Nat) (s : zM) : Option (Int32 × zM) :=
  bnd (f_X12_here s) (fun r2 s1 =>
  if r2 = (112 : Int32) then
    f_X12_readsClause_j39 F r2 s1
  else
    if r2 = (119 : Int32) then
      f_X12_readsClause_j39 F r2 s1
    else
      if r2 = (104 : Int32) then
        f_X12_readsClause_j39 F r2 s1
      else
        if r2 = (118 : Int32) then
          f_X12_readsClause_j39 F r2 s1
        else
          bnd (f_X12_wrongAt (1 : Int32) (zg s1 69 8) s1) (fun r18 s17 =>
          if r18 = 0 then some (0, s17) else if r18 = 1 then some (1, s17) else none))
set_option maxRecDepth 100000 in
set_option maxHeartbeats 4000000 in
theorem t_X12_readsClause (w : zWd) (F : Nat) (d : Nat) (hd : 7 ≤ d) (s : zM) : zMt w yX12_readsClause cX12_readsClause 2 (some .boolean) d zφN zφN zri [.ref (w.2.2.2 + 69)] s (f_X12_readsClause F s) := by
  refine zMtN_of (own := RX12) rfl (by decide +kernel) (Nat.le_of_ble_eq_true rfl) cd_X12_readsClause [(0, .ref (w.2.2.2 + 69))] rfl ?_
  rintro a rfl K
  unfold f_X12_readsClause
  refine z_aload_n K 0 rfl dX12_readsClause_0 ?_
  refine z_cVi (As := []) (rest := []) K (t_X12_here a.1 (d - 1) (by omega) s) mf_X12_here ml_X12_199 (Nat.le_of_ble_eq_true rfl) (by omega) rfl rc_69 rfl (Nat.le_of_ble_eq_true rfl) dX12_readsClause_1 (fun r2 s1 => ?_)
  refine z_istore_n K (lv' := [(1, .int r2), (0, .ref (a.1.2.2.2 + 69))]) dX12_readsClause_4 rfl (Nat.le_of_ble_eq_true rfl) rfl ?_
  refine z_iload_n K 0 rfl dX12_readsClause_5 ?_
  refine z_bipush K cb_112 dX12_readsClause_6 ?_
  refine z_icmp_eq K (tgt := 39) dX12_readsClause_8 (by decide) ?_ ?_
  · refine z_sub [1, 0] rfl ?_
    exact t_X12_readsClause_j39 F K hd r2 s1
  · refine z_iload_n K 0 rfl dX12_readsClause_11 ?_
    refine z_bipush K cb_119 dX12_readsClause_12 ?_
    refine z_icmp_eq K (tgt := 39) dX12_readsClause_14 (by decide) ?_ ?_
    · refine z_sub [1, 0] rfl ?_
      exact t_X12_readsClause_j39 F K hd r2 s1
    · refine z_iload_n K 0 rfl dX12_readsClause_17 ?_
      refine z_bipush K cb_104 dX12_readsClause_18 ?_
      refine z_icmp_eq K (tgt := 39) dX12_readsClause_20 (by decide) ?_ ?_
      · refine z_sub [1, 0] rfl ?_
        exact t_X12_readsClause_j39 F K hd r2 s1
      · refine z_iload_n K 0 rfl dX12_readsClause_23 ?_
        refine z_bipush K cb_118 dX12_readsClause_24 ?_
        refine z_icmp_eq K (tgt := 39) dX12_readsClause_26 (by decide) ?_ ?_
        · refine z_sub [1, 0] rfl ?_
          exact t_X12_readsClause_j39 F K hd r2 s1
        · refine z_aload_n K 1 rfl dX12_readsClause_29 ?_
          refine z_iconst K ci_1 dX12_readsClause_30 ?_
          refine z_aload_n K 1 rfl dX12_readsClause_31 ?_
          refine z_geti K fd_X12_193 ob_69_8 dX12_readsClause_32 ?_
          refine z_cVi (As := [.int (1 : Int32), .int (zg s1 69 8)]) (rest := []) K (t_X12_wrongAt a.1 (d - 1) (by omega) (1 : Int32) (zg s1 69 8) s1) mf_X12_wrongAt ml_X12_206 (Nat.le_of_ble_eq_true rfl) (by omega) rfl rc_69 rfl (Nat.le_of_ble_eq_true rfl) dX12_readsClause_35 (fun r18 s17 => ?_)
          exact z_zretc K dX12_readsClause_38
def f_X12_law_L46 (F : Nat) (k86 : Int32 → zM → Option (Int32 × zM)) : Nat → Int32 → zM → Option (Int32 × zM)
  | 0, _, _ => none
  | n + 1, v2, s =>
    if v2 = 0 then
      k86 v2 s
    else
      if (zg s 69 8) < (zg s 69 9) then
        bnd (f_X12_takes (59 : Int32) s) (fun r10 s9 =>
        if r10 = 0 then
          f_X12_law_L46 F k86 n (0 : Int32) s9
        else
          bnd (f_X12_readsClause F s9) (fun r12 s11 =>
          if r12 = 0 then
            f_X12_law_L46 F k86 n (0 : Int32) s11
          else
            f_X12_law_L46 F k86 n (1 : Int32) s11))
      else
        k86 v2 s
set_option maxRecDepth 100000 in
set_option maxHeartbeats 4000000 in
theorem t_X12_law_L46 {a : zA} {d : Nat} (F : Nat) (K : zOK a cX12_law 4 RX12 (some .int) d) (hd : 8 ≤ d) {k86 : Int32 → zM → Option (Int32 × zM)} (h86 : ∀ (v2 : Int32) (s : zM), zJ a 4 (zG a zφN zri) zφN 86 [(0, .ref (a.1.2.2.2 + 69)), (2, .int v2)] [] s (k86 v2 s)) : ∀ (n : Nat) (v2 : Int32) (s : zM), zJ a 4 (zG a zφN zri) zφN 46 [(0, .ref (a.1.2.2.2 + 69)), (2, .int v2)] [] s (f_X12_law_L46 F k86 n v2 s) := by
  intro n
  induction n with
  | zero => intros; exact z_none
  | succ n ih =>
    intro v2 s
    rw [f_X12_law_L46]
    refine z_iload_n K 1 rfl dX12_law_46 ?_
    refine z_if_eq K (tgt := 86) dX12_law_47 (by decide) ?_ ?_
    · exact h86 v2 s
    · refine z_aload_n K 0 rfl dX12_law_50 ?_
      refine z_geti K fd_X12_193 ob_69_8 dX12_law_51 ?_
      refine z_aload_n K 0 rfl dX12_law_54 ?_
      refine z_geti K fd_X12_196 ob_69_9 dX12_law_55 ?_
      refine z_icmp_ge K (tgt := 86) dX12_law_58 (by decide) ?_ ?_
      · exact h86 v2 s
      · refine z_aload_n K 0 rfl dX12_law_61 ?_
        refine z_bipush K cb_59 dX12_law_62 ?_
        refine z_cVi (As := [.int (59 : Int32)]) (rest := []) K (t_X12_takes a.1 (d - 1) (by omega) (59 : Int32) s) mf_X12_takes ml_X12_280 (Nat.le_of_ble_eq_true rfl) (by omega) rfl rc_69 rfl (Nat.le_of_ble_eq_true rfl) dX12_law_64 (fun r10 s9 => ?_)
        refine z_if_eq K (tgt := 81) dX12_law_67 (by decide) ?_ ?_
        · refine z_iconst K ci_0 dX12_law_81 ?_
          refine z_istore_n K (lv' := [(2, .int (0 : Int32)), (0, .ref (a.1.2.2.2 + 69))]) dX12_law_82 rfl (Nat.le_of_ble_eq_true rfl) rfl ?_
          refine z_goto K (tgt := 46) dX12_law_83 (by decide) ?_
          refine z_sub [1, 0] rfl ?_
          exact ih (0 : Int32) s9
        · refine z_aload_n K 0 rfl dX12_law_70 ?_
          refine z_cVi (As := []) (rest := []) K (t_X12_readsClause a.1 F (d - 1) (by omega) s9) mf_X12_readsClause ml_X12_277 (Nat.le_of_ble_eq_true rfl) (by omega) rfl rc_69 rfl (Nat.le_of_ble_eq_true rfl) dX12_law_71 (fun r12 s11 => ?_)
          refine z_if_eq K (tgt := 81) dX12_law_74 (by decide) ?_ ?_
          · refine z_iconst K ci_0 dX12_law_81 ?_
            refine z_istore_n K (lv' := [(2, .int (0 : Int32)), (0, .ref (a.1.2.2.2 + 69))]) dX12_law_82 rfl (Nat.le_of_ble_eq_true rfl) rfl ?_
            refine z_goto K (tgt := 46) dX12_law_83 (by decide) ?_
            refine z_sub [1, 0] rfl ?_
            exact ih (0 : Int32) s11
          · refine z_iconst K ci_1 dX12_law_77 ?_
            refine z_goto K (tgt := 82) dX12_law_78 (by decide) ?_
            refine z_istore_n K (lv' := [(2, .int (1 : Int32)), (0, .ref (a.1.2.2.2 + 69))]) dX12_law_82 rfl (Nat.le_of_ble_eq_true rfl) rfl ?_
            refine z_goto K (tgt := 46) dX12_law_83 (by decide) ?_
            refine z_sub [1, 0] rfl ?_
            exact ih (1 : Int32) s11
def f_X12_law_L110 (F : Nat) (k136 : zM → Option (Int32 × zM)) : Nat → Int32 → zM → Option (Int32 × zM)
  | 0, _, _ => none
  | n + 1, v3, s =>
    if v3 < (zg s 69 12) then
      if zin v3 220 = true then
        if zin v3 220 = true then
          lt (zs s 81 (v3).toNatClampNeg (zg s 75 (v3).toNatClampNeg)) (fun s17 =>
          lt (v3 + (1 : Int32)) (fun y18 =>
          f_X12_law_L110 F k136 n y18 s17))
        else none
      else none
    else
      k136 s
set_option maxRecDepth 100000 in
set_option maxHeartbeats 4000000 in
theorem t_X12_law_L110 {a : zA} {d : Nat} (F : Nat) (K : zOK a cX12_law 4 RX12 (some .int) d) (hd : 8 ≤ d) {k136 : zM → Option (Int32 × zM)} (h136 : ∀ (s : zM), zJ a 4 (zG a zφN zri) zφN 136 [(0, .ref (a.1.2.2.2 + 69))] [] s (k136 s)) : ∀ (n : Nat) (v3 : Int32) (s : zM), zJ a 4 (zG a zφN zri) zφN 110 [(0, .ref (a.1.2.2.2 + 69)), (3, .int v3)] [] s (f_X12_law_L110 F k136 n v3 s) := by
  intro n
  induction n with
  | zero => intros; exact z_none
  | succ n ih =>
    intro v3 s
    rw [f_X12_law_L110]
    refine z_iload_n K 1 rfl dX12_law_110 ?_
    refine z_aload_n K 0 rfl dX12_law_111 ?_
    refine z_geti K fd_X12_217 ob_69_12 dX12_law_112 ?_
    refine z_icmp_ge K (tgt := 136) dX12_law_115 (by decide) ?_ ?_
    · refine z_sub [0] rfl ?_
      exact h136 s
    · refine z_aload_n K 0 rfl dX12_law_118 ?_
      refine z_getr K fd_X12_44 ob_69_23 dX12_law_119 ?_
      refine z_iload_n K 1 rfl dX12_law_122 ?_
      refine z_aload_n K 0 rfl dX12_law_123 ?_
      refine z_getr K fd_X12_26 ob_69_17 dX12_law_124 ?_
      refine z_iload_n K 1 rfl dX12_law_127 ?_
      refine z_iald K ar_75 dX12_law_128 ?_
      refine z_iast K ar_81 dX12_law_129 ?_
      refine z_ltm (fun s17 => ?_)
      refine z_iincN K (j := 1) (lv' := [(0, .ref (a.1.2.2.2 + 69))]) ci_1 rfl dX12_law_130 (Nat.le_of_ble_eq_true rfl) rfl (fun y18 => ?_)
      refine z_goto K (tgt := 110) dX12_law_133 (by decide) ?_
      refine z_sub [1, 0] rfl ?_
      exact ih y18 s17
def f_X12_law_L138 (F : Nat) (k200 : zM → Option (Int32 × zM)) : Nat → Int32 → zM → Option (Int32 × zM)
  | 0, _, _ => none
  | n + 1, v3, s =>
    if v3 < (zg s 69 14) then
      if zin v3 14 = true then
        if zin v3 14 = true then
          lt (zs s 82 (v3).toNatClampNeg (zg s 77 (v3).toNatClampNeg)) (fun s20 =>
          if zin v3 14 = true then
            if zin v3 14 = true then
              lt (zs s20 83 (v3).toNatClampNeg (zg s20 78 (v3).toNatClampNeg)) (fun s21 =>
              if zin v3 14 = true then
                if zin v3 14 = true then
                  lt (zs s21 84 (v3).toNatClampNeg (zg s21 79 (v3).toNatClampNeg)) (fun s22 =>
                  if zin v3 14 = true then
                    if zin v3 14 = true then
                      lt (zs s22 85 (v3).toNatClampNeg (zg s22 80 (v3).toNatClampNeg)) (fun s23 =>
                      lt (v3 + (1 : Int32)) (fun y24 =>
                      f_X12_law_L138 F k200 n y24 s23))
                    else none
                  else none)
                else none
              else none)
            else none
          else none)
        else none
      else none
    else
      k200 s
set_option maxRecDepth 100000 in
set_option maxHeartbeats 4000000 in
theorem t_X12_law_L138 {a : zA} {d : Nat} (F : Nat) (K : zOK a cX12_law 4 RX12 (some .int) d) (hd : 8 ≤ d) {k200 : zM → Option (Int32 × zM)} (h200 : ∀ (s : zM), zJ a 4 (zG a zφN zri) zφN 200 [(0, .ref (a.1.2.2.2 + 69))] [] s (k200 s)) : ∀ (n : Nat) (v3 : Int32) (s : zM), zJ a 4 (zG a zφN zri) zφN 138 [(0, .ref (a.1.2.2.2 + 69)), (3, .int v3)] [] s (f_X12_law_L138 F k200 n v3 s) := by
  intro n
  induction n with
  | zero => intros; exact z_none
  | succ n ih =>
    intro v3 s
    rw [f_X12_law_L138]
    refine z_iload_n K 1 rfl dX12_law_138 ?_
    refine z_aload_n K 0 rfl dX12_law_139 ?_
    refine z_geti K fd_X12_271 ob_69_14 dX12_law_140 ?_
    refine z_icmp_ge K (tgt := 200) dX12_law_143 (by decide) ?_ ?_
    · refine z_sub [0] rfl ?_
      exact h200 s
    · refine z_aload_n K 0 rfl dX12_law_146 ?_
      refine z_getr K fd_X12_47 ob_69_24 dX12_law_147 ?_
      refine z_iload_n K 1 rfl dX12_law_150 ?_
      refine z_aload_n K 0 rfl dX12_law_151 ?_
      refine z_getr K fd_X12_32 ob_69_19 dX12_law_152 ?_
      refine z_iload_n K 1 rfl dX12_law_155 ?_
      refine z_iald K ar_77 dX12_law_156 ?_
      refine z_iast K ar_82 dX12_law_157 ?_
      refine z_ltm (fun s20 => ?_)
      refine z_aload_n K 0 rfl dX12_law_158 ?_
      refine z_getr K fd_X12_50 ob_69_25 dX12_law_159 ?_
      refine z_iload_n K 1 rfl dX12_law_162 ?_
      refine z_aload_n K 0 rfl dX12_law_163 ?_
      refine z_getr K fd_X12_35 ob_69_20 dX12_law_164 ?_
      refine z_iload_n K 1 rfl dX12_law_167 ?_
      refine z_iald K ar_78 dX12_law_168 ?_
      refine z_iast K ar_83 dX12_law_169 ?_
      refine z_ltm (fun s21 => ?_)
      refine z_aload_n K 0 rfl dX12_law_170 ?_
      refine z_getr K fd_X12_53 ob_69_26 dX12_law_171 ?_
      refine z_iload_n K 1 rfl dX12_law_174 ?_
      refine z_aload_n K 0 rfl dX12_law_175 ?_
      refine z_getr K fd_X12_38 ob_69_21 dX12_law_176 ?_
      refine z_iload_n K 1 rfl dX12_law_179 ?_
      refine z_iald K ar_79 dX12_law_180 ?_
      refine z_iast K ar_84 dX12_law_181 ?_
      refine z_ltm (fun s22 => ?_)
      refine z_aload_n K 0 rfl dX12_law_182 ?_
      refine z_getr K fd_X12_56 ob_69_27 dX12_law_183 ?_
      refine z_iload_n K 1 rfl dX12_law_186 ?_
      refine z_aload_n K 0 rfl dX12_law_187 ?_
      refine z_getr K fd_X12_41 ob_69_22 dX12_law_188 ?_
      refine z_iload_n K 1 rfl dX12_law_191 ?_
      refine z_iald K ar_80 dX12_law_192 ?_
      refine z_iast K ar_85 dX12_law_193 ?_
      refine z_ltm (fun s23 => ?_)
      refine z_iincN K (j := 1) (lv' := [(0, .ref (a.1.2.2.2 + 69))]) ci_1 rfl dX12_law_194 (Nat.le_of_ble_eq_true rfl) rfl (fun y24 => ?_)
      refine z_goto K (tgt := 138) dX12_law_197 (by decide) ?_
      refine z_sub [1, 0] rfl ?_
      exact ih y24 s23
def f_X12_law_j86 (F : Nat) (v2 : Int32) (s : zM) : Option (Int32 × zM) :=
  lt (zs s 69 7 (0 : Int32)) (fun s15 =>
  if v2 = 0 then
    some ((zg s15 69 10), s15)
  else
    lt (zs s15 69 16 (zg s15 69 14)) (fun s16 =>
    f_X12_law_L110 F (fun s19 =>
      f_X12_law_L138 F (fun s25 =>
        some ((zg s25 69 14), s25)) F (0 : Int32) s19) F (0 : Int32) s16))
set_option maxRecDepth 100000 in
set_option maxHeartbeats 4000000 in
theorem t_X12_law_j86 {a : zA} {d : Nat} (F : Nat) (K : zOK a cX12_law 4 RX12 (some .int) d) (hd : 8 ≤ d) (v2 : Int32) (s : zM) : zJ a 4 (zG a zφN zri) zφN 86 [(0, .ref (a.1.2.2.2 + 69)), (2, .int v2)] [] s (f_X12_law_j86 F v2 s) := by
  unfold f_X12_law_j86
  refine z_aload_n K 0 rfl dX12_law_86 ?_
  refine z_iconst K ci_0 dX12_law_87 ?_
  refine z_puti K fw_X12_186 ob_69_7 dX12_law_88 ?_
  refine z_ltm (fun s15 => ?_)
  refine z_iload_n K 1 rfl dX12_law_91 ?_
  refine z_if_ne K (tgt := 100) dX12_law_92 (by decide) ?_ ?_
  · refine z_aload_n K 0 rfl dX12_law_100 ?_
    refine z_aload_n K 0 rfl dX12_law_101 ?_
    refine z_geti K fd_X12_271 ob_69_14 dX12_law_102 ?_
    refine z_puti K fw_X12_283 ob_69_16 dX12_law_105 ?_
    refine z_ltm (fun s16 => ?_)
    refine z_iconst K ci_0 dX12_law_108 ?_
    refine z_istore_n K (lv' := [(3, .int (0 : Int32)), (0, .ref (a.1.2.2.2 + 69)), (2, .int v2)]) dX12_law_109 rfl (Nat.le_of_ble_eq_true rfl) rfl ?_
    refine z_sub [1, 0] rfl ?_
    refine t_X12_law_L110 F K hd (fun s19 => ?_) F (0 : Int32) s16
    refine z_iconst K ci_0 dX12_law_136 ?_
    refine z_istore_n K (lv' := [(3, .int (0 : Int32)), (0, .ref (a.1.2.2.2 + 69))]) dX12_law_137 rfl (Nat.le_of_ble_eq_true rfl) rfl ?_
    refine z_sub [1, 0] rfl ?_
    refine t_X12_law_L138 F K hd (fun s25 => ?_) F (0 : Int32) s19
    refine z_aload_n K 0 rfl dX12_law_200 ?_
    refine z_geti K fd_X12_271 ob_69_14 dX12_law_201 ?_
    exact z_iret K dX12_law_204
  · refine z_aload_n K 0 rfl dX12_law_95 ?_
    refine z_geti K fd_X12_203 ob_69_10 dX12_law_96 ?_
    exact z_iret K dX12_law_99
def f_X12_law (F : Nat) (v1 : Int32) (s : zM) : Option (Int32 × zM) :=
  bnd (f_X12_in v1 (1 : Int32) (200 : Int32) s) (fun r2 s1 =>
  if r2 = 0 then
    some ((-1 : Int32), s1)
  else
    if (zg s1 69 7) < v1 then
      some ((-1 : Int32), s1)
    else
      lt (zs s1 69 8 (0 : Int32)) (fun s3 =>
      lt (zs s3 69 9 v1) (fun s4 =>
      lt (zs s4 69 12 (0 : Int32)) (fun s5 =>
      lt (zs s5 69 14 (0 : Int32)) (fun s6 =>
      bnd (f_X12_readsClause F s6) (fun r8 s7 =>
      f_X12_law_L46 F (fun y14 s13 =>
        f_X12_law_j86 F y14 s13) F r8 s7))))))
set_option maxRecDepth 100000 in
set_option maxHeartbeats 4000000 in
theorem t_X12_law (w : zWd) (F : Nat) (d : Nat) (hd : 8 ≤ d) (v1 : Int32) (s : zM) : zMt w yX12_law cX12_law 4 (some .int) d zφN zφN zri [.ref (w.2.2.2 + 69), .int v1] s (f_X12_law F v1 s) := by
  refine zMtN_of (own := RX12) rfl (by decide +kernel) (Nat.le_of_ble_eq_true rfl) cd_X12_law [(0, .ref (w.2.2.2 + 69)), (1, .int v1)] rfl ?_
  rintro a rfl K
  unfold f_X12_law
  refine z_iload_n K 1 rfl dX12_law_0 ?_
  refine z_iconst K ci_1 dX12_law_1 ?_
  refine z_sipush K cs_200 dX12_law_2 ?_
  refine z_cSi (As := [.int v1, .int (1 : Int32), .int (200 : Int32)]) (rest := []) K (t_X12_in a.1 (d - 1) (by omega) v1 (1 : Int32) (200 : Int32) s) mf_X12_in ml_X12_171 (Nat.le_of_ble_eq_true rfl) (by omega) rfl rfl (Nat.le_of_ble_eq_true rfl) dX12_law_5 (fun r2 s1 => ?_)
  refine z_if_eq K (tgt := 19) dX12_law_8 (by decide) ?_ ?_
  · refine z_iconst K ci_m1 dX12_law_19 ?_
    exact z_iret K dX12_law_20
  · refine z_iload_n K 1 rfl dX12_law_11 ?_
    refine z_aload_n K 0 rfl dX12_law_12 ?_
    refine z_geti K fd_X12_186 ob_69_7 dX12_law_13 ?_
    refine z_icmp_le K (tgt := 21) dX12_law_16 (by decide) ?_ ?_
    · refine z_aload_n K 0 rfl dX12_law_21 ?_
      refine z_iconst K ci_0 dX12_law_22 ?_
      refine z_puti K fw_X12_193 ob_69_8 dX12_law_23 ?_
      refine z_ltm (fun s3 => ?_)
      refine z_aload_n K 0 rfl dX12_law_26 ?_
      refine z_iload_n K 1 rfl dX12_law_27 ?_
      refine z_puti K fw_X12_196 ob_69_9 dX12_law_28 ?_
      refine z_ltm (fun s4 => ?_)
      refine z_aload_n K 0 rfl dX12_law_31 ?_
      refine z_iconst K ci_0 dX12_law_32 ?_
      refine z_puti K fw_X12_217 ob_69_12 dX12_law_33 ?_
      refine z_ltm (fun s5 => ?_)
      refine z_aload_n K 0 rfl dX12_law_36 ?_
      refine z_iconst K ci_0 dX12_law_37 ?_
      refine z_puti K fw_X12_271 ob_69_14 dX12_law_38 ?_
      refine z_ltm (fun s6 => ?_)
      refine z_aload_n K 0 rfl dX12_law_41 ?_
      refine z_cVi (As := []) (rest := []) K (t_X12_readsClause a.1 F (d - 1) (by omega) s6) mf_X12_readsClause ml_X12_277 (Nat.le_of_ble_eq_true rfl) (by omega) rfl rc_69 rfl (Nat.le_of_ble_eq_true rfl) dX12_law_42 (fun r8 s7 => ?_)
      refine z_istore_n K (lv' := [(2, .int r8), (0, .ref (a.1.2.2.2 + 69)), (1, .int v1)]) dX12_law_45 rfl (Nat.le_of_ble_eq_true rfl) rfl ?_
      refine z_sub [1, 0] rfl ?_
      refine t_X12_law_L46 F K hd (fun y14 s13 => ?_) F r8 s7
      exact t_X12_law_j86 F K hd y14 s13
    · refine z_iconst K ci_m1 dX12_law_19 ?_
      exact z_iret K dX12_law_20
def f_X12_reckon (v0 : Int32) (v1 : Int32) (v2 : Int32) (s : zM) : Option (Int32 × zM) :=
  if v0 = (2 : Int32) then
    some ((v1 + v2), s)
  else
    if v0 = (3 : Int32) then
      some ((v1 - v2), s)
    else
      if v0 = (4 : Int32) then
        some ((v1 * v2), s)
      else
        if v0 = (5 : Int32) then
          if v2 = 0 then none else
          some ((v1 / v2), s)
        else
          if v0 = (6 : Int32) then
            if v2 = 0 then none else
            some ((v1 - v1 / v2 * v2), s)
          else
            if v0 = (7 : Int32) then
              if v1 < v2 then
                some ((1 : Int32), s)
              else
                some ((0 : Int32), s)
            else
              if v0 = (8 : Int32) then
                if v2 < v1 then
                  some ((1 : Int32), s)
                else
                  some ((0 : Int32), s)
              else
                if v1 = v2 then
                  some ((1 : Int32), s)
                else
                  some ((0 : Int32), s)
set_option maxRecDepth 100000 in
set_option maxHeartbeats 4000000 in
theorem t_X12_reckon (w : zWd) (d : Nat) (hd : 0 ≤ d) (v0 : Int32) (v1 : Int32) (v2 : Int32) (s : zM) : zMt w yX12_reckon cX12_reckon 3 (some .int) d zφN zφN zri [.int v0, .int v1, .int v2] s (f_X12_reckon v0 v1 v2 s) := by
  refine zMtN_of (own := RX12) rfl (by decide +kernel) (Nat.le_of_ble_eq_true rfl) cd_X12_reckon [(0, .int v0), (1, .int v1), (2, .int v2)] rfl ?_
  rintro a rfl K
  unfold f_X12_reckon
  refine z_iload_n K 0 rfl dX12_reckon_0 ?_
  refine z_ite (fun hs2 => ?_) (fun hs2 => ?_)
  · refine z_tswIn K (tgt := 44) (off := 43) dX12_reckon_1 (by rw [hs2]; decide) (by rw [hs2]; decide) (by rw [hs2]; rfl) (by decide) ?_
    refine z_iload_n K 1 rfl dX12_reckon_44 ?_
    refine z_iload_n K 2 rfl dX12_reckon_45 ?_
    refine z_iadd K dX12_reckon_46 ?_
    exact z_iret K dX12_reckon_47
  · refine z_ite (fun hs3 => ?_) (fun hs3 => ?_)
    · refine z_tswIn K (tgt := 48) (off := 47) dX12_reckon_1 (by rw [hs3]; decide) (by rw [hs3]; decide) (by rw [hs3]; rfl) (by decide) ?_
      refine z_iload_n K 1 rfl dX12_reckon_48 ?_
      refine z_iload_n K 2 rfl dX12_reckon_49 ?_
      refine z_isub K dX12_reckon_50 ?_
      exact z_iret K dX12_reckon_51
    · refine z_ite (fun hs4 => ?_) (fun hs4 => ?_)
      · refine z_tswIn K (tgt := 52) (off := 51) dX12_reckon_1 (by rw [hs4]; decide) (by rw [hs4]; decide) (by rw [hs4]; rfl) (by decide) ?_
        refine z_iload_n K 1 rfl dX12_reckon_52 ?_
        refine z_iload_n K 2 rfl dX12_reckon_53 ?_
        refine z_imul K dX12_reckon_54 ?_
        exact z_iret K dX12_reckon_55
      · refine z_ite (fun hs5 => ?_) (fun hs5 => ?_)
        · refine z_tswIn K (tgt := 56) (off := 55) dX12_reckon_1 (by rw [hs5]; decide) (by rw [hs5]; decide) (by rw [hs5]; rfl) (by decide) ?_
          refine z_iload_n K 1 rfl dX12_reckon_56 ?_
          refine z_iload_n K 2 rfl dX12_reckon_57 ?_
          refine z_idiv K dX12_reckon_58 ?_
          exact z_iret K dX12_reckon_59
        · refine z_ite (fun hs6 => ?_) (fun hs6 => ?_)
          · refine z_tswIn K (tgt := 60) (off := 59) dX12_reckon_1 (by rw [hs6]; decide) (by rw [hs6]; decide) (by rw [hs6]; rfl) (by decide) ?_
            refine z_iload_n K 1 rfl dX12_reckon_60 ?_
            refine z_iload_n K 2 rfl dX12_reckon_61 ?_
            refine z_irem K dX12_reckon_62 ?_
            exact z_iret K dX12_reckon_63
          · refine z_ite (fun hs7 => ?_) (fun hs7 => ?_)
            · refine z_tswIn K (tgt := 64) (off := 63) dX12_reckon_1 (by rw [hs7]; decide) (by rw [hs7]; decide) (by rw [hs7]; rfl) (by decide) ?_
              refine z_iload_n K 1 rfl dX12_reckon_64 ?_
              refine z_iload_n K 2 rfl dX12_reckon_65 ?_
              refine z_icmp_ge K (tgt := 73) dX12_reckon_66 (by decide) ?_ ?_
              · refine z_iconst K ci_0 dX12_reckon_73 ?_
                exact z_iret K dX12_reckon_74
              · refine z_iconst K ci_1 dX12_reckon_69 ?_
                refine z_goto K (tgt := 74) dX12_reckon_70 (by decide) ?_
                exact z_iret K dX12_reckon_74
            · refine z_ite (fun hs8 => ?_) (fun hs8 => ?_)
              · refine z_tswIn K (tgt := 75) (off := 74) dX12_reckon_1 (by rw [hs8]; decide) (by rw [hs8]; decide) (by rw [hs8]; rfl) (by decide) ?_
                refine z_iload_n K 1 rfl dX12_reckon_75 ?_
                refine z_iload_n K 2 rfl dX12_reckon_76 ?_
                refine z_icmp_le K (tgt := 84) dX12_reckon_77 (by decide) ?_ ?_
                · refine z_iconst K ci_0 dX12_reckon_84 ?_
                  exact z_iret K dX12_reckon_85
                · refine z_iconst K ci_1 dX12_reckon_80 ?_
                  refine z_goto K (tgt := 85) dX12_reckon_81 (by decide) ?_
                  exact z_iret K dX12_reckon_85
              · have hsw : v0.toInt < 2 ∨ 8 < v0.toInt := by
                  have q2 := lv_neT hs2 (a := 2) rfl
                  have q3 := lv_neT hs3 (a := 3) rfl
                  have q4 := lv_neT hs4 (a := 4) rfl
                  have q5 := lv_neT hs5 (a := 5) rfl
                  have q6 := lv_neT hs6 (a := 6) rfl
                  have q7 := lv_neT hs7 (a := 7) rfl
                  have q8 := lv_neT hs8 (a := 8) rfl
                  omega
                refine z_tswOut K (tgt := 86) dX12_reckon_1 hsw (by decide) ?_
                refine z_iload_n K 1 rfl dX12_reckon_86 ?_
                refine z_iload_n K 2 rfl dX12_reckon_87 ?_
                refine z_icmp_ne K (tgt := 95) dX12_reckon_88 (by decide) ?_ ?_
                · refine z_iconst K ci_0 dX12_reckon_95 ?_
                  exact z_iret K dX12_reckon_96
                · refine z_iconst K ci_1 dX12_reckon_91 ?_
                  refine z_goto K (tgt := 96) dX12_reckon_92 (by decide) ?_
                  exact z_iret K dX12_reckon_96
def f_X12_comesTo_j63 (F : Nat) (k16 : Int32 → Int32 → zM → Option (Int32 × zM)) (v2 : Int32) (v4 : Int32) (v3 : Int32) (v5 : Int32) (v6 : Int32) (v7 : Int32) (s : zM) : Option (Int32 × zM) :=
  if v6 = 0 then
    if zin v3 220 = true then
      lt (zs s 86 (v3).toNatClampNeg v7) (fun s7 =>
      lt ((v3 + (1 : Int32))) (fun y8 =>
      k16 y8 v5 s7))
    else none
  else
    if zin v7 10 = true then
      if zin v3 220 = true then
        lt (zs s 86 (v3).toNatClampNeg (zg s 87 (v7).toNatClampNeg)) (fun s5 =>
        lt ((v3 + (1 : Int32))) (fun y6 =>
        k16 y6 v5 s5))
      else none
    else none
set_option maxRecDepth 100000 in
set_option maxHeartbeats 4000000 in
theorem t_X12_comesTo_j63 {a : zA} {d : Nat} (F : Nat) (K : zOK a cX12_comesTo 8 RX12 (some .int) d) (hd : 1 ≤ d) {k16 : Int32 → Int32 → zM → Option (Int32 × zM)} (v2 : Int32) (v4 : Int32) (h16 : ∀ (v3 : Int32) (v5 : Int32) (s : zM), zJ a 8 (zG a zφN zri) zφN 16 [(0, .ref (a.1.2.2.2 + 69)), (2, .int v2), (3, .int v3), (4, .int v4), (5, .int v5)] [] s (k16 v3 v5 s)) (v3 : Int32) (v5 : Int32) (v6 : Int32) (v7 : Int32) (s : zM) : zJ a 8 (zG a zφN zri) zφN 63 [(0, .ref (a.1.2.2.2 + 69)), (2, .int v2), (3, .int v3), (4, .int v4), (5, .int v5), (6, .int v6), (7, .int v7)] [] s (f_X12_comesTo_j63 F k16 v2 v4 v3 v5 v6 v7 s) := by
  unfold f_X12_comesTo_j63
  refine z_aload_n K 0 rfl dX12_comesTo_63 ?_
  refine z_getr K fd_X12_59 ob_69_28 dX12_comesTo_64 ?_
  refine z_iload_n K 2 rfl dX12_comesTo_67 ?_
  refine z_iload K 5 rfl dX12_comesTo_68 ?_
  refine z_if_ne K (tgt := 78) dX12_comesTo_70 (by decide) ?_ ?_
  · refine z_aload_n K 0 rfl dX12_comesTo_78 ?_
    refine z_getr K fd_X12_62 ob_69_29 dX12_comesTo_79 ?_
    refine z_iload K 6 rfl dX12_comesTo_82 ?_
    refine z_iald K ar_87 dX12_comesTo_84 ?_
    refine z_iast K ar_86 dX12_comesTo_85 ?_
    refine z_ltm (fun s5 => ?_)
    refine z_iload_n K 2 rfl dX12_comesTo_86 ?_
    refine z_iconst K ci_1 dX12_comesTo_87 ?_
    refine z_iadd K dX12_comesTo_88 ?_
    refine z_topi (fun y6 => ?_)
    refine z_istore_n K (lv' := [(3, .int y6), (0, .ref (a.1.2.2.2 + 69)), (2, .int v2), (4, .int v4), (5, .int v5), (6, .int v6), (7, .int v7)]) dX12_comesTo_89 rfl (Nat.le_of_ble_eq_true rfl) rfl ?_
    refine z_goto K (tgt := 230) dX12_comesTo_90 (by decide) ?_
    refine z_goto K (tgt := 16) dX12_comesTo_230 (by decide) ?_
    refine z_sub [1, 2, 0, 3, 4] rfl ?_
    exact h16 y6 v5 s5
  · refine z_iload K 6 rfl dX12_comesTo_73 ?_
    refine z_goto K (tgt := 85) dX12_comesTo_75 (by decide) ?_
    refine z_iast K ar_86 dX12_comesTo_85 ?_
    refine z_ltm (fun s7 => ?_)
    refine z_iload_n K 2 rfl dX12_comesTo_86 ?_
    refine z_iconst K ci_1 dX12_comesTo_87 ?_
    refine z_iadd K dX12_comesTo_88 ?_
    refine z_topi (fun y8 => ?_)
    refine z_istore_n K (lv' := [(3, .int y8), (0, .ref (a.1.2.2.2 + 69)), (2, .int v2), (4, .int v4), (5, .int v5), (6, .int v6), (7, .int v7)]) dX12_comesTo_89 rfl (Nat.le_of_ble_eq_true rfl) rfl ?_
    refine z_goto K (tgt := 230) dX12_comesTo_90 (by decide) ?_
    refine z_goto K (tgt := 16) dX12_comesTo_230 (by decide) ?_
    refine z_sub [1, 2, 0, 3, 4] rfl ?_
    exact h16 y8 v5 s7
def f_X12_comesTo_j155 (F : Nat) (k16 : Int32 → Int32 → zM → Option (Int32 × zM)) (v2 : Int32) (v4 : Int32) (v3 : Int32) (v5 : Int32) (v7 : Int32) (w0 : Int32) (w1 : Int32) (s : zM) : Option (Int32 × zM) :=
  if w1 = w0 then
    lt ((v4 + v7)) (fun y10 =>
    k16 v3 y10 s)
  else
    lt ((v3 - (1 : Int32))) (fun y9 =>
    k16 y9 v5 s)
set_option maxRecDepth 100000 in
set_option maxHeartbeats 4000000 in
theorem t_X12_comesTo_j155 {a : zA} {d : Nat} (F : Nat) (K : zOK a cX12_comesTo 8 RX12 (some .int) d) (hd : 1 ≤ d) {k16 : Int32 → Int32 → zM → Option (Int32 × zM)} (v2 : Int32) (v4 : Int32) (h16 : ∀ (v3 : Int32) (v5 : Int32) (s : zM), zJ a 8 (zG a zφN zri) zφN 16 [(0, .ref (a.1.2.2.2 + 69)), (2, .int v2), (3, .int v3), (4, .int v4), (5, .int v5)] [] s (k16 v3 v5 s)) (v3 : Int32) (v5 : Int32) (v7 : Int32) (w0 : Int32) (w1 : Int32) (s : zM) : zJ a 8 (zG a zφN zri) zφN 155 [(0, .ref (a.1.2.2.2 + 69)), (2, .int v2), (3, .int v3), (4, .int v4), (5, .int v5), (7, .int v7)] [.int w0, .int w1] s (f_X12_comesTo_j155 F k16 v2 v4 v3 v5 v7 w0 w1 s) := by
  unfold f_X12_comesTo_j155
  refine z_icmp_ne K (tgt := 168) dX12_comesTo_155 (by decide) ?_ ?_
  · refine z_iload_n K 2 rfl dX12_comesTo_168 ?_
    refine z_iconst K ci_1 dX12_comesTo_169 ?_
    refine z_isub K dX12_comesTo_170 ?_
    refine z_topi (fun y9 => ?_)
    refine z_istore_n K (lv' := [(3, .int y9), (0, .ref (a.1.2.2.2 + 69)), (2, .int v2), (4, .int v4), (5, .int v5), (7, .int v7)]) dX12_comesTo_171 rfl (Nat.le_of_ble_eq_true rfl) rfl ?_
    refine z_goto K (tgt := 230) dX12_comesTo_172 (by decide) ?_
    refine z_goto K (tgt := 16) dX12_comesTo_230 (by decide) ?_
    refine z_sub [1, 2, 0, 3, 4] rfl ?_
    exact h16 y9 v5 s
  · refine z_iload K 3 rfl dX12_comesTo_158 ?_
    refine z_iload K 5 rfl dX12_comesTo_160 ?_
    refine z_iadd K dX12_comesTo_162 ?_
    refine z_topi (fun y10 => ?_)
    refine z_istore K (lv' := [(5, .int y10), (0, .ref (a.1.2.2.2 + 69)), (2, .int v2), (3, .int v3), (4, .int v4), (7, .int v7)]) dX12_comesTo_163 (Nat.le_of_ble_eq_true rfl) rfl ?_
    refine z_goto K (tgt := 230) dX12_comesTo_165 (by decide) ?_
    refine z_goto K (tgt := 16) dX12_comesTo_230 (by decide) ?_
    refine z_sub [1, 2, 3, 4, 0] rfl ?_
    exact h16 v3 y10 s
def f_X12_comesTo_j135 (F : Nat) (k16 : Int32 → Int32 → zM → Option (Int32 × zM)) (v2 : Int32) (v4 : Int32) (v3 : Int32) (v5 : Int32) (v6 : Int32) (v7 : Int32) (s : zM) : Option (Int32 × zM) :=
  if zin (v3 - (1 : Int32)) 220 = true then
    if v6 = (12 : Int32) then
      f_X12_comesTo_j155 F k16 v2 v4 v3 v5 v7 (1 : Int32) (zg s 86 ((v3 - (1 : Int32))).toNatClampNeg) s
    else
      f_X12_comesTo_j155 F k16 v2 v4 v3 v5 v7 (0 : Int32) (zg s 86 ((v3 - (1 : Int32))).toNatClampNeg) s
  else none
set_option maxRecDepth 100000 in
set_option maxHeartbeats 4000000 in
theorem t_X12_comesTo_j135 {a : zA} {d : Nat} (F : Nat) (K : zOK a cX12_comesTo 8 RX12 (some .int) d) (hd : 1 ≤ d) {k16 : Int32 → Int32 → zM → Option (Int32 × zM)} (v2 : Int32) (v4 : Int32) (h16 : ∀ (v3 : Int32) (v5 : Int32) (s : zM), zJ a 8 (zG a zφN zri) zφN 16 [(0, .ref (a.1.2.2.2 + 69)), (2, .int v2), (3, .int v3), (4, .int v4), (5, .int v5)] [] s (k16 v3 v5 s)) (v3 : Int32) (v5 : Int32) (v6 : Int32) (v7 : Int32) (s : zM) : zJ a 8 (zG a zφN zri) zφN 135 [(0, .ref (a.1.2.2.2 + 69)), (2, .int v2), (3, .int v3), (4, .int v4), (5, .int v5), (6, .int v6), (7, .int v7)] [] s (f_X12_comesTo_j135 F k16 v2 v4 v3 v5 v6 v7 s) := by
  unfold f_X12_comesTo_j135
  refine z_aload_n K 0 rfl dX12_comesTo_135 ?_
  refine z_getr K fd_X12_59 ob_69_28 dX12_comesTo_136 ?_
  refine z_iload_n K 2 rfl dX12_comesTo_139 ?_
  refine z_iconst K ci_1 dX12_comesTo_140 ?_
  refine z_isub K dX12_comesTo_141 ?_
  refine z_iald K ar_86 dX12_comesTo_142 ?_
  refine z_iload K 5 rfl dX12_comesTo_143 ?_
  refine z_bipush K cb_12 dX12_comesTo_145 ?_
  refine z_icmp_ne K (tgt := 154) dX12_comesTo_147 (by decide) ?_ ?_
  · refine z_iconst K ci_0 dX12_comesTo_154 ?_
    refine z_sub [0, 1, 2, 3, 4, 6] rfl ?_
    exact t_X12_comesTo_j155 F K hd v2 v4 h16 v3 v5 v7 (0 : Int32) (zg s 86 ((v3 - (1 : Int32))).toNatClampNeg) s
  · refine z_iconst K ci_1 dX12_comesTo_150 ?_
    refine z_goto K (tgt := 155) dX12_comesTo_151 (by decide) ?_
    refine z_sub [0, 1, 2, 3, 4, 6] rfl ?_
    exact t_X12_comesTo_j155 F K hd v2 v4 h16 v3 v5 v7 (1 : Int32) (zg s 86 ((v3 - (1 : Int32))).toNatClampNeg) s
def f_X12_comesTo_j203 (F : Nat) (k16 : Int32 → Int32 → zM → Option (Int32 × zM)) (v2 : Int32) (v4 : Int32) (v3 : Int32) (v5 : Int32) (v6 : Int32) (s : zM) : Option (Int32 × zM) :=
  if zin (v3 - (1 : Int32)) 220 = true then
    if zin v3 220 = true then
      bnd (f_X12_reckon v6 (zg s 86 ((v3 - (1 : Int32))).toNatClampNeg) (zg s 86 (v3).toNatClampNeg) s) (fun r13 s12 =>
      if zin (v3 - (1 : Int32)) 220 = true then
        lt (zs s12 86 ((v3 - (1 : Int32))).toNatClampNeg r13) (fun s14 =>
        k16 v3 v5 s14)
      else none)
    else none
  else none
set_option maxRecDepth 100000 in
set_option maxHeartbeats 4000000 in
theorem t_X12_comesTo_j203 {a : zA} {d : Nat} (F : Nat) (K : zOK a cX12_comesTo 8 RX12 (some .int) d) (hd : 1 ≤ d) {k16 : Int32 → Int32 → zM → Option (Int32 × zM)} (v2 : Int32) (v4 : Int32) (h16 : ∀ (v3 : Int32) (v5 : Int32) (s : zM), zJ a 8 (zG a zφN zri) zφN 16 [(0, .ref (a.1.2.2.2 + 69)), (2, .int v2), (3, .int v3), (4, .int v4), (5, .int v5)] [] s (k16 v3 v5 s)) (v3 : Int32) (v5 : Int32) (v6 : Int32) (s : zM) : zJ a 8 (zG a zφN zri) zφN 203 [(0, .ref (a.1.2.2.2 + 69)), (2, .int v2), (3, .int v3), (4, .int v4), (5, .int v5), (6, .int v6)] [] s (f_X12_comesTo_j203 F k16 v2 v4 v3 v5 v6 s) := by
  unfold f_X12_comesTo_j203
  refine z_aload_n K 0 rfl dX12_comesTo_203 ?_
  refine z_getr K fd_X12_59 ob_69_28 dX12_comesTo_204 ?_
  refine z_iload_n K 2 rfl dX12_comesTo_207 ?_
  refine z_iconst K ci_1 dX12_comesTo_208 ?_
  refine z_isub K dX12_comesTo_209 ?_
  refine z_iload K 5 rfl dX12_comesTo_210 ?_
  refine z_aload_n K 0 rfl dX12_comesTo_212 ?_
  refine z_getr K fd_X12_59 ob_69_28 dX12_comesTo_213 ?_
  refine z_iload_n K 2 rfl dX12_comesTo_216 ?_
  refine z_iconst K ci_1 dX12_comesTo_217 ?_
  refine z_isub K dX12_comesTo_218 ?_
  refine z_iald K ar_86 dX12_comesTo_219 ?_
  refine z_aload_n K 0 rfl dX12_comesTo_220 ?_
  refine z_getr K fd_X12_59 ob_69_28 dX12_comesTo_221 ?_
  refine z_iload_n K 2 rfl dX12_comesTo_224 ?_
  refine z_iald K ar_86 dX12_comesTo_225 ?_
  refine z_cSi (As := [.int v6, .int (zg s 86 ((v3 - (1 : Int32))).toNatClampNeg), .int (zg s 86 (v3).toNatClampNeg)]) (rest := [.int (v3 - (1 : Int32)), .ref (a.1.2.2.2 + 86)]) K (t_X12_reckon a.1 (d - 1) (by omega) v6 (zg s 86 ((v3 - (1 : Int32))).toNatClampNeg) (zg s 86 (v3).toNatClampNeg) s) mf_X12_reckon ml_X12_286 (Nat.le_of_ble_eq_true rfl) (by omega) rfl rfl (Nat.le_of_ble_eq_true rfl) dX12_comesTo_226 (fun r13 s12 => ?_)
  refine z_iast K ar_86 dX12_comesTo_229 ?_
  refine z_ltm (fun s14 => ?_)
  refine z_goto K (tgt := 16) dX12_comesTo_230 (by decide) ?_
  refine z_sub [0, 1, 2, 3, 4] rfl ?_
  exact h16 v3 v5 s14
def f_X12_comesTo_j192 (F : Nat) (k16 : Int32 → Int32 → zM → Option (Int32 × zM)) (v2 : Int32) (v4 : Int32) (v3 : Int32) (v5 : Int32) (v6 : Int32) (s : zM) : Option (Int32 × zM) :=
  if zin v3 220 = true then
    if (zg s 86 (v3).toNatClampNeg) = 0 then
      some ((0 : Int32), s)
    else
      f_X12_comesTo_j203 F k16 v2 v4 v3 v5 v6 s
  else none
set_option maxRecDepth 100000 in
set_option maxHeartbeats 4000000 in
theorem t_X12_comesTo_j192 {a : zA} {d : Nat} (F : Nat) (K : zOK a cX12_comesTo 8 RX12 (some .int) d) (hd : 1 ≤ d) {k16 : Int32 → Int32 → zM → Option (Int32 × zM)} (v2 : Int32) (v4 : Int32) (h16 : ∀ (v3 : Int32) (v5 : Int32) (s : zM), zJ a 8 (zG a zφN zri) zφN 16 [(0, .ref (a.1.2.2.2 + 69)), (2, .int v2), (3, .int v3), (4, .int v4), (5, .int v5)] [] s (k16 v3 v5 s)) (v3 : Int32) (v5 : Int32) (v6 : Int32) (s : zM) : zJ a 8 (zG a zφN zri) zφN 192 [(0, .ref (a.1.2.2.2 + 69)), (2, .int v2), (3, .int v3), (4, .int v4), (5, .int v5), (6, .int v6)] [] s (f_X12_comesTo_j192 F k16 v2 v4 v3 v5 v6 s) := by
  unfold f_X12_comesTo_j192
  refine z_aload_n K 0 rfl dX12_comesTo_192 ?_
  refine z_getr K fd_X12_59 ob_69_28 dX12_comesTo_193 ?_
  refine z_iload_n K 2 rfl dX12_comesTo_196 ?_
  refine z_iald K ar_86 dX12_comesTo_197 ?_
  refine z_if_ne K (tgt := 203) dX12_comesTo_198 (by decide) ?_ ?_
  · exact t_X12_comesTo_j203 F K hd v2 v4 h16 v3 v5 v6 s
  · refine z_iconst K ci_0 dX12_comesTo_201 ?_
    exact z_iret K dX12_comesTo_202
def f_X12_comesTo_L16 (F : Nat) (k233 : zM → Option (Int32 × zM)) (v2 : Int32) (v4 : Int32) : Nat → Int32 → Int32 → zM → Option (Int32 × zM)
  | 0, _, _, _ => none
  | n + 1, v3, v5, s =>
    if v5 < v2 then
      if zin v5 220 = true then
        lt (((zg s 81 (v5).toNatClampNeg) / (1048576 : Int32))) (fun y2 =>
        if zin v5 220 = true then
          lt (((zg s 81 (v5).toNatClampNeg) - (zg s 81 (v5).toNatClampNeg) / (1048576 : Int32) * (1048576 : Int32))) (fun y3 =>
          lt ((v5 + (1 : Int32))) (fun y4 =>
          if y2 = 0 then
            f_X12_comesTo_j63 F (f_X12_comesTo_L16 F k233 v2 v4 n) v2 v4 v3 y4 y2 y3 s
          else
            if y2 = (1 : Int32) then
              f_X12_comesTo_j63 F (f_X12_comesTo_L16 F k233 v2 v4 n) v2 v4 v3 y4 y2 y3 s
            else
              if y2 = (10 : Int32) then
                if zin (v3 - (1 : Int32)) 220 = true then
                  if zin (v3 - (1 : Int32)) 220 = true then
                    lt (zs s 86 ((v3 - (1 : Int32))).toNatClampNeg ((1 : Int32) - (zg s 86 ((v3 - (1 : Int32))).toNatClampNeg))) (fun s15 =>
                    f_X12_comesTo_L16 F k233 v2 v4 n v3 y4 s15)
                  else none
                else none
              else
                if y2 = (11 : Int32) then
                  f_X12_comesTo_j135 F (f_X12_comesTo_L16 F k233 v2 v4 n) v2 v4 v3 y4 y2 y3 s
                else
                  if y2 = (12 : Int32) then
                    f_X12_comesTo_j135 F (f_X12_comesTo_L16 F k233 v2 v4 n) v2 v4 v3 y4 y2 y3 s
                  else
                    lt ((v3 - (1 : Int32))) (fun y11 =>
                    if y2 = (5 : Int32) then
                      f_X12_comesTo_j192 F (f_X12_comesTo_L16 F k233 v2 v4 n) v2 v4 y11 y4 y2 s
                    else
                      if y2 = (6 : Int32) then
                        f_X12_comesTo_j192 F (f_X12_comesTo_L16 F k233 v2 v4 n) v2 v4 y11 y4 y2 s
                      else
                        f_X12_comesTo_j203 F (f_X12_comesTo_L16 F k233 v2 v4 n) v2 v4 y11 y4 y2 s)))
        else none)
      else none
    else
      k233 s
set_option maxRecDepth 100000 in
set_option maxHeartbeats 4000000 in
theorem t_X12_comesTo_L16 {a : zA} {d : Nat} (F : Nat) (K : zOK a cX12_comesTo 8 RX12 (some .int) d) (hd : 1 ≤ d) {k233 : zM → Option (Int32 × zM)} (v2 : Int32) (v4 : Int32) (h233 : ∀ (s : zM), zJ a 8 (zG a zφN zri) zφN 233 [(0, .ref (a.1.2.2.2 + 69))] [] s (k233 s)) : ∀ (n : Nat) (v3 : Int32) (v5 : Int32) (s : zM), zJ a 8 (zG a zφN zri) zφN 16 [(0, .ref (a.1.2.2.2 + 69)), (2, .int v2), (3, .int v3), (4, .int v4), (5, .int v5)] [] s (f_X12_comesTo_L16 F k233 v2 v4 n v3 v5 s) := by
  intro n
  induction n with
  | zero => intros; exact z_none
  | succ n ih =>
    intro v3 v5 s
    rw [f_X12_comesTo_L16]
    refine z_iload K 4 rfl dX12_comesTo_16 ?_
    refine z_iload_n K 1 rfl dX12_comesTo_18 ?_
    refine z_icmp_ge K (tgt := 233) dX12_comesTo_19 (by decide) ?_ ?_
    · refine z_sub [0] rfl ?_
      exact h233 s
    · refine z_aload_n K 0 rfl dX12_comesTo_22 ?_
      refine z_getr K fd_X12_44 ob_69_23 dX12_comesTo_23 ?_
      refine z_iload K 4 rfl dX12_comesTo_26 ?_
      refine z_iald K ar_81 dX12_comesTo_28 ?_
      refine z_ldc K cst_X12_220 dX12_comesTo_29 ?_
      refine z_idivc K (by decide) dX12_comesTo_31 ?_
      refine z_topi (fun y2 => ?_)
      refine z_istore K (lv' := [(6, .int y2), (0, .ref (a.1.2.2.2 + 69)), (2, .int v2), (3, .int v3), (4, .int v4), (5, .int v5)]) dX12_comesTo_32 (Nat.le_of_ble_eq_true rfl) rfl ?_
      refine z_aload_n K 1 rfl dX12_comesTo_34 ?_
      refine z_getr K fd_X12_44 ob_69_23 dX12_comesTo_35 ?_
      refine z_iload K 5 rfl dX12_comesTo_38 ?_
      refine z_iald K ar_81 dX12_comesTo_40 ?_
      refine z_ldc K cst_X12_220 dX12_comesTo_41 ?_
      refine z_iremc K (by decide) dX12_comesTo_43 ?_
      refine z_topi (fun y3 => ?_)
      refine z_istore K (lv' := [(7, .int y3), (6, .int y2), (0, .ref (a.1.2.2.2 + 69)), (2, .int v2), (3, .int v3), (4, .int v4), (5, .int v5)]) dX12_comesTo_44 (Nat.le_of_ble_eq_true rfl) rfl ?_
      refine z_iload K 6 rfl dX12_comesTo_46 ?_
      refine z_iconst K ci_1 dX12_comesTo_48 ?_
      refine z_iadd K dX12_comesTo_49 ?_
      refine z_topi (fun y4 => ?_)
      refine z_istore K (lv' := [(5, .int y4), (7, .int y3), (6, .int y2), (0, .ref (a.1.2.2.2 + 69)), (2, .int v2), (3, .int v3), (4, .int v4)]) dX12_comesTo_50 (Nat.le_of_ble_eq_true rfl) rfl ?_
      refine z_iload K 2 rfl dX12_comesTo_52 ?_
      refine z_if_eq K (tgt := 63) dX12_comesTo_54 (by decide) ?_ ?_
      · refine z_sub [3, 4, 5, 6, 0, 2, 1] rfl ?_
        exact t_X12_comesTo_j63 F K hd v2 v4 ih v3 y4 y2 y3 s
      · refine z_iload K 2 rfl dX12_comesTo_57 ?_
        refine z_iconst K ci_1 dX12_comesTo_59 ?_
        refine z_icmp_ne K (tgt := 93) dX12_comesTo_60 (by decide) ?_ ?_
        · refine z_iload K 2 rfl dX12_comesTo_93 ?_
          refine z_bipush K cb_10 dX12_comesTo_95 ?_
          refine z_icmp_ne K (tgt := 121) dX12_comesTo_97 (by decide) ?_ ?_
          · refine z_iload K 2 rfl dX12_comesTo_121 ?_
            refine z_bipush K cb_11 dX12_comesTo_123 ?_
            refine z_icmp_eq K (tgt := 135) dX12_comesTo_125 (by decide) ?_ ?_
            · refine z_sub [3, 4, 5, 6, 0, 2, 1] rfl ?_
              exact t_X12_comesTo_j135 F K hd v2 v4 ih v3 y4 y2 y3 s
            · refine z_iload K 2 rfl dX12_comesTo_128 ?_
              refine z_bipush K cb_12 dX12_comesTo_130 ?_
              refine z_icmp_ne K (tgt := 175) dX12_comesTo_132 (by decide) ?_ ?_
              · refine z_iload_n K 5 rfl dX12_comesTo_175 ?_
                refine z_iconst K ci_1 dX12_comesTo_176 ?_
                refine z_isub K dX12_comesTo_177 ?_
                refine z_topi (fun y11 => ?_)
                refine z_istore_n K (lv' := [(3, .int y11), (5, .int y4), (7, .int y3), (6, .int y2), (0, .ref (a.1.2.2.2 + 69)), (2, .int v2), (4, .int v4)]) dX12_comesTo_178 rfl (Nat.le_of_ble_eq_true rfl) rfl ?_
                refine z_iload K 3 rfl dX12_comesTo_179 ?_
                refine z_iconst K ci_5 dX12_comesTo_181 ?_
                refine z_icmp_eq K (tgt := 192) dX12_comesTo_182 (by decide) ?_ ?_
                · refine z_sub [4, 5, 0, 6, 1, 3] rfl ?_
                  exact t_X12_comesTo_j192 F K hd v2 v4 ih y11 y4 y2 s
                · refine z_iload K 3 rfl dX12_comesTo_185 ?_
                  refine z_bipush K cb_6 dX12_comesTo_187 ?_
                  refine z_icmp_ne K (tgt := 203) dX12_comesTo_189 (by decide) ?_ ?_
                  · refine z_sub [4, 5, 0, 6, 1, 3] rfl ?_
                    exact t_X12_comesTo_j203 F K hd v2 v4 ih y11 y4 y2 s
                  · refine z_sub [4, 5, 0, 6, 1, 3] rfl ?_
                    exact t_X12_comesTo_j192 F K hd v2 v4 ih y11 y4 y2 s
              · refine z_sub [3, 4, 5, 6, 0, 2, 1] rfl ?_
                exact t_X12_comesTo_j135 F K hd v2 v4 ih v3 y4 y2 y3 s
          · refine z_aload_n K 3 rfl dX12_comesTo_100 ?_
            refine z_getr K fd_X12_59 ob_69_28 dX12_comesTo_101 ?_
            refine z_iload_n K 5 rfl dX12_comesTo_104 ?_
            refine z_iconst K ci_1 dX12_comesTo_105 ?_
            refine z_isub K dX12_comesTo_106 ?_
            refine z_iconst K ci_1 dX12_comesTo_107 ?_
            refine z_aload_n K 3 rfl dX12_comesTo_108 ?_
            refine z_getr K fd_X12_59 ob_69_28 dX12_comesTo_109 ?_
            refine z_iload_n K 5 rfl dX12_comesTo_112 ?_
            refine z_iconst K ci_1 dX12_comesTo_113 ?_
            refine z_isub K dX12_comesTo_114 ?_
            refine z_iald K ar_86 dX12_comesTo_115 ?_
            refine z_isub K dX12_comesTo_116 ?_
            refine z_iast K ar_86 dX12_comesTo_117 ?_
            refine z_ltm (fun s15 => ?_)
            refine z_goto K (tgt := 230) dX12_comesTo_118 (by decide) ?_
            refine z_goto K (tgt := 16) dX12_comesTo_230 (by decide) ?_
            refine z_sub [3, 4, 5, 6, 0] rfl ?_
            exact ih v3 y4 s15
        · refine z_sub [3, 4, 5, 6, 0, 2, 1] rfl ?_
          exact t_X12_comesTo_j63 F K hd v2 v4 ih v3 y4 y2 y3 s
def f_X12_comesTo (F : Nat) (v1 : Int32) (v2 : Int32) (s : zM) : Option (Int32 × zM) :=
  lt (((220 : Int32) * (v1 / (220 : Int32)))) (fun y1 =>
  f_X12_comesTo_L16 F (fun s16 =>
    if zin (0 : Int32) 220 = true then
      some ((zg s16 86 ((0 : Int32)).toNatClampNeg), s16)
    else none) v2 y1 F (0 : Int32) v1 s)
set_option maxRecDepth 100000 in
set_option maxHeartbeats 4000000 in
theorem t_X12_comesTo (w : zWd) (F : Nat) (d : Nat) (hd : 1 ≤ d) (v1 : Int32) (v2 : Int32) (s : zM) : zMt w yX12_comesTo cX12_comesTo 8 (some .int) d zφN zφN zri [.ref (w.2.2.2 + 69), .int v1, .int v2] s (f_X12_comesTo F v1 v2 s) := by
  refine zMtN_of (own := RX12) rfl (by decide +kernel) (Nat.le_of_ble_eq_true rfl) cd_X12_comesTo [(0, .ref (w.2.2.2 + 69)), (1, .int v1), (2, .int v2)] rfl ?_
  rintro a rfl K
  unfold f_X12_comesTo
  refine z_iconst K ci_0 dX12_comesTo_0 ?_
  refine z_istore_n K (lv' := [(3, .int (0 : Int32)), (0, .ref (a.1.2.2.2 + 69)), (1, .int v1), (2, .int v2)]) dX12_comesTo_1 rfl (Nat.le_of_ble_eq_true rfl) rfl ?_
  refine z_sipush K cs_220 dX12_comesTo_2 ?_
  refine z_iload_n K 2 rfl dX12_comesTo_5 ?_
  refine z_sipush K cs_220 dX12_comesTo_6 ?_
  refine z_idivc K (by decide) dX12_comesTo_9 ?_
  refine z_imul K dX12_comesTo_10 ?_
  refine z_topi (fun y1 => ?_)
  refine z_istore K (lv' := [(4, .int y1), (3, .int (0 : Int32)), (0, .ref (a.1.2.2.2 + 69)), (1, .int v1), (2, .int v2)]) dX12_comesTo_11 (Nat.le_of_ble_eq_true rfl) rfl ?_
  refine z_iload_n K 3 rfl dX12_comesTo_13 ?_
  refine z_istore K (lv' := [(5, .int v1), (4, .int y1), (3, .int (0 : Int32)), (0, .ref (a.1.2.2.2 + 69)), (1, .int v1), (2, .int v2)]) dX12_comesTo_14 (Nat.le_of_ble_eq_true rfl) rfl ?_
  refine z_sub [3, 5, 2, 1, 0] rfl ?_
  refine t_X12_comesTo_L16 F K hd v2 y1 (fun s16 => ?_) F (0 : Int32) v1 s
  refine z_aload_n K 0 rfl dX12_comesTo_233 ?_
  refine z_getr K fd_X12_59 ob_69_28 dX12_comesTo_234 ?_
  refine z_iconst K ci_0 dX12_comesTo_237 ?_
  refine z_iald K ar_86 dX12_comesTo_238 ?_
  exact z_iret K dX12_comesTo_239
def f_X12_byLaw_L3 (F : Nat) (k97 : zM → Option (Int32 × zM)) (v1 : Int32) (v2 : Int32) (v3 : Int32) : Nat → Int32 → zM → Option (Int32 × zM)
  | 0, _, _ => none
  | n + 1, v4, s =>
    if v4 < (zg s 69 16) then
      if zin v4 14 = true then
        if (zg s 82 (v4).toNatClampNeg) = v1 then
          if zin v4 14 = true then
            if zin v4 14 = true then
              bnd (f_X12_comesTo F (zg s 84 (v4).toNatClampNeg) (zg s 85 (v4).toNatClampNeg) s) (fun r3 s2 =>
              if r3 = (1 : Int32) then
                if zin v4 14 = true then
                  if zin v4 14 = true then
                    bnd (f_X12_comesTo F (zg s2 83 (v4).toNatClampNeg) (zg s2 84 (v4).toNatClampNeg) s2) (fun r5 s4 =>
                    if r5 < v2 then
                      some (v2, s4)
                    else
                      if v3 < r5 then
                        some (v3, s4)
                      else
                        some (r5, s4))
                  else none
                else none
              else
                lt (v4 + (1 : Int32)) (fun y6 =>
                f_X12_byLaw_L3 F k97 v1 v2 v3 n y6 s2))
            else none
          else none
        else
          lt (v4 + (1 : Int32)) (fun y1 =>
          f_X12_byLaw_L3 F k97 v1 v2 v3 n y1 s)
      else none
    else
      k97 s
set_option maxRecDepth 100000 in
set_option maxHeartbeats 4000000 in
theorem t_X12_byLaw_L3 {a : zA} {d : Nat} (F : Nat) (K : zOK a cX12_byLaw 6 RX12 (some .int) d) (hd : 2 ≤ d) {k97 : zM → Option (Int32 × zM)} (v1 : Int32) (v2 : Int32) (v3 : Int32) (h97 : ∀ (s : zM), zJ a 6 (zG a zφN zri) zφN 97 [] [] s (k97 s)) : ∀ (n : Nat) (v4 : Int32) (s : zM), zJ a 6 (zG a zφN zri) zφN 3 [(0, .ref (a.1.2.2.2 + 69)), (1, .int v1), (2, .int v2), (3, .int v3), (4, .int v4)] [] s (f_X12_byLaw_L3 F k97 v1 v2 v3 n v4 s) := by
  intro n
  induction n with
  | zero => intros; exact z_none
  | succ n ih =>
    intro v4 s
    rw [f_X12_byLaw_L3]
    refine z_iload K 4 rfl dX12_byLaw_3 ?_
    refine z_aload_n K 0 rfl dX12_byLaw_5 ?_
    refine z_geti K fd_X12_283 ob_69_16 dX12_byLaw_6 ?_
    refine z_icmp_ge K (tgt := 97) dX12_byLaw_9 (by decide) ?_ ?_
    · refine z_sub [] rfl ?_
      exact h97 s
    · refine z_aload_n K 0 rfl dX12_byLaw_12 ?_
      refine z_getr K fd_X12_47 ob_69_24 dX12_byLaw_13 ?_
      refine z_iload K 4 rfl dX12_byLaw_16 ?_
      refine z_iald K ar_82 dX12_byLaw_18 ?_
      refine z_iload_n K 1 rfl dX12_byLaw_19 ?_
      refine z_icmp_ne K (tgt := 91) dX12_byLaw_20 (by decide) ?_ ?_
      · refine z_iincN K (j := 4) (lv' := [(0, .ref (a.1.2.2.2 + 69)), (1, .int v1), (2, .int v2), (3, .int v3)]) ci_1 rfl dX12_byLaw_91 (Nat.le_of_ble_eq_true rfl) rfl (fun y1 => ?_)
        refine z_goto K (tgt := 3) dX12_byLaw_94 (by decide) ?_
        refine z_sub [1, 2, 3, 4, 0] rfl ?_
        exact ih y1 s
      · refine z_aload_n K 0 rfl dX12_byLaw_23 ?_
        refine z_aload_n K 0 rfl dX12_byLaw_24 ?_
        refine z_getr K fd_X12_53 ob_69_26 dX12_byLaw_25 ?_
        refine z_iload K 4 rfl dX12_byLaw_28 ?_
        refine z_iald K ar_84 dX12_byLaw_30 ?_
        refine z_aload_n K 0 rfl dX12_byLaw_31 ?_
        refine z_getr K fd_X12_56 ob_69_27 dX12_byLaw_32 ?_
        refine z_iload K 4 rfl dX12_byLaw_35 ?_
        refine z_iald K ar_85 dX12_byLaw_37 ?_
        refine z_cVi (As := [.int (zg s 84 (v4).toNatClampNeg), .int (zg s 85 (v4).toNatClampNeg)]) (rest := []) K (t_X12_comesTo a.1 F (d - 1) (by omega) (zg s 84 (v4).toNatClampNeg) (zg s 85 (v4).toNatClampNeg) s) mf_X12_comesTo ml_X12_290 (Nat.le_of_ble_eq_true rfl) (by omega) rfl rc_69 rfl (Nat.le_of_ble_eq_true rfl) dX12_byLaw_38 (fun r3 s2 => ?_)
        refine z_iconst K ci_1 dX12_byLaw_41 ?_
        refine z_icmp_eq K (tgt := 48) dX12_byLaw_42 (by decide) ?_ ?_
        · refine z_aload_n K 0 rfl dX12_byLaw_48 ?_
          refine z_aload_n K 0 rfl dX12_byLaw_49 ?_
          refine z_getr K fd_X12_50 ob_69_25 dX12_byLaw_50 ?_
          refine z_iload K 4 rfl dX12_byLaw_53 ?_
          refine z_iald K ar_83 dX12_byLaw_55 ?_
          refine z_aload_n K 0 rfl dX12_byLaw_56 ?_
          refine z_getr K fd_X12_53 ob_69_26 dX12_byLaw_57 ?_
          refine z_iload K 4 rfl dX12_byLaw_60 ?_
          refine z_iald K ar_84 dX12_byLaw_62 ?_
          refine z_cVi (As := [.int (zg s2 83 (v4).toNatClampNeg), .int (zg s2 84 (v4).toNatClampNeg)]) (rest := []) K (t_X12_comesTo a.1 F (d - 1) (by omega) (zg s2 83 (v4).toNatClampNeg) (zg s2 84 (v4).toNatClampNeg) s2) mf_X12_comesTo ml_X12_290 (Nat.le_of_ble_eq_true rfl) (by omega) rfl rc_69 rfl (Nat.le_of_ble_eq_true rfl) dX12_byLaw_63 (fun r5 s4 => ?_)
          refine z_istore K (lv' := [(5, .int r5), (0, .ref (a.1.2.2.2 + 69)), (1, .int v1), (2, .int v2), (3, .int v3), (4, .int v4)]) dX12_byLaw_66 (Nat.le_of_ble_eq_true rfl) rfl ?_
          refine z_iload K 0 rfl dX12_byLaw_68 ?_
          refine z_iload_n K 3 rfl dX12_byLaw_70 ?_
          refine z_icmp_ge K (tgt := 78) dX12_byLaw_71 (by decide) ?_ ?_
          · refine z_iload K 0 rfl dX12_byLaw_78 ?_
            refine z_iload_n K 4 rfl dX12_byLaw_80 ?_
            refine z_icmp_le K (tgt := 88) dX12_byLaw_81 (by decide) ?_ ?_
            · refine z_iload K 0 rfl dX12_byLaw_88 ?_
              exact z_iret K dX12_byLaw_90
            · refine z_iload_n K 4 rfl dX12_byLaw_84 ?_
              refine z_goto K (tgt := 90) dX12_byLaw_85 (by decide) ?_
              exact z_iret K dX12_byLaw_90
          · refine z_iload_n K 3 rfl dX12_byLaw_74 ?_
            refine z_goto K (tgt := 90) dX12_byLaw_75 (by decide) ?_
            exact z_iret K dX12_byLaw_90
        · refine z_goto K (tgt := 91) dX12_byLaw_45 (by decide) ?_
          refine z_iincN K (j := 4) (lv' := [(0, .ref (a.1.2.2.2 + 69)), (1, .int v1), (2, .int v2), (3, .int v3)]) ci_1 rfl dX12_byLaw_91 (Nat.le_of_ble_eq_true rfl) rfl (fun y6 => ?_)
          refine z_goto K (tgt := 3) dX12_byLaw_94 (by decide) ?_
          refine z_sub [1, 2, 3, 4, 0] rfl ?_
          exact ih y6 s2
def f_X12_byLaw (F : Nat) (v1 : Int32) (v2 : Int32) (v3 : Int32) (s : zM) : Option (Int32 × zM) :=
  f_X12_byLaw_L3 F (fun s7 =>
    some ((0 : Int32), s7)) v1 v2 v3 F (0 : Int32) s
set_option maxRecDepth 100000 in
set_option maxHeartbeats 4000000 in
theorem t_X12_byLaw (w : zWd) (F : Nat) (d : Nat) (hd : 2 ≤ d) (v1 : Int32) (v2 : Int32) (v3 : Int32) (s : zM) : zMt w yX12_byLaw cX12_byLaw 6 (some .int) d zφN zφN zri [.ref (w.2.2.2 + 69), .int v1, .int v2, .int v3] s (f_X12_byLaw F v1 v2 v3 s) := by
  refine zMtN_of (own := RX12) rfl (by decide +kernel) (Nat.le_of_ble_eq_true rfl) cd_X12_byLaw [(0, .ref (w.2.2.2 + 69)), (1, .int v1), (2, .int v2), (3, .int v3)] rfl ?_
  rintro a rfl K
  unfold f_X12_byLaw
  refine z_iconst K ci_0 dX12_byLaw_0 ?_
  refine z_istore K (lv' := [(4, .int (0 : Int32)), (0, .ref (a.1.2.2.2 + 69)), (1, .int v1), (2, .int v2), (3, .int v3)]) dX12_byLaw_1 (Nat.le_of_ble_eq_true rfl) rfl ?_
  refine z_sub [1, 2, 3, 4, 0] rfl ?_
  refine t_X12_byLaw_L3 F K hd v1 v2 v3 (fun s7 => ?_) F (0 : Int32) s
  refine z_iconst K ci_0 dX12_byLaw_97 ?_
  exact z_iret K dX12_byLaw_98
def f_X12_feelsOne_L2 (F : Nat) (k21 : zM → Option (Unit × zM)) (v1 : Int32) (v2 : Int32) : Nat → Int32 → zM → Option (Unit × zM)
  | 0, _, _ => none
  | n + 1, v3, s =>
    if v3 < (10 : Int32) then
      if zin v3 10 = true then
        lt (zs s 87 (v3).toNatClampNeg (0 : Int32)) (fun s1 =>
        lt (v3 + (1 : Int32)) (fun y2 =>
        f_X12_feelsOne_L2 F k21 v1 v2 n y2 s1))
      else none
    else
      k21 s
set_option maxRecDepth 100000 in
set_option maxHeartbeats 4000000 in
theorem t_X12_feelsOne_L2 {a : zA} {d : Nat} (F : Nat) (K : zOK a cX12_feelsOne 4 RX12 none d) (hd : 0 ≤ d) {k21 : zM → Option (Unit × zM)} (v1 : Int32) (v2 : Int32) (h21 : ∀ (s : zM), zJ a 4 (zG a zφN zrv) zφN 21 [(0, .ref (a.1.2.2.2 + 69)), (1, .int v1), (2, .int v2)] [] s (k21 s)) : ∀ (n : Nat) (v3 : Int32) (s : zM), zJ a 4 (zG a zφN zrv) zφN 2 [(0, .ref (a.1.2.2.2 + 69)), (1, .int v1), (2, .int v2), (3, .int v3)] [] s (f_X12_feelsOne_L2 F k21 v1 v2 n v3 s) := by
  intro n
  induction n with
  | zero => intros; exact z_none
  | succ n ih =>
    intro v3 s
    rw [f_X12_feelsOne_L2]
    refine z_iload_n K 3 rfl dX12_feelsOne_2 ?_
    refine z_bipush K cb_10 dX12_feelsOne_3 ?_
    refine z_icmp_ge K (tgt := 21) dX12_feelsOne_5 (by decide) ?_ ?_
    · refine z_sub [0, 1, 2] rfl ?_
      exact h21 s
    · refine z_aload_n K 0 rfl dX12_feelsOne_8 ?_
      refine z_getr K fd_X12_62 ob_69_29 dX12_feelsOne_9 ?_
      refine z_iload_n K 3 rfl dX12_feelsOne_12 ?_
      refine z_iconst K ci_0 dX12_feelsOne_13 ?_
      refine z_iast K ar_87 dX12_feelsOne_14 ?_
      refine z_ltm (fun s1 => ?_)
      refine z_iincN K (j := 3) (lv' := [(0, .ref (a.1.2.2.2 + 69)), (1, .int v1), (2, .int v2)]) ci_1 rfl dX12_feelsOne_15 (Nat.le_of_ble_eq_true rfl) rfl (fun y2 => ?_)
      refine z_goto K (tgt := 2) dX12_feelsOne_18 (by decide) ?_
      refine z_sub [1, 2, 3, 0] rfl ?_
      exact ih y2 s1
def f_X12_feelsOne (F : Nat) (v1 : Int32) (v2 : Int32) (s : zM) : Option (Unit × zM) :=
  f_X12_feelsOne_L2 F (fun s3 =>
    if zin (0 : Int32) 10 = true then
      lt (zs s3 87 ((0 : Int32)).toNatClampNeg v1) (fun s4 =>
      if zin v1 16 = true then
        if zin (2 : Int32) 10 = true then
          lt (zs s4 87 ((2 : Int32)).toNatClampNeg (zg s4 70 (v1).toNatClampNeg)) (fun s5 =>
          if zin (4 : Int32) 10 = true then
            lt (zs s5 87 ((4 : Int32)).toNatClampNeg v2) (fun s6 =>
            some ((), s6))
          else none)
        else none
      else none)
    else none) v1 v2 F (0 : Int32) s
set_option maxRecDepth 100000 in
set_option maxHeartbeats 4000000 in
theorem t_X12_feelsOne (w : zWd) (F : Nat) (d : Nat) (hd : 0 ≤ d) (v1 : Int32) (v2 : Int32) (s : zM) : zMt w yX12_feelsOne cX12_feelsOne 4 none d zφN zφN zrv [.ref (w.2.2.2 + 69), .int v1, .int v2] s (f_X12_feelsOne F v1 v2 s) := by
  refine zMtN_of (own := RX12) rfl (by decide +kernel) (Nat.le_of_ble_eq_true rfl) cd_X12_feelsOne [(0, .ref (w.2.2.2 + 69)), (1, .int v1), (2, .int v2)] rfl ?_
  rintro a rfl K
  unfold f_X12_feelsOne
  refine z_iconst K ci_0 dX12_feelsOne_0 ?_
  refine z_istore_n K (lv' := [(3, .int (0 : Int32)), (0, .ref (a.1.2.2.2 + 69)), (1, .int v1), (2, .int v2)]) dX12_feelsOne_1 rfl (Nat.le_of_ble_eq_true rfl) rfl ?_
  refine z_sub [1, 2, 3, 0] rfl ?_
  refine t_X12_feelsOne_L2 F K hd v1 v2 (fun s3 => ?_) F (0 : Int32) s
  refine z_aload_n K 0 rfl dX12_feelsOne_21 ?_
  refine z_getr K fd_X12_62 ob_69_29 dX12_feelsOne_22 ?_
  refine z_iconst K ci_0 dX12_feelsOne_25 ?_
  refine z_iload_n K 1 rfl dX12_feelsOne_26 ?_
  refine z_iast K ar_87 dX12_feelsOne_27 ?_
  refine z_ltm (fun s4 => ?_)
  refine z_aload_n K 0 rfl dX12_feelsOne_28 ?_
  refine z_getr K fd_X12_62 ob_69_29 dX12_feelsOne_29 ?_
  refine z_iconst K ci_2 dX12_feelsOne_32 ?_
  refine z_aload_n K 0 rfl dX12_feelsOne_33 ?_
  refine z_getr K fd_X12_7 ob_69_2 dX12_feelsOne_34 ?_
  refine z_iload_n K 1 rfl dX12_feelsOne_37 ?_
  refine z_iald K ar_70 dX12_feelsOne_38 ?_
  refine z_iast K ar_87 dX12_feelsOne_39 ?_
  refine z_ltm (fun s5 => ?_)
  refine z_aload_n K 0 rfl dX12_feelsOne_40 ?_
  refine z_getr K fd_X12_62 ob_69_29 dX12_feelsOne_41 ?_
  refine z_iconst K ci_4 dX12_feelsOne_44 ?_
  refine z_iload_n K 2 rfl dX12_feelsOne_45 ?_
  refine z_iast K ar_87 dX12_feelsOne_46 ?_
  refine z_ltm (fun s6 => ?_)
  exact z_vret K dX12_feelsOne_47
def f_X12_feels (F : Nat) (v1 : Int32) (v2 : Int32) (s : zM) : Option (Unit × zM) :=
  if zin v1 16 = true then
    bnd (f_X12_feelsOne F v1 (zg s 71 (v1).toNatClampNeg) s) (fun _ s1 =>
    if zin (1 : Int32) 10 = true then
      lt (zs s1 87 ((1 : Int32)).toNatClampNeg v2) (fun s2 =>
      if zin v2 16 = true then
        if zin (3 : Int32) 10 = true then
          lt (zs s2 87 ((3 : Int32)).toNatClampNeg (zg s2 70 (v2).toNatClampNeg)) (fun s3 =>
          if zin v2 16 = true then
            if zin (5 : Int32) 10 = true then
              lt (zs s3 87 ((5 : Int32)).toNatClampNeg (zg s3 71 (v2).toNatClampNeg)) (fun s4 =>
              if zin (((16 : Int32) * v1) + v2) 256 = true then
                if zin (6 : Int32) 10 = true then
                  lt (zs s4 87 ((6 : Int32)).toNatClampNeg (zg s4 72 ((((16 : Int32) * v1) + v2)).toNatClampNeg)) (fun s5 =>
                  if zin (((16 : Int32) * v2) + v1) 256 = true then
                    if zin (7 : Int32) 10 = true then
                      lt (zs s5 87 ((7 : Int32)).toNatClampNeg (zg s5 72 ((((16 : Int32) * v2) + v1)).toNatClampNeg)) (fun s6 =>
                      if zin v1 16 = true then
                        if zin v2 16 = true then
                          bnd (f_X12_size (((zg s6 71 (v1).toNatClampNeg) / (2 : Int32)) - ((zg s6 71 (v2).toNatClampNeg) / (2 : Int32))) s6) (fun r8 s7 =>
                          if zin (8 : Int32) 10 = true then
                            lt (zs s7 87 ((8 : Int32)).toNatClampNeg r8) (fun s9 =>
                            if zin v1 16 = true then
                              if zin v2 16 = true then
                                if ((zg s9 71 (v1).toNatClampNeg) - (zg s9 71 (v1).toNatClampNeg) / (2 : Int32) * (2 : Int32)) = ((zg s9 71 (v2).toNatClampNeg) - (zg s9 71 (v2).toNatClampNeg) / (2 : Int32) * (2 : Int32)) then
                                  if zin (9 : Int32) 10 = true then
                                    lt (zs s9 87 ((9 : Int32)).toNatClampNeg (0 : Int32)) (fun s11 =>
                                    some ((), s11))
                                  else none
                                else
                                  if zin (9 : Int32) 10 = true then
                                    lt (zs s9 87 ((9 : Int32)).toNatClampNeg (1 : Int32)) (fun s10 =>
                                    some ((), s10))
                                  else none
                              else none
                            else none)
                          else none)
                        else none
                      else none)
                    else none
                  else none)
                else none
              else none)
            else none
          else none)
        else none
      else none)
    else none)
  else none
set_option maxRecDepth 100000 in
set_option maxHeartbeats 4000000 in
theorem t_X12_feels (w : zWd) (F : Nat) (d : Nat) (hd : 1 ≤ d) (v1 : Int32) (v2 : Int32) (s : zM) : zMt w yX12_feels cX12_feels 3 none d zφN zφN zrv [.ref (w.2.2.2 + 69), .int v1, .int v2] s (f_X12_feels F v1 v2 s) := by
  refine zMtN_of (own := RX12) rfl (by decide +kernel) (Nat.le_of_ble_eq_true rfl) cd_X12_feels [(0, .ref (w.2.2.2 + 69)), (1, .int v1), (2, .int v2)] rfl ?_
  rintro a rfl K
  unfold f_X12_feels
  refine z_aload_n K 0 rfl dX12_feels_0 ?_
  refine z_iload_n K 1 rfl dX12_feels_1 ?_
  refine z_aload_n K 0 rfl dX12_feels_2 ?_
  refine z_getr K fd_X12_13 ob_69_3 dX12_feels_3 ?_
  refine z_iload_n K 1 rfl dX12_feels_6 ?_
  refine z_iald K ar_71 dX12_feels_7 ?_
  refine z_cVv (As := [.int v1, .int (zg s 71 (v1).toNatClampNeg)]) (rest := []) K (t_X12_feelsOne a.1 F (d - 1) (by omega) v1 (zg s 71 (v1).toNatClampNeg) s) mf_X12_feelsOne ml_X12_294 (Nat.le_of_ble_eq_true rfl) (by omega) rfl rc_69 rfl (Nat.le_of_ble_eq_true rfl) dX12_feels_8 (fun _ s1 => ?_)
  refine z_aload_n K 0 rfl dX12_feels_11 ?_
  refine z_getr K fd_X12_62 ob_69_29 dX12_feels_12 ?_
  refine z_iconst K ci_1 dX12_feels_15 ?_
  refine z_iload_n K 2 rfl dX12_feels_16 ?_
  refine z_iast K ar_87 dX12_feels_17 ?_
  refine z_ltm (fun s2 => ?_)
  refine z_aload_n K 0 rfl dX12_feels_18 ?_
  refine z_getr K fd_X12_62 ob_69_29 dX12_feels_19 ?_
  refine z_iconst K ci_3 dX12_feels_22 ?_
  refine z_aload_n K 0 rfl dX12_feels_23 ?_
  refine z_getr K fd_X12_7 ob_69_2 dX12_feels_24 ?_
  refine z_iload_n K 2 rfl dX12_feels_27 ?_
  refine z_iald K ar_70 dX12_feels_28 ?_
  refine z_iast K ar_87 dX12_feels_29 ?_
  refine z_ltm (fun s3 => ?_)
  refine z_aload_n K 0 rfl dX12_feels_30 ?_
  refine z_getr K fd_X12_62 ob_69_29 dX12_feels_31 ?_
  refine z_iconst K ci_5 dX12_feels_34 ?_
  refine z_aload_n K 0 rfl dX12_feels_35 ?_
  refine z_getr K fd_X12_13 ob_69_3 dX12_feels_36 ?_
  refine z_iload_n K 2 rfl dX12_feels_39 ?_
  refine z_iald K ar_71 dX12_feels_40 ?_
  refine z_iast K ar_87 dX12_feels_41 ?_
  refine z_ltm (fun s4 => ?_)
  refine z_aload_n K 0 rfl dX12_feels_42 ?_
  refine z_getr K fd_X12_62 ob_69_29 dX12_feels_43 ?_
  refine z_bipush K cb_6 dX12_feels_46 ?_
  refine z_aload_n K 0 rfl dX12_feels_48 ?_
  refine z_getr K fd_X12_16 ob_69_4 dX12_feels_49 ?_
  refine z_bipush K cb_16 dX12_feels_52 ?_
  refine z_iload_n K 1 rfl dX12_feels_54 ?_
  refine z_imul K dX12_feels_55 ?_
  refine z_iload_n K 2 rfl dX12_feels_56 ?_
  refine z_iadd K dX12_feels_57 ?_
  refine z_iald K ar_72 dX12_feels_58 ?_
  refine z_iast K ar_87 dX12_feels_59 ?_
  refine z_ltm (fun s5 => ?_)
  refine z_aload_n K 0 rfl dX12_feels_60 ?_
  refine z_getr K fd_X12_62 ob_69_29 dX12_feels_61 ?_
  refine z_bipush K cb_7 dX12_feels_64 ?_
  refine z_aload_n K 0 rfl dX12_feels_66 ?_
  refine z_getr K fd_X12_16 ob_69_4 dX12_feels_67 ?_
  refine z_bipush K cb_16 dX12_feels_70 ?_
  refine z_iload_n K 2 rfl dX12_feels_72 ?_
  refine z_imul K dX12_feels_73 ?_
  refine z_iload_n K 1 rfl dX12_feels_74 ?_
  refine z_iadd K dX12_feels_75 ?_
  refine z_iald K ar_72 dX12_feels_76 ?_
  refine z_iast K ar_87 dX12_feels_77 ?_
  refine z_ltm (fun s6 => ?_)
  refine z_aload_n K 0 rfl dX12_feels_78 ?_
  refine z_getr K fd_X12_62 ob_69_29 dX12_feels_79 ?_
  refine z_bipush K cb_8 dX12_feels_82 ?_
  refine z_aload_n K 0 rfl dX12_feels_84 ?_
  refine z_getr K fd_X12_13 ob_69_3 dX12_feels_85 ?_
  refine z_iload_n K 1 rfl dX12_feels_88 ?_
  refine z_iald K ar_71 dX12_feels_89 ?_
  refine z_iconst K ci_2 dX12_feels_90 ?_
  refine z_idivc K (by decide) dX12_feels_91 ?_
  refine z_aload_n K 0 rfl dX12_feels_92 ?_
  refine z_getr K fd_X12_13 ob_69_3 dX12_feels_93 ?_
  refine z_iload_n K 2 rfl dX12_feels_96 ?_
  refine z_iald K ar_71 dX12_feels_97 ?_
  refine z_iconst K ci_2 dX12_feels_98 ?_
  refine z_idivc K (by decide) dX12_feels_99 ?_
  refine z_isub K dX12_feels_100 ?_
  refine z_cSi (As := [.int (((zg s6 71 (v1).toNatClampNeg) / (2 : Int32)) - ((zg s6 71 (v2).toNatClampNeg) / (2 : Int32)))]) (rest := [.int (8 : Int32), .ref (a.1.2.2.2 + 87)]) K (t_X12_size a.1 (d - 1) (by omega) (((zg s6 71 (v1).toNatClampNeg) / (2 : Int32)) - ((zg s6 71 (v2).toNatClampNeg) / (2 : Int32))) s6) mf_X12_size ml_X12_297 (Nat.le_of_ble_eq_true rfl) (by omega) rfl rfl (Nat.le_of_ble_eq_true rfl) dX12_feels_101 (fun r8 s7 => ?_)
  refine z_iast K ar_87 dX12_feels_104 ?_
  refine z_ltm (fun s9 => ?_)
  refine z_aload_n K 0 rfl dX12_feels_105 ?_
  refine z_getr K fd_X12_62 ob_69_29 dX12_feels_106 ?_
  refine z_bipush K cb_9 dX12_feels_109 ?_
  refine z_aload_n K 0 rfl dX12_feels_111 ?_
  refine z_getr K fd_X12_13 ob_69_3 dX12_feels_112 ?_
  refine z_iload_n K 1 rfl dX12_feels_115 ?_
  refine z_iald K ar_71 dX12_feels_116 ?_
  refine z_iconst K ci_2 dX12_feels_117 ?_
  refine z_iremc K (by decide) dX12_feels_118 ?_
  refine z_aload_n K 0 rfl dX12_feels_119 ?_
  refine z_getr K fd_X12_13 ob_69_3 dX12_feels_120 ?_
  refine z_iload_n K 2 rfl dX12_feels_123 ?_
  refine z_iald K ar_71 dX12_feels_124 ?_
  refine z_iconst K ci_2 dX12_feels_125 ?_
  refine z_iremc K (by decide) dX12_feels_126 ?_
  refine z_icmp_ne K (tgt := 134) dX12_feels_127 (by decide) ?_ ?_
  · refine z_iconst K ci_1 dX12_feels_134 ?_
    refine z_iast K ar_87 dX12_feels_135 ?_
    refine z_ltm (fun s10 => ?_)
    exact z_vret K dX12_feels_136
  · refine z_iconst K ci_0 dX12_feels_130 ?_
    refine z_goto K (tgt := 135) dX12_feels_131 (by decide) ?_
    refine z_iast K ar_87 dX12_feels_135 ?_
    refine z_ltm (fun s11 => ?_)
    exact z_vret K dX12_feels_136
def f_X12_lets_L11 (F : Nat) (k67 : Int32 → zM → Option (Int32 × zM)) : Nat → Int32 → Int32 → zM → Option (Int32 × zM)
  | 0, _, _, _ => none
  | n + 1, v3, v4, s =>
    if v4 < (zg s 69 16) then
      if zin v4 14 = true then
        if (zg s 82 (v4).toNatClampNeg) = (112 : Int32) then
          if zin v4 14 = true then
            if zin v4 14 = true then
              bnd (f_X12_comesTo F (zg s 84 (v4).toNatClampNeg) (zg s 85 (v4).toNatClampNeg) s) (fun r3 s2 =>
              if r3 = (1 : Int32) then
                some ((1 : Int32), s2)
              else
                lt (v4 + (1 : Int32)) (fun y4 =>
                f_X12_lets_L11 F k67 n (1 : Int32) y4 s2))
            else none
          else none
        else
          lt (v4 + (1 : Int32)) (fun y5 =>
          f_X12_lets_L11 F k67 n v3 y5 s)
      else none
    else
      k67 v3 s
set_option maxRecDepth 100000 in
set_option maxHeartbeats 4000000 in
theorem t_X12_lets_L11 {a : zA} {d : Nat} (F : Nat) (K : zOK a cX12_lets 5 RX12 (some .boolean) d) (hd : 2 ≤ d) {k67 : Int32 → zM → Option (Int32 × zM)} (h67 : ∀ (v3 : Int32) (s : zM), zJ a 5 (zG a zφN zri) zφN 67 [(3, .int v3)] [] s (k67 v3 s)) : ∀ (n : Nat) (v3 : Int32) (v4 : Int32) (s : zM), zJ a 5 (zG a zφN zri) zφN 11 [(0, .ref (a.1.2.2.2 + 69)), (3, .int v3), (4, .int v4)] [] s (f_X12_lets_L11 F k67 n v3 v4 s) := by
  intro n
  induction n with
  | zero => intros; exact z_none
  | succ n ih =>
    intro v3 v4 s
    rw [f_X12_lets_L11]
    refine z_iload K 2 rfl dX12_lets_11 ?_
    refine z_aload_n K 0 rfl dX12_lets_13 ?_
    refine z_geti K fd_X12_283 ob_69_16 dX12_lets_14 ?_
    refine z_icmp_ge K (tgt := 67) dX12_lets_17 (by decide) ?_ ?_
    · refine z_sub [1] rfl ?_
      exact h67 v3 s
    · refine z_aload_n K 0 rfl dX12_lets_20 ?_
      refine z_getr K fd_X12_47 ob_69_24 dX12_lets_21 ?_
      refine z_iload K 2 rfl dX12_lets_24 ?_
      refine z_iald K ar_82 dX12_lets_26 ?_
      refine z_bipush K cb_112 dX12_lets_27 ?_
      refine z_icmp_eq K (tgt := 35) dX12_lets_29 (by decide) ?_ ?_
      · refine z_iconst K ci_1 dX12_lets_35 ?_
        refine z_istore_n K (lv' := [(3, .int (1 : Int32)), (0, .ref (a.1.2.2.2 + 69)), (4, .int v4)]) dX12_lets_36 rfl (Nat.le_of_ble_eq_true rfl) rfl ?_
        refine z_aload_n K 1 rfl dX12_lets_37 ?_
        refine z_aload_n K 1 rfl dX12_lets_38 ?_
        refine z_getr K fd_X12_53 ob_69_26 dX12_lets_39 ?_
        refine z_iload K 2 rfl dX12_lets_42 ?_
        refine z_iald K ar_84 dX12_lets_44 ?_
        refine z_aload_n K 1 rfl dX12_lets_45 ?_
        refine z_getr K fd_X12_56 ob_69_27 dX12_lets_46 ?_
        refine z_iload K 2 rfl dX12_lets_49 ?_
        refine z_iald K ar_85 dX12_lets_51 ?_
        refine z_cVi (As := [.int (zg s 84 (v4).toNatClampNeg), .int (zg s 85 (v4).toNatClampNeg)]) (rest := []) K (t_X12_comesTo a.1 F (d - 1) (by omega) (zg s 84 (v4).toNatClampNeg) (zg s 85 (v4).toNatClampNeg) s) mf_X12_comesTo ml_X12_290 (Nat.le_of_ble_eq_true rfl) (by omega) rfl rc_69 rfl (Nat.le_of_ble_eq_true rfl) dX12_lets_52 (fun r3 s2 => ?_)
        refine z_iconst K ci_1 dX12_lets_55 ?_
        refine z_icmp_ne K (tgt := 61) dX12_lets_56 (by decide) ?_ ?_
        · refine z_iincN K (j := 2) (lv' := [(3, .int (1 : Int32)), (0, .ref (a.1.2.2.2 + 69))]) ci_1 rfl dX12_lets_61 (Nat.le_of_ble_eq_true rfl) rfl (fun y4 => ?_)
          refine z_goto K (tgt := 11) dX12_lets_64 (by decide) ?_
          refine z_sub [2, 1, 0] rfl ?_
          exact ih (1 : Int32) y4 s2
        · refine z_iconst K ci_1 dX12_lets_59 ?_
          exact z_zret (Or.inr rfl) K dX12_lets_60
      · refine z_goto K (tgt := 61) dX12_lets_32 (by decide) ?_
        refine z_iincN K (j := 2) (lv' := [(0, .ref (a.1.2.2.2 + 69)), (3, .int v3)]) ci_1 rfl dX12_lets_61 (Nat.le_of_ble_eq_true rfl) rfl (fun y5 => ?_)
        refine z_goto K (tgt := 11) dX12_lets_64 (by decide) ?_
        refine z_sub [1, 2, 0] rfl ?_
        exact ih v3 y5 s
def f_X12_lets (F : Nat) (v1 : Int32) (v2 : Int32) (s : zM) : Option (Int32 × zM) :=
  bnd (f_X12_feels F v1 v2 s) (fun _ s1 =>
  f_X12_lets_L11 F (fun y7 s6 =>
    if y7 = 0 then
      some ((1 : Int32), s6)
    else
      some ((0 : Int32), s6)) F (0 : Int32) (0 : Int32) s1)
set_option maxRecDepth 100000 in
set_option maxHeartbeats 4000000 in
theorem t_X12_lets (w : zWd) (F : Nat) (d : Nat) (hd : 2 ≤ d) (v1 : Int32) (v2 : Int32) (s : zM) : zMt w yX12_lets cX12_lets 5 (some .boolean) d zφN zφN zri [.ref (w.2.2.2 + 69), .int v1, .int v2] s (f_X12_lets F v1 v2 s) := by
  refine zMtN_of (own := RX12) rfl (by decide +kernel) (Nat.le_of_ble_eq_true rfl) cd_X12_lets [(0, .ref (w.2.2.2 + 69)), (1, .int v1), (2, .int v2)] rfl ?_
  rintro a rfl K
  unfold f_X12_lets
  refine z_aload_n K 0 rfl dX12_lets_0 ?_
  refine z_iload_n K 1 rfl dX12_lets_1 ?_
  refine z_iload_n K 2 rfl dX12_lets_2 ?_
  refine z_cVv (As := [.int v1, .int v2]) (rest := []) K (t_X12_feels a.1 F (d - 1) (by omega) v1 v2 s) mf_X12_feels ml_X12_300 (Nat.le_of_ble_eq_true rfl) (by omega) rfl rc_69 rfl (Nat.le_of_ble_eq_true rfl) dX12_lets_3 (fun _ s1 => ?_)
  refine z_iconst K ci_0 dX12_lets_6 ?_
  refine z_istore_n K (lv' := [(3, .int (0 : Int32)), (0, .ref (a.1.2.2.2 + 69)), (1, .int v1), (2, .int v2)]) dX12_lets_7 rfl (Nat.le_of_ble_eq_true rfl) rfl ?_
  refine z_iconst K ci_0 dX12_lets_8 ?_
  refine z_istore K (lv' := [(4, .int (0 : Int32)), (3, .int (0 : Int32)), (0, .ref (a.1.2.2.2 + 69)), (1, .int v1), (2, .int v2)]) dX12_lets_9 (Nat.le_of_ble_eq_true rfl) rfl ?_
  refine z_sub [2, 1, 0] rfl ?_
  refine t_X12_lets_L11 F K hd (fun y7 s6 => ?_) F (0 : Int32) (0 : Int32) s1
  refine z_iload_n K 0 rfl dX12_lets_67 ?_
  refine z_if_ne K (tgt := 75) dX12_lets_68 (by decide) ?_ ?_
  · refine z_iconst K ci_0 dX12_lets_75 ?_
    exact z_zret (Or.inl rfl) K dX12_lets_76
  · refine z_iconst K ci_1 dX12_lets_71 ?_
    refine z_goto K (tgt := 76) dX12_lets_72 (by decide) ?_
    exact z_zret (Or.inr rfl) K dX12_lets_76
def f_X12_harmOf_j11 (F : Nat) (v1 : Int32) (v2 : Int32) (w0 : Int32) (s : zM) : Option (Int32 × zM) :=
  if v1 < v2 then
    bnd (f_X12_feels F w0 v2 s) (fun _ s4 =>
    bnd (f_X12_byLaw F (104 : Int32) (0 : Int32) (99 : Int32) s4) (fun r6 s5 =>
    some (r6, s5)))
  else
    bnd (f_X12_feels F w0 v1 s) (fun _ s1 =>
    bnd (f_X12_byLaw F (104 : Int32) (0 : Int32) (99 : Int32) s1) (fun r3 s2 =>
    some (r3, s2)))
set_option maxRecDepth 100000 in
set_option maxHeartbeats 4000000 in
theorem t_X12_harmOf_j11 {a : zA} {d : Nat} (F : Nat) (K : zOK a cX12_harmOf 3 RX12 (some .int) d) (hd : 3 ≤ d) (v1 : Int32) (v2 : Int32) (w0 : Int32) (s : zM) : zJ a 3 (zG a zφN zri) zφN 11 [(0, .ref (a.1.2.2.2 + 69)), (1, .int v1), (2, .int v2)] [.int w0, .ref (a.1.2.2.2 + 69)] s (f_X12_harmOf_j11 F v1 v2 w0 s) := by
  unfold f_X12_harmOf_j11
  refine z_iload_n K 1 rfl dX12_harmOf_11 ?_
  refine z_iload_n K 2 rfl dX12_harmOf_12 ?_
  refine z_icmp_ge K (tgt := 20) dX12_harmOf_13 (by decide) ?_ ?_
  · refine z_iload_n K 1 rfl dX12_harmOf_20 ?_
    refine z_cVv (As := [.int w0, .int v1]) (rest := []) K (t_X12_feels a.1 F (d - 1) (by omega) w0 v1 s) mf_X12_feels ml_X12_300 (Nat.le_of_ble_eq_true rfl) (by omega) rfl rc_69 rfl (Nat.le_of_ble_eq_true rfl) dX12_harmOf_21 (fun _ s1 => ?_)
    refine z_aload_n K 0 rfl dX12_harmOf_24 ?_
    refine z_bipush K cb_104 dX12_harmOf_25 ?_
    refine z_iconst K ci_0 dX12_harmOf_27 ?_
    refine z_bipush K cb_99 dX12_harmOf_28 ?_
    refine z_cVi (As := [.int (104 : Int32), .int (0 : Int32), .int (99 : Int32)]) (rest := []) K (t_X12_byLaw a.1 F (d - 1) (by omega) (104 : Int32) (0 : Int32) (99 : Int32) s1) mf_X12_byLaw ml_X12_303 (Nat.le_of_ble_eq_true rfl) (by omega) rfl rc_69 rfl (Nat.le_of_ble_eq_true rfl) dX12_harmOf_30 (fun r3 s2 => ?_)
    exact z_iret K dX12_harmOf_33
  · refine z_iload_n K 2 rfl dX12_harmOf_16 ?_
    refine z_goto K (tgt := 21) dX12_harmOf_17 (by decide) ?_
    refine z_cVv (As := [.int w0, .int v2]) (rest := []) K (t_X12_feels a.1 F (d - 1) (by omega) w0 v2 s) mf_X12_feels ml_X12_300 (Nat.le_of_ble_eq_true rfl) (by omega) rfl rc_69 rfl (Nat.le_of_ble_eq_true rfl) dX12_harmOf_21 (fun _ s4 => ?_)
    refine z_aload_n K 0 rfl dX12_harmOf_24 ?_
    refine z_bipush K cb_104 dX12_harmOf_25 ?_
    refine z_iconst K ci_0 dX12_harmOf_27 ?_
    refine z_bipush K cb_99 dX12_harmOf_28 ?_
    refine z_cVi (As := [.int (104 : Int32), .int (0 : Int32), .int (99 : Int32)]) (rest := []) K (t_X12_byLaw a.1 F (d - 1) (by omega) (104 : Int32) (0 : Int32) (99 : Int32) s4) mf_X12_byLaw ml_X12_303 (Nat.le_of_ble_eq_true rfl) (by omega) rfl rc_69 rfl (Nat.le_of_ble_eq_true rfl) dX12_harmOf_30 (fun r6 s5 => ?_)
    exact z_iret K dX12_harmOf_33
def f_X12_harmOf (F : Nat) (v1 : Int32) (v2 : Int32) (s : zM) : Option (Int32 × zM) :=
  if v1 < v2 then
    f_X12_harmOf_j11 F v1 v2 v1 s
  else
    f_X12_harmOf_j11 F v1 v2 v2 s
set_option maxRecDepth 100000 in
set_option maxHeartbeats 4000000 in
theorem t_X12_harmOf (w : zWd) (F : Nat) (d : Nat) (hd : 3 ≤ d) (v1 : Int32) (v2 : Int32) (s : zM) : zMt w yX12_harmOf cX12_harmOf 3 (some .int) d zφN zφN zri [.ref (w.2.2.2 + 69), .int v1, .int v2] s (f_X12_harmOf F v1 v2 s) := by
  refine zMtN_of (own := RX12) rfl (by decide +kernel) (Nat.le_of_ble_eq_true rfl) cd_X12_harmOf [(0, .ref (w.2.2.2 + 69)), (1, .int v1), (2, .int v2)] rfl ?_
  rintro a rfl K
  unfold f_X12_harmOf
  refine z_aload_n K 0 rfl dX12_harmOf_0 ?_
  refine z_iload_n K 1 rfl dX12_harmOf_1 ?_
  refine z_iload_n K 2 rfl dX12_harmOf_2 ?_
  refine z_icmp_ge K (tgt := 10) dX12_harmOf_3 (by decide) ?_ ?_
  · refine z_iload_n K 2 rfl dX12_harmOf_10 ?_
    exact t_X12_harmOf_j11 F K hd v1 v2 v2 s
  · refine z_iload_n K 1 rfl dX12_harmOf_6 ?_
    refine z_goto K (tgt := 11) dX12_harmOf_7 (by decide) ?_
    exact t_X12_harmOf_j11 F K hd v1 v2 v1 s
def f_X12_seenBy (F : Nat) (v1 : Int32) (v2 : Int32) (s : zM) : Option (Int32 × zM) :=
  bnd (f_X12_feels F v1 v2 s) (fun _ s1 =>
  bnd (f_X12_byLaw F (118 : Int32) (0 : Int32) (1000 : Int32) s1) (fun r3 s2 =>
  some (r3, s2)))
set_option maxRecDepth 100000 in
set_option maxHeartbeats 4000000 in
theorem t_X12_seenBy (w : zWd) (F : Nat) (d : Nat) (hd : 3 ≤ d) (v1 : Int32) (v2 : Int32) (s : zM) : zMt w yX12_seenBy cX12_seenBy 3 (some .int) d zφN zφN zri [.ref (w.2.2.2 + 69), .int v1, .int v2] s (f_X12_seenBy F v1 v2 s) := by
  refine zMtN_of (own := RX12) rfl (by decide +kernel) (Nat.le_of_ble_eq_true rfl) cd_X12_seenBy [(0, .ref (w.2.2.2 + 69)), (1, .int v1), (2, .int v2)] rfl ?_
  rintro a rfl K
  unfold f_X12_seenBy
  refine z_aload_n K 0 rfl dX12_seenBy_0 ?_
  refine z_iload_n K 1 rfl dX12_seenBy_1 ?_
  refine z_iload_n K 2 rfl dX12_seenBy_2 ?_
  refine z_cVv (As := [.int v1, .int v2]) (rest := []) K (t_X12_feels a.1 F (d - 1) (by omega) v1 v2 s) mf_X12_feels ml_X12_300 (Nat.le_of_ble_eq_true rfl) (by omega) rfl rc_69 rfl (Nat.le_of_ble_eq_true rfl) dX12_seenBy_3 (fun _ s1 => ?_)
  refine z_aload_n K 0 rfl dX12_seenBy_6 ?_
  refine z_bipush K cb_118 dX12_seenBy_7 ?_
  refine z_iconst K ci_0 dX12_seenBy_9 ?_
  refine z_sipush K cs_1000 dX12_seenBy_10 ?_
  refine z_cVi (As := [.int (118 : Int32), .int (0 : Int32), .int (1000 : Int32)]) (rest := []) K (t_X12_byLaw a.1 F (d - 1) (by omega) (118 : Int32) (0 : Int32) (1000 : Int32) s1) mf_X12_byLaw ml_X12_303 (Nat.le_of_ble_eq_true rfl) (by omega) rfl rc_69 rfl (Nat.le_of_ble_eq_true rfl) dX12_seenBy_13 (fun r3 s2 => ?_)
  exact z_iret K dX12_seenBy_16
def f_X12_worthOf (F : Nat) (v1 : Int32) (v2 : Int32) (s : zM) : Option (Int32 × zM) :=
  bnd (f_X12_feelsOne F v1 v2 s) (fun _ s1 =>
  bnd (f_X12_byLaw F (119 : Int32) (-99 : Int32) (99 : Int32) s1) (fun r3 s2 =>
  some (r3, s2)))
set_option maxRecDepth 100000 in
set_option maxHeartbeats 4000000 in
theorem t_X12_worthOf (w : zWd) (F : Nat) (d : Nat) (hd : 3 ≤ d) (v1 : Int32) (v2 : Int32) (s : zM) : zMt w yX12_worthOf cX12_worthOf 3 (some .int) d zφN zφN zri [.ref (w.2.2.2 + 69), .int v1, .int v2] s (f_X12_worthOf F v1 v2 s) := by
  refine zMtN_of (own := RX12) rfl (by decide +kernel) (Nat.le_of_ble_eq_true rfl) cd_X12_worthOf [(0, .ref (w.2.2.2 + 69)), (1, .int v1), (2, .int v2)] rfl ?_
  rintro a rfl K
  unfold f_X12_worthOf
  refine z_aload_n K 0 rfl dX12_worthOf_0 ?_
  refine z_iload_n K 1 rfl dX12_worthOf_1 ?_
  refine z_iload_n K 2 rfl dX12_worthOf_2 ?_
  refine z_cVv (As := [.int v1, .int v2]) (rest := []) K (t_X12_feelsOne a.1 F (d - 1) (by omega) v1 v2 s) mf_X12_feelsOne ml_X12_294 (Nat.le_of_ble_eq_true rfl) (by omega) rfl rc_69 rfl (Nat.le_of_ble_eq_true rfl) dX12_worthOf_3 (fun _ s1 => ?_)
  refine z_aload_n K 0 rfl dX12_worthOf_6 ?_
  refine z_bipush K cb_119 dX12_worthOf_7 ?_
  refine z_bipush K cb_m99 dX12_worthOf_9 ?_
  refine z_bipush K cb_99 dX12_worthOf_11 ?_
  refine z_cVi (As := [.int (119 : Int32), .int (-99 : Int32), .int (99 : Int32)]) (rest := []) K (t_X12_byLaw a.1 F (d - 1) (by omega) (119 : Int32) (-99 : Int32) (99 : Int32) s1) mf_X12_byLaw ml_X12_303 (Nat.le_of_ble_eq_true rfl) (by omega) rfl rc_69 rfl (Nat.le_of_ble_eq_true rfl) dX12_worthOf_13 (fun r3 s2 => ?_)
  exact z_iret K dX12_worthOf_16
def f_X12_beside (v0 : Int32) (v1 : Int32) (s : zM) : Option (Int32 × zM) :=
  if v1 = (2 : Int32) then
    if (v0 - v0 / (2 : Int32) * (2 : Int32)) = 0 then
      lt ((v0 + (1 : Int32))) (fun y10 =>
      bnd (f_X12_isSeat y10 s) (fun r12 s11 =>
      if r12 = 0 then
        some ((-1 : Int32), s11)
      else
        some (y10, s11)))
    else
      lt ((v0 - (1 : Int32))) (fun y7 =>
      bnd (f_X12_isSeat y7 s) (fun r9 s8 =>
      if r9 = 0 then
        some ((-1 : Int32), s8)
      else
        some (y7, s8)))
  else
    if v1 = (1 : Int32) then
      lt ((v0 + (2 : Int32))) (fun y4 =>
      bnd (f_X12_isSeat y4 s) (fun r6 s5 =>
      if r6 = 0 then
        some ((-1 : Int32), s5)
      else
        some (y4, s5)))
    else
      lt ((v0 - (2 : Int32))) (fun y1 =>
      bnd (f_X12_isSeat y1 s) (fun r3 s2 =>
      if r3 = 0 then
        some ((-1 : Int32), s2)
      else
        some (y1, s2)))
set_option maxRecDepth 100000 in
set_option maxHeartbeats 4000000 in
theorem t_X12_beside (w : zWd) (d : Nat) (hd : 1 ≤ d) (v0 : Int32) (v1 : Int32) (s : zM) : zMt w yX12_beside cX12_beside 3 (some .int) d zφN zφN zri [.int v0, .int v1] s (f_X12_beside v0 v1 s) := by
  refine zMtN_of (own := RX12) rfl (by decide +kernel) (Nat.le_of_ble_eq_true rfl) cd_X12_beside [(0, .int v0), (1, .int v1)] rfl ?_
  rintro a rfl K
  unfold f_X12_beside
  refine z_iload_n K 1 rfl dX12_beside_0 ?_
  refine z_iconst K ci_2 dX12_beside_1 ?_
  refine z_icmp_ne K (tgt := 23) dX12_beside_2 (by decide) ?_ ?_
  · refine z_iload_n K 1 rfl dX12_beside_23 ?_
    refine z_iconst K ci_1 dX12_beside_24 ?_
    refine z_icmp_ne K (tgt := 34) dX12_beside_25 (by decide) ?_ ?_
    · refine z_iload_n K 0 rfl dX12_beside_34 ?_
      refine z_iconst K ci_2 dX12_beside_35 ?_
      refine z_isub K dX12_beside_36 ?_
      refine z_topi (fun y1 => ?_)
      refine z_istore_n K (lv' := [(2, .int y1), (0, .int v0), (1, .int v1)]) dX12_beside_37 rfl (Nat.le_of_ble_eq_true rfl) rfl ?_
      refine z_iload_n K 0 rfl dX12_beside_38 ?_
      refine z_cSi (As := [.int y1]) (rest := []) K (t_X12_isSeat a.1 (d - 1) (by omega) y1 s) mf_X12_isSeat ml_X12_175 (Nat.le_of_ble_eq_true rfl) (by omega) rfl rfl (Nat.le_of_ble_eq_true rfl) dX12_beside_39 (fun r3 s2 => ?_)
      refine z_if_eq K (tgt := 49) dX12_beside_42 (by decide) ?_ ?_
      · refine z_iconst K ci_m1 dX12_beside_49 ?_
        exact z_iret K dX12_beside_50
      · refine z_iload_n K 0 rfl dX12_beside_45 ?_
        refine z_goto K (tgt := 50) dX12_beside_46 (by decide) ?_
        exact z_iret K dX12_beside_50
    · refine z_iload_n K 0 rfl dX12_beside_28 ?_
      refine z_iconst K ci_2 dX12_beside_29 ?_
      refine z_iadd K dX12_beside_30 ?_
      refine z_goto K (tgt := 37) dX12_beside_31 (by decide) ?_
      refine z_topi (fun y4 => ?_)
      refine z_istore_n K (lv' := [(2, .int y4), (0, .int v0), (1, .int v1)]) dX12_beside_37 rfl (Nat.le_of_ble_eq_true rfl) rfl ?_
      refine z_iload_n K 0 rfl dX12_beside_38 ?_
      refine z_cSi (As := [.int y4]) (rest := []) K (t_X12_isSeat a.1 (d - 1) (by omega) y4 s) mf_X12_isSeat ml_X12_175 (Nat.le_of_ble_eq_true rfl) (by omega) rfl rfl (Nat.le_of_ble_eq_true rfl) dX12_beside_39 (fun r6 s5 => ?_)
      refine z_if_eq K (tgt := 49) dX12_beside_42 (by decide) ?_ ?_
      · refine z_iconst K ci_m1 dX12_beside_49 ?_
        exact z_iret K dX12_beside_50
      · refine z_iload_n K 0 rfl dX12_beside_45 ?_
        refine z_goto K (tgt := 50) dX12_beside_46 (by decide) ?_
        exact z_iret K dX12_beside_50
  · refine z_iload_n K 0 rfl dX12_beside_5 ?_
    refine z_iconst K ci_2 dX12_beside_6 ?_
    refine z_iremc K (by decide) dX12_beside_7 ?_
    refine z_if_ne K (tgt := 17) dX12_beside_8 (by decide) ?_ ?_
    · refine z_iload_n K 0 rfl dX12_beside_17 ?_
      refine z_iconst K ci_1 dX12_beside_18 ?_
      refine z_isub K dX12_beside_19 ?_
      refine z_goto K (tgt := 37) dX12_beside_20 (by decide) ?_
      refine z_topi (fun y7 => ?_)
      refine z_istore_n K (lv' := [(2, .int y7), (0, .int v0), (1, .int v1)]) dX12_beside_37 rfl (Nat.le_of_ble_eq_true rfl) rfl ?_
      refine z_iload_n K 0 rfl dX12_beside_38 ?_
      refine z_cSi (As := [.int y7]) (rest := []) K (t_X12_isSeat a.1 (d - 1) (by omega) y7 s) mf_X12_isSeat ml_X12_175 (Nat.le_of_ble_eq_true rfl) (by omega) rfl rfl (Nat.le_of_ble_eq_true rfl) dX12_beside_39 (fun r9 s8 => ?_)
      refine z_if_eq K (tgt := 49) dX12_beside_42 (by decide) ?_ ?_
      · refine z_iconst K ci_m1 dX12_beside_49 ?_
        exact z_iret K dX12_beside_50
      · refine z_iload_n K 0 rfl dX12_beside_45 ?_
        refine z_goto K (tgt := 50) dX12_beside_46 (by decide) ?_
        exact z_iret K dX12_beside_50
    · refine z_iload_n K 0 rfl dX12_beside_11 ?_
      refine z_iconst K ci_1 dX12_beside_12 ?_
      refine z_iadd K dX12_beside_13 ?_
      refine z_goto K (tgt := 37) dX12_beside_14 (by decide) ?_
      refine z_topi (fun y10 => ?_)
      refine z_istore_n K (lv' := [(2, .int y10), (0, .int v0), (1, .int v1)]) dX12_beside_37 rfl (Nat.le_of_ble_eq_true rfl) rfl ?_
      refine z_iload_n K 0 rfl dX12_beside_38 ?_
      refine z_cSi (As := [.int y10]) (rest := []) K (t_X12_isSeat a.1 (d - 1) (by omega) y10 s) mf_X12_isSeat ml_X12_175 (Nat.le_of_ble_eq_true rfl) (by omega) rfl rfl (Nat.le_of_ble_eq_true rfl) dX12_beside_39 (fun r12 s11 => ?_)
      refine z_if_eq K (tgt := 49) dX12_beside_42 (by decide) ?_ ?_
      · refine z_iconst K ci_m1 dX12_beside_49 ?_
        exact z_iret K dX12_beside_50
      · refine z_iload_n K 0 rfl dX12_beside_45 ?_
        refine z_goto K (tgt := 50) dX12_beside_46 (by decide) ?_
        exact z_iret K dX12_beside_50
def f_X12_areNext_L2 (F : Nat) (k29 : zM → Option (Int32 × zM)) (v0 : Int32) (v1 : Int32) : Nat → Int32 → zM → Option (Int32 × zM)
  | 0, _, _ => none
  | n + 1, v2, s =>
    if v2 < (3 : Int32) then
      if v1 = (-1 : Int32) then
        lt (v2 + (1 : Int32)) (fun y1 =>
        f_X12_areNext_L2 F k29 v0 v1 n y1 s)
      else
        bnd (f_X12_beside v0 v2 s) (fun r3 s2 =>
        if r3 = v1 then
          some ((1 : Int32), s2)
        else
          lt (v2 + (1 : Int32)) (fun y4 =>
          f_X12_areNext_L2 F k29 v0 v1 n y4 s2))
    else
      k29 s
set_option maxRecDepth 100000 in
set_option maxHeartbeats 4000000 in
theorem t_X12_areNext_L2 {a : zA} {d : Nat} (F : Nat) (K : zOK a cX12_areNext 3 RX12 (some .boolean) d) (hd : 2 ≤ d) {k29 : zM → Option (Int32 × zM)} (v0 : Int32) (v1 : Int32) (h29 : ∀ (s : zM), zJ a 3 (zG a zφN zri) zφN 29 [] [] s (k29 s)) : ∀ (n : Nat) (v2 : Int32) (s : zM), zJ a 3 (zG a zφN zri) zφN 2 [(0, .int v0), (1, .int v1), (2, .int v2)] [] s (f_X12_areNext_L2 F k29 v0 v1 n v2 s) := by
  intro n
  induction n with
  | zero => intros; exact z_none
  | succ n ih =>
    intro v2 s
    rw [f_X12_areNext_L2]
    refine z_iload_n K 2 rfl dX12_areNext_2 ?_
    refine z_iconst K ci_3 dX12_areNext_3 ?_
    refine z_icmp_ge K (tgt := 29) dX12_areNext_4 (by decide) ?_ ?_
    · refine z_sub [] rfl ?_
      exact h29 s
    · refine z_iload_n K 1 rfl dX12_areNext_7 ?_
      refine z_iconst K ci_m1 dX12_areNext_8 ?_
      refine z_icmp_eq K (tgt := 23) dX12_areNext_9 (by decide) ?_ ?_
      · refine z_iincN K (j := 2) (lv' := [(0, .int v0), (1, .int v1)]) ci_1 rfl dX12_areNext_23 (Nat.le_of_ble_eq_true rfl) rfl (fun y1 => ?_)
        refine z_goto K (tgt := 2) dX12_areNext_26 (by decide) ?_
        refine z_sub [1, 2, 0] rfl ?_
        exact ih y1 s
      · refine z_iload_n K 0 rfl dX12_areNext_12 ?_
        refine z_iload_n K 2 rfl dX12_areNext_13 ?_
        refine z_cSi (As := [.int v0, .int v2]) (rest := []) K (t_X12_beside a.1 (d - 1) (by omega) v0 v2 s) mf_X12_beside ml_X12_306 (Nat.le_of_ble_eq_true rfl) (by omega) rfl rfl (Nat.le_of_ble_eq_true rfl) dX12_areNext_14 (fun r3 s2 => ?_)
        refine z_iload_n K 1 rfl dX12_areNext_17 ?_
        refine z_icmp_ne K (tgt := 23) dX12_areNext_18 (by decide) ?_ ?_
        · refine z_iincN K (j := 2) (lv' := [(0, .int v0), (1, .int v1)]) ci_1 rfl dX12_areNext_23 (Nat.le_of_ble_eq_true rfl) rfl (fun y4 => ?_)
          refine z_goto K (tgt := 2) dX12_areNext_26 (by decide) ?_
          refine z_sub [1, 2, 0] rfl ?_
          exact ih y4 s2
        · refine z_iconst K ci_1 dX12_areNext_21 ?_
          exact z_zret (Or.inr rfl) K dX12_areNext_22
def f_X12_areNext (F : Nat) (v0 : Int32) (v1 : Int32) (s : zM) : Option (Int32 × zM) :=
  f_X12_areNext_L2 F (fun s5 =>
    some ((0 : Int32), s5)) v0 v1 F (0 : Int32) s
set_option maxRecDepth 100000 in
set_option maxHeartbeats 4000000 in
theorem t_X12_areNext (w : zWd) (F : Nat) (d : Nat) (hd : 2 ≤ d) (v0 : Int32) (v1 : Int32) (s : zM) : zMt w yX12_areNext cX12_areNext 3 (some .boolean) d zφN zφN zri [.int v0, .int v1] s (f_X12_areNext F v0 v1 s) := by
  refine zMtN_of (own := RX12) rfl (by decide +kernel) (Nat.le_of_ble_eq_true rfl) cd_X12_areNext [(0, .int v0), (1, .int v1)] rfl ?_
  rintro a rfl K
  unfold f_X12_areNext
  refine z_iconst K ci_0 dX12_areNext_0 ?_
  refine z_istore_n K (lv' := [(2, .int (0 : Int32)), (0, .int v0), (1, .int v1)]) dX12_areNext_1 rfl (Nat.le_of_ble_eq_true rfl) rfl ?_
  refine z_sub [1, 2, 0] rfl ?_
  refine t_X12_areNext_L2 F K hd v0 v1 (fun s5 => ?_) F (0 : Int32) s
  refine z_iconst K ci_0 dX12_areNext_29 ?_
  exact z_zret (Or.inl rfl) K dX12_areNext_30
def f_X12_sitNext (F : Nat) (v1 : Int32) (v2 : Int32) (s : zM) : Option (Int32 × zM) :=
  bnd (f_X12_sits v1 s) (fun r2 s1 =>
  if r2 = 0 then
    some ((0 : Int32), s1)
  else
    bnd (f_X12_sits v2 s1) (fun r4 s3 =>
    if r4 = 0 then
      some ((0 : Int32), s3)
    else
      if zin v1 16 = true then
        if zin v2 16 = true then
          bnd (f_X12_areNext F (zg s3 71 (v1).toNatClampNeg) (zg s3 71 (v2).toNatClampNeg) s3) (fun r6 s5 =>
          if r6 = 0 then
            some ((0 : Int32), s5)
          else
            some ((1 : Int32), s5))
        else none
      else none))
set_option maxRecDepth 100000 in
set_option maxHeartbeats 4000000 in
theorem t_X12_sitNext (w : zWd) (F : Nat) (d : Nat) (hd : 3 ≤ d) (v1 : Int32) (v2 : Int32) (s : zM) : zMt w yX12_sitNext cX12_sitNext 3 (some .boolean) d zφN zφN zri [.ref (w.2.2.2 + 69), .int v1, .int v2] s (f_X12_sitNext F v1 v2 s) := by
  refine zMtN_of (own := RX12) rfl (by decide +kernel) (Nat.le_of_ble_eq_true rfl) cd_X12_sitNext [(0, .ref (w.2.2.2 + 69)), (1, .int v1), (2, .int v2)] rfl ?_
  rintro a rfl K
  unfold f_X12_sitNext
  refine z_aload_n K 0 rfl dX12_sitNext_0 ?_
  refine z_iload_n K 1 rfl dX12_sitNext_1 ?_
  refine z_cVi (As := [.int v1]) (rest := []) K (t_X12_sits a.1 (d - 1) (by omega) v1 s) mf_X12_sits ml_X12_309 (Nat.le_of_ble_eq_true rfl) (by omega) rfl rc_69 rfl (Nat.le_of_ble_eq_true rfl) dX12_sitNext_2 (fun r2 s1 => ?_)
  refine z_if_eq K (tgt := 38) dX12_sitNext_5 (by decide) ?_ ?_
  · refine z_iconst K ci_0 dX12_sitNext_38 ?_
    exact z_zret (Or.inl rfl) K dX12_sitNext_39
  · refine z_aload_n K 0 rfl dX12_sitNext_8 ?_
    refine z_iload_n K 2 rfl dX12_sitNext_9 ?_
    refine z_cVi (As := [.int v2]) (rest := []) K (t_X12_sits a.1 (d - 1) (by omega) v2 s1) mf_X12_sits ml_X12_309 (Nat.le_of_ble_eq_true rfl) (by omega) rfl rc_69 rfl (Nat.le_of_ble_eq_true rfl) dX12_sitNext_10 (fun r4 s3 => ?_)
    refine z_if_eq K (tgt := 38) dX12_sitNext_13 (by decide) ?_ ?_
    · refine z_iconst K ci_0 dX12_sitNext_38 ?_
      exact z_zret (Or.inl rfl) K dX12_sitNext_39
    · refine z_aload_n K 0 rfl dX12_sitNext_16 ?_
      refine z_getr K fd_X12_13 ob_69_3 dX12_sitNext_17 ?_
      refine z_iload_n K 1 rfl dX12_sitNext_20 ?_
      refine z_iald K ar_71 dX12_sitNext_21 ?_
      refine z_aload_n K 0 rfl dX12_sitNext_22 ?_
      refine z_getr K fd_X12_13 ob_69_3 dX12_sitNext_23 ?_
      refine z_iload_n K 2 rfl dX12_sitNext_26 ?_
      refine z_iald K ar_71 dX12_sitNext_27 ?_
      refine z_cSi (As := [.int (zg s3 71 (v1).toNatClampNeg), .int (zg s3 71 (v2).toNatClampNeg)]) (rest := []) K (t_X12_areNext a.1 F (d - 1) (by omega) (zg s3 71 (v1).toNatClampNeg) (zg s3 71 (v2).toNatClampNeg) s3) mf_X12_areNext ml_X12_312 (Nat.le_of_ble_eq_true rfl) (by omega) rfl rfl (Nat.le_of_ble_eq_true rfl) dX12_sitNext_28 (fun r6 s5 => ?_)
      refine z_if_eq K (tgt := 38) dX12_sitNext_31 (by decide) ?_ ?_
      · refine z_iconst K ci_0 dX12_sitNext_38 ?_
        exact z_zret (Or.inl rfl) K dX12_sitNext_39
      · refine z_iconst K ci_1 dX12_sitNext_34 ?_
        refine z_goto K (tgt := 39) dX12_sitNext_35 (by decide) ?_
        exact z_zret (Or.inr rfl) K dX12_sitNext_39
def f_X12_two_j65 (F : Nat) (v1 : Int32) (v2 : Int32) (v3 : Int32) (s : zM) : Option (Int32 × zM) :=
  if v3 = (1 : Int32) then
    bnd (f_X12_harmOf F v1 v2 s) (fun r16 s15 =>
    some (r16, s15))
  else
    if v3 = (2 : Int32) then
      bnd (f_X12_seenBy F v1 v2 s) (fun r14 s13 =>
      some (r14, s13))
    else
      bnd (f_X12_lets F v1 v2 s) (fun r12 s11 =>
      if r12 = 0 then
        some ((0 : Int32), s11)
      else
        some ((1 : Int32), s11))
set_option maxRecDepth 100000 in
set_option maxHeartbeats 4000000 in
theorem t_X12_two_j65 {a : zA} {d : Nat} (F : Nat) (K : zOK a cX12_two 4 RX12 (some .int) d) (hd : 4 ≤ d) (v1 : Int32) (v2 : Int32) (v3 : Int32) (s : zM) : zJ a 4 (zG a zφN zri) zφN 65 [(0, .ref (a.1.2.2.2 + 69)), (1, .int v1), (2, .int v2), (3, .int v3)] [] s (f_X12_two_j65 F v1 v2 v3 s) := by
  unfold f_X12_two_j65
  refine z_iload_n K 3 rfl dX12_two_65 ?_
  refine z_iconst K ci_1 dX12_two_66 ?_
  refine z_icmp_ne K (tgt := 79) dX12_two_67 (by decide) ?_ ?_
  · refine z_iload_n K 3 rfl dX12_two_79 ?_
    refine z_iconst K ci_2 dX12_two_80 ?_
    refine z_icmp_ne K (tgt := 93) dX12_two_81 (by decide) ?_ ?_
    · refine z_aload_n K 0 rfl dX12_two_93 ?_
      refine z_iload_n K 1 rfl dX12_two_94 ?_
      refine z_iload_n K 2 rfl dX12_two_95 ?_
      refine z_cVi (As := [.int v1, .int v2]) (rest := []) K (t_X12_lets a.1 F (d - 1) (by omega) v1 v2 s) mf_X12_lets ml_X12_324 (Nat.le_of_ble_eq_true rfl) (by omega) rfl rc_69 rfl (Nat.le_of_ble_eq_true rfl) dX12_two_96 (fun r12 s11 => ?_)
      refine z_if_eq K (tgt := 106) dX12_two_99 (by decide) ?_ ?_
      · refine z_iconst K ci_0 dX12_two_106 ?_
        exact z_iret K dX12_two_107
      · refine z_iconst K ci_1 dX12_two_102 ?_
        refine z_goto K (tgt := 107) dX12_two_103 (by decide) ?_
        exact z_iret K dX12_two_107
    · refine z_aload_n K 0 rfl dX12_two_84 ?_
      refine z_iload_n K 1 rfl dX12_two_85 ?_
      refine z_iload_n K 2 rfl dX12_two_86 ?_
      refine z_cVi (As := [.int v1, .int v2]) (rest := []) K (t_X12_seenBy a.1 F (d - 1) (by omega) v1 v2 s) mf_X12_seenBy ml_X12_321 (Nat.le_of_ble_eq_true rfl) (by omega) rfl rc_69 rfl (Nat.le_of_ble_eq_true rfl) dX12_two_87 (fun r14 s13 => ?_)
      refine z_goto K (tgt := 107) dX12_two_90 (by decide) ?_
      exact z_iret K dX12_two_107
  · refine z_aload_n K 0 rfl dX12_two_70 ?_
    refine z_iload_n K 1 rfl dX12_two_71 ?_
    refine z_iload_n K 2 rfl dX12_two_72 ?_
    refine z_cVi (As := [.int v1, .int v2]) (rest := []) K (t_X12_harmOf a.1 F (d - 1) (by omega) v1 v2 s) mf_X12_harmOf ml_X12_318 (Nat.le_of_ble_eq_true rfl) (by omega) rfl rc_69 rfl (Nat.le_of_ble_eq_true rfl) dX12_two_73 (fun r16 s15 => ?_)
    refine z_goto K (tgt := 107) dX12_two_76 (by decide) ?_
    exact z_iret K dX12_two_107
def f_X12_two (F : Nat) (v1 : Int32) (v2 : Int32) (v3 : Int32) (s : zM) : Option (Int32 × zM) :=
  bnd (f_X12_isGuest v1 s) (fun r2 s1 =>
  if r2 = 0 then
    some ((-1 : Int32), s1)
  else
    bnd (f_X12_isGuest v2 s1) (fun r4 s3 =>
    if r4 = 0 then
      some ((-1 : Int32), s3)
    else
      if v1 = v2 then
        some ((-1 : Int32), s3)
      else
        bnd (f_X12_in v3 (0 : Int32) (2 : Int32) s3) (fun r6 s5 =>
        if r6 = 0 then
          some ((-1 : Int32), s5)
        else
          bnd (f_X12_sits v1 s5) (fun r8 s7 =>
          if r8 = 0 then
            some ((-2 : Int32), s7)
          else
            bnd (f_X12_sits v2 s7) (fun r10 s9 =>
            if r10 = 0 then
              some ((-2 : Int32), s9)
            else
              if v3 = (1 : Int32) then
                f_X12_two_j65 F v1 v2 v3 s9
              else
                bnd (f_X12_sitNext F v1 v2 s9) (fun r18 s17 =>
                if r18 = 0 then
                  some ((-2 : Int32), s17)
                else
                  f_X12_two_j65 F v1 v2 v3 s17))))))
set_option maxRecDepth 100000 in
set_option maxHeartbeats 4000000 in
theorem t_X12_two (w : zWd) (F : Nat) (d : Nat) (hd : 4 ≤ d) (v1 : Int32) (v2 : Int32) (v3 : Int32) (s : zM) : zMt w yX12_two cX12_two 4 (some .int) d zφN zφN zri [.ref (w.2.2.2 + 69), .int v1, .int v2, .int v3] s (f_X12_two F v1 v2 v3 s) := by
  refine zMtN_of (own := RX12) rfl (by decide +kernel) (Nat.le_of_ble_eq_true rfl) cd_X12_two [(0, .ref (w.2.2.2 + 69)), (1, .int v1), (2, .int v2), (3, .int v3)] rfl ?_
  rintro a rfl K
  unfold f_X12_two
  refine z_aload_n K 0 rfl dX12_two_0 ?_
  refine z_iload_n K 1 rfl dX12_two_1 ?_
  refine z_cVi (As := [.int v1]) (rest := []) K (t_X12_isGuest a.1 (d - 1) (by omega) v1 s) mf_X12_isGuest ml_X12_183 (Nat.le_of_ble_eq_true rfl) (by omega) rfl rc_69 rfl (Nat.le_of_ble_eq_true rfl) dX12_two_2 (fun r2 s1 => ?_)
  refine z_if_eq K (tgt := 30) dX12_two_5 (by decide) ?_ ?_
  · refine z_iconst K ci_m1 dX12_two_30 ?_
    exact z_iret K dX12_two_31
  · refine z_aload_n K 0 rfl dX12_two_8 ?_
    refine z_iload_n K 2 rfl dX12_two_9 ?_
    refine z_cVi (As := [.int v2]) (rest := []) K (t_X12_isGuest a.1 (d - 1) (by omega) v2 s1) mf_X12_isGuest ml_X12_183 (Nat.le_of_ble_eq_true rfl) (by omega) rfl rc_69 rfl (Nat.le_of_ble_eq_true rfl) dX12_two_10 (fun r4 s3 => ?_)
    refine z_if_eq K (tgt := 30) dX12_two_13 (by decide) ?_ ?_
    · refine z_iconst K ci_m1 dX12_two_30 ?_
      exact z_iret K dX12_two_31
    · refine z_iload_n K 1 rfl dX12_two_16 ?_
      refine z_iload_n K 2 rfl dX12_two_17 ?_
      refine z_icmp_eq K (tgt := 30) dX12_two_18 (by decide) ?_ ?_
      · refine z_iconst K ci_m1 dX12_two_30 ?_
        exact z_iret K dX12_two_31
      · refine z_iload_n K 3 rfl dX12_two_21 ?_
        refine z_iconst K ci_0 dX12_two_22 ?_
        refine z_iconst K ci_2 dX12_two_23 ?_
        refine z_cSi (As := [.int v3, .int (0 : Int32), .int (2 : Int32)]) (rest := []) K (t_X12_in a.1 (d - 1) (by omega) v3 (0 : Int32) (2 : Int32) s3) mf_X12_in ml_X12_171 (Nat.le_of_ble_eq_true rfl) (by omega) rfl rfl (Nat.le_of_ble_eq_true rfl) dX12_two_24 (fun r6 s5 => ?_)
        refine z_if_ne K (tgt := 32) dX12_two_27 (by decide) ?_ ?_
        · refine z_aload_n K 0 rfl dX12_two_32 ?_
          refine z_iload_n K 1 rfl dX12_two_33 ?_
          refine z_cVi (As := [.int v1]) (rest := []) K (t_X12_sits a.1 (d - 1) (by omega) v1 s5) mf_X12_sits ml_X12_309 (Nat.le_of_ble_eq_true rfl) (by omega) rfl rc_69 rfl (Nat.le_of_ble_eq_true rfl) dX12_two_34 (fun r8 s7 => ?_)
          refine z_if_eq K (tgt := 62) dX12_two_37 (by decide) ?_ ?_
          · refine z_bipush K cb_m2 dX12_two_62 ?_
            exact z_iret K dX12_two_64
          · refine z_aload_n K 0 rfl dX12_two_40 ?_
            refine z_iload_n K 2 rfl dX12_two_41 ?_
            refine z_cVi (As := [.int v2]) (rest := []) K (t_X12_sits a.1 (d - 1) (by omega) v2 s7) mf_X12_sits ml_X12_309 (Nat.le_of_ble_eq_true rfl) (by omega) rfl rc_69 rfl (Nat.le_of_ble_eq_true rfl) dX12_two_42 (fun r10 s9 => ?_)
            refine z_if_eq K (tgt := 62) dX12_two_45 (by decide) ?_ ?_
            · refine z_bipush K cb_m2 dX12_two_62 ?_
              exact z_iret K dX12_two_64
            · refine z_iload_n K 3 rfl dX12_two_48 ?_
              refine z_iconst K ci_1 dX12_two_49 ?_
              refine z_icmp_eq K (tgt := 65) dX12_two_50 (by decide) ?_ ?_
              · exact t_X12_two_j65 F K hd v1 v2 v3 s9
              · refine z_aload_n K 0 rfl dX12_two_53 ?_
                refine z_iload_n K 1 rfl dX12_two_54 ?_
                refine z_iload_n K 2 rfl dX12_two_55 ?_
                refine z_cVi (As := [.int v1, .int v2]) (rest := []) K (t_X12_sitNext a.1 F (d - 1) (by omega) v1 v2 s9) mf_X12_sitNext ml_X12_315 (Nat.le_of_ble_eq_true rfl) (by omega) rfl rc_69 rfl (Nat.le_of_ble_eq_true rfl) dX12_two_56 (fun r18 s17 => ?_)
                refine z_if_ne K (tgt := 65) dX12_two_59 (by decide) ?_ ?_
                · exact t_X12_two_j65 F K hd v1 v2 v3 s17
                · refine z_bipush K cb_m2 dX12_two_62 ?_
                  exact z_iret K dX12_two_64
        · refine z_iconst K ci_m1 dX12_two_30 ?_
          exact z_iret K dX12_two_31
def f_X12_worth (F : Nat) (v1 : Int32) (v2 : Int32) (s : zM) : Option (Int32 × zM) :=
  bnd (f_X12_isGuest v1 s) (fun r2 s1 =>
  if r2 = 0 then
    some ((-1000 : Int32), s1)
  else
    bnd (f_X12_isSeat v2 s1) (fun r4 s3 =>
    if r4 = 0 then
      some ((-1000 : Int32), s3)
    else
      bnd (f_X12_worthOf F v1 v2 s3) (fun r6 s5 =>
      some (r6, s5))))
set_option maxRecDepth 100000 in
set_option maxHeartbeats 4000000 in
theorem t_X12_worth (w : zWd) (F : Nat) (d : Nat) (hd : 4 ≤ d) (v1 : Int32) (v2 : Int32) (s : zM) : zMt w yX12_worth cX12_worth 3 (some .int) d zφN zφN zri [.ref (w.2.2.2 + 69), .int v1, .int v2] s (f_X12_worth F v1 v2 s) := by
  refine zMtN_of (own := RX12) rfl (by decide +kernel) (Nat.le_of_ble_eq_true rfl) cd_X12_worth [(0, .ref (w.2.2.2 + 69)), (1, .int v1), (2, .int v2)] rfl ?_
  rintro a rfl K
  unfold f_X12_worth
  refine z_aload_n K 0 rfl dX12_worth_0 ?_
  refine z_iload_n K 1 rfl dX12_worth_1 ?_
  refine z_cVi (As := [.int v1]) (rest := []) K (t_X12_isGuest a.1 (d - 1) (by omega) v1 s) mf_X12_isGuest ml_X12_183 (Nat.le_of_ble_eq_true rfl) (by omega) rfl rc_69 rfl (Nat.le_of_ble_eq_true rfl) dX12_worth_2 (fun r2 s1 => ?_)
  refine z_if_eq K (tgt := 24) dX12_worth_5 (by decide) ?_ ?_
  · refine z_sipush K cs_m1000 dX12_worth_24 ?_
    exact z_iret K dX12_worth_27
  · refine z_iload_n K 2 rfl dX12_worth_8 ?_
    refine z_cSi (As := [.int v2]) (rest := []) K (t_X12_isSeat a.1 (d - 1) (by omega) v2 s1) mf_X12_isSeat ml_X12_175 (Nat.le_of_ble_eq_true rfl) (by omega) rfl rfl (Nat.le_of_ble_eq_true rfl) dX12_worth_9 (fun r4 s3 => ?_)
    refine z_if_eq K (tgt := 24) dX12_worth_12 (by decide) ?_ ?_
    · refine z_sipush K cs_m1000 dX12_worth_24 ?_
      exact z_iret K dX12_worth_27
    · refine z_aload_n K 0 rfl dX12_worth_15 ?_
      refine z_iload_n K 1 rfl dX12_worth_16 ?_
      refine z_iload_n K 2 rfl dX12_worth_17 ?_
      refine z_cVi (As := [.int v1, .int v2]) (rest := []) K (t_X12_worthOf a.1 F (d - 1) (by omega) v1 v2 s3) mf_X12_worthOf ml_X12_327 (Nat.le_of_ble_eq_true rfl) (by omega) rfl rc_69 rfl (Nat.le_of_ble_eq_true rfl) dX12_worth_18 (fun r6 s5 => ?_)
      refine z_goto K (tgt := 27) dX12_worth_21 (by decide) ?_
      exact z_iret K dX12_worth_27
def f_X12_isMinute (v0 : Int32) (s : zM) : Option (Int32 × zM) :=
  if v0 < 0 then
    some ((0 : Int32), s)
  else
    if (999 : Int32) < v0 then
      some ((0 : Int32), s)
    else
      some ((1 : Int32), s)
set_option maxRecDepth 100000 in
set_option maxHeartbeats 4000000 in
theorem t_X12_isMinute (w : zWd) (d : Nat) (hd : 0 ≤ d) (v0 : Int32) (s : zM) : zMt w yX12_isMinute cX12_isMinute 1 (some .boolean) d zφN zφN zri [.int v0] s (f_X12_isMinute v0 s) := by
  refine zMtN_of (own := RX12) rfl (by decide +kernel) (Nat.le_of_ble_eq_true rfl) cd_X12_isMinute [(0, .int v0)] rfl ?_
  rintro a rfl K
  unfold f_X12_isMinute
  refine z_iload_n K 0 rfl dX12_isMinute_0 ?_
  refine z_if_lt K (tgt := 15) dX12_isMinute_1 (by decide) ?_ ?_
  · refine z_iconst K ci_0 dX12_isMinute_15 ?_
    exact z_zret (Or.inl rfl) K dX12_isMinute_16
  · refine z_iload_n K 0 rfl dX12_isMinute_4 ?_
    refine z_sipush K cs_999 dX12_isMinute_5 ?_
    refine z_icmp_gt K (tgt := 15) dX12_isMinute_8 (by decide) ?_ ?_
    · refine z_iconst K ci_0 dX12_isMinute_15 ?_
      exact z_zret (Or.inl rfl) K dX12_isMinute_16
    · refine z_iconst K ci_1 dX12_isMinute_11 ?_
      refine z_goto K (tgt := 16) dX12_isMinute_12 (by decide) ?_
      exact z_zret (Or.inr rfl) K dX12_isMinute_16
def f_X12_isPlace (v0 : Int32) (s : zM) : Option (Int32 × zM) :=
  if v0 < 0 then
    some ((0 : Int32), s)
  else
    if v0 < (20 : Int32) then
      some ((1 : Int32), s)
    else
      some ((0 : Int32), s)
set_option maxRecDepth 100000 in
set_option maxHeartbeats 4000000 in
theorem t_X12_isPlace (w : zWd) (d : Nat) (hd : 0 ≤ d) (v0 : Int32) (s : zM) : zMt w yX12_isPlace cX12_isPlace 1 (some .boolean) d zφN zφN zri [.int v0] s (f_X12_isPlace v0 s) := by
  refine zMtN_of (own := RX12) rfl (by decide +kernel) (Nat.le_of_ble_eq_true rfl) cd_X12_isPlace [(0, .int v0)] rfl ?_
  rintro a rfl K
  unfold f_X12_isPlace
  refine z_iload_n K 0 rfl dX12_isPlace_0 ?_
  refine z_if_lt K (tgt := 14) dX12_isPlace_1 (by decide) ?_ ?_
  · refine z_iconst K ci_0 dX12_isPlace_14 ?_
    exact z_zret (Or.inl rfl) K dX12_isPlace_15
  · refine z_iload_n K 0 rfl dX12_isPlace_4 ?_
    refine z_bipush K cb_20 dX12_isPlace_5 ?_
    refine z_icmp_ge K (tgt := 14) dX12_isPlace_7 (by decide) ?_ ?_
    · refine z_iconst K ci_0 dX12_isPlace_14 ?_
      exact z_zret (Or.inl rfl) K dX12_isPlace_15
    · refine z_iconst K ci_1 dX12_isPlace_10 ?_
      refine z_goto K (tgt := 15) dX12_isPlace_11 (by decide) ?_
      exact z_zret (Or.inr rfl) K dX12_isPlace_15
def f_X12_rain (v1 : Int32) (v2 : Int32) (v3 : Int32) (s : zM) : Option (Int32 × zM) :=
  bnd (f_X12_isMinute v1 s) (fun r2 s1 =>
  if r2 = 0 then
    some ((-1 : Int32), s1)
  else
    bnd (f_X12_isPlace v2 s1) (fun r4 s3 =>
    if r4 = 0 then
      some ((-1 : Int32), s3)
    else
      bnd (f_X12_isPlace v3 s3) (fun r6 s5 =>
      if r6 = 0 then
        some ((-1 : Int32), s5)
      else
        if v3 < v2 then
          some ((-1 : Int32), s5)
        else
          if (zg s5 69 30) = (10 : Int32) then
            some ((-1 : Int32), s5)
          else
            if zin (zg s5 69 30) 10 = true then
              lt (zs s5 88 ((zg s5 69 30)).toNatClampNeg v1) (fun s7 =>
              if zin (zg s7 69 30) 10 = true then
                lt (zs s7 89 ((zg s7 69 30)).toNatClampNeg v2) (fun s8 =>
                if zin (zg s8 69 30) 10 = true then
                  lt (zs s8 90 ((zg s8 69 30)).toNatClampNeg v3) (fun s9 =>
                  lt (zs s9 69 30 ((zg s9 69 30) + (1 : Int32))) (fun s10 =>
                  some ((zg s10 69 30), s10)))
                else none)
              else none)
            else none)))
set_option maxRecDepth 100000 in
set_option maxHeartbeats 4000000 in
theorem t_X12_rain (w : zWd) (d : Nat) (hd : 1 ≤ d) (v1 : Int32) (v2 : Int32) (v3 : Int32) (s : zM) : zMt w yX12_rain cX12_rain 4 (some .int) d zφN zφN zri [.ref (w.2.2.2 + 69), .int v1, .int v2, .int v3] s (f_X12_rain v1 v2 v3 s) := by
  refine zMtN_of (own := RX12) rfl (by decide +kernel) (Nat.le_of_ble_eq_true rfl) cd_X12_rain [(0, .ref (w.2.2.2 + 69)), (1, .int v1), (2, .int v2), (3, .int v3)] rfl ?_
  rintro a rfl K
  unfold f_X12_rain
  refine z_iload_n K 1 rfl dX12_rain_0 ?_
  refine z_cSi (As := [.int v1]) (rest := []) K (t_X12_isMinute a.1 (d - 1) (by omega) v1 s) mf_X12_isMinute ml_X12_330 (Nat.le_of_ble_eq_true rfl) (by omega) rfl rfl (Nat.le_of_ble_eq_true rfl) dX12_rain_1 (fun r2 s1 => ?_)
  refine z_if_eq K (tgt := 35) dX12_rain_4 (by decide) ?_ ?_
  · refine z_iconst K ci_m1 dX12_rain_35 ?_
    exact z_iret K dX12_rain_36
  · refine z_iload_n K 2 rfl dX12_rain_7 ?_
    refine z_cSi (As := [.int v2]) (rest := []) K (t_X12_isPlace a.1 (d - 1) (by omega) v2 s1) mf_X12_isPlace ml_X12_333 (Nat.le_of_ble_eq_true rfl) (by omega) rfl rfl (Nat.le_of_ble_eq_true rfl) dX12_rain_8 (fun r4 s3 => ?_)
    refine z_if_eq K (tgt := 35) dX12_rain_11 (by decide) ?_ ?_
    · refine z_iconst K ci_m1 dX12_rain_35 ?_
      exact z_iret K dX12_rain_36
    · refine z_iload_n K 3 rfl dX12_rain_14 ?_
      refine z_cSi (As := [.int v3]) (rest := []) K (t_X12_isPlace a.1 (d - 1) (by omega) v3 s3) mf_X12_isPlace ml_X12_333 (Nat.le_of_ble_eq_true rfl) (by omega) rfl rfl (Nat.le_of_ble_eq_true rfl) dX12_rain_15 (fun r6 s5 => ?_)
      refine z_if_eq K (tgt := 35) dX12_rain_18 (by decide) ?_ ?_
      · refine z_iconst K ci_m1 dX12_rain_35 ?_
        exact z_iret K dX12_rain_36
      · refine z_iload_n K 3 rfl dX12_rain_21 ?_
        refine z_iload_n K 2 rfl dX12_rain_22 ?_
        refine z_icmp_lt K (tgt := 35) dX12_rain_23 (by decide) ?_ ?_
        · refine z_iconst K ci_m1 dX12_rain_35 ?_
          exact z_iret K dX12_rain_36
        · refine z_aload_n K 0 rfl dX12_rain_26 ?_
          refine z_geti K fd_X12_336 ob_69_30 dX12_rain_27 ?_
          refine z_bipush K cb_10 dX12_rain_30 ?_
          refine z_icmp_ne K (tgt := 37) dX12_rain_32 (by decide) ?_ ?_
          · refine z_aload_n K 0 rfl dX12_rain_37 ?_
            refine z_getr K fd_X12_65 ob_69_32 dX12_rain_38 ?_
            refine z_aload_n K 0 rfl dX12_rain_41 ?_
            refine z_geti K fd_X12_336 ob_69_30 dX12_rain_42 ?_
            refine z_iload_n K 1 rfl dX12_rain_45 ?_
            refine z_iast K ar_88 dX12_rain_46 ?_
            refine z_ltm (fun s7 => ?_)
            refine z_aload_n K 0 rfl dX12_rain_47 ?_
            refine z_getr K fd_X12_68 ob_69_33 dX12_rain_48 ?_
            refine z_aload_n K 0 rfl dX12_rain_51 ?_
            refine z_geti K fd_X12_336 ob_69_30 dX12_rain_52 ?_
            refine z_iload_n K 2 rfl dX12_rain_55 ?_
            refine z_iast K ar_89 dX12_rain_56 ?_
            refine z_ltm (fun s8 => ?_)
            refine z_aload_n K 0 rfl dX12_rain_57 ?_
            refine z_getr K fd_X12_71 ob_69_34 dX12_rain_58 ?_
            refine z_aload_n K 0 rfl dX12_rain_61 ?_
            refine z_geti K fd_X12_336 ob_69_30 dX12_rain_62 ?_
            refine z_iload_n K 3 rfl dX12_rain_65 ?_
            refine z_iast K ar_90 dX12_rain_66 ?_
            refine z_ltm (fun s9 => ?_)
            refine z_aload_n K 0 rfl dX12_rain_67 ?_
            refine z_aload_n K 0 rfl dX12_rain_68 ?_
            refine z_geti K fd_X12_336 ob_69_30 dX12_rain_69 ?_
            refine z_iconst K ci_1 dX12_rain_72 ?_
            refine z_iadd K dX12_rain_73 ?_
            refine z_puti K fw_X12_336 ob_69_30 dX12_rain_74 ?_
            refine z_ltm (fun s10 => ?_)
            refine z_aload_n K 0 rfl dX12_rain_77 ?_
            refine z_geti K fd_X12_336 ob_69_30 dX12_rain_78 ?_
            exact z_iret K dX12_rain_81
          · refine z_iconst K ci_m1 dX12_rain_35 ?_
            exact z_iret K dX12_rain_36
def f_X12_isWet_L2 (F : Nat) (k54 : zM → Option (Int32 × zM)) (v1 : Int32) (v2 : Int32) : Nat → Int32 → zM → Option (Int32 × zM)
  | 0, _, _ => none
  | n + 1, v3, s =>
    if v3 < (zg s 69 30) then
      if zin v3 10 = true then
        if v2 < (zg s 88 (v3).toNatClampNeg) then
          lt (v3 + (1 : Int32)) (fun y1 =>
          f_X12_isWet_L2 F k54 v1 v2 n y1 s)
        else
          if zin v1 16 = true then
            if zin v3 10 = true then
              if zin v3 10 = true then
                bnd (f_X12_in ((zg s 71 (v1).toNatClampNeg) / (2 : Int32)) (zg s 89 (v3).toNatClampNeg) (zg s 90 (v3).toNatClampNeg) s) (fun r3 s2 =>
                if r3 = 0 then
                  lt (v3 + (1 : Int32)) (fun y4 =>
                  f_X12_isWet_L2 F k54 v1 v2 n y4 s2)
                else
                  some ((1 : Int32), s2))
              else none
            else none
          else none
      else none
    else
      k54 s
set_option maxRecDepth 100000 in
set_option maxHeartbeats 4000000 in
theorem t_X12_isWet_L2 {a : zA} {d : Nat} (F : Nat) (K : zOK a cX12_isWet 4 RX12 (some .boolean) d) (hd : 1 ≤ d) {k54 : zM → Option (Int32 × zM)} (v1 : Int32) (v2 : Int32) (h54 : ∀ (s : zM), zJ a 4 (zG a zφN zri) zφN 54 [] [] s (k54 s)) : ∀ (n : Nat) (v3 : Int32) (s : zM), zJ a 4 (zG a zφN zri) zφN 2 [(0, .ref (a.1.2.2.2 + 69)), (1, .int v1), (2, .int v2), (3, .int v3)] [] s (f_X12_isWet_L2 F k54 v1 v2 n v3 s) := by
  intro n
  induction n with
  | zero => intros; exact z_none
  | succ n ih =>
    intro v3 s
    rw [f_X12_isWet_L2]
    refine z_iload_n K 3 rfl dX12_isWet_2 ?_
    refine z_aload_n K 0 rfl dX12_isWet_3 ?_
    refine z_geti K fd_X12_336 ob_69_30 dX12_isWet_4 ?_
    refine z_icmp_ge K (tgt := 54) dX12_isWet_7 (by decide) ?_ ?_
    · refine z_sub [] rfl ?_
      exact h54 s
    · refine z_iload_n K 2 rfl dX12_isWet_10 ?_
      refine z_aload_n K 0 rfl dX12_isWet_11 ?_
      refine z_getr K fd_X12_65 ob_69_32 dX12_isWet_12 ?_
      refine z_iload_n K 3 rfl dX12_isWet_15 ?_
      refine z_iald K ar_88 dX12_isWet_16 ?_
      refine z_icmp_lt K (tgt := 48) dX12_isWet_17 (by decide) ?_ ?_
      · refine z_iincN K (j := 3) (lv' := [(0, .ref (a.1.2.2.2 + 69)), (1, .int v1), (2, .int v2)]) ci_1 rfl dX12_isWet_48 (Nat.le_of_ble_eq_true rfl) rfl (fun y1 => ?_)
        refine z_goto K (tgt := 2) dX12_isWet_51 (by decide) ?_
        refine z_sub [1, 2, 3, 0] rfl ?_
        exact ih y1 s
      · refine z_aload_n K 0 rfl dX12_isWet_20 ?_
        refine z_getr K fd_X12_13 ob_69_3 dX12_isWet_21 ?_
        refine z_iload_n K 1 rfl dX12_isWet_24 ?_
        refine z_iald K ar_71 dX12_isWet_25 ?_
        refine z_iconst K ci_2 dX12_isWet_26 ?_
        refine z_idivc K (by decide) dX12_isWet_27 ?_
        refine z_aload_n K 0 rfl dX12_isWet_28 ?_
        refine z_getr K fd_X12_68 ob_69_33 dX12_isWet_29 ?_
        refine z_iload_n K 3 rfl dX12_isWet_32 ?_
        refine z_iald K ar_89 dX12_isWet_33 ?_
        refine z_aload_n K 0 rfl dX12_isWet_34 ?_
        refine z_getr K fd_X12_71 ob_69_34 dX12_isWet_35 ?_
        refine z_iload_n K 3 rfl dX12_isWet_38 ?_
        refine z_iald K ar_90 dX12_isWet_39 ?_
        refine z_cSi (As := [.int ((zg s 71 (v1).toNatClampNeg) / (2 : Int32)), .int (zg s 89 (v3).toNatClampNeg), .int (zg s 90 (v3).toNatClampNeg)]) (rest := []) K (t_X12_in a.1 (d - 1) (by omega) ((zg s 71 (v1).toNatClampNeg) / (2 : Int32)) (zg s 89 (v3).toNatClampNeg) (zg s 90 (v3).toNatClampNeg) s) mf_X12_in ml_X12_171 (Nat.le_of_ble_eq_true rfl) (by omega) rfl rfl (Nat.le_of_ble_eq_true rfl) dX12_isWet_40 (fun r3 s2 => ?_)
        refine z_if_eq K (tgt := 48) dX12_isWet_43 (by decide) ?_ ?_
        · refine z_iincN K (j := 3) (lv' := [(0, .ref (a.1.2.2.2 + 69)), (1, .int v1), (2, .int v2)]) ci_1 rfl dX12_isWet_48 (Nat.le_of_ble_eq_true rfl) rfl (fun y4 => ?_)
          refine z_goto K (tgt := 2) dX12_isWet_51 (by decide) ?_
          refine z_sub [1, 2, 3, 0] rfl ?_
          exact ih y4 s2
        · refine z_iconst K ci_1 dX12_isWet_46 ?_
          exact z_zret (Or.inr rfl) K dX12_isWet_47
def f_X12_isWet (F : Nat) (v1 : Int32) (v2 : Int32) (s : zM) : Option (Int32 × zM) :=
  f_X12_isWet_L2 F (fun s5 =>
    some ((0 : Int32), s5)) v1 v2 F (0 : Int32) s
set_option maxRecDepth 100000 in
set_option maxHeartbeats 4000000 in
theorem t_X12_isWet (w : zWd) (F : Nat) (d : Nat) (hd : 1 ≤ d) (v1 : Int32) (v2 : Int32) (s : zM) : zMt w yX12_isWet cX12_isWet 4 (some .boolean) d zφN zφN zri [.ref (w.2.2.2 + 69), .int v1, .int v2] s (f_X12_isWet F v1 v2 s) := by
  refine zMtN_of (own := RX12) rfl (by decide +kernel) (Nat.le_of_ble_eq_true rfl) cd_X12_isWet [(0, .ref (w.2.2.2 + 69)), (1, .int v1), (2, .int v2)] rfl ?_
  rintro a rfl K
  unfold f_X12_isWet
  refine z_iconst K ci_0 dX12_isWet_0 ?_
  refine z_istore_n K (lv' := [(3, .int (0 : Int32)), (0, .ref (a.1.2.2.2 + 69)), (1, .int v1), (2, .int v2)]) dX12_isWet_1 rfl (Nat.le_of_ble_eq_true rfl) rfl ?_
  refine z_sub [1, 2, 3, 0] rfl ?_
  refine t_X12_isWet_L2 F K hd v1 v2 (fun s5 => ?_) F (0 : Int32) s
  refine z_iconst K ci_0 dX12_isWet_54 ?_
  exact z_zret (Or.inl rfl) K dX12_isWet_55
def f_X12_laysPassing_L2 (F : Nat) (k30 : zM → Option (Unit × zM)) (v1 : Int32) (v2 : Int32) : Nat → Int32 → zM → Option (Unit × zM)
  | 0, _, _ => none
  | n + 1, v3, s =>
    if v3 < (16 : Int32) then
      if zin v3 16 = true then
        lt (zs s 94 (v3).toNatClampNeg (1000000000 : Int32)) (fun s1 =>
        if zin v3 16 = true then
          lt (zs s1 95 (v3).toNatClampNeg (-1 : Int32)) (fun s2 =>
          lt (v3 + (1 : Int32)) (fun y3 =>
          f_X12_laysPassing_L2 F k30 v1 v2 n y3 s2))
        else none)
      else none
    else
      k30 s
set_option maxRecDepth 100000 in
set_option maxHeartbeats 4000000 in
theorem t_X12_laysPassing_L2 {a : zA} {d : Nat} (F : Nat) (K : zOK a cX12_laysPassing 6 RX12 none d) (hd : 4 ≤ d) {k30 : zM → Option (Unit × zM)} (v1 : Int32) (v2 : Int32) (h30 : ∀ (s : zM), zJ a 6 (zG a zφN zrv) zφN 30 [(0, .ref (a.1.2.2.2 + 69)), (1, .int v1), (2, .int v2)] [] s (k30 s)) : ∀ (n : Nat) (v3 : Int32) (s : zM), zJ a 6 (zG a zφN zrv) zφN 2 [(0, .ref (a.1.2.2.2 + 69)), (1, .int v1), (2, .int v2), (3, .int v3)] [] s (f_X12_laysPassing_L2 F k30 v1 v2 n v3 s) := by
  intro n
  induction n with
  | zero => intros; exact z_none
  | succ n ih =>
    intro v3 s
    rw [f_X12_laysPassing_L2]
    refine z_iload_n K 3 rfl dX12_laysPassing_2 ?_
    refine z_bipush K cb_16 dX12_laysPassing_3 ?_
    refine z_icmp_ge K (tgt := 30) dX12_laysPassing_5 (by decide) ?_ ?_
    · refine z_sub [0, 1, 2] rfl ?_
      exact h30 s
    · refine z_aload_n K 0 rfl dX12_laysPassing_8 ?_
      refine z_getr K fd_X12_83 ob_69_38 dX12_laysPassing_9 ?_
      refine z_iload_n K 3 rfl dX12_laysPassing_12 ?_
      refine z_ldcw K cst_X12_339 dX12_laysPassing_13 ?_
      refine z_iast K ar_94 dX12_laysPassing_16 ?_
      refine z_ltm (fun s1 => ?_)
      refine z_aload_n K 0 rfl dX12_laysPassing_17 ?_
      refine z_getr K fd_X12_86 ob_69_39 dX12_laysPassing_18 ?_
      refine z_iload_n K 3 rfl dX12_laysPassing_21 ?_
      refine z_iconst K ci_m1 dX12_laysPassing_22 ?_
      refine z_iast K ar_95 dX12_laysPassing_23 ?_
      refine z_ltm (fun s2 => ?_)
      refine z_iincN K (j := 3) (lv' := [(0, .ref (a.1.2.2.2 + 69)), (1, .int v1), (2, .int v2)]) ci_1 rfl dX12_laysPassing_24 (Nat.le_of_ble_eq_true rfl) rfl (fun y3 => ?_)
      refine z_goto K (tgt := 2) dX12_laysPassing_27 (by decide) ?_
      refine z_sub [1, 2, 3, 0] rfl ?_
      exact ih y3 s2
def f_X12_laysPassing_L75 (F : Nat) (k167 : zM → Option (Unit × zM)) (v3 : Int32) (v4 : Int32) : Nat → Int32 → zM → Option (Unit × zM)
  | 0, _, _ => none
  | n + 1, v5, s =>
    if v5 < (zg s 69 0) then
      if zin v5 16 = true then
        if (zg s 94 (v5).toNatClampNeg) < (1000000000 : Int32) then
          lt (v5 + (1 : Int32)) (fun y6 =>
          f_X12_laysPassing_L75 F k167 v3 v4 n y6 s)
        else
          bnd (f_X12_sitNext F v4 v5 s) (fun r8 s7 =>
          if r8 = 0 then
            lt (v5 + (1 : Int32)) (fun y9 =>
            f_X12_laysPassing_L75 F k167 v3 v4 n y9 s7)
          else
            bnd (f_X12_isWet F v4 v3 s7) (fun r11 s10 =>
            if r11 = 0 then
              bnd (f_X12_isWet F v5 v3 s10) (fun r14 s13 =>
              if r14 = 0 then
                bnd (f_X12_lets F v4 v5 s13) (fun r17 s16 =>
                if r17 = 0 then
                  lt (v5 + (1 : Int32)) (fun y21 =>
                  f_X12_laysPassing_L75 F k167 v3 v4 n y21 s16)
                else
                  if zin v5 16 = true then
                    lt (zs s16 94 (v5).toNatClampNeg (v3 + (1 : Int32))) (fun s18 =>
                    if zin v5 16 = true then
                      lt (zs s18 95 (v5).toNatClampNeg v4) (fun s19 =>
                      lt (v5 + (1 : Int32)) (fun y20 =>
                      f_X12_laysPassing_L75 F k167 v3 v4 n y20 s19))
                    else none)
                  else none)
              else
                lt (v5 + (1 : Int32)) (fun y15 =>
                f_X12_laysPassing_L75 F k167 v3 v4 n y15 s13))
            else
              lt (v5 + (1 : Int32)) (fun y12 =>
              f_X12_laysPassing_L75 F k167 v3 v4 n y12 s10)))
      else none
    else
      k167 s
set_option maxRecDepth 100000 in
set_option maxHeartbeats 4000000 in
theorem t_X12_laysPassing_L75 {a : zA} {d : Nat} (F : Nat) (K : zOK a cX12_laysPassing 6 RX12 none d) (hd : 4 ≤ d) {k167 : zM → Option (Unit × zM)} (v3 : Int32) (v4 : Int32) (h167 : ∀ (s : zM), zJ a 6 (zG a zφN zrv) zφN 167 [(0, .ref (a.1.2.2.2 + 69)), (3, .int v3), (4, .int v4)] [] s (k167 s)) : ∀ (n : Nat) (v5 : Int32) (s : zM), zJ a 6 (zG a zφN zrv) zφN 75 [(0, .ref (a.1.2.2.2 + 69)), (3, .int v3), (4, .int v4), (5, .int v5)] [] s (f_X12_laysPassing_L75 F k167 v3 v4 n v5 s) := by
  intro n
  induction n with
  | zero => intros; exact z_none
  | succ n ih =>
    intro v5 s
    rw [f_X12_laysPassing_L75]
    refine z_iload K 3 rfl dX12_laysPassing_75 ?_
    refine z_aload_n K 0 rfl dX12_laysPassing_77 ?_
    refine z_geti K fd_X12_168 ob_69_0 dX12_laysPassing_78 ?_
    refine z_icmp_ge K (tgt := 167) dX12_laysPassing_81 (by decide) ?_ ?_
    · refine z_sub [0, 1, 2] rfl ?_
      exact h167 s
    · refine z_aload_n K 0 rfl dX12_laysPassing_84 ?_
      refine z_getr K fd_X12_83 ob_69_38 dX12_laysPassing_85 ?_
      refine z_iload K 3 rfl dX12_laysPassing_88 ?_
      refine z_iald K ar_94 dX12_laysPassing_90 ?_
      refine z_ldcw K cst_X12_339 dX12_laysPassing_91 ?_
      refine z_icmp_lt K (tgt := 161) dX12_laysPassing_94 (by decide) ?_ ?_
      · refine z_iincN K (j := 3) (lv' := [(0, .ref (a.1.2.2.2 + 69)), (3, .int v3), (4, .int v4)]) ci_1 rfl dX12_laysPassing_161 (Nat.le_of_ble_eq_true rfl) rfl (fun y6 => ?_)
        refine z_goto K (tgt := 75) dX12_laysPassing_164 (by decide) ?_
        refine z_sub [1, 2, 3, 0] rfl ?_
        exact ih y6 s
      · refine z_aload_n K 0 rfl dX12_laysPassing_97 ?_
        refine z_iload K 2 rfl dX12_laysPassing_98 ?_
        refine z_iload K 3 rfl dX12_laysPassing_100 ?_
        refine z_cVi (As := [.int v4, .int v5]) (rest := []) K (t_X12_sitNext a.1 F (d - 1) (by omega) v4 v5 s) mf_X12_sitNext ml_X12_315 (Nat.le_of_ble_eq_true rfl) (by omega) rfl rc_69 rfl (Nat.le_of_ble_eq_true rfl) dX12_laysPassing_102 (fun r8 s7 => ?_)
        refine z_if_eq K (tgt := 161) dX12_laysPassing_105 (by decide) ?_ ?_
        · refine z_iincN K (j := 3) (lv' := [(0, .ref (a.1.2.2.2 + 69)), (3, .int v3), (4, .int v4)]) ci_1 rfl dX12_laysPassing_161 (Nat.le_of_ble_eq_true rfl) rfl (fun y9 => ?_)
          refine z_goto K (tgt := 75) dX12_laysPassing_164 (by decide) ?_
          refine z_sub [1, 2, 3, 0] rfl ?_
          exact ih y9 s7
        · refine z_aload_n K 0 rfl dX12_laysPassing_108 ?_
          refine z_iload K 2 rfl dX12_laysPassing_109 ?_
          refine z_iload_n K 1 rfl dX12_laysPassing_111 ?_
          refine z_cVi (As := [.int v4, .int v3]) (rest := []) K (t_X12_isWet a.1 F (d - 1) (by omega) v4 v3 s7) mf_X12_isWet ml_X12_340 (Nat.le_of_ble_eq_true rfl) (by omega) rfl rc_69 rfl (Nat.le_of_ble_eq_true rfl) dX12_laysPassing_112 (fun r11 s10 => ?_)
          refine z_if_ne K (tgt := 161) dX12_laysPassing_115 (by decide) ?_ ?_
          · refine z_iincN K (j := 3) (lv' := [(0, .ref (a.1.2.2.2 + 69)), (3, .int v3), (4, .int v4)]) ci_1 rfl dX12_laysPassing_161 (Nat.le_of_ble_eq_true rfl) rfl (fun y12 => ?_)
            refine z_goto K (tgt := 75) dX12_laysPassing_164 (by decide) ?_
            refine z_sub [1, 2, 3, 0] rfl ?_
            exact ih y12 s10
          · refine z_aload_n K 0 rfl dX12_laysPassing_118 ?_
            refine z_iload K 3 rfl dX12_laysPassing_119 ?_
            refine z_iload_n K 1 rfl dX12_laysPassing_121 ?_
            refine z_cVi (As := [.int v5, .int v3]) (rest := []) K (t_X12_isWet a.1 F (d - 1) (by omega) v5 v3 s10) mf_X12_isWet ml_X12_340 (Nat.le_of_ble_eq_true rfl) (by omega) rfl rc_69 rfl (Nat.le_of_ble_eq_true rfl) dX12_laysPassing_122 (fun r14 s13 => ?_)
            refine z_if_ne K (tgt := 161) dX12_laysPassing_125 (by decide) ?_ ?_
            · refine z_iincN K (j := 3) (lv' := [(0, .ref (a.1.2.2.2 + 69)), (3, .int v3), (4, .int v4)]) ci_1 rfl dX12_laysPassing_161 (Nat.le_of_ble_eq_true rfl) rfl (fun y15 => ?_)
              refine z_goto K (tgt := 75) dX12_laysPassing_164 (by decide) ?_
              refine z_sub [1, 2, 3, 0] rfl ?_
              exact ih y15 s13
            · refine z_aload_n K 0 rfl dX12_laysPassing_128 ?_
              refine z_iload K 2 rfl dX12_laysPassing_129 ?_
              refine z_iload K 3 rfl dX12_laysPassing_131 ?_
              refine z_cVi (As := [.int v4, .int v5]) (rest := []) K (t_X12_lets a.1 F (d - 1) (by omega) v4 v5 s13) mf_X12_lets ml_X12_324 (Nat.le_of_ble_eq_true rfl) (by omega) rfl rc_69 rfl (Nat.le_of_ble_eq_true rfl) dX12_laysPassing_133 (fun r17 s16 => ?_)
              refine z_if_ne K (tgt := 142) dX12_laysPassing_136 (by decide) ?_ ?_
              · refine z_aload_n K 0 rfl dX12_laysPassing_142 ?_
                refine z_getr K fd_X12_83 ob_69_38 dX12_laysPassing_143 ?_
                refine z_iload K 3 rfl dX12_laysPassing_146 ?_
                refine z_iload_n K 1 rfl dX12_laysPassing_148 ?_
                refine z_iconst K ci_1 dX12_laysPassing_149 ?_
                refine z_iadd K dX12_laysPassing_150 ?_
                refine z_iast K ar_94 dX12_laysPassing_151 ?_
                refine z_ltm (fun s18 => ?_)
                refine z_aload_n K 0 rfl dX12_laysPassing_152 ?_
                refine z_getr K fd_X12_86 ob_69_39 dX12_laysPassing_153 ?_
                refine z_iload K 3 rfl dX12_laysPassing_156 ?_
                refine z_iload K 2 rfl dX12_laysPassing_158 ?_
                refine z_iast K ar_95 dX12_laysPassing_160 ?_
                refine z_ltm (fun s19 => ?_)
                refine z_iincN K (j := 3) (lv' := [(0, .ref (a.1.2.2.2 + 69)), (3, .int v3), (4, .int v4)]) ci_1 rfl dX12_laysPassing_161 (Nat.le_of_ble_eq_true rfl) rfl (fun y20 => ?_)
                refine z_goto K (tgt := 75) dX12_laysPassing_164 (by decide) ?_
                refine z_sub [1, 2, 3, 0] rfl ?_
                exact ih y20 s19
              · refine z_goto K (tgt := 161) dX12_laysPassing_139 (by decide) ?_
                refine z_iincN K (j := 3) (lv' := [(0, .ref (a.1.2.2.2 + 69)), (3, .int v3), (4, .int v4)]) ci_1 rfl dX12_laysPassing_161 (Nat.le_of_ble_eq_true rfl) rfl (fun y21 => ?_)
                refine z_goto K (tgt := 75) dX12_laysPassing_164 (by decide) ?_
                refine z_sub [1, 2, 3, 0] rfl ?_
                exact ih y21 s16
def f_X12_laysPassing_L49 (F : Nat) (k173 : zM → Option (Unit × zM)) (v3 : Int32) : Nat → Int32 → zM → Option (Unit × zM)
  | 0, _, _ => none
  | n + 1, v4, s =>
    if v4 < (zg s 69 0) then
      if zin v4 16 = true then
        if v3 < (zg s 94 (v4).toNatClampNeg) then
          lt (v4 + (1 : Int32)) (fun y24 =>
          f_X12_laysPassing_L49 F k173 v3 n y24 s)
        else
          f_X12_laysPassing_L75 F (fun s22 =>
            lt (v4 + (1 : Int32)) (fun y23 =>
            f_X12_laysPassing_L49 F k173 v3 n y23 s22)) v3 v4 F (0 : Int32) s
      else none
    else
      k173 s
set_option maxRecDepth 100000 in
set_option maxHeartbeats 4000000 in
theorem t_X12_laysPassing_L49 {a : zA} {d : Nat} (F : Nat) (K : zOK a cX12_laysPassing 6 RX12 none d) (hd : 4 ≤ d) {k173 : zM → Option (Unit × zM)} (v3 : Int32) (h173 : ∀ (s : zM), zJ a 6 (zG a zφN zrv) zφN 173 [(0, .ref (a.1.2.2.2 + 69)), (3, .int v3)] [] s (k173 s)) : ∀ (n : Nat) (v4 : Int32) (s : zM), zJ a 6 (zG a zφN zrv) zφN 49 [(0, .ref (a.1.2.2.2 + 69)), (3, .int v3), (4, .int v4)] [] s (f_X12_laysPassing_L49 F k173 v3 n v4 s) := by
  intro n
  induction n with
  | zero => intros; exact z_none
  | succ n ih =>
    intro v4 s
    rw [f_X12_laysPassing_L49]
    refine z_iload K 2 rfl dX12_laysPassing_49 ?_
    refine z_aload_n K 0 rfl dX12_laysPassing_51 ?_
    refine z_geti K fd_X12_168 ob_69_0 dX12_laysPassing_52 ?_
    refine z_icmp_ge K (tgt := 173) dX12_laysPassing_55 (by decide) ?_ ?_
    · refine z_sub [0, 1] rfl ?_
      exact h173 s
    · refine z_aload_n K 0 rfl dX12_laysPassing_58 ?_
      refine z_getr K fd_X12_83 ob_69_38 dX12_laysPassing_59 ?_
      refine z_iload K 2 rfl dX12_laysPassing_62 ?_
      refine z_iald K ar_94 dX12_laysPassing_64 ?_
      refine z_iload_n K 1 rfl dX12_laysPassing_65 ?_
      refine z_icmp_le K (tgt := 72) dX12_laysPassing_66 (by decide) ?_ ?_
      · refine z_iconst K ci_0 dX12_laysPassing_72 ?_
        refine z_istore K (lv' := [(5, .int (0 : Int32)), (0, .ref (a.1.2.2.2 + 69)), (3, .int v3), (4, .int v4)]) dX12_laysPassing_73 (Nat.le_of_ble_eq_true rfl) rfl ?_
        refine z_sub [1, 2, 3, 0] rfl ?_
        refine t_X12_laysPassing_L75 F K hd v3 v4 (fun s22 => ?_) F (0 : Int32) s
        refine z_iincN K (j := 2) (lv' := [(0, .ref (a.1.2.2.2 + 69)), (3, .int v3)]) ci_1 rfl dX12_laysPassing_167 (Nat.le_of_ble_eq_true rfl) rfl (fun y23 => ?_)
        refine z_goto K (tgt := 49) dX12_laysPassing_170 (by decide) ?_
        refine z_sub [1, 2, 0] rfl ?_
        exact ih y23 s22
      · refine z_goto K (tgt := 167) dX12_laysPassing_69 (by decide) ?_
        refine z_iincN K (j := 2) (lv' := [(0, .ref (a.1.2.2.2 + 69)), (3, .int v3)]) ci_1 rfl dX12_laysPassing_167 (Nat.le_of_ble_eq_true rfl) rfl (fun y24 => ?_)
        refine z_goto K (tgt := 49) dX12_laysPassing_170 (by decide) ?_
        refine z_sub [1, 2, 0] rfl ?_
        exact ih y24 s
def f_X12_laysPassing_L39 (F : Nat) (k179 : zM → Option (Unit × zM)) : Nat → Int32 → zM → Option (Unit × zM)
  | 0, _, _ => none
  | n + 1, v3, s =>
    if v3 < (999 : Int32) then
      f_X12_laysPassing_L49 F (fun s25 =>
        lt (v3 + (1 : Int32)) (fun y26 =>
        f_X12_laysPassing_L39 F k179 n y26 s25)) v3 F (0 : Int32) s
    else
      k179 s
set_option maxRecDepth 100000 in
set_option maxHeartbeats 4000000 in
theorem t_X12_laysPassing_L39 {a : zA} {d : Nat} (F : Nat) (K : zOK a cX12_laysPassing 6 RX12 none d) (hd : 4 ≤ d) {k179 : zM → Option (Unit × zM)} (h179 : ∀ (s : zM), zJ a 6 (zG a zφN zrv) zφN 179 [] [] s (k179 s)) : ∀ (n : Nat) (v3 : Int32) (s : zM), zJ a 6 (zG a zφN zrv) zφN 39 [(0, .ref (a.1.2.2.2 + 69)), (3, .int v3)] [] s (f_X12_laysPassing_L39 F k179 n v3 s) := by
  intro n
  induction n with
  | zero => intros; exact z_none
  | succ n ih =>
    intro v3 s
    rw [f_X12_laysPassing_L39]
    refine z_iload_n K 1 rfl dX12_laysPassing_39 ?_
    refine z_sipush K cs_999 dX12_laysPassing_40 ?_
    refine z_icmp_ge K (tgt := 179) dX12_laysPassing_43 (by decide) ?_ ?_
    · refine z_sub [] rfl ?_
      exact h179 s
    · refine z_iconst K ci_0 dX12_laysPassing_46 ?_
      refine z_istore K (lv' := [(4, .int (0 : Int32)), (0, .ref (a.1.2.2.2 + 69)), (3, .int v3)]) dX12_laysPassing_47 (Nat.le_of_ble_eq_true rfl) rfl ?_
      refine z_sub [1, 2, 0] rfl ?_
      refine t_X12_laysPassing_L49 F K hd v3 (fun s25 => ?_) F (0 : Int32) s
      refine z_iincN K (j := 1) (lv' := [(0, .ref (a.1.2.2.2 + 69))]) ci_1 rfl dX12_laysPassing_173 (Nat.le_of_ble_eq_true rfl) rfl (fun y26 => ?_)
      refine z_goto K (tgt := 39) dX12_laysPassing_176 (by decide) ?_
      refine z_sub [1, 0] rfl ?_
      exact ih y26 s25
def f_X12_laysPassing (F : Nat) (v1 : Int32) (v2 : Int32) (s : zM) : Option (Unit × zM) :=
  f_X12_laysPassing_L2 F (fun s4 =>
    if zin v1 16 = true then
      lt (zs s4 94 (v1).toNatClampNeg v2) (fun s5 =>
      f_X12_laysPassing_L39 F (fun s27 =>
        some ((), s27)) F v2 s5)
    else none) v1 v2 F (0 : Int32) s
set_option maxRecDepth 100000 in
set_option maxHeartbeats 4000000 in
theorem t_X12_laysPassing (w : zWd) (F : Nat) (d : Nat) (hd : 4 ≤ d) (v1 : Int32) (v2 : Int32) (s : zM) : zMt w yX12_laysPassing cX12_laysPassing 6 none d zφN zφN zrv [.ref (w.2.2.2 + 69), .int v1, .int v2] s (f_X12_laysPassing F v1 v2 s) := by
  refine zMtN_of (own := RX12) rfl (by decide +kernel) (Nat.le_of_ble_eq_true rfl) cd_X12_laysPassing [(0, .ref (w.2.2.2 + 69)), (1, .int v1), (2, .int v2)] rfl ?_
  rintro a rfl K
  unfold f_X12_laysPassing
  refine z_iconst K ci_0 dX12_laysPassing_0 ?_
  refine z_istore_n K (lv' := [(3, .int (0 : Int32)), (0, .ref (a.1.2.2.2 + 69)), (1, .int v1), (2, .int v2)]) dX12_laysPassing_1 rfl (Nat.le_of_ble_eq_true rfl) rfl ?_
  refine z_sub [1, 2, 3, 0] rfl ?_
  refine t_X12_laysPassing_L2 F K hd v1 v2 (fun s4 => ?_) F (0 : Int32) s
  refine z_aload_n K 0 rfl dX12_laysPassing_30 ?_
  refine z_getr K fd_X12_83 ob_69_38 dX12_laysPassing_31 ?_
  refine z_iload_n K 1 rfl dX12_laysPassing_34 ?_
  refine z_iload_n K 2 rfl dX12_laysPassing_35 ?_
  refine z_iast K ar_94 dX12_laysPassing_36 ?_
  refine z_ltm (fun s5 => ?_)
  refine z_iload_n K 2 rfl dX12_laysPassing_37 ?_
  refine z_istore_n K (lv' := [(3, .int v2), (0, .ref (a.1.2.2.2 + 69)), (1, .int v1), (2, .int v2)]) dX12_laysPassing_38 rfl (Nat.le_of_ble_eq_true rfl) rfl ?_
  refine z_sub [1, 0] rfl ?_
  refine t_X12_laysPassing_L39 F K hd (fun s27 => ?_) F v2 s5
  exact z_vret K dX12_laysPassing_179
def f_X12_starts (v1 : Int32) (v2 : Int32) (s : zM) : Option (Int32 × zM) :=
  bnd (f_X12_isGuest v1 s) (fun r2 s1 =>
  if r2 = 0 then
    some ((0 : Int32), s1)
  else
    bnd (f_X12_sits v1 s1) (fun r4 s3 =>
    if r4 = 0 then
      some ((0 : Int32), s3)
    else
      bnd (f_X12_in v2 (0 : Int32) (99 : Int32) s3) (fun r6 s5 =>
      if r6 = 0 then
        some ((0 : Int32), s5)
      else
        some ((1 : Int32), s5))))
set_option maxRecDepth 100000 in
set_option maxHeartbeats 4000000 in
theorem t_X12_starts (w : zWd) (d : Nat) (hd : 1 ≤ d) (v1 : Int32) (v2 : Int32) (s : zM) : zMt w yX12_starts cX12_starts 3 (some .boolean) d zφN zφN zri [.ref (w.2.2.2 + 69), .int v1, .int v2] s (f_X12_starts v1 v2 s) := by
  refine zMtN_of (own := RX12) rfl (by decide +kernel) (Nat.le_of_ble_eq_true rfl) cd_X12_starts [(0, .ref (w.2.2.2 + 69)), (1, .int v1), (2, .int v2)] rfl ?_
  rintro a rfl K
  unfold f_X12_starts
  refine z_aload_n K 0 rfl dX12_starts_0 ?_
  refine z_iload_n K 1 rfl dX12_starts_1 ?_
  refine z_cVi (As := [.int v1]) (rest := []) K (t_X12_isGuest a.1 (d - 1) (by omega) v1 s) mf_X12_isGuest ml_X12_183 (Nat.le_of_ble_eq_true rfl) (by omega) rfl rc_69 rfl (Nat.le_of_ble_eq_true rfl) dX12_starts_2 (fun r2 s1 => ?_)
  refine z_if_eq K (tgt := 30) dX12_starts_5 (by decide) ?_ ?_
  · refine z_iconst K ci_0 dX12_starts_30 ?_
    exact z_zret (Or.inl rfl) K dX12_starts_31
  · refine z_aload_n K 0 rfl dX12_starts_8 ?_
    refine z_iload_n K 1 rfl dX12_starts_9 ?_
    refine z_cVi (As := [.int v1]) (rest := []) K (t_X12_sits a.1 (d - 1) (by omega) v1 s1) mf_X12_sits ml_X12_309 (Nat.le_of_ble_eq_true rfl) (by omega) rfl rc_69 rfl (Nat.le_of_ble_eq_true rfl) dX12_starts_10 (fun r4 s3 => ?_)
    refine z_if_eq K (tgt := 30) dX12_starts_13 (by decide) ?_ ?_
    · refine z_iconst K ci_0 dX12_starts_30 ?_
      exact z_zret (Or.inl rfl) K dX12_starts_31
    · refine z_iload_n K 2 rfl dX12_starts_16 ?_
      refine z_iconst K ci_0 dX12_starts_17 ?_
      refine z_bipush K cb_99 dX12_starts_18 ?_
      refine z_cSi (As := [.int v2, .int (0 : Int32), .int (99 : Int32)]) (rest := []) K (t_X12_in a.1 (d - 1) (by omega) v2 (0 : Int32) (99 : Int32) s3) mf_X12_in ml_X12_171 (Nat.le_of_ble_eq_true rfl) (by omega) rfl rfl (Nat.le_of_ble_eq_true rfl) dX12_starts_20 (fun r6 s5 => ?_)
      refine z_if_eq K (tgt := 30) dX12_starts_23 (by decide) ?_ ?_
      · refine z_iconst K ci_0 dX12_starts_30 ?_
        exact z_zret (Or.inl rfl) K dX12_starts_31
      · refine z_iconst K ci_1 dX12_starts_26 ?_
        refine z_goto K (tgt := 31) dX12_starts_27 (by decide) ?_
        exact z_zret (Or.inr rfl) K dX12_starts_31
def f_X12_soonest (F : Nat) (v1 : Int32) (v2 : Int32) (v3 : Int32) (s : zM) : Option (Int32 × zM) :=
  bnd (f_X12_starts v1 v3 s) (fun r2 s1 =>
  if r2 = 0 then
    some ((-1 : Int32), s1)
  else
    bnd (f_X12_isGuest v2 s1) (fun r4 s3 =>
    if r4 = 0 then
      some ((-1 : Int32), s3)
    else
      bnd (f_X12_sits v2 s3) (fun r6 s5 =>
      if r6 = 0 then
        some ((-1 : Int32), s5)
      else
        bnd (f_X12_laysPassing F v1 v3 s5) (fun _ s7 =>
        if zin v2 16 = true then
          if (zg s7 94 (v2).toNatClampNeg) = (1000000000 : Int32) then
            some ((-2 : Int32), s7)
          else
            if zin v2 16 = true then
              some ((zg s7 94 (v2).toNatClampNeg), s7)
            else none
        else none))))
set_option maxRecDepth 100000 in
set_option maxHeartbeats 4000000 in
theorem t_X12_soonest (w : zWd) (F : Nat) (d : Nat) (hd : 5 ≤ d) (v1 : Int32) (v2 : Int32) (v3 : Int32) (s : zM) : zMt w yX12_soonest cX12_soonest 4 (some .int) d zφN zφN zri [.ref (w.2.2.2 + 69), .int v1, .int v2, .int v3] s (f_X12_soonest F v1 v2 v3 s) := by
  refine zMtN_of (own := RX12) rfl (by decide +kernel) (Nat.le_of_ble_eq_true rfl) cd_X12_soonest [(0, .ref (w.2.2.2 + 69)), (1, .int v1), (2, .int v2), (3, .int v3)] rfl ?_
  rintro a rfl K
  unfold f_X12_soonest
  refine z_aload_n K 0 rfl dX12_soonest_0 ?_
  refine z_iload_n K 1 rfl dX12_soonest_1 ?_
  refine z_iload_n K 3 rfl dX12_soonest_2 ?_
  refine z_cVi (As := [.int v1, .int v3]) (rest := []) K (t_X12_starts a.1 (d - 1) (by omega) v1 v3 s) mf_X12_starts ml_X12_343 (Nat.le_of_ble_eq_true rfl) (by omega) rfl rc_69 rfl (Nat.le_of_ble_eq_true rfl) dX12_soonest_3 (fun r2 s1 => ?_)
  refine z_if_eq K (tgt := 25) dX12_soonest_6 (by decide) ?_ ?_
  · refine z_iconst K ci_m1 dX12_soonest_25 ?_
    exact z_iret K dX12_soonest_26
  · refine z_aload_n K 0 rfl dX12_soonest_9 ?_
    refine z_iload_n K 2 rfl dX12_soonest_10 ?_
    refine z_cVi (As := [.int v2]) (rest := []) K (t_X12_isGuest a.1 (d - 1) (by omega) v2 s1) mf_X12_isGuest ml_X12_183 (Nat.le_of_ble_eq_true rfl) (by omega) rfl rc_69 rfl (Nat.le_of_ble_eq_true rfl) dX12_soonest_11 (fun r4 s3 => ?_)
    refine z_if_eq K (tgt := 25) dX12_soonest_14 (by decide) ?_ ?_
    · refine z_iconst K ci_m1 dX12_soonest_25 ?_
      exact z_iret K dX12_soonest_26
    · refine z_aload_n K 0 rfl dX12_soonest_17 ?_
      refine z_iload_n K 2 rfl dX12_soonest_18 ?_
      refine z_cVi (As := [.int v2]) (rest := []) K (t_X12_sits a.1 (d - 1) (by omega) v2 s3) mf_X12_sits ml_X12_309 (Nat.le_of_ble_eq_true rfl) (by omega) rfl rc_69 rfl (Nat.le_of_ble_eq_true rfl) dX12_soonest_19 (fun r6 s5 => ?_)
      refine z_if_ne K (tgt := 27) dX12_soonest_22 (by decide) ?_ ?_
      · refine z_aload_n K 0 rfl dX12_soonest_27 ?_
        refine z_iload_n K 1 rfl dX12_soonest_28 ?_
        refine z_iload_n K 3 rfl dX12_soonest_29 ?_
        refine z_cVv (As := [.int v1, .int v3]) (rest := []) K (t_X12_laysPassing a.1 F (d - 1) (by omega) v1 v3 s5) mf_X12_laysPassing ml_X12_346 (Nat.le_of_ble_eq_true rfl) (by omega) rfl rc_69 rfl (Nat.le_of_ble_eq_true rfl) dX12_soonest_30 (fun _ s7 => ?_)
        refine z_aload_n K 0 rfl dX12_soonest_33 ?_
        refine z_getr K fd_X12_83 ob_69_38 dX12_soonest_34 ?_
        refine z_iload_n K 2 rfl dX12_soonest_37 ?_
        refine z_iald K ar_94 dX12_soonest_38 ?_
        refine z_ldcw K cst_X12_339 dX12_soonest_39 ?_
        refine z_icmp_ne K (tgt := 50) dX12_soonest_42 (by decide) ?_ ?_
        · refine z_aload_n K 0 rfl dX12_soonest_50 ?_
          refine z_getr K fd_X12_83 ob_69_38 dX12_soonest_51 ?_
          refine z_iload_n K 2 rfl dX12_soonest_54 ?_
          refine z_iald K ar_94 dX12_soonest_55 ?_
          exact z_iret K dX12_soonest_56
        · refine z_bipush K cb_m2 dX12_soonest_45 ?_
          refine z_goto K (tgt := 56) dX12_soonest_47 (by decide) ?_
          exact z_iret K dX12_soonest_56
      · refine z_iconst K ci_m1 dX12_soonest_25 ?_
        exact z_iret K dX12_soonest_26
def f_X12_rumour_L90 (F : Nat) (k153 : Int32 → Int32 → zM → Option (Int32 × zM)) (v3 : Int32) : Nat → Int32 → Int32 → Int32 → zM → Option (Int32 × zM)
  | 0, _, _, _, _ => none
  | n + 1, v4, v5, v6, s =>
    if v6 < (zg s 69 0) then
      if zin v6 16 = true then
        if (zg s 94 (v6).toNatClampNeg) = (1000000000 : Int32) then
          lt (v6 + (1 : Int32)) (fun y10 =>
          f_X12_rumour_L90 F k153 v3 n v4 v5 y10 s)
        else
          lt ((v4 + (1 : Int32))) (fun y6 =>
          if zin v6 16 = true then
            if v5 < (zg s 94 (v6).toNatClampNeg) then
              if zin v6 16 = true then
                lt ((zg s 94 (v6).toNatClampNeg)) (fun y8 =>
                lt (v6 + (1 : Int32)) (fun y9 =>
                f_X12_rumour_L90 F k153 v3 n y6 y8 y9 s))
              else none
            else
              lt (v6 + (1 : Int32)) (fun y7 =>
              f_X12_rumour_L90 F k153 v3 n y6 v5 y7 s)
          else none)
      else none
    else
      k153 v4 v5 s
set_option maxRecDepth 100000 in
set_option maxHeartbeats 4000000 in
theorem t_X12_rumour_L90 {a : zA} {d : Nat} (F : Nat) (K : zOK a cX12_rumour 7 RX12 (some .int) d) (hd : 5 ≤ d) {k153 : Int32 → Int32 → zM → Option (Int32 × zM)} (v3 : Int32) (h153 : ∀ (v4 : Int32) (v5 : Int32) (s : zM), zJ a 7 (zG a zφN zri) zφN 153 [(3, .int v3), (4, .int v4), (5, .int v5)] [] s (k153 v4 v5 s)) : ∀ (n : Nat) (v4 : Int32) (v5 : Int32) (v6 : Int32) (s : zM), zJ a 7 (zG a zφN zri) zφN 90 [(0, .ref (a.1.2.2.2 + 69)), (3, .int v3), (4, .int v4), (5, .int v5), (6, .int v6)] [] s (f_X12_rumour_L90 F k153 v3 n v4 v5 v6 s) := by
  intro n
  induction n with
  | zero => intros; exact z_none
  | succ n ih =>
    intro v4 v5 v6 s
    rw [f_X12_rumour_L90]
    refine z_iload K 4 rfl dX12_rumour_90 ?_
    refine z_aload_n K 0 rfl dX12_rumour_92 ?_
    refine z_geti K fd_X12_168 ob_69_0 dX12_rumour_93 ?_
    refine z_icmp_ge K (tgt := 153) dX12_rumour_96 (by decide) ?_ ?_
    · refine z_sub [1, 2, 3] rfl ?_
      exact h153 v4 v5 s
    · refine z_aload_n K 0 rfl dX12_rumour_99 ?_
      refine z_getr K fd_X12_83 ob_69_38 dX12_rumour_100 ?_
      refine z_iload K 4 rfl dX12_rumour_103 ?_
      refine z_iald K ar_94 dX12_rumour_105 ?_
      refine z_ldcw K cst_X12_339 dX12_rumour_106 ?_
      refine z_icmp_ne K (tgt := 115) dX12_rumour_109 (by decide) ?_ ?_
      · refine z_iload K 2 rfl dX12_rumour_115 ?_
        refine z_iconst K ci_1 dX12_rumour_117 ?_
        refine z_iadd K dX12_rumour_118 ?_
        refine z_topi (fun y6 => ?_)
        refine z_istore K (lv' := [(4, .int y6), (0, .ref (a.1.2.2.2 + 69)), (3, .int v3), (5, .int v5), (6, .int v6)]) dX12_rumour_119 (Nat.le_of_ble_eq_true rfl) rfl ?_
        refine z_aload_n K 1 rfl dX12_rumour_121 ?_
        refine z_getr K fd_X12_83 ob_69_38 dX12_rumour_122 ?_
        refine z_iload K 4 rfl dX12_rumour_125 ?_
        refine z_iald K ar_94 dX12_rumour_127 ?_
        refine z_iload K 3 rfl dX12_rumour_128 ?_
        refine z_icmp_le K (tgt := 143) dX12_rumour_130 (by decide) ?_ ?_
        · refine z_iload K 3 rfl dX12_rumour_143 ?_
          refine z_istore K (lv' := [(5, .int v5), (4, .int y6), (0, .ref (a.1.2.2.2 + 69)), (3, .int v3), (6, .int v6)]) dX12_rumour_145 (Nat.le_of_ble_eq_true rfl) rfl ?_
          refine z_iincN K (j := 4) (lv' := [(5, .int v5), (4, .int y6), (0, .ref (a.1.2.2.2 + 69)), (3, .int v3)]) ci_1 rfl dX12_rumour_147 (Nat.le_of_ble_eq_true rfl) rfl (fun y7 => ?_)
          refine z_goto K (tgt := 90) dX12_rumour_150 (by decide) ?_
          refine z_sub [3, 4, 2, 1, 0] rfl ?_
          exact ih y6 v5 y7 s
        · refine z_aload_n K 1 rfl dX12_rumour_133 ?_
          refine z_getr K fd_X12_83 ob_69_38 dX12_rumour_134 ?_
          refine z_iload K 4 rfl dX12_rumour_137 ?_
          refine z_iald K ar_94 dX12_rumour_139 ?_
          refine z_goto K (tgt := 145) dX12_rumour_140 (by decide) ?_
          refine z_topi (fun y8 => ?_)
          refine z_istore K (lv' := [(5, .int y8), (4, .int y6), (0, .ref (a.1.2.2.2 + 69)), (3, .int v3), (6, .int v6)]) dX12_rumour_145 (Nat.le_of_ble_eq_true rfl) rfl ?_
          refine z_iincN K (j := 4) (lv' := [(5, .int y8), (4, .int y6), (0, .ref (a.1.2.2.2 + 69)), (3, .int v3)]) ci_1 rfl dX12_rumour_147 (Nat.le_of_ble_eq_true rfl) rfl (fun y9 => ?_)
          refine z_goto K (tgt := 90) dX12_rumour_150 (by decide) ?_
          refine z_sub [3, 4, 2, 1, 0] rfl ?_
          exact ih y6 y8 y9 s
      · refine z_goto K (tgt := 147) dX12_rumour_112 (by decide) ?_
        refine z_iincN K (j := 4) (lv' := [(0, .ref (a.1.2.2.2 + 69)), (3, .int v3), (4, .int v4), (5, .int v5)]) ci_1 rfl dX12_rumour_147 (Nat.le_of_ble_eq_true rfl) rfl (fun y10 => ?_)
        refine z_goto K (tgt := 90) dX12_rumour_150 (by decide) ?_
        refine z_sub [1, 2, 3, 4, 0] rfl ?_
        exact ih v4 v5 y10 s
def f_X12_rumour_j32 (F : Nat) (v1 : Int32) (v2 : Int32) (v3 : Int32) (s : zM) : Option (Int32 × zM) :=
  bnd (f_X12_laysPassing F v1 v2 s) (fun _ s3 =>
  bnd (f_X12_in v3 (0 : Int32) (15 : Int32) s3) (fun r5 s4 =>
  if r5 = 0 then
    f_X12_rumour_L90 F (fun y12 y13 s11 =>
      if v3 = (-1 : Int32) then
        some (y12, s11)
      else
        some (y13, s11)) v3 F (0 : Int32) (0 : Int32) (0 : Int32) s4
  else
    if v3 = v1 then
      some ((-1 : Int32), s4)
    else
      if zin v3 16 = true then
        if (zg s4 94 (v3).toNatClampNeg) = (1000000000 : Int32) then
          some ((-2 : Int32), s4)
        else
          if zin v3 16 = true then
            some ((zg s4 95 (v3).toNatClampNeg), s4)
          else none
      else none))
set_option maxRecDepth 100000 in
set_option maxHeartbeats 4000000 in
theorem t_X12_rumour_j32 {a : zA} {d : Nat} (F : Nat) (K : zOK a cX12_rumour 7 RX12 (some .int) d) (hd : 5 ≤ d) (v1 : Int32) (v2 : Int32) (v3 : Int32) (s : zM) : zJ a 7 (zG a zφN zri) zφN 32 [(0, .ref (a.1.2.2.2 + 69)), (1, .int v1), (2, .int v2), (3, .int v3)] [] s (f_X12_rumour_j32 F v1 v2 v3 s) := by
  unfold f_X12_rumour_j32
  refine z_aload_n K 0 rfl dX12_rumour_32 ?_
  refine z_iload_n K 1 rfl dX12_rumour_33 ?_
  refine z_iload_n K 2 rfl dX12_rumour_34 ?_
  refine z_cVv (As := [.int v1, .int v2]) (rest := []) K (t_X12_laysPassing a.1 F (d - 1) (by omega) v1 v2 s) mf_X12_laysPassing ml_X12_346 (Nat.le_of_ble_eq_true rfl) (by omega) rfl rc_69 rfl (Nat.le_of_ble_eq_true rfl) dX12_rumour_35 (fun _ s3 => ?_)
  refine z_iload_n K 3 rfl dX12_rumour_38 ?_
  refine z_iconst K ci_0 dX12_rumour_39 ?_
  refine z_bipush K cb_15 dX12_rumour_40 ?_
  refine z_cSi (As := [.int v3, .int (0 : Int32), .int (15 : Int32)]) (rest := []) K (t_X12_in a.1 (d - 1) (by omega) v3 (0 : Int32) (15 : Int32) s3) mf_X12_in ml_X12_171 (Nat.le_of_ble_eq_true rfl) (by omega) rfl rfl (Nat.le_of_ble_eq_true rfl) dX12_rumour_42 (fun r5 s4 => ?_)
  refine z_if_eq K (tgt := 81) dX12_rumour_45 (by decide) ?_ ?_
  · refine z_iconst K ci_0 dX12_rumour_81 ?_
    refine z_istore K (lv' := [(4, .int (0 : Int32)), (0, .ref (a.1.2.2.2 + 69)), (1, .int v1), (2, .int v2), (3, .int v3)]) dX12_rumour_82 (Nat.le_of_ble_eq_true rfl) rfl ?_
    refine z_iconst K ci_0 dX12_rumour_84 ?_
    refine z_istore K (lv' := [(5, .int (0 : Int32)), (4, .int (0 : Int32)), (0, .ref (a.1.2.2.2 + 69)), (1, .int v1), (2, .int v2), (3, .int v3)]) dX12_rumour_85 (Nat.le_of_ble_eq_true rfl) rfl ?_
    refine z_iconst K ci_0 dX12_rumour_87 ?_
    refine z_istore K (lv' := [(6, .int (0 : Int32)), (5, .int (0 : Int32)), (4, .int (0 : Int32)), (0, .ref (a.1.2.2.2 + 69)), (1, .int v1), (2, .int v2), (3, .int v3)]) dX12_rumour_88 (Nat.le_of_ble_eq_true rfl) rfl ?_
    refine z_sub [3, 6, 2, 1, 0] rfl ?_
    refine t_X12_rumour_L90 F K hd v3 (fun y12 y13 s11 => ?_) F (0 : Int32) (0 : Int32) (0 : Int32) s4
    refine z_iload_n K 0 rfl dX12_rumour_153 ?_
    refine z_iconst K ci_m1 dX12_rumour_154 ?_
    refine z_icmp_ne K (tgt := 163) dX12_rumour_155 (by decide) ?_ ?_
    · refine z_iload K 2 rfl dX12_rumour_163 ?_
      exact z_iret K dX12_rumour_165
    · refine z_iload K 1 rfl dX12_rumour_158 ?_
      refine z_goto K (tgt := 165) dX12_rumour_160 (by decide) ?_
      exact z_iret K dX12_rumour_165
  · refine z_iload_n K 3 rfl dX12_rumour_48 ?_
    refine z_iload_n K 1 rfl dX12_rumour_49 ?_
    refine z_icmp_ne K (tgt := 57) dX12_rumour_50 (by decide) ?_ ?_
    · refine z_aload_n K 0 rfl dX12_rumour_57 ?_
      refine z_getr K fd_X12_83 ob_69_38 dX12_rumour_58 ?_
      refine z_iload_n K 3 rfl dX12_rumour_61 ?_
      refine z_iald K ar_94 dX12_rumour_62 ?_
      refine z_ldcw K cst_X12_339 dX12_rumour_63 ?_
      refine z_icmp_ne K (tgt := 74) dX12_rumour_66 (by decide) ?_ ?_
      · refine z_aload_n K 0 rfl dX12_rumour_74 ?_
        refine z_getr K fd_X12_86 ob_69_39 dX12_rumour_75 ?_
        refine z_iload_n K 3 rfl dX12_rumour_78 ?_
        refine z_iald K ar_95 dX12_rumour_79 ?_
        exact z_iret K dX12_rumour_80
      · refine z_bipush K cb_m2 dX12_rumour_69 ?_
        refine z_goto K (tgt := 80) dX12_rumour_71 (by decide) ?_
        exact z_iret K dX12_rumour_80
    · refine z_iconst K ci_m1 dX12_rumour_53 ?_
      refine z_goto K (tgt := 80) dX12_rumour_54 (by decide) ?_
      exact z_iret K dX12_rumour_80
def f_X12_rumour (F : Nat) (v1 : Int32) (v2 : Int32) (v3 : Int32) (s : zM) : Option (Int32 × zM) :=
  bnd (f_X12_starts v1 v2 s) (fun r2 s1 =>
  if r2 = 0 then
    some ((-3 : Int32), s1)
  else
    if v3 = (20 : Int32) then
      f_X12_rumour_j32 F v1 v2 v3 s1
    else
      bnd (f_X12_in v3 (-1 : Int32) ((zg s1 69 0) - (1 : Int32)) s1) (fun r15 s14 =>
      if r15 = 0 then
        some ((-3 : Int32), s14)
      else
        f_X12_rumour_j32 F v1 v2 v3 s14))
set_option maxRecDepth 100000 in
set_option maxHeartbeats 4000000 in
theorem t_X12_rumour (w : zWd) (F : Nat) (d : Nat) (hd : 5 ≤ d) (v1 : Int32) (v2 : Int32) (v3 : Int32) (s : zM) : zMt w yX12_rumour cX12_rumour 7 (some .int) d zφN zφN zri [.ref (w.2.2.2 + 69), .int v1, .int v2, .int v3] s (f_X12_rumour F v1 v2 v3 s) := by
  refine zMtN_of (own := RX12) rfl (by decide +kernel) (Nat.le_of_ble_eq_true rfl) cd_X12_rumour [(0, .ref (w.2.2.2 + 69)), (1, .int v1), (2, .int v2), (3, .int v3)] rfl ?_
  rintro a rfl K
  unfold f_X12_rumour
  refine z_aload_n K 0 rfl dX12_rumour_0 ?_
  refine z_iload_n K 1 rfl dX12_rumour_1 ?_
  refine z_iload_n K 2 rfl dX12_rumour_2 ?_
  refine z_cVi (As := [.int v1, .int v2]) (rest := []) K (t_X12_starts a.1 (d - 1) (by omega) v1 v2 s) mf_X12_starts ml_X12_343 (Nat.le_of_ble_eq_true rfl) (by omega) rfl rc_69 rfl (Nat.le_of_ble_eq_true rfl) dX12_rumour_3 (fun r2 s1 => ?_)
  refine z_if_eq K (tgt := 29) dX12_rumour_6 (by decide) ?_ ?_
  · refine z_bipush K cb_m3 dX12_rumour_29 ?_
    exact z_iret K dX12_rumour_31
  · refine z_iload_n K 3 rfl dX12_rumour_9 ?_
    refine z_bipush K cb_20 dX12_rumour_10 ?_
    refine z_icmp_eq K (tgt := 32) dX12_rumour_12 (by decide) ?_ ?_
    · exact t_X12_rumour_j32 F K hd v1 v2 v3 s1
    · refine z_iload_n K 3 rfl dX12_rumour_15 ?_
      refine z_iconst K ci_m1 dX12_rumour_16 ?_
      refine z_aload_n K 0 rfl dX12_rumour_17 ?_
      refine z_geti K fd_X12_168 ob_69_0 dX12_rumour_18 ?_
      refine z_iconst K ci_1 dX12_rumour_21 ?_
      refine z_isub K dX12_rumour_22 ?_
      refine z_cSi (As := [.int v3, .int (-1 : Int32), .int ((zg s1 69 0) - (1 : Int32))]) (rest := []) K (t_X12_in a.1 (d - 1) (by omega) v3 (-1 : Int32) ((zg s1 69 0) - (1 : Int32)) s1) mf_X12_in ml_X12_171 (Nat.le_of_ble_eq_true rfl) (by omega) rfl rfl (Nat.le_of_ble_eq_true rfl) dX12_rumour_23 (fun r15 s14 => ?_)
      refine z_if_ne K (tgt := 32) dX12_rumour_26 (by decide) ?_ ?_
      · exact t_X12_rumour_j32 F K hd v1 v2 v3 s14
      · refine z_bipush K cb_m3 dX12_rumour_29 ?_
        exact z_iret K dX12_rumour_31
def f_X12_speech (v1 : Int32) (v2 : Int32) (v3 : Int32) (s : zM) : Option (Int32 × zM) :=
  bnd (f_X12_isPlace v1 s) (fun r2 s1 =>
  if r2 = 0 then
    some ((-1 : Int32), s1)
  else
    bnd (f_X12_isMinute v2 s1) (fun r4 s3 =>
    if r4 = 0 then
      some ((-1 : Int32), s3)
    else
      bnd (f_X12_in v3 (1 : Int32) (5 : Int32) s3) (fun r6 s5 =>
      if r6 = 0 then
        some ((-1 : Int32), s5)
      else
        if (zg s5 69 31) = (10 : Int32) then
          some ((-1 : Int32), s5)
        else
          if zin (zg s5 69 31) 10 = true then
            lt (zs s5 91 ((zg s5 69 31)).toNatClampNeg v1) (fun s7 =>
            if zin (zg s7 69 31) 10 = true then
              lt (zs s7 92 ((zg s7 69 31)).toNatClampNeg v2) (fun s8 =>
              if zin (zg s8 69 31) 10 = true then
                lt (zs s8 93 ((zg s8 69 31)).toNatClampNeg v3) (fun s9 =>
                lt (zs s9 69 31 ((zg s9 69 31) + (1 : Int32))) (fun s10 =>
                some ((zg s10 69 31), s10)))
              else none)
            else none)
          else none)))
set_option maxRecDepth 100000 in
set_option maxHeartbeats 4000000 in
theorem t_X12_speech (w : zWd) (d : Nat) (hd : 1 ≤ d) (v1 : Int32) (v2 : Int32) (v3 : Int32) (s : zM) : zMt w yX12_speech cX12_speech 4 (some .int) d zφN zφN zri [.ref (w.2.2.2 + 69), .int v1, .int v2, .int v3] s (f_X12_speech v1 v2 v3 s) := by
  refine zMtN_of (own := RX12) rfl (by decide +kernel) (Nat.le_of_ble_eq_true rfl) cd_X12_speech [(0, .ref (w.2.2.2 + 69)), (1, .int v1), (2, .int v2), (3, .int v3)] rfl ?_
  rintro a rfl K
  unfold f_X12_speech
  refine z_iload_n K 1 rfl dX12_speech_0 ?_
  refine z_cSi (As := [.int v1]) (rest := []) K (t_X12_isPlace a.1 (d - 1) (by omega) v1 s) mf_X12_isPlace ml_X12_333 (Nat.le_of_ble_eq_true rfl) (by omega) rfl rfl (Nat.le_of_ble_eq_true rfl) dX12_speech_1 (fun r2 s1 => ?_)
  refine z_if_eq K (tgt := 32) dX12_speech_4 (by decide) ?_ ?_
  · refine z_iconst K ci_m1 dX12_speech_32 ?_
    exact z_iret K dX12_speech_33
  · refine z_iload_n K 2 rfl dX12_speech_7 ?_
    refine z_cSi (As := [.int v2]) (rest := []) K (t_X12_isMinute a.1 (d - 1) (by omega) v2 s1) mf_X12_isMinute ml_X12_330 (Nat.le_of_ble_eq_true rfl) (by omega) rfl rfl (Nat.le_of_ble_eq_true rfl) dX12_speech_8 (fun r4 s3 => ?_)
    refine z_if_eq K (tgt := 32) dX12_speech_11 (by decide) ?_ ?_
    · refine z_iconst K ci_m1 dX12_speech_32 ?_
      exact z_iret K dX12_speech_33
    · refine z_iload_n K 3 rfl dX12_speech_14 ?_
      refine z_iconst K ci_1 dX12_speech_15 ?_
      refine z_iconst K ci_5 dX12_speech_16 ?_
      refine z_cSi (As := [.int v3, .int (1 : Int32), .int (5 : Int32)]) (rest := []) K (t_X12_in a.1 (d - 1) (by omega) v3 (1 : Int32) (5 : Int32) s3) mf_X12_in ml_X12_171 (Nat.le_of_ble_eq_true rfl) (by omega) rfl rfl (Nat.le_of_ble_eq_true rfl) dX12_speech_17 (fun r6 s5 => ?_)
      refine z_if_eq K (tgt := 32) dX12_speech_20 (by decide) ?_ ?_
      · refine z_iconst K ci_m1 dX12_speech_32 ?_
        exact z_iret K dX12_speech_33
      · refine z_aload_n K 0 rfl dX12_speech_23 ?_
        refine z_geti K fd_X12_349 ob_69_31 dX12_speech_24 ?_
        refine z_bipush K cb_10 dX12_speech_27 ?_
        refine z_icmp_ne K (tgt := 34) dX12_speech_29 (by decide) ?_ ?_
        · refine z_aload_n K 0 rfl dX12_speech_34 ?_
          refine z_getr K fd_X12_74 ob_69_35 dX12_speech_35 ?_
          refine z_aload_n K 0 rfl dX12_speech_38 ?_
          refine z_geti K fd_X12_349 ob_69_31 dX12_speech_39 ?_
          refine z_iload_n K 1 rfl dX12_speech_42 ?_
          refine z_iast K ar_91 dX12_speech_43 ?_
          refine z_ltm (fun s7 => ?_)
          refine z_aload_n K 0 rfl dX12_speech_44 ?_
          refine z_getr K fd_X12_77 ob_69_36 dX12_speech_45 ?_
          refine z_aload_n K 0 rfl dX12_speech_48 ?_
          refine z_geti K fd_X12_349 ob_69_31 dX12_speech_49 ?_
          refine z_iload_n K 2 rfl dX12_speech_52 ?_
          refine z_iast K ar_92 dX12_speech_53 ?_
          refine z_ltm (fun s8 => ?_)
          refine z_aload_n K 0 rfl dX12_speech_54 ?_
          refine z_getr K fd_X12_80 ob_69_37 dX12_speech_55 ?_
          refine z_aload_n K 0 rfl dX12_speech_58 ?_
          refine z_geti K fd_X12_349 ob_69_31 dX12_speech_59 ?_
          refine z_iload_n K 3 rfl dX12_speech_62 ?_
          refine z_iast K ar_93 dX12_speech_63 ?_
          refine z_ltm (fun s9 => ?_)
          refine z_aload_n K 0 rfl dX12_speech_64 ?_
          refine z_aload_n K 0 rfl dX12_speech_65 ?_
          refine z_geti K fd_X12_349 ob_69_31 dX12_speech_66 ?_
          refine z_iconst K ci_1 dX12_speech_69 ?_
          refine z_iadd K dX12_speech_70 ?_
          refine z_puti K fw_X12_349 ob_69_31 dX12_speech_71 ?_
          refine z_ltm (fun s10 => ?_)
          refine z_aload_n K 0 rfl dX12_speech_74 ?_
          refine z_geti K fd_X12_349 ob_69_31 dX12_speech_75 ?_
          exact z_iret K dX12_speech_78
        · refine z_iconst K ci_m1 dX12_speech_32 ?_
          exact z_iret K dX12_speech_33
def f_X12_heard_L21 (F : Nat) (k77 : Int32 → zM → Option (Int32 × zM)) (v1 : Int32) (v2 : Int32) : Nat → Int32 → Int32 → zM → Option (Int32 × zM)
  | 0, _, _, _ => none
  | n + 1, v3, v4, s =>
    if v4 < (zg s 69 31) then
      if zin v4 10 = true then
        bnd (f_X12_size ((v1 / (2 : Int32)) - (zg s 91 (v4).toNatClampNeg)) s) (fun r6 s5 =>
        if zin v4 10 = true then
          if zin v4 10 = true then
            if ((zg s5 93 (v4).toNatClampNeg) * (v2 - (zg s5 92 (v4).toNatClampNeg))) < r6 then
              lt (v4 + (1 : Int32)) (fun y7 =>
              f_X12_heard_L21 F k77 v1 v2 n v3 y7 s5)
            else
              lt ((v3 ||| ((1 : Int32) <<< (v4 &&& 31)))) (fun y8 =>
              lt (v4 + (1 : Int32)) (fun y9 =>
              f_X12_heard_L21 F k77 v1 v2 n y8 y9 s5))
          else none
        else none)
      else none
    else
      k77 v3 s
set_option maxRecDepth 100000 in
set_option maxHeartbeats 4000000 in
theorem t_X12_heard_L21 {a : zA} {d : Nat} (F : Nat) (K : zOK a cX12_heard 5 RX12 (some .int) d) (hd : 1 ≤ d) {k77 : Int32 → zM → Option (Int32 × zM)} (v1 : Int32) (v2 : Int32) (h77 : ∀ (v3 : Int32) (s : zM), zJ a 5 (zG a zφN zri) zφN 77 [(3, .int v3)] [] s (k77 v3 s)) : ∀ (n : Nat) (v3 : Int32) (v4 : Int32) (s : zM), zJ a 5 (zG a zφN zri) zφN 21 [(0, .ref (a.1.2.2.2 + 69)), (1, .int v1), (2, .int v2), (3, .int v3), (4, .int v4)] [] s (f_X12_heard_L21 F k77 v1 v2 n v3 v4 s) := by
  intro n
  induction n with
  | zero => intros; exact z_none
  | succ n ih =>
    intro v3 v4 s
    rw [f_X12_heard_L21]
    refine z_iload K 4 rfl dX12_heard_21 ?_
    refine z_aload_n K 0 rfl dX12_heard_23 ?_
    refine z_geti K fd_X12_349 ob_69_31 dX12_heard_24 ?_
    refine z_icmp_ge K (tgt := 77) dX12_heard_27 (by decide) ?_ ?_
    · refine z_sub [3] rfl ?_
      exact h77 v3 s
    · refine z_iload_n K 1 rfl dX12_heard_30 ?_
      refine z_iconst K ci_2 dX12_heard_31 ?_
      refine z_idivc K (by decide) dX12_heard_32 ?_
      refine z_aload_n K 0 rfl dX12_heard_33 ?_
      refine z_getr K fd_X12_74 ob_69_35 dX12_heard_34 ?_
      refine z_iload K 4 rfl dX12_heard_37 ?_
      refine z_iald K ar_91 dX12_heard_39 ?_
      refine z_isub K dX12_heard_40 ?_
      refine z_cSi (As := [.int ((v1 / (2 : Int32)) - (zg s 91 (v4).toNatClampNeg))]) (rest := []) K (t_X12_size a.1 (d - 1) (by omega) ((v1 / (2 : Int32)) - (zg s 91 (v4).toNatClampNeg)) s) mf_X12_size ml_X12_297 (Nat.le_of_ble_eq_true rfl) (by omega) rfl rfl (Nat.le_of_ble_eq_true rfl) dX12_heard_41 (fun r6 s5 => ?_)
      refine z_aload_n K 0 rfl dX12_heard_44 ?_
      refine z_getr K fd_X12_80 ob_69_37 dX12_heard_45 ?_
      refine z_iload K 4 rfl dX12_heard_48 ?_
      refine z_iald K ar_93 dX12_heard_50 ?_
      refine z_iload_n K 2 rfl dX12_heard_51 ?_
      refine z_aload_n K 0 rfl dX12_heard_52 ?_
      refine z_getr K fd_X12_77 ob_69_36 dX12_heard_53 ?_
      refine z_iload K 4 rfl dX12_heard_56 ?_
      refine z_iald K ar_92 dX12_heard_58 ?_
      refine z_isub K dX12_heard_59 ?_
      refine z_imul K dX12_heard_60 ?_
      refine z_icmp_gt K (tgt := 71) dX12_heard_61 (by decide) ?_ ?_
      · refine z_iincN K (j := 4) (lv' := [(0, .ref (a.1.2.2.2 + 69)), (1, .int v1), (2, .int v2), (3, .int v3)]) ci_1 rfl dX12_heard_71 (Nat.le_of_ble_eq_true rfl) rfl (fun y7 => ?_)
        refine z_goto K (tgt := 21) dX12_heard_74 (by decide) ?_
        refine z_sub [1, 2, 3, 4, 0] rfl ?_
        exact ih v3 y7 s5
      · refine z_iload_n K 3 rfl dX12_heard_64 ?_
        refine z_iconst K ci_1 dX12_heard_65 ?_
        refine z_iload K 4 rfl dX12_heard_66 ?_
        refine z_ishl K dX12_heard_68 ?_
        refine z_ior K dX12_heard_69 ?_
        refine z_topi (fun y8 => ?_)
        refine z_istore_n K (lv' := [(3, .int y8), (0, .ref (a.1.2.2.2 + 69)), (1, .int v1), (2, .int v2), (4, .int v4)]) dX12_heard_70 rfl (Nat.le_of_ble_eq_true rfl) rfl ?_
        refine z_iincN K (j := 4) (lv' := [(3, .int y8), (0, .ref (a.1.2.2.2 + 69)), (1, .int v1), (2, .int v2)]) ci_1 rfl dX12_heard_71 (Nat.le_of_ble_eq_true rfl) rfl (fun y9 => ?_)
        refine z_goto K (tgt := 21) dX12_heard_74 (by decide) ?_
        refine z_sub [2, 3, 4, 1, 0] rfl ?_
        exact ih y8 y9 s5
def f_X12_heard (F : Nat) (v1 : Int32) (v2 : Int32) (s : zM) : Option (Int32 × zM) :=
  bnd (f_X12_isSeat v1 s) (fun r2 s1 =>
  if r2 = 0 then
    some ((-1 : Int32), s1)
  else
    bnd (f_X12_isMinute v2 s1) (fun r4 s3 =>
    if r4 = 0 then
      some ((-1 : Int32), s3)
    else
      f_X12_heard_L21 F (fun y11 s10 =>
        some (y11, s10)) v1 v2 F (0 : Int32) (0 : Int32) s3))
set_option maxRecDepth 100000 in
set_option maxHeartbeats 4000000 in
theorem t_X12_heard (w : zWd) (F : Nat) (d : Nat) (hd : 1 ≤ d) (v1 : Int32) (v2 : Int32) (s : zM) : zMt w yX12_heard cX12_heard 5 (some .int) d zφN zφN zri [.ref (w.2.2.2 + 69), .int v1, .int v2] s (f_X12_heard F v1 v2 s) := by
  refine zMtN_of (own := RX12) rfl (by decide +kernel) (Nat.le_of_ble_eq_true rfl) cd_X12_heard [(0, .ref (w.2.2.2 + 69)), (1, .int v1), (2, .int v2)] rfl ?_
  rintro a rfl K
  unfold f_X12_heard
  refine z_iload_n K 1 rfl dX12_heard_0 ?_
  refine z_cSi (As := [.int v1]) (rest := []) K (t_X12_isSeat a.1 (d - 1) (by omega) v1 s) mf_X12_isSeat ml_X12_175 (Nat.le_of_ble_eq_true rfl) (by omega) rfl rfl (Nat.le_of_ble_eq_true rfl) dX12_heard_1 (fun r2 s1 => ?_)
  refine z_if_eq K (tgt := 14) dX12_heard_4 (by decide) ?_ ?_
  · refine z_iconst K ci_m1 dX12_heard_14 ?_
    exact z_iret K dX12_heard_15
  · refine z_iload_n K 2 rfl dX12_heard_7 ?_
    refine z_cSi (As := [.int v2]) (rest := []) K (t_X12_isMinute a.1 (d - 1) (by omega) v2 s1) mf_X12_isMinute ml_X12_330 (Nat.le_of_ble_eq_true rfl) (by omega) rfl rfl (Nat.le_of_ble_eq_true rfl) dX12_heard_8 (fun r4 s3 => ?_)
    refine z_if_ne K (tgt := 16) dX12_heard_11 (by decide) ?_ ?_
    · refine z_iconst K ci_0 dX12_heard_16 ?_
      refine z_istore_n K (lv' := [(3, .int (0 : Int32)), (0, .ref (a.1.2.2.2 + 69)), (1, .int v1), (2, .int v2)]) dX12_heard_17 rfl (Nat.le_of_ble_eq_true rfl) rfl ?_
      refine z_iconst K ci_0 dX12_heard_18 ?_
      refine z_istore K (lv' := [(4, .int (0 : Int32)), (3, .int (0 : Int32)), (0, .ref (a.1.2.2.2 + 69)), (1, .int v1), (2, .int v2)]) dX12_heard_19 (Nat.le_of_ble_eq_true rfl) rfl ?_
      refine z_sub [2, 3, 4, 1, 0] rfl ?_
      refine t_X12_heard_L21 F K hd v1 v2 (fun y11 s10 => ?_) F (0 : Int32) (0 : Int32) s3
      refine z_iload_n K 0 rfl dX12_heard_77 ?_
      exact z_iret K dX12_heard_78
    · refine z_iconst K ci_m1 dX12_heard_14 ?_
      exact z_iret K dX12_heard_15
def f_X12_walks_j143 (F : Nat) (k29 : Int32 → Int32 → Int32 → zM → Option (Int32 × zM)) (v2 : Int32) (v3 : Int32) (v5 : Int32) (v6 : Int32) (v7 : Int32) (v9 : Int32) (w0 : Int32) (w1 : Int32) (s : zM) : Option (Int32 × zM) :=
  if w1 = w0 then
    lt ((v6 ||| ((1 : Int32) <<< (v9 &&& 31)))) (fun y10 =>
    if zin v7 7 = true then
      bnd (f_X12_seenBy F (zg s 96 (v7).toNatClampNeg) v9 s) (fun r12 s11 =>
      lt (zsl s11 1 ((zgl s 1) * (((1000 : Int32) - r12)).toInt64)) (fun s13 =>
      if zin (v7 + (1 : Int32)) 7 = true then
        lt (zs s13 96 ((v7 + (1 : Int32))).toNatClampNeg v9) (fun s14 =>
        lt (v7 + (1 : Int32)) (fun y15 =>
        k29 v5 y10 y15 s14))
      else none))
    else none)
  else
    some ((0 : Int32), s)
set_option maxRecDepth 100000 in
set_option maxHeartbeats 4000000 in
theorem t_X12_walks_j143 {a : zA} {d : Nat} (F : Nat) (K : zOK a cX12_walks 10 RX12 (some .boolean) d) (hd : 4 ≤ d) {k29 : Int32 → Int32 → Int32 → zM → Option (Int32 × zM)} (v2 : Int32) (v3 : Int32) (h29 : ∀ (v5 : Int32) (v6 : Int32) (v7 : Int32) (s : zM), zJ a 10 (zG a zφN zri) zφN 29 [(0, .ref (a.1.2.2.2 + 69)), (2, .int v2), (3, .int v3), (5, .int v5), (6, .int v6), (7, .int v7)] [] s (k29 v5 v6 v7 s)) (v5 : Int32) (v6 : Int32) (v7 : Int32) (v9 : Int32) (w0 : Int32) (w1 : Int32) (s : zM) : zJ a 10 (zG a zφN zri) zφN 143 [(0, .ref (a.1.2.2.2 + 69)), (2, .int v2), (3, .int v3), (5, .int v5), (6, .int v6), (7, .int v7), (9, .int v9)] [.int w0, .int w1] s (f_X12_walks_j143 F k29 v2 v3 v5 v6 v7 v9 w0 w1 s) := by
  unfold f_X12_walks_j143
  refine z_icmp_eq K (tgt := 148) dX12_walks_143 (by decide) ?_ ?_
  · refine z_iload K 4 rfl dX12_walks_148 ?_
    refine z_iconst K ci_1 dX12_walks_150 ?_
    refine z_iload K 6 rfl dX12_walks_151 ?_
    refine z_ishl K dX12_walks_153 ?_
    refine z_ior K dX12_walks_154 ?_
    refine z_topi (fun y10 => ?_)
    refine z_istore K (lv' := [(6, .int y10), (0, .ref (a.1.2.2.2 + 69)), (2, .int v2), (3, .int v3), (5, .int v5), (7, .int v7), (9, .int v9)]) dX12_walks_155 (Nat.le_of_ble_eq_true rfl) rfl ?_
    refine z_aload_n K 1 rfl dX12_walks_157 ?_
    refine z_aload_n K 1 rfl dX12_walks_158 ?_
    refine z_getl K fd_X12_355 ob_69_44 dX12_walks_159 ?_
    refine z_sipush K cs_1000 dX12_walks_162 ?_
    refine z_aload_n K 1 rfl dX12_walks_165 ?_
    refine z_aload_n K 1 rfl dX12_walks_166 ?_
    refine z_getr K fd_X12_89 ob_69_40 dX12_walks_167 ?_
    refine z_iload K 5 rfl dX12_walks_170 ?_
    refine z_iald K ar_96 dX12_walks_172 ?_
    refine z_iload K 6 rfl dX12_walks_173 ?_
    refine z_cVi (As := [.int (zg s 96 (v7).toNatClampNeg), .int v9]) (rest := [.int (1000 : Int32), .long (zgl s 1), .ref (a.1.2.2.2 + 69)]) K (t_X12_seenBy a.1 F (d - 1) (by omega) (zg s 96 (v7).toNatClampNeg) v9 s) mf_X12_seenBy ml_X12_321 (Nat.le_of_ble_eq_true rfl) (by omega) rfl rc_69 rfl (Nat.le_of_ble_eq_true rfl) dX12_walks_175 (fun r12 s11 => ?_)
    refine z_isub K dX12_walks_178 ?_
    refine z_i2l K dX12_walks_179 ?_
    refine z_lmul K dX12_walks_180 ?_
    refine z_putl K fw_X12_355 ob_69_44 (zone_of on_1) dX12_walks_181 ?_
    refine z_ltm (fun s13 => ?_)
    refine z_aload_n K 1 rfl dX12_walks_184 ?_
    refine z_getr K fd_X12_89 ob_69_40 dX12_walks_185 ?_
    refine z_iload K 5 rfl dX12_walks_188 ?_
    refine z_iconst K ci_1 dX12_walks_190 ?_
    refine z_iadd K dX12_walks_191 ?_
    refine z_iload K 6 rfl dX12_walks_192 ?_
    refine z_iast K ar_96 dX12_walks_194 ?_
    refine z_ltm (fun s14 => ?_)
    refine z_iincN K (j := 5) (lv' := [(6, .int y10), (0, .ref (a.1.2.2.2 + 69)), (2, .int v2), (3, .int v3), (5, .int v5), (9, .int v9)]) ci_1 rfl dX12_walks_195 (Nat.le_of_ble_eq_true rfl) rfl (fun y15 => ?_)
    refine z_goto K (tgt := 29) dX12_walks_198 (by decide) ?_
    refine z_sub [2, 3, 4, 5, 1, 0] rfl ?_
    exact h29 v5 y10 y15 s14
  · refine z_iconst K ci_0 dX12_walks_146 ?_
    exact z_zret (Or.inl rfl) K dX12_walks_147
def f_X12_walks_j130 (F : Nat) (k29 : Int32 → Int32 → Int32 → zM → Option (Int32 × zM)) (v2 : Int32) (v3 : Int32) (v5 : Int32) (v6 : Int32) (v7 : Int32) (v9 : Int32) (w0 : Int32) (s : zM) : Option (Int32 × zM) :=
  if v7 = (v3 - (1 : Int32)) then
    f_X12_walks_j143 F k29 v2 v3 v5 v6 v7 v9 (1 : Int32) w0 s
  else
    f_X12_walks_j143 F k29 v2 v3 v5 v6 v7 v9 (0 : Int32) w0 s
set_option maxRecDepth 100000 in
set_option maxHeartbeats 4000000 in
theorem t_X12_walks_j130 {a : zA} {d : Nat} (F : Nat) (K : zOK a cX12_walks 10 RX12 (some .boolean) d) (hd : 4 ≤ d) {k29 : Int32 → Int32 → Int32 → zM → Option (Int32 × zM)} (v2 : Int32) (v3 : Int32) (h29 : ∀ (v5 : Int32) (v6 : Int32) (v7 : Int32) (s : zM), zJ a 10 (zG a zφN zri) zφN 29 [(0, .ref (a.1.2.2.2 + 69)), (2, .int v2), (3, .int v3), (5, .int v5), (6, .int v6), (7, .int v7)] [] s (k29 v5 v6 v7 s)) (v5 : Int32) (v6 : Int32) (v7 : Int32) (v9 : Int32) (w0 : Int32) (s : zM) : zJ a 10 (zG a zφN zri) zφN 130 [(0, .ref (a.1.2.2.2 + 69)), (2, .int v2), (3, .int v3), (5, .int v5), (6, .int v6), (7, .int v7), (9, .int v9)] [.int w0] s (f_X12_walks_j130 F k29 v2 v3 v5 v6 v7 v9 w0 s) := by
  unfold f_X12_walks_j130
  refine z_iload K 5 rfl dX12_walks_130 ?_
  refine z_iload_n K 2 rfl dX12_walks_132 ?_
  refine z_iconst K ci_1 dX12_walks_133 ?_
  refine z_isub K dX12_walks_134 ?_
  refine z_icmp_ne K (tgt := 142) dX12_walks_135 (by decide) ?_ ?_
  · refine z_iconst K ci_0 dX12_walks_142 ?_
    exact t_X12_walks_j143 F K hd v2 v3 h29 v5 v6 v7 v9 (0 : Int32) w0 s
  · refine z_iconst K ci_1 dX12_walks_138 ?_
    refine z_goto K (tgt := 143) dX12_walks_139 (by decide) ?_
    exact t_X12_walks_j143 F K hd v2 v3 h29 v5 v6 v7 v9 (1 : Int32) w0 s
def f_X12_walks_j100 (F : Nat) (k29 : Int32 → Int32 → Int32 → zM → Option (Int32 × zM)) (v2 : Int32) (v3 : Int32) (v5 : Int32) (v6 : Int32) (v7 : Int32) (w0 : Int32) (s : zM) : Option (Int32 × zM) :=
  if w0 = (-1 : Int32) then
    some ((0 : Int32), s)
  else
    if ((v6 >>> (w0 &&& 31)) &&& (1 : Int32)) = (1 : Int32) then
      some ((0 : Int32), s)
    else
      if w0 = v2 then
        f_X12_walks_j130 F k29 v2 v3 v5 v6 v7 w0 (1 : Int32) s
      else
        f_X12_walks_j130 F k29 v2 v3 v5 v6 v7 w0 (0 : Int32) s
set_option maxRecDepth 100000 in
set_option maxHeartbeats 4000000 in
theorem t_X12_walks_j100 {a : zA} {d : Nat} (F : Nat) (K : zOK a cX12_walks 10 RX12 (some .boolean) d) (hd : 4 ≤ d) {k29 : Int32 → Int32 → Int32 → zM → Option (Int32 × zM)} (v2 : Int32) (v3 : Int32) (h29 : ∀ (v5 : Int32) (v6 : Int32) (v7 : Int32) (s : zM), zJ a 10 (zG a zφN zri) zφN 29 [(0, .ref (a.1.2.2.2 + 69)), (2, .int v2), (3, .int v3), (5, .int v5), (6, .int v6), (7, .int v7)] [] s (k29 v5 v6 v7 s)) (v5 : Int32) (v6 : Int32) (v7 : Int32) (w0 : Int32) (s : zM) : zJ a 10 (zG a zφN zri) zφN 100 [(0, .ref (a.1.2.2.2 + 69)), (2, .int v2), (3, .int v3), (5, .int v5), (6, .int v6), (7, .int v7)] [.int w0] s (f_X12_walks_j100 F k29 v2 v3 v5 v6 v7 w0 s) := by
  unfold f_X12_walks_j100
  refine z_istore K (lv' := [(9, .int w0), (0, .ref (a.1.2.2.2 + 69)), (2, .int v2), (3, .int v3), (5, .int v5), (6, .int v6), (7, .int v7)]) dX12_walks_100 (Nat.le_of_ble_eq_true rfl) rfl ?_
  refine z_iload K 0 rfl dX12_walks_102 ?_
  refine z_iconst K ci_m1 dX12_walks_104 ?_
  refine z_icmp_eq K (tgt := 146) dX12_walks_105 (by decide) ?_ ?_
  · refine z_iconst K ci_0 dX12_walks_146 ?_
    exact z_zret (Or.inl rfl) K dX12_walks_147
  · refine z_iload K 5 rfl dX12_walks_108 ?_
    refine z_iload K 0 rfl dX12_walks_110 ?_
    refine z_ishr K dX12_walks_112 ?_
    refine z_iconst K ci_1 dX12_walks_113 ?_
    refine z_iand K dX12_walks_114 ?_
    refine z_iconst K ci_1 dX12_walks_115 ?_
    refine z_icmp_eq K (tgt := 146) dX12_walks_116 (by decide) ?_ ?_
    · refine z_iconst K ci_0 dX12_walks_146 ?_
      exact z_zret (Or.inl rfl) K dX12_walks_147
    · refine z_iload K 0 rfl dX12_walks_119 ?_
      refine z_iload_n K 2 rfl dX12_walks_121 ?_
      refine z_icmp_ne K (tgt := 129) dX12_walks_122 (by decide) ?_ ?_
      · refine z_iconst K ci_0 dX12_walks_129 ?_
        refine z_sub [1, 2, 3, 4, 5, 6, 0] rfl ?_
        exact t_X12_walks_j130 F K hd v2 v3 h29 v5 v6 v7 w0 (0 : Int32) s
      · refine z_iconst K ci_1 dX12_walks_125 ?_
        refine z_goto K (tgt := 130) dX12_walks_126 (by decide) ?_
        refine z_sub [1, 2, 3, 4, 5, 6, 0] rfl ?_
        exact t_X12_walks_j130 F K hd v2 v3 h29 v5 v6 v7 w0 (1 : Int32) s
def f_X12_walks_L29 (F : Nat) (k201 : zM → Option (Int32 × zM)) (v2 : Int32) (v3 : Int32) : Nat → Int32 → Int32 → Int32 → zM → Option (Int32 × zM)
  | 0, _, _, _, _ => none
  | n + 1, v5, v6, v7, s =>
    if v7 < (6 : Int32) then
      if v7 < v3 then
        if zin v7 7 = true then
          if zin (zg s 96 (v7).toNatClampNeg) 16 = true then
            bnd (f_X12_beside (zg s 71 ((zg s 96 (v7).toNatClampNeg)).toNatClampNeg) (v5 - v5 / (3 : Int32) * (3 : Int32)) s) (fun r6 s5 =>
            lt ((v5 / (3 : Int32))) (fun y7 =>
            if r6 = (-1 : Int32) then
              f_X12_walks_j100 F (f_X12_walks_L29 F k201 v2 v3 n) v2 v3 y7 v6 v7 (-1 : Int32) s5
            else
              bnd (f_X12_guestAt F r6 s5) (fun r9 s8 =>
              f_X12_walks_j100 F (f_X12_walks_L29 F k201 v2 v3 n) v2 v3 y7 v6 v7 r9 s8)))
          else none
        else none
      else
        lt (zsl s 1 ((zgl s 1) * (1000 : Int64))) (fun s16 =>
        lt (v7 + (1 : Int32)) (fun y17 =>
        f_X12_walks_L29 F k201 v2 v3 n v5 v6 y17 s16))
    else
      k201 s
set_option maxRecDepth 100000 in
set_option maxHeartbeats 4000000 in
theorem t_X12_walks_L29 {a : zA} {d : Nat} (F : Nat) (K : zOK a cX12_walks 10 RX12 (some .boolean) d) (hd : 4 ≤ d) {k201 : zM → Option (Int32 × zM)} (v2 : Int32) (v3 : Int32) (h201 : ∀ (s : zM), zJ a 10 (zG a zφN zri) zφN 201 [] [] s (k201 s)) : ∀ (n : Nat) (v5 : Int32) (v6 : Int32) (v7 : Int32) (s : zM), zJ a 10 (zG a zφN zri) zφN 29 [(0, .ref (a.1.2.2.2 + 69)), (2, .int v2), (3, .int v3), (5, .int v5), (6, .int v6), (7, .int v7)] [] s (f_X12_walks_L29 F k201 v2 v3 n v5 v6 v7 s) := by
  intro n
  induction n with
  | zero => intros; exact z_none
  | succ n ih =>
    intro v5 v6 v7 s
    rw [f_X12_walks_L29]
    refine z_iload K 5 rfl dX12_walks_29 ?_
    refine z_bipush K cb_6 dX12_walks_31 ?_
    refine z_icmp_ge K (tgt := 201) dX12_walks_33 (by decide) ?_ ?_
    · refine z_sub [] rfl ?_
      exact h201 s
    · refine z_iload K 5 rfl dX12_walks_36 ?_
      refine z_iload_n K 2 rfl dX12_walks_38 ?_
      refine z_icmp_lt K (tgt := 57) dX12_walks_39 (by decide) ?_ ?_
      · refine z_aload_n K 0 rfl dX12_walks_57 ?_
        refine z_getr K fd_X12_13 ob_69_3 dX12_walks_58 ?_
        refine z_aload_n K 0 rfl dX12_walks_61 ?_
        refine z_getr K fd_X12_89 ob_69_40 dX12_walks_62 ?_
        refine z_iload K 5 rfl dX12_walks_65 ?_
        refine z_iald K ar_96 dX12_walks_67 ?_
        refine z_iald K ar_71 dX12_walks_68 ?_
        refine z_iload K 3 rfl dX12_walks_69 ?_
        refine z_iconst K ci_3 dX12_walks_71 ?_
        refine z_iremc K (by decide) dX12_walks_72 ?_
        refine z_cSi (As := [.int (zg s 71 ((zg s 96 (v7).toNatClampNeg)).toNatClampNeg), .int (v5 - v5 / (3 : Int32) * (3 : Int32))]) (rest := []) K (t_X12_beside a.1 (d - 1) (by omega) (zg s 71 ((zg s 96 (v7).toNatClampNeg)).toNatClampNeg) (v5 - v5 / (3 : Int32) * (3 : Int32)) s) mf_X12_beside ml_X12_306 (Nat.le_of_ble_eq_true rfl) (by omega) rfl rfl (Nat.le_of_ble_eq_true rfl) dX12_walks_73 (fun r6 s5 => ?_)
        refine z_istore K (lv' := [(8, .int r6), (0, .ref (a.1.2.2.2 + 69)), (2, .int v2), (3, .int v3), (5, .int v5), (6, .int v6), (7, .int v7)]) dX12_walks_76 (Nat.le_of_ble_eq_true rfl) rfl ?_
        refine z_iload K 4 rfl dX12_walks_78 ?_
        refine z_iconst K ci_3 dX12_walks_80 ?_
        refine z_idivc K (by decide) dX12_walks_81 ?_
        refine z_topi (fun y7 => ?_)
        refine z_istore K (lv' := [(5, .int y7), (8, .int r6), (0, .ref (a.1.2.2.2 + 69)), (2, .int v2), (3, .int v3), (6, .int v6), (7, .int v7)]) dX12_walks_82 (Nat.le_of_ble_eq_true rfl) rfl ?_
        refine z_iload K 1 rfl dX12_walks_84 ?_
        refine z_iconst K ci_m1 dX12_walks_86 ?_
        refine z_icmp_ne K (tgt := 94) dX12_walks_87 (by decide) ?_ ?_
        · refine z_aload_n K 2 rfl dX12_walks_94 ?_
          refine z_iload K 1 rfl dX12_walks_95 ?_
          refine z_cVi (As := [.int r6]) (rest := []) K (t_X12_guestAt a.1 F (d - 1) (by omega) r6 s5) mf_X12_guestAt ml_X12_179 (Nat.le_of_ble_eq_true rfl) (by omega) rfl rc_69 rfl (Nat.le_of_ble_eq_true rfl) dX12_walks_97 (fun r9 s8 => ?_)
          refine z_sub [2, 3, 4, 0, 5, 6] rfl ?_
          exact t_X12_walks_j100 F K hd v2 v3 ih y7 v6 v7 r9 s8
        · refine z_iconst K ci_m1 dX12_walks_90 ?_
          refine z_goto K (tgt := 100) dX12_walks_91 (by decide) ?_
          refine z_sub [2, 3, 4, 0, 5, 6] rfl ?_
          exact t_X12_walks_j100 F K hd v2 v3 ih y7 v6 v7 (-1 : Int32) s5
      · refine z_aload_n K 0 rfl dX12_walks_42 ?_
        refine z_aload_n K 0 rfl dX12_walks_43 ?_
        refine z_getl K fd_X12_355 ob_69_44 dX12_walks_44 ?_
        refine z_ldc2 K cst_X12_359 dX12_walks_47 ?_
        refine z_lmul K dX12_walks_50 ?_
        refine z_putl K fw_X12_355 ob_69_44 (zone_of on_1) dX12_walks_51 ?_
        refine z_ltm (fun s16 => ?_)
        refine z_goto K (tgt := 195) dX12_walks_54 (by decide) ?_
        refine z_iincN K (j := 5) (lv' := [(0, .ref (a.1.2.2.2 + 69)), (2, .int v2), (3, .int v3), (5, .int v5), (6, .int v6)]) ci_1 rfl dX12_walks_195 (Nat.le_of_ble_eq_true rfl) rfl (fun y17 => ?_)
        refine z_goto K (tgt := 29) dX12_walks_198 (by decide) ?_
        refine z_sub [1, 2, 3, 4, 5, 0] rfl ?_
        exact ih v5 v6 y17 s16
def f_X12_walks (F : Nat) (v1 : Int32) (v2 : Int32) (v3 : Int32) (v4 : Int32) (s : zM) : Option (Int32 × zM) :=
  lt (((1 : Int32) <<< (v1 &&& 31))) (fun y1 =>
  if zin (0 : Int32) 7 = true then
    lt (zs s 96 ((0 : Int32)).toNatClampNeg v1) (fun s2 =>
    lt (zs s2 69 42 v3) (fun s3 =>
    lt (zsl s3 1 (1 : Int64)) (fun s4 =>
    f_X12_walks_L29 F (fun s18 =>
      some ((1 : Int32), s18)) v2 v3 F v4 y1 (0 : Int32) s4)))
  else none)
set_option maxRecDepth 100000 in
set_option maxHeartbeats 4000000 in
theorem t_X12_walks (w : zWd) (F : Nat) (d : Nat) (hd : 4 ≤ d) (v1 : Int32) (v2 : Int32) (v3 : Int32) (v4 : Int32) (s : zM) : zMt w yX12_walks cX12_walks 10 (some .boolean) d zφN zφN zri [.ref (w.2.2.2 + 69), .int v1, .int v2, .int v3, .int v4] s (f_X12_walks F v1 v2 v3 v4 s) := by
  refine zMtN_of (own := RX12) rfl (by decide +kernel) (Nat.le_of_ble_eq_true rfl) cd_X12_walks [(0, .ref (w.2.2.2 + 69)), (1, .int v1), (2, .int v2), (3, .int v3), (4, .int v4)] rfl ?_
  rintro a rfl K
  unfold f_X12_walks
  refine z_iload K 4 rfl dX12_walks_0 ?_
  refine z_istore K (lv' := [(5, .int v4), (0, .ref (a.1.2.2.2 + 69)), (1, .int v1), (2, .int v2), (3, .int v3), (4, .int v4)]) dX12_walks_2 (Nat.le_of_ble_eq_true rfl) rfl ?_
  refine z_iconst K ci_1 dX12_walks_4 ?_
  refine z_iload_n K 2 rfl dX12_walks_5 ?_
  refine z_ishl K dX12_walks_6 ?_
  refine z_topi (fun y1 => ?_)
  refine z_istore K (lv' := [(6, .int y1), (5, .int v4), (0, .ref (a.1.2.2.2 + 69)), (1, .int v1), (2, .int v2), (3, .int v3), (4, .int v4)]) dX12_walks_7 (Nat.le_of_ble_eq_true rfl) rfl ?_
  refine z_aload_n K 2 rfl dX12_walks_9 ?_
  refine z_getr K fd_X12_89 ob_69_40 dX12_walks_10 ?_
  refine z_iconst K ci_0 dX12_walks_13 ?_
  refine z_iload_n K 3 rfl dX12_walks_14 ?_
  refine z_iast K ar_96 dX12_walks_15 ?_
  refine z_ltm (fun s2 => ?_)
  refine z_aload_n K 2 rfl dX12_walks_16 ?_
  refine z_iload_n K 5 rfl dX12_walks_17 ?_
  refine z_puti K fw_X12_352 ob_69_42 dX12_walks_18 ?_
  refine z_ltm (fun s3 => ?_)
  refine z_aload_n K 2 rfl dX12_walks_21 ?_
  refine z_lconst K ck_1 dX12_walks_22 ?_
  refine z_putl K fw_X12_355 ob_69_44 (zone_of on_1) dX12_walks_23 ?_
  refine z_ltm (fun s4 => ?_)
  refine z_iconst K ci_0 dX12_walks_26 ?_
  refine z_istore K (lv' := [(7, .int (0 : Int32)), (6, .int y1), (5, .int v4), (0, .ref (a.1.2.2.2 + 69)), (1, .int v1), (2, .int v2), (3, .int v3), (4, .int v4)]) dX12_walks_27 (Nat.le_of_ble_eq_true rfl) rfl ?_
  refine z_sub [3, 5, 6, 2, 1, 0] rfl ?_
  refine t_X12_walks_L29 F K hd v2 v3 (fun s18 => ?_) F v4 y1 (0 : Int32) s4
  refine z_iconst K ci_1 dX12_walks_201 ?_
  exact z_zret (Or.inr rfl) K dX12_walks_202
def f_X12_isBetter_j19 (F : Nat) (s : zM) : Option (Int32 × zM) :=
  if (zg s 69 43) = 0 then
    some ((1 : Int32), s)
  else
    if 0 < (lg_cmp (zgl s 1) (zgl s 2)) then
      some ((1 : Int32), s)
    else
      some ((0 : Int32), s)
set_option maxRecDepth 100000 in
set_option maxHeartbeats 4000000 in
theorem t_X12_isBetter_j19 {a : zA} {d : Nat} (F : Nat) (K : zOK a cX12_isBetter 2 RX12 (some .boolean) d) (hd : 0 ≤ d) (s : zM) : zJ a 2 (zG a zφN zri) zφN 19 [(0, .ref (a.1.2.2.2 + 69))] [] s (f_X12_isBetter_j19 F s) := by
  unfold f_X12_isBetter_j19
  refine z_aload_n K 0 rfl dX12_isBetter_19 ?_
  refine z_geti K fd_X12_361 ob_69_43 dX12_isBetter_20 ?_
  refine z_if_eq K (tgt := 38) dX12_isBetter_23 (by decide) ?_ ?_
  · refine z_iconst K ci_1 dX12_isBetter_38 ?_
    refine z_goto K (tgt := 43) dX12_isBetter_39 (by decide) ?_
    exact z_zret (Or.inr rfl) K dX12_isBetter_43
  · refine z_aload_n K 0 rfl dX12_isBetter_26 ?_
    refine z_getl K fd_X12_355 ob_69_44 dX12_isBetter_27 ?_
    refine z_aload_n K 0 rfl dX12_isBetter_30 ?_
    refine z_getl K fd_X12_364 ob_69_45 dX12_isBetter_31 ?_
    refine z_lcmp K dX12_isBetter_34 ?_
    refine z_if_le K (tgt := 42) dX12_isBetter_35 (by decide) ?_ ?_
    · refine z_iconst K ci_0 dX12_isBetter_42 ?_
      exact z_zret (Or.inl rfl) K dX12_isBetter_43
    · refine z_iconst K ci_1 dX12_isBetter_38 ?_
      refine z_goto K (tgt := 43) dX12_isBetter_39 (by decide) ?_
      exact z_zret (Or.inr rfl) K dX12_isBetter_43
def f_X12_isBetter_L74 (F : Nat) (k124 : zM → Option (Int32 × zM)) : Nat → Int32 → zM → Option (Int32 × zM)
  | 0, _, _ => none
  | n + 1, v1, s =>
    if (zg s 69 42) < v1 then
      k124 s
    else
      if zin v1 7 = true then
        if zin v1 7 = true then
          if (zg s 96 (v1).toNatClampNeg) = (zg s 97 (v1).toNatClampNeg) then
            lt (v1 + (1 : Int32)) (fun y1 =>
            f_X12_isBetter_L74 F k124 n y1 s)
          else
            if zin v1 7 = true then
              if zin v1 7 = true then
                if (zg s 96 (v1).toNatClampNeg) < (zg s 97 (v1).toNatClampNeg) then
                  some ((1 : Int32), s)
                else
                  some ((0 : Int32), s)
              else none
            else none
        else none
      else none
set_option maxRecDepth 100000 in
set_option maxHeartbeats 4000000 in
theorem t_X12_isBetter_L74 {a : zA} {d : Nat} (F : Nat) (K : zOK a cX12_isBetter 2 RX12 (some .boolean) d) (hd : 0 ≤ d) {k124 : zM → Option (Int32 × zM)} (h124 : ∀ (s : zM), zJ a 2 (zG a zφN zri) zφN 124 [] [] s (k124 s)) : ∀ (n : Nat) (v1 : Int32) (s : zM), zJ a 2 (zG a zφN zri) zφN 74 [(0, .ref (a.1.2.2.2 + 69)), (1, .int v1)] [] s (f_X12_isBetter_L74 F k124 n v1 s) := by
  intro n
  induction n with
  | zero => intros; exact z_none
  | succ n ih =>
    intro v1 s
    rw [f_X12_isBetter_L74]
    refine z_iload_n K 1 rfl dX12_isBetter_74 ?_
    refine z_aload_n K 0 rfl dX12_isBetter_75 ?_
    refine z_geti K fd_X12_352 ob_69_42 dX12_isBetter_76 ?_
    refine z_icmp_gt K (tgt := 124) dX12_isBetter_79 (by decide) ?_ ?_
    · refine z_sub [] rfl ?_
      exact h124 s
    · refine z_aload_n K 0 rfl dX12_isBetter_82 ?_
      refine z_getr K fd_X12_89 ob_69_40 dX12_isBetter_83 ?_
      refine z_iload_n K 1 rfl dX12_isBetter_86 ?_
      refine z_iald K ar_96 dX12_isBetter_87 ?_
      refine z_aload_n K 0 rfl dX12_isBetter_88 ?_
      refine z_getr K fd_X12_92 ob_69_41 dX12_isBetter_89 ?_
      refine z_iload_n K 1 rfl dX12_isBetter_92 ?_
      refine z_iald K ar_97 dX12_isBetter_93 ?_
      refine z_icmp_eq K (tgt := 118) dX12_isBetter_94 (by decide) ?_ ?_
      · refine z_iincN K (j := 1) (lv' := [(0, .ref (a.1.2.2.2 + 69))]) ci_1 rfl dX12_isBetter_118 (Nat.le_of_ble_eq_true rfl) rfl (fun y1 => ?_)
        refine z_goto K (tgt := 74) dX12_isBetter_121 (by decide) ?_
        refine z_sub [1, 0] rfl ?_
        exact ih y1 s
      · refine z_aload_n K 0 rfl dX12_isBetter_97 ?_
        refine z_getr K fd_X12_89 ob_69_40 dX12_isBetter_98 ?_
        refine z_iload_n K 1 rfl dX12_isBetter_101 ?_
        refine z_iald K ar_96 dX12_isBetter_102 ?_
        refine z_aload_n K 0 rfl dX12_isBetter_103 ?_
        refine z_getr K fd_X12_92 ob_69_41 dX12_isBetter_104 ?_
        refine z_iload_n K 1 rfl dX12_isBetter_107 ?_
        refine z_iald K ar_97 dX12_isBetter_108 ?_
        refine z_icmp_ge K (tgt := 116) dX12_isBetter_109 (by decide) ?_ ?_
        · refine z_iconst K ci_0 dX12_isBetter_116 ?_
          exact z_zret (Or.inl rfl) K dX12_isBetter_117
        · refine z_iconst K ci_1 dX12_isBetter_112 ?_
          refine z_goto K (tgt := 117) dX12_isBetter_113 (by decide) ?_
          exact z_zret (Or.inr rfl) K dX12_isBetter_117
def f_X12_isBetter (F : Nat) (s : zM) : Option (Int32 × zM) :=
  if (zg s 69 43) = 0 then
    f_X12_isBetter_j19 F s
  else
    if (lg_cmp (zgl s 1) (zgl s 2)) = 0 then
      if (zg s 69 42) = (zg s 69 43) then
        f_X12_isBetter_L74 F (fun s2 =>
          some ((0 : Int32), s2)) F (0 : Int32) s
      else
        if (zg s 69 42) < (zg s 69 43) then
          some ((1 : Int32), s)
        else
          some ((0 : Int32), s)
    else
      f_X12_isBetter_j19 F s
set_option maxRecDepth 100000 in
set_option maxHeartbeats 4000000 in
theorem t_X12_isBetter (w : zWd) (F : Nat) (d : Nat) (hd : 0 ≤ d) (s : zM) : zMt w yX12_isBetter cX12_isBetter 2 (some .boolean) d zφN zφN zri [.ref (w.2.2.2 + 69)] s (f_X12_isBetter F s) := by
  refine zMtN_of (own := RX12) rfl (by decide +kernel) (Nat.le_of_ble_eq_true rfl) cd_X12_isBetter [(0, .ref (w.2.2.2 + 69))] rfl ?_
  rintro a rfl K
  unfold f_X12_isBetter
  refine z_aload_n K 0 rfl dX12_isBetter_0 ?_
  refine z_geti K fd_X12_361 ob_69_43 dX12_isBetter_1 ?_
  refine z_if_eq K (tgt := 19) dX12_isBetter_4 (by decide) ?_ ?_
  · exact t_X12_isBetter_j19 F K hd s
  · refine z_aload_n K 0 rfl dX12_isBetter_7 ?_
    refine z_getl K fd_X12_355 ob_69_44 dX12_isBetter_8 ?_
    refine z_aload_n K 0 rfl dX12_isBetter_11 ?_
    refine z_getl K fd_X12_364 ob_69_45 dX12_isBetter_12 ?_
    refine z_lcmp K dX12_isBetter_15 ?_
    refine z_if_eq K (tgt := 44) dX12_isBetter_16 (by decide) ?_ ?_
    · refine z_aload_n K 0 rfl dX12_isBetter_44 ?_
      refine z_geti K fd_X12_352 ob_69_42 dX12_isBetter_45 ?_
      refine z_aload_n K 0 rfl dX12_isBetter_48 ?_
      refine z_geti K fd_X12_361 ob_69_43 dX12_isBetter_49 ?_
      refine z_icmp_eq K (tgt := 72) dX12_isBetter_52 (by decide) ?_ ?_
      · refine z_iconst K ci_0 dX12_isBetter_72 ?_
        refine z_istore_n K (lv' := [(1, .int (0 : Int32)), (0, .ref (a.1.2.2.2 + 69))]) dX12_isBetter_73 rfl (Nat.le_of_ble_eq_true rfl) rfl ?_
        refine z_sub [1, 0] rfl ?_
        refine t_X12_isBetter_L74 F K hd (fun s2 => ?_) F (0 : Int32) s
        refine z_iconst K ci_0 dX12_isBetter_124 ?_
        exact z_zret (Or.inl rfl) K dX12_isBetter_125
      · refine z_aload_n K 0 rfl dX12_isBetter_55 ?_
        refine z_geti K fd_X12_352 ob_69_42 dX12_isBetter_56 ?_
        refine z_aload_n K 0 rfl dX12_isBetter_59 ?_
        refine z_geti K fd_X12_361 ob_69_43 dX12_isBetter_60 ?_
        refine z_icmp_ge K (tgt := 70) dX12_isBetter_63 (by decide) ?_ ?_
        · refine z_iconst K ci_0 dX12_isBetter_70 ?_
          exact z_zret (Or.inl rfl) K dX12_isBetter_71
        · refine z_iconst K ci_1 dX12_isBetter_66 ?_
          refine z_goto K (tgt := 71) dX12_isBetter_67 (by decide) ?_
          exact z_zret (Or.inr rfl) K dX12_isBetter_71
    · exact t_X12_isBetter_j19 F K hd s
def f_X12_laysSmuggled_L72 (F : Nat) (k101 : zM → Option (Unit × zM)) (v1 : Int32) (v2 : Int32) (v3 : Int32) (v4 : Int32) (v5 : Int32) : Nat → Int32 → zM → Option (Unit × zM)
  | 0, _, _ => none
  | n + 1, v6, s =>
    if (zg s 69 42) < v6 then
      k101 s
    else
      if zin v6 7 = true then
        if zin v6 7 = true then
          lt (zs s 97 (v6).toNatClampNeg (zg s 96 (v6).toNatClampNeg)) (fun s10 =>
          lt (v6 + (1 : Int32)) (fun y11 =>
          f_X12_laysSmuggled_L72 F k101 v1 v2 v3 v4 v5 n y11 s10))
        else none
      else none
set_option maxRecDepth 100000 in
set_option maxHeartbeats 4000000 in
theorem t_X12_laysSmuggled_L72 {a : zA} {d : Nat} (F : Nat) (K : zOK a cX12_laysSmuggled 7 RX12 none d) (hd : 5 ≤ d) {k101 : zM → Option (Unit × zM)} (v1 : Int32) (v2 : Int32) (v3 : Int32) (v4 : Int32) (v5 : Int32) (h101 : ∀ (s : zM), zJ a 7 (zG a zφN zrv) zφN 101 [(0, .ref (a.1.2.2.2 + 69)), (1, .int v1), (2, .int v2), (3, .int v3), (4, .int v4), (5, .int v5)] [] s (k101 s)) : ∀ (n : Nat) (v6 : Int32) (s : zM), zJ a 7 (zG a zφN zrv) zφN 72 [(0, .ref (a.1.2.2.2 + 69)), (1, .int v1), (2, .int v2), (3, .int v3), (4, .int v4), (5, .int v5), (6, .int v6)] [] s (f_X12_laysSmuggled_L72 F k101 v1 v2 v3 v4 v5 n v6 s) := by
  intro n
  induction n with
  | zero => intros; exact z_none
  | succ n ih =>
    intro v6 s
    rw [f_X12_laysSmuggled_L72]
    refine z_iload K 6 rfl dX12_laysSmuggled_72 ?_
    refine z_aload_n K 0 rfl dX12_laysSmuggled_74 ?_
    refine z_geti K fd_X12_352 ob_69_42 dX12_laysSmuggled_75 ?_
    refine z_icmp_gt K (tgt := 101) dX12_laysSmuggled_78 (by decide) ?_ ?_
    · refine z_sub [0, 1, 2, 3, 4, 5] rfl ?_
      exact h101 s
    · refine z_aload_n K 0 rfl dX12_laysSmuggled_81 ?_
      refine z_getr K fd_X12_92 ob_69_41 dX12_laysSmuggled_82 ?_
      refine z_iload K 6 rfl dX12_laysSmuggled_85 ?_
      refine z_aload_n K 0 rfl dX12_laysSmuggled_87 ?_
      refine z_getr K fd_X12_89 ob_69_40 dX12_laysSmuggled_88 ?_
      refine z_iload K 6 rfl dX12_laysSmuggled_91 ?_
      refine z_iald K ar_96 dX12_laysSmuggled_93 ?_
      refine z_iast K ar_97 dX12_laysSmuggled_94 ?_
      refine z_ltm (fun s10 => ?_)
      refine z_iincN K (j := 6) (lv' := [(0, .ref (a.1.2.2.2 + 69)), (1, .int v1), (2, .int v2), (3, .int v3), (4, .int v4), (5, .int v5)]) ci_1 rfl dX12_laysSmuggled_95 (Nat.le_of_ble_eq_true rfl) rfl (fun y11 => ?_)
      refine z_goto K (tgt := 72) dX12_laysSmuggled_98 (by decide) ?_
      refine z_sub [1, 2, 3, 4, 5, 6, 0] rfl ?_
      exact ih y11 s10
def f_X12_laysSmuggled_L24 (F : Nat) (k107 : zM → Option (Unit × zM)) (v1 : Int32) (v2 : Int32) (v3 : Int32) (v4 : Int32) : Nat → Int32 → zM → Option (Unit × zM)
  | 0, _, _ => none
  | n + 1, v5, s =>
    if v5 < v3 then
      bnd (f_X12_walks F v1 v2 v4 v5 s) (fun r4 s3 =>
      if r4 = 0 then
        lt (v5 + (1 : Int32)) (fun y5 =>
        f_X12_laysSmuggled_L24 F k107 v1 v2 v3 v4 n y5 s3)
      else
        bnd (f_X12_isBetter F s3) (fun r7 s6 =>
        if r7 = 0 then
          lt (v5 + (1 : Int32)) (fun y14 =>
          f_X12_laysSmuggled_L24 F k107 v1 v2 v3 v4 n y14 s6)
        else
          lt (zs s6 69 43 (zg s6 69 42)) (fun s8 =>
          lt (zsl s8 2 (zgl s8 1)) (fun s9 =>
          f_X12_laysSmuggled_L72 F (fun s12 =>
            lt (v5 + (1 : Int32)) (fun y13 =>
            f_X12_laysSmuggled_L24 F k107 v1 v2 v3 v4 n y13 s12)) v1 v2 v3 v4 v5 F (0 : Int32) s9))))
    else
      k107 s
set_option maxRecDepth 100000 in
set_option maxHeartbeats 4000000 in
theorem t_X12_laysSmuggled_L24 {a : zA} {d : Nat} (F : Nat) (K : zOK a cX12_laysSmuggled 7 RX12 none d) (hd : 5 ≤ d) {k107 : zM → Option (Unit × zM)} (v1 : Int32) (v2 : Int32) (v3 : Int32) (v4 : Int32) (h107 : ∀ (s : zM), zJ a 7 (zG a zφN zrv) zφN 107 [(0, .ref (a.1.2.2.2 + 69)), (1, .int v1), (2, .int v2), (3, .int v3), (4, .int v4)] [] s (k107 s)) : ∀ (n : Nat) (v5 : Int32) (s : zM), zJ a 7 (zG a zφN zrv) zφN 24 [(0, .ref (a.1.2.2.2 + 69)), (1, .int v1), (2, .int v2), (3, .int v3), (4, .int v4), (5, .int v5)] [] s (f_X12_laysSmuggled_L24 F k107 v1 v2 v3 v4 n v5 s) := by
  intro n
  induction n with
  | zero => intros; exact z_none
  | succ n ih =>
    intro v5 s
    rw [f_X12_laysSmuggled_L24]
    refine z_iload K 5 rfl dX12_laysSmuggled_24 ?_
    refine z_iload_n K 3 rfl dX12_laysSmuggled_26 ?_
    refine z_icmp_ge K (tgt := 107) dX12_laysSmuggled_27 (by decide) ?_ ?_
    · refine z_sub [0, 1, 2, 3, 4] rfl ?_
      exact h107 s
    · refine z_aload_n K 0 rfl dX12_laysSmuggled_30 ?_
      refine z_iload_n K 1 rfl dX12_laysSmuggled_31 ?_
      refine z_iload_n K 2 rfl dX12_laysSmuggled_32 ?_
      refine z_iload K 4 rfl dX12_laysSmuggled_33 ?_
      refine z_iload K 5 rfl dX12_laysSmuggled_35 ?_
      refine z_cVi (As := [.int v1, .int v2, .int v4, .int v5]) (rest := []) K (t_X12_walks a.1 F (d - 1) (by omega) v1 v2 v4 v5 s) mf_X12_walks ml_X12_367 (Nat.le_of_ble_eq_true rfl) (by omega) rfl rc_69 rfl (Nat.le_of_ble_eq_true rfl) dX12_laysSmuggled_37 (fun r4 s3 => ?_)
      refine z_if_eq K (tgt := 101) dX12_laysSmuggled_40 (by decide) ?_ ?_
      · refine z_iincN K (j := 5) (lv' := [(0, .ref (a.1.2.2.2 + 69)), (1, .int v1), (2, .int v2), (3, .int v3), (4, .int v4)]) ci_1 rfl dX12_laysSmuggled_101 (Nat.le_of_ble_eq_true rfl) rfl (fun y5 => ?_)
        refine z_goto K (tgt := 24) dX12_laysSmuggled_104 (by decide) ?_
        refine z_sub [1, 2, 3, 4, 5, 0] rfl ?_
        exact ih y5 s3
      · refine z_aload_n K 0 rfl dX12_laysSmuggled_43 ?_
        refine z_cVi (As := []) (rest := []) K (t_X12_isBetter a.1 F (d - 1) (by omega) s3) mf_X12_isBetter ml_X12_371 (Nat.le_of_ble_eq_true rfl) (by omega) rfl rc_69 rfl (Nat.le_of_ble_eq_true rfl) dX12_laysSmuggled_44 (fun r7 s6 => ?_)
        refine z_if_ne K (tgt := 53) dX12_laysSmuggled_47 (by decide) ?_ ?_
        · refine z_aload_n K 0 rfl dX12_laysSmuggled_53 ?_
          refine z_aload_n K 0 rfl dX12_laysSmuggled_54 ?_
          refine z_geti K fd_X12_352 ob_69_42 dX12_laysSmuggled_55 ?_
          refine z_puti K fw_X12_361 ob_69_43 dX12_laysSmuggled_58 ?_
          refine z_ltm (fun s8 => ?_)
          refine z_aload_n K 0 rfl dX12_laysSmuggled_61 ?_
          refine z_aload_n K 0 rfl dX12_laysSmuggled_62 ?_
          refine z_getl K fd_X12_355 ob_69_44 dX12_laysSmuggled_63 ?_
          refine z_putl K fw_X12_364 ob_69_45 (zone_of on_2) dX12_laysSmuggled_66 ?_
          refine z_ltm (fun s9 => ?_)
          refine z_iconst K ci_0 dX12_laysSmuggled_69 ?_
          refine z_istore K (lv' := [(6, .int (0 : Int32)), (0, .ref (a.1.2.2.2 + 69)), (1, .int v1), (2, .int v2), (3, .int v3), (4, .int v4), (5, .int v5)]) dX12_laysSmuggled_70 (Nat.le_of_ble_eq_true rfl) rfl ?_
          refine z_sub [1, 2, 3, 4, 5, 6, 0] rfl ?_
          refine t_X12_laysSmuggled_L72 F K hd v1 v2 v3 v4 v5 (fun s12 => ?_) F (0 : Int32) s9
          refine z_iincN K (j := 5) (lv' := [(0, .ref (a.1.2.2.2 + 69)), (1, .int v1), (2, .int v2), (3, .int v3), (4, .int v4)]) ci_1 rfl dX12_laysSmuggled_101 (Nat.le_of_ble_eq_true rfl) rfl (fun y13 => ?_)
          refine z_goto K (tgt := 24) dX12_laysSmuggled_104 (by decide) ?_
          refine z_sub [1, 2, 3, 4, 5, 0] rfl ?_
          exact ih y13 s12
        · refine z_goto K (tgt := 101) dX12_laysSmuggled_50 (by decide) ?_
          refine z_iincN K (j := 5) (lv' := [(0, .ref (a.1.2.2.2 + 69)), (1, .int v1), (2, .int v2), (3, .int v3), (4, .int v4)]) ci_1 rfl dX12_laysSmuggled_101 (Nat.le_of_ble_eq_true rfl) rfl (fun y14 => ?_)
          refine z_goto K (tgt := 24) dX12_laysSmuggled_104 (by decide) ?_
          refine z_sub [1, 2, 3, 4, 5, 0] rfl ?_
          exact ih y14 s6
def f_X12_laysSmuggled_L10 (F : Nat) (k113 : zM → Option (Unit × zM)) (v1 : Int32) (v2 : Int32) : Nat → Int32 → Int32 → zM → Option (Unit × zM)
  | 0, _, _, _ => none
  | n + 1, v3, v4, s =>
    if v4 < (7 : Int32) then
      lt (((3 : Int32) * v3)) (fun y2 =>
      f_X12_laysSmuggled_L24 F (fun s15 =>
        lt (v4 + (1 : Int32)) (fun y16 =>
        f_X12_laysSmuggled_L10 F k113 v1 v2 n y2 y16 s15)) v1 v2 y2 v4 F (0 : Int32) s)
    else
      k113 s
set_option maxRecDepth 100000 in
set_option maxHeartbeats 4000000 in
theorem t_X12_laysSmuggled_L10 {a : zA} {d : Nat} (F : Nat) (K : zOK a cX12_laysSmuggled 7 RX12 none d) (hd : 5 ≤ d) {k113 : zM → Option (Unit × zM)} (v1 : Int32) (v2 : Int32) (h113 : ∀ (s : zM), zJ a 7 (zG a zφN zrv) zφN 113 [] [] s (k113 s)) : ∀ (n : Nat) (v3 : Int32) (v4 : Int32) (s : zM), zJ a 7 (zG a zφN zrv) zφN 10 [(0, .ref (a.1.2.2.2 + 69)), (1, .int v1), (2, .int v2), (3, .int v3), (4, .int v4)] [] s (f_X12_laysSmuggled_L10 F k113 v1 v2 n v3 v4 s) := by
  intro n
  induction n with
  | zero => intros; exact z_none
  | succ n ih =>
    intro v3 v4 s
    rw [f_X12_laysSmuggled_L10]
    refine z_iload K 4 rfl dX12_laysSmuggled_10 ?_
    refine z_bipush K cb_7 dX12_laysSmuggled_12 ?_
    refine z_icmp_ge K (tgt := 113) dX12_laysSmuggled_14 (by decide) ?_ ?_
    · refine z_sub [] rfl ?_
      exact h113 s
    · refine z_iconst K ci_3 dX12_laysSmuggled_17 ?_
      refine z_iload_n K 3 rfl dX12_laysSmuggled_18 ?_
      refine z_imul K dX12_laysSmuggled_19 ?_
      refine z_topi (fun y2 => ?_)
      refine z_istore_n K (lv' := [(3, .int y2), (0, .ref (a.1.2.2.2 + 69)), (1, .int v1), (2, .int v2), (4, .int v4)]) dX12_laysSmuggled_20 rfl (Nat.le_of_ble_eq_true rfl) rfl ?_
      refine z_iconst K ci_0 dX12_laysSmuggled_21 ?_
      refine z_istore K (lv' := [(5, .int (0 : Int32)), (3, .int y2), (0, .ref (a.1.2.2.2 + 69)), (1, .int v1), (2, .int v2), (4, .int v4)]) dX12_laysSmuggled_22 (Nat.le_of_ble_eq_true rfl) rfl ?_
      refine z_sub [2, 3, 4, 1, 5, 0] rfl ?_
      refine t_X12_laysSmuggled_L24 F K hd v1 v2 y2 v4 (fun s15 => ?_) F (0 : Int32) s
      refine z_iincN K (j := 4) (lv' := [(0, .ref (a.1.2.2.2 + 69)), (1, .int v1), (2, .int v2), (3, .int y2)]) ci_1 rfl dX12_laysSmuggled_107 (Nat.le_of_ble_eq_true rfl) rfl (fun y16 => ?_)
      refine z_goto K (tgt := 10) dX12_laysSmuggled_110 (by decide) ?_
      refine z_sub [1, 2, 3, 4, 0] rfl ?_
      exact ih y2 y16 s15
def f_X12_laysSmuggled (F : Nat) (v1 : Int32) (v2 : Int32) (s : zM) : Option (Unit × zM) :=
  lt (zs s 69 43 (0 : Int32)) (fun s1 =>
  f_X12_laysSmuggled_L10 F (fun s17 =>
    some ((), s17)) v1 v2 F (1 : Int32) (1 : Int32) s1)
set_option maxRecDepth 100000 in
set_option maxHeartbeats 4000000 in
theorem t_X12_laysSmuggled (w : zWd) (F : Nat) (d : Nat) (hd : 5 ≤ d) (v1 : Int32) (v2 : Int32) (s : zM) : zMt w yX12_laysSmuggled cX12_laysSmuggled 7 none d zφN zφN zrv [.ref (w.2.2.2 + 69), .int v1, .int v2] s (f_X12_laysSmuggled F v1 v2 s) := by
  refine zMtN_of (own := RX12) rfl (by decide +kernel) (Nat.le_of_ble_eq_true rfl) cd_X12_laysSmuggled [(0, .ref (w.2.2.2 + 69)), (1, .int v1), (2, .int v2)] rfl ?_
  rintro a rfl K
  unfold f_X12_laysSmuggled
  refine z_aload_n K 0 rfl dX12_laysSmuggled_0 ?_
  refine z_iconst K ci_0 dX12_laysSmuggled_1 ?_
  refine z_puti K fw_X12_361 ob_69_43 dX12_laysSmuggled_2 ?_
  refine z_ltm (fun s1 => ?_)
  refine z_iconst K ci_1 dX12_laysSmuggled_5 ?_
  refine z_istore_n K (lv' := [(3, .int (1 : Int32)), (0, .ref (a.1.2.2.2 + 69)), (1, .int v1), (2, .int v2)]) dX12_laysSmuggled_6 rfl (Nat.le_of_ble_eq_true rfl) rfl ?_
  refine z_iconst K ci_1 dX12_laysSmuggled_7 ?_
  refine z_istore K (lv' := [(4, .int (1 : Int32)), (3, .int (1 : Int32)), (0, .ref (a.1.2.2.2 + 69)), (1, .int v1), (2, .int v2)]) dX12_laysSmuggled_8 (Nat.le_of_ble_eq_true rfl) rfl ?_
  refine z_sub [2, 3, 4, 1, 0] rfl ?_
  refine t_X12_laysSmuggled_L10 F K hd v1 v2 (fun s17 => ?_) F (1 : Int32) (1 : Int32) s1
  exact z_vret K dX12_laysSmuggled_113
def f_X12_gcd_L6 (F : Nat) (k31 : Int64 → zM → Option (Int64 × zM)) : Nat → Int64 → Int64 → zM → Option (Int64 × zM)
  | 0, _, _, _ => none
  | n + 1, v4, v6, s =>
    if (lg_cmp v6 (0 : Int64)) = 0 then
      k31 v4 s
    else
      if v6 = 0 then none else
      lt ((v4 - v4 / v6 * v6)) (fun y1 =>
      f_X12_gcd_L6 F k31 n v6 y1 s)
set_option maxRecDepth 100000 in
set_option maxHeartbeats 4000000 in
theorem t_X12_gcd_L6 {a : zA} {d : Nat} (F : Nat) (K : zOK a cX12_gcd 10 RX12 (some .long) d) (hd : 0 ≤ d) {k31 : Int64 → zM → Option (Int64 × zM)} (h31 : ∀ (v4 : Int64) (s : zM), zJ a 10 (zG a zφN zrl) zφN 31 [(4, .long v4)] [] s (k31 v4 s)) : ∀ (n : Nat) (v4 : Int64) (v6 : Int64) (s : zM), zJ a 10 (zG a zφN zrl) zφN 6 [(4, .long v4), (6, .long v6)] [] s (f_X12_gcd_L6 F k31 n v4 v6 s) := by
  intro n
  induction n with
  | zero => intros; exact z_none
  | succ n ih =>
    intro v4 v6 s
    rw [f_X12_gcd_L6]
    refine z_lload K 1 rfl dX12_gcd_6 ?_
    refine z_lconst K ck_0 dX12_gcd_8 ?_
    refine z_lcmp K dX12_gcd_9 ?_
    refine z_if_eq K (tgt := 31) dX12_gcd_10 (by decide) ?_ ?_
    · refine z_sub [0] rfl ?_
      exact h31 v4 s
    · refine z_lload K 0 rfl dX12_gcd_13 ?_
      refine z_lload K 1 rfl dX12_gcd_15 ?_
      refine z_lrem K dX12_gcd_17 ?_
      refine z_topl (fun y1 => ?_)
      refine z_lstore K (lv' := [(8, .long y1), (4, .long v4), (6, .long v6)]) dX12_gcd_18 (Nat.le_of_ble_eq_true rfl) rfl ?_
      refine z_lload K 2 rfl dX12_gcd_20 ?_
      refine z_lstore K (lv' := [(4, .long v6), (8, .long y1), (6, .long v6)]) dX12_gcd_22 (Nat.le_of_ble_eq_true rfl) rfl ?_
      refine z_lload K 1 rfl dX12_gcd_24 ?_
      refine z_lstore K (lv' := [(6, .long y1), (4, .long v6), (8, .long y1)]) dX12_gcd_26 (Nat.le_of_ble_eq_true rfl) rfl ?_
      refine z_goto K (tgt := 6) dX12_gcd_28 (by decide) ?_
      refine z_sub [1, 0] rfl ?_
      exact ih v6 y1 s
def f_X12_gcd (F : Nat) (v0 : Int64) (v2 : Int64) (s : zM) : Option (Int64 × zM) :=
  f_X12_gcd_L6 F (fun y3 s2 =>
    some (y3, s2)) F v0 v2 s
set_option maxRecDepth 100000 in
set_option maxHeartbeats 4000000 in
theorem t_X12_gcd (w : zWd) (F : Nat) (d : Nat) (hd : 0 ≤ d) (v0 : Int64) (v2 : Int64) (s : zM) : zMt w yX12_gcd cX12_gcd 10 (some .long) d zφN zφN zrl [.long v0, .long v2] s (f_X12_gcd F v0 v2 s) := by
  refine zMtN_of (own := RX12) rfl (by decide +kernel) (Nat.le_of_ble_eq_true rfl) cd_X12_gcd [(0, .long v0), (2, .long v2)] rfl ?_
  rintro a rfl K
  unfold f_X12_gcd
  refine z_lload_n K 0 rfl dX12_gcd_0 ?_
  refine z_lstore K (lv' := [(4, .long v0), (0, .long v0), (2, .long v2)]) dX12_gcd_1 (Nat.le_of_ble_eq_true rfl) rfl ?_
  refine z_lload_n K 2 rfl dX12_gcd_3 ?_
  refine z_lstore K (lv' := [(6, .long v2), (4, .long v0), (0, .long v0), (2, .long v2)]) dX12_gcd_4 (Nat.le_of_ble_eq_true rfl) rfl ?_
  refine z_sub [1, 0] rfl ?_
  refine t_X12_gcd_L6 F K hd (fun y3 s2 => ?_) F v0 v2 s
  refine z_lload K 0 rfl dX12_gcd_31 ?_
  exact z_lret K dX12_gcd_33
def f_X12_smuggled_j61 (F : Nat) (v1 : Int32) (v2 : Int32) (v3 : Int32) (s : zM) : Option (Int64 × zM) :=
  bnd (f_X12_laysSmuggled F v1 v2 s) (fun _ s11 =>
  if (zg s11 69 43) = 0 then
    some ((-2 : Int64), s11)
  else
    if v3 = (2 : Int32) then
      some (((zg s11 69 43)).toInt64, s11)
    else
      if (2 : Int32) < v3 then
        if (zg s11 69 43) < (v3 - (10 : Int32)) then
          some ((-1 : Int64), s11)
        else
          if zin (v3 - (10 : Int32)) 7 = true then
            some (((zg s11 97 ((v3 - (10 : Int32))).toNatClampNeg)).toInt64, s11)
          else none
      else
        bnd (f_X12_gcd F (zgl s11 2) (1000000000000000000 : Int64) s11) (fun r13 s12 =>
        if v3 = 0 then
          if r13 = 0 then none else
          some (((zgl s12 2) / r13), s12)
        else
          if r13 = 0 then none else
          some (((1000000000000000000 : Int64) / r13), s12)))
set_option maxRecDepth 100000 in
set_option maxHeartbeats 4000000 in
theorem t_X12_smuggled_j61 {a : zA} {d : Nat} (F : Nat) (K : zOK a cX12_smuggled 8 RX12 (some .long) d) (hd : 6 ≤ d) (v1 : Int32) (v2 : Int32) (v3 : Int32) (s : zM) : zJ a 8 (zG a zφN zrl) zφN 61 [(0, .ref (a.1.2.2.2 + 69)), (1, .int v1), (2, .int v2), (3, .int v3)] [] s (f_X12_smuggled_j61 F v1 v2 v3 s) := by
  unfold f_X12_smuggled_j61
  refine z_aload_n K 0 rfl dX12_smuggled_61 ?_
  refine z_iload_n K 1 rfl dX12_smuggled_62 ?_
  refine z_iload_n K 2 rfl dX12_smuggled_63 ?_
  refine z_cVv (As := [.int v1, .int v2]) (rest := []) K (t_X12_laysSmuggled a.1 F (d - 1) (by omega) v1 v2 s) mf_X12_laysSmuggled ml_X12_376 (Nat.le_of_ble_eq_true rfl) (by omega) rfl rc_69 rfl (Nat.le_of_ble_eq_true rfl) dX12_smuggled_64 (fun _ s11 => ?_)
  refine z_aload_n K 0 rfl dX12_smuggled_67 ?_
  refine z_geti K fd_X12_361 ob_69_43 dX12_smuggled_68 ?_
  refine z_if_ne K (tgt := 78) dX12_smuggled_71 (by decide) ?_ ?_
  · refine z_iload_n K 3 rfl dX12_smuggled_78 ?_
    refine z_iconst K ci_2 dX12_smuggled_79 ?_
    refine z_icmp_ne K (tgt := 89) dX12_smuggled_80 (by decide) ?_ ?_
    · refine z_iload_n K 3 rfl dX12_smuggled_89 ?_
      refine z_iconst K ci_2 dX12_smuggled_90 ?_
      refine z_icmp_le K (tgt := 122) dX12_smuggled_91 (by decide) ?_ ?_
      · refine z_ldc2 K cst_X12_381 dX12_smuggled_122 ?_
        refine z_lstore K (lv' := [(4, .long (1000000000000000000 : Int64)), (0, .ref (a.1.2.2.2 + 69)), (1, .int v1), (2, .int v2), (3, .int v3)]) dX12_smuggled_125 (Nat.le_of_ble_eq_true rfl) rfl ?_
        refine z_aload_n K 1 rfl dX12_smuggled_127 ?_
        refine z_getl K fd_X12_364 ob_69_45 dX12_smuggled_128 ?_
        refine z_lload K 0 rfl dX12_smuggled_131 ?_
        refine z_cSl (As := [.long (zgl s11 2), .long (1000000000000000000 : Int64)]) (rest := []) K (t_X12_gcd a.1 F (d - 1) (by omega) (zgl s11 2) (1000000000000000000 : Int64) s11) mf_X12_gcd ml_X12_383 (Nat.le_of_ble_eq_true rfl) (by omega) rfl rfl (Nat.le_of_ble_eq_true rfl) dX12_smuggled_133 (fun r13 s12 => ?_)
        refine z_lstore K (lv' := [(6, .long r13), (4, .long (1000000000000000000 : Int64)), (0, .ref (a.1.2.2.2 + 69)), (1, .int v1), (2, .int v2), (3, .int v3)]) dX12_smuggled_136 (Nat.le_of_ble_eq_true rfl) rfl ?_
        refine z_iload_n K 5 rfl dX12_smuggled_138 ?_
        refine z_if_ne K (tgt := 152) dX12_smuggled_139 (by decide) ?_ ?_
        · refine z_lload K 1 rfl dX12_smuggled_152 ?_
          refine z_lload K 0 rfl dX12_smuggled_154 ?_
          refine z_ldiv K dX12_smuggled_156 ?_
          exact z_lret K dX12_smuggled_157
        · refine z_aload_n K 2 rfl dX12_smuggled_142 ?_
          refine z_getl K fd_X12_364 ob_69_45 dX12_smuggled_143 ?_
          refine z_lload K 0 rfl dX12_smuggled_146 ?_
          refine z_ldiv K dX12_smuggled_148 ?_
          refine z_goto K (tgt := 157) dX12_smuggled_149 (by decide) ?_
          exact z_lret K dX12_smuggled_157
      · refine z_iload_n K 3 rfl dX12_smuggled_94 ?_
        refine z_bipush K cb_10 dX12_smuggled_95 ?_
        refine z_isub K dX12_smuggled_97 ?_
        refine z_aload_n K 0 rfl dX12_smuggled_98 ?_
        refine z_geti K fd_X12_361 ob_69_43 dX12_smuggled_99 ?_
        refine z_icmp_gt K (tgt := 118) dX12_smuggled_102 (by decide) ?_ ?_
        · refine z_ldc2 K cst_X12_374 dX12_smuggled_118 ?_
          exact z_lret K dX12_smuggled_121
        · refine z_aload_n K 0 rfl dX12_smuggled_105 ?_
          refine z_getr K fd_X12_92 ob_69_41 dX12_smuggled_106 ?_
          refine z_iload_n K 3 rfl dX12_smuggled_109 ?_
          refine z_bipush K cb_10 dX12_smuggled_110 ?_
          refine z_isub K dX12_smuggled_112 ?_
          refine z_iald K ar_97 dX12_smuggled_113 ?_
          refine z_i2l K dX12_smuggled_114 ?_
          refine z_goto K (tgt := 121) dX12_smuggled_115 (by decide) ?_
          exact z_lret K dX12_smuggled_121
    · refine z_aload_n K 0 rfl dX12_smuggled_83 ?_
      refine z_geti K fd_X12_361 ob_69_43 dX12_smuggled_84 ?_
      refine z_i2l K dX12_smuggled_87 ?_
      exact z_lret K dX12_smuggled_88
  · refine z_ldc2 K cst_X12_379 dX12_smuggled_74 ?_
    exact z_lret K dX12_smuggled_77
def f_X12_smuggled (F : Nat) (v1 : Int32) (v2 : Int32) (v3 : Int32) (s : zM) : Option (Int64 × zM) :=
  bnd (f_X12_isGuest v1 s) (fun r2 s1 =>
  if r2 = 0 then
    some ((-1 : Int64), s1)
  else
    bnd (f_X12_isGuest v2 s1) (fun r4 s3 =>
    if r4 = 0 then
      some ((-1 : Int64), s3)
    else
      if v1 = v2 then
        some ((-1 : Int64), s3)
      else
        bnd (f_X12_sits v1 s3) (fun r6 s5 =>
        if r6 = 0 then
          some ((-1 : Int64), s5)
        else
          bnd (f_X12_sits v2 s5) (fun r8 s7 =>
          if r8 = 0 then
            some ((-1 : Int64), s7)
          else
            bnd (f_X12_in v3 (0 : Int32) (2 : Int32) s7) (fun r10 s9 =>
            if r10 = 0 then
              bnd (f_X12_in v3 (10 : Int32) (16 : Int32) s9) (fun r15 s14 =>
              if r15 = 0 then
                some ((-1 : Int64), s14)
              else
                f_X12_smuggled_j61 F v1 v2 v3 s14)
            else
              f_X12_smuggled_j61 F v1 v2 v3 s9)))))
set_option maxRecDepth 100000 in
set_option maxHeartbeats 4000000 in
theorem t_X12_smuggled (w : zWd) (F : Nat) (d : Nat) (hd : 6 ≤ d) (v1 : Int32) (v2 : Int32) (v3 : Int32) (s : zM) : zMt w yX12_smuggled cX12_smuggled 8 (some .long) d zφN zφN zrl [.ref (w.2.2.2 + 69), .int v1, .int v2, .int v3] s (f_X12_smuggled F v1 v2 v3 s) := by
  refine zMtN_of (own := RX12) rfl (by decide +kernel) (Nat.le_of_ble_eq_true rfl) cd_X12_smuggled [(0, .ref (w.2.2.2 + 69)), (1, .int v1), (2, .int v2), (3, .int v3)] rfl ?_
  rintro a rfl K
  unfold f_X12_smuggled
  refine z_aload_n K 0 rfl dX12_smuggled_0 ?_
  refine z_iload_n K 1 rfl dX12_smuggled_1 ?_
  refine z_cVi (As := [.int v1]) (rest := []) K (t_X12_isGuest a.1 (d - 1) (by omega) v1 s) mf_X12_isGuest ml_X12_183 (Nat.le_of_ble_eq_true rfl) (by omega) rfl rc_69 rfl (Nat.le_of_ble_eq_true rfl) dX12_smuggled_2 (fun r2 s1 => ?_)
  refine z_if_eq K (tgt := 57) dX12_smuggled_5 (by decide) ?_ ?_
  · refine z_ldc2 K cst_X12_374 dX12_smuggled_57 ?_
    exact z_lret K dX12_smuggled_60
  · refine z_aload_n K 0 rfl dX12_smuggled_8 ?_
    refine z_iload_n K 2 rfl dX12_smuggled_9 ?_
    refine z_cVi (As := [.int v2]) (rest := []) K (t_X12_isGuest a.1 (d - 1) (by omega) v2 s1) mf_X12_isGuest ml_X12_183 (Nat.le_of_ble_eq_true rfl) (by omega) rfl rc_69 rfl (Nat.le_of_ble_eq_true rfl) dX12_smuggled_10 (fun r4 s3 => ?_)
    refine z_if_eq K (tgt := 57) dX12_smuggled_13 (by decide) ?_ ?_
    · refine z_ldc2 K cst_X12_374 dX12_smuggled_57 ?_
      exact z_lret K dX12_smuggled_60
    · refine z_iload_n K 1 rfl dX12_smuggled_16 ?_
      refine z_iload_n K 2 rfl dX12_smuggled_17 ?_
      refine z_icmp_eq K (tgt := 57) dX12_smuggled_18 (by decide) ?_ ?_
      · refine z_ldc2 K cst_X12_374 dX12_smuggled_57 ?_
        exact z_lret K dX12_smuggled_60
      · refine z_aload_n K 0 rfl dX12_smuggled_21 ?_
        refine z_iload_n K 1 rfl dX12_smuggled_22 ?_
        refine z_cVi (As := [.int v1]) (rest := []) K (t_X12_sits a.1 (d - 1) (by omega) v1 s3) mf_X12_sits ml_X12_309 (Nat.le_of_ble_eq_true rfl) (by omega) rfl rc_69 rfl (Nat.le_of_ble_eq_true rfl) dX12_smuggled_23 (fun r6 s5 => ?_)
        refine z_if_eq K (tgt := 57) dX12_smuggled_26 (by decide) ?_ ?_
        · refine z_ldc2 K cst_X12_374 dX12_smuggled_57 ?_
          exact z_lret K dX12_smuggled_60
        · refine z_aload_n K 0 rfl dX12_smuggled_29 ?_
          refine z_iload_n K 2 rfl dX12_smuggled_30 ?_
          refine z_cVi (As := [.int v2]) (rest := []) K (t_X12_sits a.1 (d - 1) (by omega) v2 s5) mf_X12_sits ml_X12_309 (Nat.le_of_ble_eq_true rfl) (by omega) rfl rc_69 rfl (Nat.le_of_ble_eq_true rfl) dX12_smuggled_31 (fun r8 s7 => ?_)
          refine z_if_eq K (tgt := 57) dX12_smuggled_34 (by decide) ?_ ?_
          · refine z_ldc2 K cst_X12_374 dX12_smuggled_57 ?_
            exact z_lret K dX12_smuggled_60
          · refine z_iload_n K 3 rfl dX12_smuggled_37 ?_
            refine z_iconst K ci_0 dX12_smuggled_38 ?_
            refine z_iconst K ci_2 dX12_smuggled_39 ?_
            refine z_cSi (As := [.int v3, .int (0 : Int32), .int (2 : Int32)]) (rest := []) K (t_X12_in a.1 (d - 1) (by omega) v3 (0 : Int32) (2 : Int32) s7) mf_X12_in ml_X12_171 (Nat.le_of_ble_eq_true rfl) (by omega) rfl rfl (Nat.le_of_ble_eq_true rfl) dX12_smuggled_40 (fun r10 s9 => ?_)
            refine z_if_ne K (tgt := 61) dX12_smuggled_43 (by decide) ?_ ?_
            · exact t_X12_smuggled_j61 F K hd v1 v2 v3 s9
            · refine z_iload_n K 3 rfl dX12_smuggled_46 ?_
              refine z_bipush K cb_10 dX12_smuggled_47 ?_
              refine z_bipush K cb_16 dX12_smuggled_49 ?_
              refine z_cSi (As := [.int v3, .int (10 : Int32), .int (16 : Int32)]) (rest := []) K (t_X12_in a.1 (d - 1) (by omega) v3 (10 : Int32) (16 : Int32) s9) mf_X12_in ml_X12_171 (Nat.le_of_ble_eq_true rfl) (by omega) rfl rfl (Nat.le_of_ble_eq_true rfl) dX12_smuggled_51 (fun r15 s14 => ?_)
              refine z_if_ne K (tgt := 61) dX12_smuggled_54 (by decide) ?_ ?_
              · exact t_X12_smuggled_j61 F K hd v1 v2 v3 s14
              · refine z_ldc2 K cst_X12_374 dX12_smuggled_57 ?_
                exact z_lret K dX12_smuggled_60
def f_X12_sumOf_L41 (F : Nat) (k96 : Int32 → zM → Option (Int32 × zM)) (v2 : Int32) : Nat → Int32 → Int32 → zM → Option (Int32 × zM)
  | 0, _, _, _ => none
  | n + 1, v1, v3, s =>
    if v3 < (zg s 69 0) then
      bnd (f_X12_sits v3 s) (fun r8 s7 =>
      if r8 = 0 then
        lt (v3 + (1 : Int32)) (fun y9 =>
        f_X12_sumOf_L41 F k96 v2 n v1 y9 s7)
      else
        if zin v2 16 = true then
          if zin v3 16 = true then
            bnd (f_X12_size (((zg s7 71 (v2).toNatClampNeg) / (2 : Int32)) - ((zg s7 71 (v3).toNatClampNeg) / (2 : Int32))) s7) (fun r11 s10 =>
            if r11 < (3 : Int32) then
              bnd (f_X12_harmOf F v2 v3 s10) (fun r14 s13 =>
              lt ((v1 + r14)) (fun y15 =>
              lt (v3 + (1 : Int32)) (fun y16 =>
              f_X12_sumOf_L41 F k96 v2 n y15 y16 s13)))
            else
              lt (v3 + (1 : Int32)) (fun y12 =>
              f_X12_sumOf_L41 F k96 v2 n v1 y12 s10))
          else none
        else none)
    else
      k96 v1 s
set_option maxRecDepth 100000 in
set_option maxHeartbeats 4000000 in
theorem t_X12_sumOf_L41 {a : zA} {d : Nat} (F : Nat) (K : zOK a cX12_sumOf 4 RX12 (some .int) d) (hd : 4 ≤ d) {k96 : Int32 → zM → Option (Int32 × zM)} (v2 : Int32) (h96 : ∀ (v1 : Int32) (s : zM), zJ a 4 (zG a zφN zri) zφN 96 [(0, .ref (a.1.2.2.2 + 69)), (1, .int v1), (2, .int v2)] [] s (k96 v1 s)) : ∀ (n : Nat) (v1 : Int32) (v3 : Int32) (s : zM), zJ a 4 (zG a zφN zri) zφN 41 [(0, .ref (a.1.2.2.2 + 69)), (1, .int v1), (2, .int v2), (3, .int v3)] [] s (f_X12_sumOf_L41 F k96 v2 n v1 v3 s) := by
  intro n
  induction n with
  | zero => intros; exact z_none
  | succ n ih =>
    intro v1 v3 s
    rw [f_X12_sumOf_L41]
    refine z_iload_n K 3 rfl dX12_sumOf_41 ?_
    refine z_aload_n K 0 rfl dX12_sumOf_42 ?_
    refine z_geti K fd_X12_168 ob_69_0 dX12_sumOf_43 ?_
    refine z_icmp_ge K (tgt := 96) dX12_sumOf_46 (by decide) ?_ ?_
    · refine z_sub [0, 1, 2] rfl ?_
      exact h96 v1 s
    · refine z_aload_n K 0 rfl dX12_sumOf_49 ?_
      refine z_iload_n K 3 rfl dX12_sumOf_50 ?_
      refine z_cVi (As := [.int v3]) (rest := []) K (t_X12_sits a.1 (d - 1) (by omega) v3 s) mf_X12_sits ml_X12_309 (Nat.le_of_ble_eq_true rfl) (by omega) rfl rc_69 rfl (Nat.le_of_ble_eq_true rfl) dX12_sumOf_51 (fun r8 s7 => ?_)
      refine z_if_eq K (tgt := 90) dX12_sumOf_54 (by decide) ?_ ?_
      · refine z_iincN K (j := 3) (lv' := [(0, .ref (a.1.2.2.2 + 69)), (1, .int v1), (2, .int v2)]) ci_1 rfl dX12_sumOf_90 (Nat.le_of_ble_eq_true rfl) rfl (fun y9 => ?_)
        refine z_goto K (tgt := 41) dX12_sumOf_93 (by decide) ?_
        refine z_sub [1, 2, 3, 0] rfl ?_
        exact ih v1 y9 s7
      · refine z_aload_n K 0 rfl dX12_sumOf_57 ?_
        refine z_getr K fd_X12_13 ob_69_3 dX12_sumOf_58 ?_
        refine z_iload_n K 2 rfl dX12_sumOf_61 ?_
        refine z_iald K ar_71 dX12_sumOf_62 ?_
        refine z_iconst K ci_2 dX12_sumOf_63 ?_
        refine z_idivc K (by decide) dX12_sumOf_64 ?_
        refine z_aload_n K 0 rfl dX12_sumOf_65 ?_
        refine z_getr K fd_X12_13 ob_69_3 dX12_sumOf_66 ?_
        refine z_iload_n K 3 rfl dX12_sumOf_69 ?_
        refine z_iald K ar_71 dX12_sumOf_70 ?_
        refine z_iconst K ci_2 dX12_sumOf_71 ?_
        refine z_idivc K (by decide) dX12_sumOf_72 ?_
        refine z_isub K dX12_sumOf_73 ?_
        refine z_cSi (As := [.int (((zg s7 71 (v2).toNatClampNeg) / (2 : Int32)) - ((zg s7 71 (v3).toNatClampNeg) / (2 : Int32)))]) (rest := []) K (t_X12_size a.1 (d - 1) (by omega) (((zg s7 71 (v2).toNatClampNeg) / (2 : Int32)) - ((zg s7 71 (v3).toNatClampNeg) / (2 : Int32))) s7) mf_X12_size ml_X12_297 (Nat.le_of_ble_eq_true rfl) (by omega) rfl rfl (Nat.le_of_ble_eq_true rfl) dX12_sumOf_74 (fun r11 s10 => ?_)
        refine z_iconst K ci_3 dX12_sumOf_77 ?_
        refine z_icmp_ge K (tgt := 90) dX12_sumOf_78 (by decide) ?_ ?_
        · refine z_iincN K (j := 3) (lv' := [(0, .ref (a.1.2.2.2 + 69)), (1, .int v1), (2, .int v2)]) ci_1 rfl dX12_sumOf_90 (Nat.le_of_ble_eq_true rfl) rfl (fun y12 => ?_)
          refine z_goto K (tgt := 41) dX12_sumOf_93 (by decide) ?_
          refine z_sub [1, 2, 3, 0] rfl ?_
          exact ih v1 y12 s10
        · refine z_iload_n K 1 rfl dX12_sumOf_81 ?_
          refine z_aload_n K 0 rfl dX12_sumOf_82 ?_
          refine z_iload_n K 2 rfl dX12_sumOf_83 ?_
          refine z_iload_n K 3 rfl dX12_sumOf_84 ?_
          refine z_cVi (As := [.int v2, .int v3]) (rest := [.int v1]) K (t_X12_harmOf a.1 F (d - 1) (by omega) v2 v3 s10) mf_X12_harmOf ml_X12_318 (Nat.le_of_ble_eq_true rfl) (by omega) rfl rc_69 rfl (Nat.le_of_ble_eq_true rfl) dX12_sumOf_85 (fun r14 s13 => ?_)
          refine z_iadd K dX12_sumOf_88 ?_
          refine z_topi (fun y15 => ?_)
          refine z_istore_n K (lv' := [(1, .int y15), (0, .ref (a.1.2.2.2 + 69)), (2, .int v2), (3, .int v3)]) dX12_sumOf_89 rfl (Nat.le_of_ble_eq_true rfl) rfl ?_
          refine z_iincN K (j := 3) (lv' := [(1, .int y15), (0, .ref (a.1.2.2.2 + 69)), (2, .int v2)]) ci_1 rfl dX12_sumOf_90 (Nat.le_of_ble_eq_true rfl) rfl (fun y16 => ?_)
          refine z_goto K (tgt := 41) dX12_sumOf_93 (by decide) ?_
          refine z_sub [2, 1, 3, 0] rfl ?_
          exact ih y15 y16 s13
def f_X12_sumOf_L4 (F : Nat) (k102 : Int32 → zM → Option (Int32 × zM)) : Nat → Int32 → Int32 → zM → Option (Int32 × zM)
  | 0, _, _, _ => none
  | n + 1, v1, v2, s =>
    if v2 < (zg s 69 0) then
      bnd (f_X12_sits v2 s) (fun r2 s1 =>
      if r2 = 0 then
        lt (v2 + (1 : Int32)) (fun y20 =>
        f_X12_sumOf_L4 F k102 n v1 y20 s1)
      else
        if zin v2 16 = true then
          bnd (f_X12_worthOf F v2 (zg s1 71 (v2).toNatClampNeg) s1) (fun r4 s3 =>
          lt ((v1 - r4)) (fun y5 =>
          lt ((v2 + (1 : Int32))) (fun y6 =>
          f_X12_sumOf_L41 F (fun y18 s17 =>
            lt (v2 + (1 : Int32)) (fun y19 =>
            f_X12_sumOf_L4 F k102 n y18 y19 s17)) v2 F y5 y6 s3)))
        else none)
    else
      k102 v1 s
set_option maxRecDepth 100000 in
set_option maxHeartbeats 4000000 in
theorem t_X12_sumOf_L4 {a : zA} {d : Nat} (F : Nat) (K : zOK a cX12_sumOf 4 RX12 (some .int) d) (hd : 4 ≤ d) {k102 : Int32 → zM → Option (Int32 × zM)} (h102 : ∀ (v1 : Int32) (s : zM), zJ a 4 (zG a zφN zri) zφN 102 [(1, .int v1)] [] s (k102 v1 s)) : ∀ (n : Nat) (v1 : Int32) (v2 : Int32) (s : zM), zJ a 4 (zG a zφN zri) zφN 4 [(0, .ref (a.1.2.2.2 + 69)), (1, .int v1), (2, .int v2)] [] s (f_X12_sumOf_L4 F k102 n v1 v2 s) := by
  intro n
  induction n with
  | zero => intros; exact z_none
  | succ n ih =>
    intro v1 v2 s
    rw [f_X12_sumOf_L4]
    refine z_iload_n K 2 rfl dX12_sumOf_4 ?_
    refine z_aload_n K 0 rfl dX12_sumOf_5 ?_
    refine z_geti K fd_X12_168 ob_69_0 dX12_sumOf_6 ?_
    refine z_icmp_ge K (tgt := 102) dX12_sumOf_9 (by decide) ?_ ?_
    · refine z_sub [1] rfl ?_
      exact h102 v1 s
    · refine z_aload_n K 0 rfl dX12_sumOf_12 ?_
      refine z_iload_n K 2 rfl dX12_sumOf_13 ?_
      refine z_cVi (As := [.int v2]) (rest := []) K (t_X12_sits a.1 (d - 1) (by omega) v2 s) mf_X12_sits ml_X12_309 (Nat.le_of_ble_eq_true rfl) (by omega) rfl rc_69 rfl (Nat.le_of_ble_eq_true rfl) dX12_sumOf_14 (fun r2 s1 => ?_)
      refine z_if_ne K (tgt := 23) dX12_sumOf_17 (by decide) ?_ ?_
      · refine z_iload_n K 1 rfl dX12_sumOf_23 ?_
        refine z_aload_n K 0 rfl dX12_sumOf_24 ?_
        refine z_iload_n K 2 rfl dX12_sumOf_25 ?_
        refine z_aload_n K 0 rfl dX12_sumOf_26 ?_
        refine z_getr K fd_X12_13 ob_69_3 dX12_sumOf_27 ?_
        refine z_iload_n K 2 rfl dX12_sumOf_30 ?_
        refine z_iald K ar_71 dX12_sumOf_31 ?_
        refine z_cVi (As := [.int v2, .int (zg s1 71 (v2).toNatClampNeg)]) (rest := [.int v1]) K (t_X12_worthOf a.1 F (d - 1) (by omega) v2 (zg s1 71 (v2).toNatClampNeg) s1) mf_X12_worthOf ml_X12_327 (Nat.le_of_ble_eq_true rfl) (by omega) rfl rc_69 rfl (Nat.le_of_ble_eq_true rfl) dX12_sumOf_32 (fun r4 s3 => ?_)
        refine z_isub K dX12_sumOf_35 ?_
        refine z_topi (fun y5 => ?_)
        refine z_istore_n K (lv' := [(1, .int y5), (0, .ref (a.1.2.2.2 + 69)), (2, .int v2)]) dX12_sumOf_36 rfl (Nat.le_of_ble_eq_true rfl) rfl ?_
        refine z_iload_n K 2 rfl dX12_sumOf_37 ?_
        refine z_iconst K ci_1 dX12_sumOf_38 ?_
        refine z_iadd K dX12_sumOf_39 ?_
        refine z_topi (fun y6 => ?_)
        refine z_istore_n K (lv' := [(3, .int y6), (1, .int y5), (0, .ref (a.1.2.2.2 + 69)), (2, .int v2)]) dX12_sumOf_40 rfl (Nat.le_of_ble_eq_true rfl) rfl ?_
        refine z_sub [2, 1, 3, 0] rfl ?_
        refine t_X12_sumOf_L41 F K hd v2 (fun y18 s17 => ?_) F y5 y6 s3
        refine z_iincN K (j := 2) (lv' := [(0, .ref (a.1.2.2.2 + 69)), (1, .int y18)]) ci_1 rfl dX12_sumOf_96 (Nat.le_of_ble_eq_true rfl) rfl (fun y19 => ?_)
        refine z_goto K (tgt := 4) dX12_sumOf_99 (by decide) ?_
        refine z_sub [1, 2, 0] rfl ?_
        exact ih y18 y19 s17
      · refine z_goto K (tgt := 96) dX12_sumOf_20 (by decide) ?_
        refine z_iincN K (j := 2) (lv' := [(0, .ref (a.1.2.2.2 + 69)), (1, .int v1)]) ci_1 rfl dX12_sumOf_96 (Nat.le_of_ble_eq_true rfl) rfl (fun y20 => ?_)
        refine z_goto K (tgt := 4) dX12_sumOf_99 (by decide) ?_
        refine z_sub [1, 2, 0] rfl ?_
        exact ih v1 y20 s1
def f_X12_sumOf (F : Nat) (s : zM) : Option (Int32 × zM) :=
  f_X12_sumOf_L4 F (fun y22 s21 =>
    some (y22, s21)) F (0 : Int32) (0 : Int32) s
set_option maxRecDepth 100000 in
set_option maxHeartbeats 4000000 in
theorem t_X12_sumOf (w : zWd) (F : Nat) (d : Nat) (hd : 4 ≤ d) (s : zM) : zMt w yX12_sumOf cX12_sumOf 4 (some .int) d zφN zφN zri [.ref (w.2.2.2 + 69)] s (f_X12_sumOf F s) := by
  refine zMtN_of (own := RX12) rfl (by decide +kernel) (Nat.le_of_ble_eq_true rfl) cd_X12_sumOf [(0, .ref (w.2.2.2 + 69))] rfl ?_
  rintro a rfl K
  unfold f_X12_sumOf
  refine z_iconst K ci_0 dX12_sumOf_0 ?_
  refine z_istore_n K (lv' := [(1, .int (0 : Int32)), (0, .ref (a.1.2.2.2 + 69))]) dX12_sumOf_1 rfl (Nat.le_of_ble_eq_true rfl) rfl ?_
  refine z_iconst K ci_0 dX12_sumOf_2 ?_
  refine z_istore_n K (lv' := [(2, .int (0 : Int32)), (1, .int (0 : Int32)), (0, .ref (a.1.2.2.2 + 69))]) dX12_sumOf_3 rfl (Nat.le_of_ble_eq_true rfl) rfl ?_
  refine z_sub [2, 1, 0] rfl ?_
  refine t_X12_sumOf_L4 F K hd (fun y22 s21 => ?_) F (0 : Int32) (0 : Int32) s
  refine z_iload_n K 0 rfl dX12_sumOf_102 ?_
  exact z_iret K dX12_sumOf_103
def f_X12_sum (F : Nat) (s : zM) : Option (Int32 × zM) :=
  bnd (f_X12_sumOf F s) (fun r2 s1 =>
  some (r2, s1))
set_option maxRecDepth 100000 in
set_option maxHeartbeats 4000000 in
theorem t_X12_sum (w : zWd) (F : Nat) (d : Nat) (hd : 5 ≤ d) (s : zM) : zMt w yX12_sum cX12_sum 1 (some .int) d zφN zφN zri [.ref (w.2.2.2 + 69)] s (f_X12_sum F s) := by
  refine zMtN_of (own := RX12) rfl (by decide +kernel) (Nat.le_of_ble_eq_true rfl) cd_X12_sum [(0, .ref (w.2.2.2 + 69))] rfl ?_
  rintro a rfl K
  unfold f_X12_sum
  refine z_aload_n K 0 rfl dX12_sum_0 ?_
  refine z_cVi (As := []) (rest := []) K (t_X12_sumOf a.1 F (d - 1) (by omega) s) mf_X12_sumOf ml_X12_387 (Nat.le_of_ble_eq_true rfl) (by omega) rfl rc_69 rfl (Nat.le_of_ble_eq_true rfl) dX12_sum_1 (fun r2 s1 => ?_)
  exact z_iret K dX12_sum_4
def f_X12_bits_L4 (F : Nat) (k24 : Int32 → zM → Option (Int32 × zM)) (v0 : Int32) : Nat → Int32 → Int32 → zM → Option (Int32 × zM)
  | 0, _, _, _ => none
  | n + 1, v1, v2, s =>
    if v2 < (16 : Int32) then
      lt ((v1 + ((v0 >>> (v2 &&& 31)) &&& (1 : Int32)))) (fun y1 =>
      lt (v2 + (1 : Int32)) (fun y2 =>
      f_X12_bits_L4 F k24 v0 n y1 y2 s))
    else
      k24 v1 s
set_option maxRecDepth 100000 in
set_option maxHeartbeats 4000000 in
theorem t_X12_bits_L4 {a : zA} {d : Nat} (F : Nat) (K : zOK a cX12_bits 3 RX12 (some .int) d) (hd : 0 ≤ d) {k24 : Int32 → zM → Option (Int32 × zM)} (v0 : Int32) (h24 : ∀ (v1 : Int32) (s : zM), zJ a 3 (zG a zφN zri) zφN 24 [(1, .int v1)] [] s (k24 v1 s)) : ∀ (n : Nat) (v1 : Int32) (v2 : Int32) (s : zM), zJ a 3 (zG a zφN zri) zφN 4 [(0, .int v0), (1, .int v1), (2, .int v2)] [] s (f_X12_bits_L4 F k24 v0 n v1 v2 s) := by
  intro n
  induction n with
  | zero => intros; exact z_none
  | succ n ih =>
    intro v1 v2 s
    rw [f_X12_bits_L4]
    refine z_iload_n K 2 rfl dX12_bits_4 ?_
    refine z_bipush K cb_16 dX12_bits_5 ?_
    refine z_icmp_ge K (tgt := 24) dX12_bits_7 (by decide) ?_ ?_
    · refine z_sub [1] rfl ?_
      exact h24 v1 s
    · refine z_iload_n K 1 rfl dX12_bits_10 ?_
      refine z_iload_n K 0 rfl dX12_bits_11 ?_
      refine z_iload_n K 2 rfl dX12_bits_12 ?_
      refine z_ishr K dX12_bits_13 ?_
      refine z_iconst K ci_1 dX12_bits_14 ?_
      refine z_iand K dX12_bits_15 ?_
      refine z_iadd K dX12_bits_16 ?_
      refine z_topi (fun y1 => ?_)
      refine z_istore_n K (lv' := [(1, .int y1), (0, .int v0), (2, .int v2)]) dX12_bits_17 rfl (Nat.le_of_ble_eq_true rfl) rfl ?_
      refine z_iincN K (j := 2) (lv' := [(1, .int y1), (0, .int v0)]) ci_1 rfl dX12_bits_18 (Nat.le_of_ble_eq_true rfl) rfl (fun y2 => ?_)
      refine z_goto K (tgt := 4) dX12_bits_21 (by decide) ?_
      refine z_sub [2, 1, 0] rfl ?_
      exact ih y1 y2 s
def f_X12_bits (F : Nat) (v0 : Int32) (s : zM) : Option (Int32 × zM) :=
  f_X12_bits_L4 F (fun y4 s3 =>
    some (y4, s3)) v0 F (0 : Int32) (0 : Int32) s
set_option maxRecDepth 100000 in
set_option maxHeartbeats 4000000 in
theorem t_X12_bits (w : zWd) (F : Nat) (d : Nat) (hd : 0 ≤ d) (v0 : Int32) (s : zM) : zMt w yX12_bits cX12_bits 3 (some .int) d zφN zφN zri [.int v0] s (f_X12_bits F v0 s) := by
  refine zMtN_of (own := RX12) rfl (by decide +kernel) (Nat.le_of_ble_eq_true rfl) cd_X12_bits [(0, .int v0)] rfl ?_
  rintro a rfl K
  unfold f_X12_bits
  refine z_iconst K ci_0 dX12_bits_0 ?_
  refine z_istore_n K (lv' := [(1, .int (0 : Int32)), (0, .int v0)]) dX12_bits_1 rfl (Nat.le_of_ble_eq_true rfl) rfl ?_
  refine z_iconst K ci_0 dX12_bits_2 ?_
  refine z_istore_n K (lv' := [(2, .int (0 : Int32)), (1, .int (0 : Int32)), (0, .int v0)]) dX12_bits_3 rfl (Nat.le_of_ble_eq_true rfl) rfl ?_
  refine z_sub [2, 1, 0] rfl ?_
  refine t_X12_bits_L4 F K hd v0 (fun y4 s3 => ?_) F (0 : Int32) (0 : Int32) s
  refine z_iload_n K 0 rfl dX12_bits_24 ?_
  exact z_iret K dX12_bits_25
def f_X12_takesSeats_L53 (F : Nat) (k113 : Int32 → zM → Option (Int32 × zM)) (v1 : Int32) (v2 : Int32) (v3 : Int32) (v4 : Int32) : Nat → Int32 → zM → Option (Int32 × zM)
  | 0, _, _ => none
  | n + 1, v6, s =>
    if 0 < v6 then
      if zin (v6 - (1 : Int32)) 7 = true then
        if (zg s 98 ((v6 - (1 : Int32))).toNatClampNeg) < v4 then
          k113 v6 s
        else
          if zin (v6 - (1 : Int32)) 7 = true then
            if (zg s 98 ((v6 - (1 : Int32))).toNatClampNeg) = v4 then
              some ((0 : Int32), s)
            else
              if zin (v6 - (1 : Int32)) 7 = true then
                if zin v6 7 = true then
                  lt (zs s 98 (v6).toNatClampNeg (zg s 98 ((v6 - (1 : Int32))).toNatClampNeg)) (fun s6 =>
                  lt ((v6 - (1 : Int32))) (fun y7 =>
                  f_X12_takesSeats_L53 F k113 v1 v2 v3 v4 n y7 s6))
                else none
              else none
          else none
      else none
    else
      k113 v6 s
set_option maxRecDepth 100000 in
set_option maxHeartbeats 4000000 in
theorem t_X12_takesSeats_L53 {a : zA} {d : Nat} (F : Nat) (K : zOK a cX12_takesSeats 7 RX12 (some .boolean) d) (hd : 1 ≤ d) {k113 : Int32 → zM → Option (Int32 × zM)} (v1 : Int32) (v2 : Int32) (v3 : Int32) (v4 : Int32) (h113 : ∀ (v6 : Int32) (s : zM), zJ a 7 (zG a zφN zri) zφN 113 [(0, .ref (a.1.2.2.2 + 69)), (1, .int v1), (2, .int v2), (3, .int v3), (4, .int v4), (6, .int v6)] [] s (k113 v6 s)) : ∀ (n : Nat) (v6 : Int32) (s : zM), zJ a 7 (zG a zφN zri) zφN 53 [(0, .ref (a.1.2.2.2 + 69)), (1, .int v1), (2, .int v2), (3, .int v3), (4, .int v4), (6, .int v6)] [] s (f_X12_takesSeats_L53 F k113 v1 v2 v3 v4 n v6 s) := by
  intro n
  induction n with
  | zero => intros; exact z_none
  | succ n ih =>
    intro v6 s
    rw [f_X12_takesSeats_L53]
    refine z_iload K 5 rfl dX12_takesSeats_53 ?_
    refine z_if_le K (tgt := 113) dX12_takesSeats_55 (by decide) ?_ ?_
    · exact h113 v6 s
    · refine z_aload_n K 0 rfl dX12_takesSeats_58 ?_
      refine z_getr K fd_X12_95 ob_69_46 dX12_takesSeats_59 ?_
      refine z_iload K 5 rfl dX12_takesSeats_62 ?_
      refine z_iconst K ci_1 dX12_takesSeats_64 ?_
      refine z_isub K dX12_takesSeats_65 ?_
      refine z_iald K ar_98 dX12_takesSeats_66 ?_
      refine z_iload K 4 rfl dX12_takesSeats_67 ?_
      refine z_icmp_lt K (tgt := 113) dX12_takesSeats_69 (by decide) ?_ ?_
      · exact h113 v6 s
      · refine z_aload_n K 0 rfl dX12_takesSeats_72 ?_
        refine z_getr K fd_X12_95 ob_69_46 dX12_takesSeats_73 ?_
        refine z_iload K 5 rfl dX12_takesSeats_76 ?_
        refine z_iconst K ci_1 dX12_takesSeats_78 ?_
        refine z_isub K dX12_takesSeats_79 ?_
        refine z_iald K ar_98 dX12_takesSeats_80 ?_
        refine z_iload K 4 rfl dX12_takesSeats_81 ?_
        refine z_icmp_ne K (tgt := 88) dX12_takesSeats_83 (by decide) ?_ ?_
        · refine z_aload_n K 0 rfl dX12_takesSeats_88 ?_
          refine z_getr K fd_X12_95 ob_69_46 dX12_takesSeats_89 ?_
          refine z_iload K 5 rfl dX12_takesSeats_92 ?_
          refine z_aload_n K 0 rfl dX12_takesSeats_94 ?_
          refine z_getr K fd_X12_95 ob_69_46 dX12_takesSeats_95 ?_
          refine z_iload K 5 rfl dX12_takesSeats_98 ?_
          refine z_iconst K ci_1 dX12_takesSeats_100 ?_
          refine z_isub K dX12_takesSeats_101 ?_
          refine z_iald K ar_98 dX12_takesSeats_102 ?_
          refine z_iast K ar_98 dX12_takesSeats_103 ?_
          refine z_ltm (fun s6 => ?_)
          refine z_iload K 5 rfl dX12_takesSeats_104 ?_
          refine z_iconst K ci_1 dX12_takesSeats_106 ?_
          refine z_isub K dX12_takesSeats_107 ?_
          refine z_topi (fun y7 => ?_)
          refine z_istore K (lv' := [(6, .int y7), (0, .ref (a.1.2.2.2 + 69)), (1, .int v1), (2, .int v2), (3, .int v3), (4, .int v4)]) dX12_takesSeats_108 (Nat.le_of_ble_eq_true rfl) rfl ?_
          refine z_goto K (tgt := 53) dX12_takesSeats_110 (by decide) ?_
          refine z_sub [1, 2, 3, 4, 5, 0] rfl ?_
          exact ih y7 s6
        · refine z_iconst K ci_0 dX12_takesSeats_86 ?_
          exact z_zret (Or.inl rfl) K dX12_takesSeats_87
def f_X12_takesSeats_L2 (F : Nat) (k128 : zM → Option (Int32 × zM)) (v1 : Int32) (v2 : Int32) : Nat → Int32 → zM → Option (Int32 × zM)
  | 0, _, _ => none
  | n + 1, v3, s =>
    if v3 < v2 then
      if zin v3 220 = true then
        lt ((zg s 74 (v3).toNatClampNeg)) (fun y1 =>
        bnd (f_X12_isSeat y1 s) (fun r3 s2 =>
        if r3 = 0 then
          some ((0 : Int32), s2)
        else
          bnd (f_X12_guestAt F y1 s2) (fun r5 s4 =>
          if r5 = (-1 : Int32) then
            f_X12_takesSeats_L53 F (fun y9 s8 =>
              if zin y9 7 = true then
                lt (zs s8 98 (y9).toNatClampNeg y1) (fun s10 =>
                lt (v3 + (1 : Int32)) (fun y11 =>
                f_X12_takesSeats_L2 F k128 v1 v2 n y11 s10))
              else none) v1 v2 v3 y1 F v3 s4
          else
            if ((v1 >>> (r5 &&& 31)) &&& (1 : Int32)) = 0 then
              some ((0 : Int32), s4)
            else
              f_X12_takesSeats_L53 F (fun y13 s12 =>
                if zin y13 7 = true then
                  lt (zs s12 98 (y13).toNatClampNeg y1) (fun s14 =>
                  lt (v3 + (1 : Int32)) (fun y15 =>
                  f_X12_takesSeats_L2 F k128 v1 v2 n y15 s14))
                else none) v1 v2 v3 y1 F v3 s4)))
      else none
    else
      k128 s
set_option maxRecDepth 100000 in
set_option maxHeartbeats 4000000 in
theorem t_X12_takesSeats_L2 {a : zA} {d : Nat} (F : Nat) (K : zOK a cX12_takesSeats 7 RX12 (some .boolean) d) (hd : 1 ≤ d) {k128 : zM → Option (Int32 × zM)} (v1 : Int32) (v2 : Int32) (h128 : ∀ (s : zM), zJ a 7 (zG a zφN zri) zφN 128 [(0, .ref (a.1.2.2.2 + 69)), (1, .int v1)] [] s (k128 s)) : ∀ (n : Nat) (v3 : Int32) (s : zM), zJ a 7 (zG a zφN zri) zφN 2 [(0, .ref (a.1.2.2.2 + 69)), (1, .int v1), (2, .int v2), (3, .int v3)] [] s (f_X12_takesSeats_L2 F k128 v1 v2 n v3 s) := by
  intro n
  induction n with
  | zero => intros; exact z_none
  | succ n ih =>
    intro v3 s
    rw [f_X12_takesSeats_L2]
    refine z_iload_n K 3 rfl dX12_takesSeats_2 ?_
    refine z_iload_n K 2 rfl dX12_takesSeats_3 ?_
    refine z_icmp_ge K (tgt := 128) dX12_takesSeats_4 (by decide) ?_ ?_
    · refine z_sub [0, 1] rfl ?_
      exact h128 s
    · refine z_aload_n K 0 rfl dX12_takesSeats_7 ?_
      refine z_getr K fd_X12_22 ob_69_6 dX12_takesSeats_8 ?_
      refine z_iload_n K 3 rfl dX12_takesSeats_11 ?_
      refine z_bald K ar_74 dX12_takesSeats_12 ?_
      refine z_topi (fun y1 => ?_)
      refine z_istore K (lv' := [(4, .int y1), (0, .ref (a.1.2.2.2 + 69)), (1, .int v1), (2, .int v2), (3, .int v3)]) dX12_takesSeats_13 (Nat.le_of_ble_eq_true rfl) rfl ?_
      refine z_iload K 0 rfl dX12_takesSeats_15 ?_
      refine z_cSi (As := [.int y1]) (rest := []) K (t_X12_isSeat a.1 (d - 1) (by omega) y1 s) mf_X12_isSeat ml_X12_175 (Nat.le_of_ble_eq_true rfl) (by omega) rfl rfl (Nat.le_of_ble_eq_true rfl) dX12_takesSeats_17 (fun r3 s2 => ?_)
      refine z_if_ne K (tgt := 25) dX12_takesSeats_20 (by decide) ?_ ?_
      · refine z_aload_n K 1 rfl dX12_takesSeats_25 ?_
        refine z_iload K 0 rfl dX12_takesSeats_26 ?_
        refine z_cVi (As := [.int y1]) (rest := []) K (t_X12_guestAt a.1 F (d - 1) (by omega) y1 s2) mf_X12_guestAt ml_X12_179 (Nat.le_of_ble_eq_true rfl) (by omega) rfl rc_69 rfl (Nat.le_of_ble_eq_true rfl) dX12_takesSeats_28 (fun r5 s4 => ?_)
        refine z_istore K (lv' := [(5, .int r5), (4, .int y1), (0, .ref (a.1.2.2.2 + 69)), (1, .int v1), (2, .int v2), (3, .int v3)]) dX12_takesSeats_31 (Nat.le_of_ble_eq_true rfl) rfl ?_
        refine z_iload K 0 rfl dX12_takesSeats_33 ?_
        refine z_iconst K ci_m1 dX12_takesSeats_35 ?_
        refine z_icmp_eq K (tgt := 50) dX12_takesSeats_36 (by decide) ?_ ?_
        · refine z_iload_n K 5 rfl dX12_takesSeats_50 ?_
          refine z_istore K (lv' := [(6, .int v3), (5, .int r5), (4, .int y1), (0, .ref (a.1.2.2.2 + 69)), (1, .int v1), (2, .int v2), (3, .int v3)]) dX12_takesSeats_51 (Nat.le_of_ble_eq_true rfl) rfl ?_
          refine z_sub [3, 4, 5, 6, 2, 0] rfl ?_
          refine t_X12_takesSeats_L53 F K hd v1 v2 v3 y1 (fun y9 s8 => ?_) F v3 s4
          refine z_aload_n K 0 rfl dX12_takesSeats_113 ?_
          refine z_getr K fd_X12_95 ob_69_46 dX12_takesSeats_114 ?_
          refine z_iload K 5 rfl dX12_takesSeats_117 ?_
          refine z_iload K 4 rfl dX12_takesSeats_119 ?_
          refine z_iast K ar_98 dX12_takesSeats_121 ?_
          refine z_ltm (fun s10 => ?_)
          refine z_iincN K (j := 3) (lv' := [(0, .ref (a.1.2.2.2 + 69)), (1, .int v1), (2, .int v2), (4, .int y1), (6, .int y9)]) ci_1 rfl dX12_takesSeats_122 (Nat.le_of_ble_eq_true rfl) rfl (fun y11 => ?_)
          refine z_goto K (tgt := 2) dX12_takesSeats_125 (by decide) ?_
          refine z_sub [1, 2, 3, 0] rfl ?_
          exact ih y11 s10
        · refine z_iload_n K 3 rfl dX12_takesSeats_39 ?_
          refine z_iload K 0 rfl dX12_takesSeats_40 ?_
          refine z_ishr K dX12_takesSeats_42 ?_
          refine z_iconst K ci_1 dX12_takesSeats_43 ?_
          refine z_iand K dX12_takesSeats_44 ?_
          refine z_if_ne K (tgt := 50) dX12_takesSeats_45 (by decide) ?_ ?_
          · refine z_iload_n K 5 rfl dX12_takesSeats_50 ?_
            refine z_istore K (lv' := [(6, .int v3), (5, .int r5), (4, .int y1), (0, .ref (a.1.2.2.2 + 69)), (1, .int v1), (2, .int v2), (3, .int v3)]) dX12_takesSeats_51 (Nat.le_of_ble_eq_true rfl) rfl ?_
            refine z_sub [3, 4, 5, 6, 2, 0] rfl ?_
            refine t_X12_takesSeats_L53 F K hd v1 v2 v3 y1 (fun y13 s12 => ?_) F v3 s4
            refine z_aload_n K 0 rfl dX12_takesSeats_113 ?_
            refine z_getr K fd_X12_95 ob_69_46 dX12_takesSeats_114 ?_
            refine z_iload K 5 rfl dX12_takesSeats_117 ?_
            refine z_iload K 4 rfl dX12_takesSeats_119 ?_
            refine z_iast K ar_98 dX12_takesSeats_121 ?_
            refine z_ltm (fun s14 => ?_)
            refine z_iincN K (j := 3) (lv' := [(0, .ref (a.1.2.2.2 + 69)), (1, .int v1), (2, .int v2), (4, .int y1), (6, .int y13)]) ci_1 rfl dX12_takesSeats_122 (Nat.le_of_ble_eq_true rfl) rfl (fun y15 => ?_)
            refine z_goto K (tgt := 2) dX12_takesSeats_125 (by decide) ?_
            refine z_sub [1, 2, 3, 0] rfl ?_
            exact ih y15 s14
          · refine z_iconst K ci_0 dX12_takesSeats_48 ?_
            exact z_zret (Or.inl rfl) K dX12_takesSeats_49
      · refine z_iconst K ci_0 dX12_takesSeats_23 ?_
        exact z_zret (Or.inl rfl) K dX12_takesSeats_24
def f_X12_takesSeats_L130 (F : Nat) (k164 : zM → Option (Int32 × zM)) (v1 : Int32) : Nat → Int32 → zM → Option (Int32 × zM)
  | 0, _, _ => none
  | n + 1, v3, s =>
    if v3 < (16 : Int32) then
      if ((v1 >>> (v3 &&& 31)) &&& (1 : Int32)) = (1 : Int32) then
        if zin v3 16 = true then
          if (zg s 71 (v3).toNatClampNeg) = (-2 : Int32) then
            some ((0 : Int32), s)
          else
            lt (v3 + (1 : Int32)) (fun y18 =>
            f_X12_takesSeats_L130 F k164 v1 n y18 s)
        else none
      else
        lt (v3 + (1 : Int32)) (fun y17 =>
        f_X12_takesSeats_L130 F k164 v1 n y17 s)
    else
      k164 s
set_option maxRecDepth 100000 in
set_option maxHeartbeats 4000000 in
theorem t_X12_takesSeats_L130 {a : zA} {d : Nat} (F : Nat) (K : zOK a cX12_takesSeats 7 RX12 (some .boolean) d) (hd : 1 ≤ d) {k164 : zM → Option (Int32 × zM)} (v1 : Int32) (h164 : ∀ (s : zM), zJ a 7 (zG a zφN zri) zφN 164 [] [] s (k164 s)) : ∀ (n : Nat) (v3 : Int32) (s : zM), zJ a 7 (zG a zφN zri) zφN 130 [(0, .ref (a.1.2.2.2 + 69)), (1, .int v1), (3, .int v3)] [] s (f_X12_takesSeats_L130 F k164 v1 n v3 s) := by
  intro n
  induction n with
  | zero => intros; exact z_none
  | succ n ih =>
    intro v3 s
    rw [f_X12_takesSeats_L130]
    refine z_iload_n K 2 rfl dX12_takesSeats_130 ?_
    refine z_bipush K cb_16 dX12_takesSeats_131 ?_
    refine z_icmp_ge K (tgt := 164) dX12_takesSeats_133 (by decide) ?_ ?_
    · refine z_sub [] rfl ?_
      exact h164 s
    · refine z_iload_n K 1 rfl dX12_takesSeats_136 ?_
      refine z_iload_n K 2 rfl dX12_takesSeats_137 ?_
      refine z_ishr K dX12_takesSeats_138 ?_
      refine z_iconst K ci_1 dX12_takesSeats_139 ?_
      refine z_iand K dX12_takesSeats_140 ?_
      refine z_iconst K ci_1 dX12_takesSeats_141 ?_
      refine z_icmp_ne K (tgt := 158) dX12_takesSeats_142 (by decide) ?_ ?_
      · refine z_iincN K (j := 2) (lv' := [(0, .ref (a.1.2.2.2 + 69)), (1, .int v1)]) ci_1 rfl dX12_takesSeats_158 (Nat.le_of_ble_eq_true rfl) rfl (fun y17 => ?_)
        refine z_goto K (tgt := 130) dX12_takesSeats_161 (by decide) ?_
        refine z_sub [1, 2, 0] rfl ?_
        exact ih y17 s
      · refine z_aload_n K 0 rfl dX12_takesSeats_145 ?_
        refine z_getr K fd_X12_13 ob_69_3 dX12_takesSeats_146 ?_
        refine z_iload_n K 2 rfl dX12_takesSeats_149 ?_
        refine z_iald K ar_71 dX12_takesSeats_150 ?_
        refine z_bipush K cb_m2 dX12_takesSeats_151 ?_
        refine z_icmp_ne K (tgt := 158) dX12_takesSeats_153 (by decide) ?_ ?_
        · refine z_iincN K (j := 2) (lv' := [(0, .ref (a.1.2.2.2 + 69)), (1, .int v1)]) ci_1 rfl dX12_takesSeats_158 (Nat.le_of_ble_eq_true rfl) rfl (fun y18 => ?_)
          refine z_goto K (tgt := 130) dX12_takesSeats_161 (by decide) ?_
          refine z_sub [1, 2, 0] rfl ?_
          exact ih y18 s
        · refine z_iconst K ci_0 dX12_takesSeats_156 ?_
          exact z_zret (Or.inl rfl) K dX12_takesSeats_157
def f_X12_takesSeats (F : Nat) (v1 : Int32) (v2 : Int32) (s : zM) : Option (Int32 × zM) :=
  f_X12_takesSeats_L2 F (fun s16 =>
    f_X12_takesSeats_L130 F (fun s19 =>
      some ((1 : Int32), s19)) v1 F (0 : Int32) s16) v1 v2 F (0 : Int32) s
set_option maxRecDepth 100000 in
set_option maxHeartbeats 4000000 in
theorem t_X12_takesSeats (w : zWd) (F : Nat) (d : Nat) (hd : 1 ≤ d) (v1 : Int32) (v2 : Int32) (s : zM) : zMt w yX12_takesSeats cX12_takesSeats 7 (some .boolean) d zφN zφN zri [.ref (w.2.2.2 + 69), .int v1, .int v2] s (f_X12_takesSeats F v1 v2 s) := by
  refine zMtN_of (own := RX12) rfl (by decide +kernel) (Nat.le_of_ble_eq_true rfl) cd_X12_takesSeats [(0, .ref (w.2.2.2 + 69)), (1, .int v1), (2, .int v2)] rfl ?_
  rintro a rfl K
  unfold f_X12_takesSeats
  refine z_iconst K ci_0 dX12_takesSeats_0 ?_
  refine z_istore_n K (lv' := [(3, .int (0 : Int32)), (0, .ref (a.1.2.2.2 + 69)), (1, .int v1), (2, .int v2)]) dX12_takesSeats_1 rfl (Nat.le_of_ble_eq_true rfl) rfl ?_
  refine z_sub [1, 2, 3, 0] rfl ?_
  refine t_X12_takesSeats_L2 F K hd v1 v2 (fun s16 => ?_) F (0 : Int32) s
  refine z_iconst K ci_0 dX12_takesSeats_128 ?_
  refine z_istore_n K (lv' := [(3, .int (0 : Int32)), (0, .ref (a.1.2.2.2 + 69)), (1, .int v1)]) dX12_takesSeats_129 rfl (Nat.le_of_ble_eq_true rfl) rfl ?_
  refine z_sub [1, 2, 0] rfl ?_
  refine t_X12_takesSeats_L130 F K hd v1 (fun s19 => ?_) F (0 : Int32) s16
  refine z_iconst K ci_1 dX12_takesSeats_164 ?_
  exact z_zret (Or.inr rfl) K dX12_takesSeats_165
def f_X12_seatsBy_j77 (F : Nat) (k61 : Int32 → Int32 → zM → Option (Unit × zM)) (v1 : Int32) (v2 : Int32) (v5 : Int32) (v6 : Int32) (v7 : Int32) (v8 : Int32) (v9 : Int32) (v10 : Int32) (v11 : Int32) (s : zM) : Option (Unit × zM) :=
  if ((v7 >>> (v11 &&& 31)) &&& (1 : Int32)) = (1 : Int32) then
    lt ((v11 + (1 : Int32))) (fun y6 =>
    k61 v10 y6 s)
  else
    lt ((v10 - (1 : Int32))) (fun y4 =>
    lt ((v11 + (1 : Int32))) (fun y5 =>
    k61 y4 y5 s))
set_option maxRecDepth 100000 in
set_option maxHeartbeats 4000000 in
theorem t_X12_seatsBy_j77 {a : zA} {d : Nat} (F : Nat) (K : zOK a cX12_seatsBy 12 RX12 none d) (hd : 0 ≤ d) {k61 : Int32 → Int32 → zM → Option (Unit × zM)} (v1 : Int32) (v2 : Int32) (v5 : Int32) (v6 : Int32) (v7 : Int32) (v8 : Int32) (v9 : Int32) (h61 : ∀ (v10 : Int32) (v11 : Int32) (s : zM), zJ a 12 (zG a zφN zrv) zφN 61 [(0, .ref (a.1.2.2.2 + 69)), (1, .int v1), (2, .int v2), (5, .int v5), (6, .int v6), (7, .int v7), (8, .int v8), (9, .int v9), (10, .int v10), (11, .int v11)] [] s (k61 v10 v11 s)) (v10 : Int32) (v11 : Int32) (s : zM) : zJ a 12 (zG a zφN zrv) zφN 77 [(0, .ref (a.1.2.2.2 + 69)), (1, .int v1), (2, .int v2), (5, .int v5), (6, .int v6), (7, .int v7), (8, .int v8), (9, .int v9), (10, .int v10), (11, .int v11)] [] s (f_X12_seatsBy_j77 F k61 v1 v2 v5 v6 v7 v8 v9 v10 v11 s) := by
  unfold f_X12_seatsBy_j77
  refine z_iload K 5 rfl dX12_seatsBy_77 ?_
  refine z_iload K 9 rfl dX12_seatsBy_79 ?_
  refine z_ishr K dX12_seatsBy_81 ?_
  refine z_iconst K ci_1 dX12_seatsBy_82 ?_
  refine z_iand K dX12_seatsBy_83 ?_
  refine z_iconst K ci_1 dX12_seatsBy_84 ?_
  refine z_icmp_ne K (tgt := 93) dX12_seatsBy_85 (by decide) ?_ ?_
  · refine z_iload K 8 rfl dX12_seatsBy_93 ?_
    refine z_iconst K ci_1 dX12_seatsBy_95 ?_
    refine z_isub K dX12_seatsBy_96 ?_
    refine z_topi (fun y4 => ?_)
    refine z_istore K (lv' := [(10, .int y4), (0, .ref (a.1.2.2.2 + 69)), (1, .int v1), (2, .int v2), (5, .int v5), (6, .int v6), (7, .int v7), (8, .int v8), (9, .int v9), (11, .int v11)]) dX12_seatsBy_97 (Nat.le_of_ble_eq_true rfl) rfl ?_
    refine z_iload K 9 rfl dX12_seatsBy_99 ?_
    refine z_iconst K ci_1 dX12_seatsBy_101 ?_
    refine z_iadd K dX12_seatsBy_102 ?_
    refine z_topi (fun y5 => ?_)
    refine z_istore K (lv' := [(11, .int y5), (10, .int y4), (0, .ref (a.1.2.2.2 + 69)), (1, .int v1), (2, .int v2), (5, .int v5), (6, .int v6), (7, .int v7), (8, .int v8), (9, .int v9)]) dX12_seatsBy_103 (Nat.le_of_ble_eq_true rfl) rfl ?_
    refine z_goto K (tgt := 61) dX12_seatsBy_105 (by decide) ?_
    refine z_sub [2, 3, 4, 5, 6, 7, 8, 9, 1, 0] rfl ?_
    exact h61 y4 y5 s
  · refine z_iload K 8 rfl dX12_seatsBy_88 ?_
    refine z_goto K (tgt := 97) dX12_seatsBy_90 (by decide) ?_
    refine z_istore K (lv' := [(10, .int v10), (0, .ref (a.1.2.2.2 + 69)), (1, .int v1), (2, .int v2), (5, .int v5), (6, .int v6), (7, .int v7), (8, .int v8), (9, .int v9), (11, .int v11)]) dX12_seatsBy_97 (Nat.le_of_ble_eq_true rfl) rfl ?_
    refine z_iload K 9 rfl dX12_seatsBy_99 ?_
    refine z_iconst K ci_1 dX12_seatsBy_101 ?_
    refine z_iadd K dX12_seatsBy_102 ?_
    refine z_topi (fun y6 => ?_)
    refine z_istore K (lv' := [(11, .int y6), (10, .int v10), (0, .ref (a.1.2.2.2 + 69)), (1, .int v1), (2, .int v2), (5, .int v5), (6, .int v6), (7, .int v7), (8, .int v8), (9, .int v9)]) dX12_seatsBy_103 (Nat.le_of_ble_eq_true rfl) rfl ?_
    refine z_goto K (tgt := 61) dX12_seatsBy_105 (by decide) ?_
    refine z_sub [2, 3, 4, 5, 6, 7, 8, 9, 1, 0] rfl ?_
    exact h61 v10 y6 s
def f_X12_seatsBy_L61 (F : Nat) (k108 : Int32 → zM → Option (Unit × zM)) (v1 : Int32) (v2 : Int32) (v5 : Int32) (v6 : Int32) (v7 : Int32) (v8 : Int32) (v9 : Int32) : Nat → Int32 → Int32 → zM → Option (Unit × zM)
  | 0, _, _, _ => none
  | n + 1, v10, v11, s =>
    if ((v7 >>> (v11 &&& 31)) &&& (1 : Int32)) = (1 : Int32) then
      f_X12_seatsBy_j77 F (f_X12_seatsBy_L61 F k108 v1 v2 v5 v6 v7 v8 v9 n) v1 v2 v5 v6 v7 v8 v9 v10 v11 s
    else
      if 0 < v10 then
        f_X12_seatsBy_j77 F (f_X12_seatsBy_L61 F k108 v1 v2 v5 v6 v7 v8 v9 n) v1 v2 v5 v6 v7 v8 v9 v10 v11 s
      else
        k108 v11 s
set_option maxRecDepth 100000 in
set_option maxHeartbeats 4000000 in
theorem t_X12_seatsBy_L61 {a : zA} {d : Nat} (F : Nat) (K : zOK a cX12_seatsBy 12 RX12 none d) (hd : 0 ≤ d) {k108 : Int32 → zM → Option (Unit × zM)} (v1 : Int32) (v2 : Int32) (v5 : Int32) (v6 : Int32) (v7 : Int32) (v8 : Int32) (v9 : Int32) (h108 : ∀ (v11 : Int32) (s : zM), zJ a 12 (zG a zφN zrv) zφN 108 [(0, .ref (a.1.2.2.2 + 69)), (1, .int v1), (2, .int v2), (5, .int v5), (6, .int v6), (7, .int v7), (8, .int v8), (9, .int v9), (11, .int v11)] [] s (k108 v11 s)) : ∀ (n : Nat) (v10 : Int32) (v11 : Int32) (s : zM), zJ a 12 (zG a zφN zrv) zφN 61 [(0, .ref (a.1.2.2.2 + 69)), (1, .int v1), (2, .int v2), (5, .int v5), (6, .int v6), (7, .int v7), (8, .int v8), (9, .int v9), (10, .int v10), (11, .int v11)] [] s (f_X12_seatsBy_L61 F k108 v1 v2 v5 v6 v7 v8 v9 n v10 v11 s) := by
  intro n
  induction n with
  | zero => intros; exact z_none
  | succ n ih =>
    intro v10 v11 s
    rw [f_X12_seatsBy_L61]
    refine z_iload K 5 rfl dX12_seatsBy_61 ?_
    refine z_iload K 9 rfl dX12_seatsBy_63 ?_
    refine z_ishr K dX12_seatsBy_65 ?_
    refine z_iconst K ci_1 dX12_seatsBy_66 ?_
    refine z_iand K dX12_seatsBy_67 ?_
    refine z_iconst K ci_1 dX12_seatsBy_68 ?_
    refine z_icmp_eq K (tgt := 77) dX12_seatsBy_69 (by decide) ?_ ?_
    · exact t_X12_seatsBy_j77 F K hd v1 v2 v5 v6 v7 v8 v9 ih v10 v11 s
    · refine z_iload K 8 rfl dX12_seatsBy_72 ?_
      refine z_if_le K (tgt := 108) dX12_seatsBy_74 (by decide) ?_ ?_
      · refine z_sub [0, 1, 2, 3, 4, 5, 6, 7, 9] rfl ?_
        exact h108 v11 s
      · exact t_X12_seatsBy_j77 F K hd v1 v2 v5 v6 v7 v8 v9 ih v10 v11 s
def f_X12_seatsBy_L16 (F : Nat) (k143 : zM → Option (Unit × zM)) (v1 : Int32) (v2 : Int32) : Nat → Int32 → Int32 → Int32 → Int32 → Int32 → zM → Option (Unit × zM)
  | 0, _, _, _, _, _, _ => none
  | n + 1, v5, v6, v7, v8, v9, s =>
    if v9 < (16 : Int32) then
      if ((v1 >>> (v9 &&& 31)) &&& (1 : Int32)) = 0 then
        lt (v9 + (1 : Int32)) (fun y13 =>
        f_X12_seatsBy_L16 F k143 v1 v2 n v5 v6 v7 v8 y13 s)
      else
        if (v2 - v8) = 0 then none else
        lt ((v6 / (v2 - v8))) (fun y1 =>
        if y1 = 0 then none else
        lt ((v5 / y1)) (fun y2 =>
        if y1 = 0 then none else
        lt ((v5 - v5 / y1 * y1)) (fun y3 =>
        f_X12_seatsBy_L61 F (fun y8 s7 =>
          lt ((v7 ||| ((1 : Int32) <<< (y8 &&& 31)))) (fun y9 =>
          if zin y8 7 = true then
            if zin v9 16 = true then
              lt (zs s7 71 (v9).toNatClampNeg (zg s7 98 (y8).toNatClampNeg)) (fun s10 =>
              lt ((v8 + (1 : Int32))) (fun y11 =>
              lt (v9 + (1 : Int32)) (fun y12 =>
              f_X12_seatsBy_L16 F k143 v1 v2 n y3 y1 y9 y11 y12 s10)))
            else none
          else none)) v1 v2 y3 y1 v7 v8 v9 F y2 (0 : Int32) s)))
    else
      k143 s
set_option maxRecDepth 100000 in
set_option maxHeartbeats 4000000 in
theorem t_X12_seatsBy_L16 {a : zA} {d : Nat} (F : Nat) (K : zOK a cX12_seatsBy 12 RX12 none d) (hd : 0 ≤ d) {k143 : zM → Option (Unit × zM)} (v1 : Int32) (v2 : Int32) (h143 : ∀ (s : zM), zJ a 12 (zG a zφN zrv) zφN 143 [] [] s (k143 s)) : ∀ (n : Nat) (v5 : Int32) (v6 : Int32) (v7 : Int32) (v8 : Int32) (v9 : Int32) (s : zM), zJ a 12 (zG a zφN zrv) zφN 16 [(0, .ref (a.1.2.2.2 + 69)), (1, .int v1), (2, .int v2), (5, .int v5), (6, .int v6), (7, .int v7), (8, .int v8), (9, .int v9)] [] s (f_X12_seatsBy_L16 F k143 v1 v2 n v5 v6 v7 v8 v9 s) := by
  intro n
  induction n with
  | zero => intros; exact z_none
  | succ n ih =>
    intro v5 v6 v7 v8 v9 s
    rw [f_X12_seatsBy_L16]
    refine z_iload K 7 rfl dX12_seatsBy_16 ?_
    refine z_bipush K cb_16 dX12_seatsBy_18 ?_
    refine z_icmp_ge K (tgt := 143) dX12_seatsBy_20 (by decide) ?_ ?_
    · refine z_sub [] rfl ?_
      exact h143 s
    · refine z_iload_n K 1 rfl dX12_seatsBy_23 ?_
      refine z_iload K 7 rfl dX12_seatsBy_24 ?_
      refine z_ishr K dX12_seatsBy_26 ?_
      refine z_iconst K ci_1 dX12_seatsBy_27 ?_
      refine z_iand K dX12_seatsBy_28 ?_
      refine z_if_ne K (tgt := 35) dX12_seatsBy_29 (by decide) ?_ ?_
      · refine z_iload K 4 rfl dX12_seatsBy_35 ?_
        refine z_iload_n K 2 rfl dX12_seatsBy_37 ?_
        refine z_iload K 6 rfl dX12_seatsBy_38 ?_
        refine z_isub K dX12_seatsBy_40 ?_
        refine z_idiv K dX12_seatsBy_41 ?_
        refine z_topi (fun y1 => ?_)
        refine z_istore K (lv' := [(6, .int y1), (0, .ref (a.1.2.2.2 + 69)), (1, .int v1), (2, .int v2), (5, .int v5), (7, .int v7), (8, .int v8), (9, .int v9)]) dX12_seatsBy_42 (Nat.le_of_ble_eq_true rfl) rfl ?_
        refine z_iload K 4 rfl dX12_seatsBy_44 ?_
        refine z_iload K 0 rfl dX12_seatsBy_46 ?_
        refine z_idiv K dX12_seatsBy_48 ?_
        refine z_topi (fun y2 => ?_)
        refine z_istore K (lv' := [(10, .int y2), (6, .int y1), (0, .ref (a.1.2.2.2 + 69)), (1, .int v1), (2, .int v2), (5, .int v5), (7, .int v7), (8, .int v8), (9, .int v9)]) dX12_seatsBy_49 (Nat.le_of_ble_eq_true rfl) rfl ?_
        refine z_iload K 5 rfl dX12_seatsBy_51 ?_
        refine z_iload K 1 rfl dX12_seatsBy_53 ?_
        refine z_irem K dX12_seatsBy_55 ?_
        refine z_topi (fun y3 => ?_)
        refine z_istore K (lv' := [(5, .int y3), (10, .int y2), (6, .int y1), (0, .ref (a.1.2.2.2 + 69)), (1, .int v1), (2, .int v2), (7, .int v7), (8, .int v8), (9, .int v9)]) dX12_seatsBy_56 (Nat.le_of_ble_eq_true rfl) rfl ?_
        refine z_iconst K ci_0 dX12_seatsBy_58 ?_
        refine z_istore K (lv' := [(11, .int (0 : Int32)), (5, .int y3), (10, .int y2), (6, .int y1), (0, .ref (a.1.2.2.2 + 69)), (1, .int v1), (2, .int v2), (7, .int v7), (8, .int v8), (9, .int v9)]) dX12_seatsBy_59 (Nat.le_of_ble_eq_true rfl) rfl ?_
        refine z_sub [4, 5, 6, 1, 3, 7, 8, 9, 2, 0] rfl ?_
        refine t_X12_seatsBy_L61 F K hd v1 v2 y3 y1 v7 v8 v9 (fun y8 s7 => ?_) F y2 (0 : Int32) s
        refine z_iload K 5 rfl dX12_seatsBy_108 ?_
        refine z_iconst K ci_1 dX12_seatsBy_110 ?_
        refine z_iload K 8 rfl dX12_seatsBy_111 ?_
        refine z_ishl K dX12_seatsBy_113 ?_
        refine z_ior K dX12_seatsBy_114 ?_
        refine z_topi (fun y9 => ?_)
        refine z_istore K (lv' := [(7, .int y9), (0, .ref (a.1.2.2.2 + 69)), (1, .int v1), (2, .int v2), (5, .int y3), (6, .int y1), (8, .int v8), (9, .int v9), (11, .int y8)]) dX12_seatsBy_115 (Nat.le_of_ble_eq_true rfl) rfl ?_
        refine z_aload_n K 1 rfl dX12_seatsBy_117 ?_
        refine z_getr K fd_X12_13 ob_69_3 dX12_seatsBy_118 ?_
        refine z_iload K 7 rfl dX12_seatsBy_121 ?_
        refine z_aload_n K 1 rfl dX12_seatsBy_123 ?_
        refine z_getr K fd_X12_95 ob_69_46 dX12_seatsBy_124 ?_
        refine z_iload K 8 rfl dX12_seatsBy_127 ?_
        refine z_iald K ar_98 dX12_seatsBy_129 ?_
        refine z_iast K ar_71 dX12_seatsBy_130 ?_
        refine z_ltm (fun s10 => ?_)
        refine z_iload K 6 rfl dX12_seatsBy_131 ?_
        refine z_iconst K ci_1 dX12_seatsBy_133 ?_
        refine z_iadd K dX12_seatsBy_134 ?_
        refine z_topi (fun y11 => ?_)
        refine z_istore K (lv' := [(8, .int y11), (7, .int y9), (0, .ref (a.1.2.2.2 + 69)), (1, .int v1), (2, .int v2), (5, .int y3), (6, .int y1), (9, .int v9), (11, .int y8)]) dX12_seatsBy_135 (Nat.le_of_ble_eq_true rfl) rfl ?_
        refine z_iincN K (j := 7) (lv' := [(8, .int y11), (7, .int y9), (0, .ref (a.1.2.2.2 + 69)), (1, .int v1), (2, .int v2), (5, .int y3), (6, .int y1), (11, .int y8)]) ci_1 rfl dX12_seatsBy_137 (Nat.le_of_ble_eq_true rfl) rfl (fun y12 => ?_)
        refine z_goto K (tgt := 16) dX12_seatsBy_140 (by decide) ?_
        refine z_sub [3, 4, 5, 6, 7, 2, 1, 0] rfl ?_
        exact ih y3 y1 y9 y11 y12 s10
      · refine z_goto K (tgt := 137) dX12_seatsBy_32 (by decide) ?_
        refine z_iincN K (j := 7) (lv' := [(0, .ref (a.1.2.2.2 + 69)), (1, .int v1), (2, .int v2), (5, .int v5), (6, .int v6), (7, .int v7), (8, .int v8)]) ci_1 rfl dX12_seatsBy_137 (Nat.le_of_ble_eq_true rfl) rfl (fun y13 => ?_)
        refine z_goto K (tgt := 16) dX12_seatsBy_140 (by decide) ?_
        refine z_sub [1, 2, 3, 4, 5, 6, 7, 0] rfl ?_
        exact ih v5 v6 v7 v8 y13 s
def f_X12_seatsBy (F : Nat) (v1 : Int32) (v2 : Int32) (v3 : Int32) (v4 : Int32) (s : zM) : Option (Unit × zM) :=
  f_X12_seatsBy_L16 F (fun s14 =>
    some ((), s14)) v1 v2 F v3 v4 (0 : Int32) (0 : Int32) (0 : Int32) s
set_option maxRecDepth 100000 in
set_option maxHeartbeats 4000000 in
theorem t_X12_seatsBy (w : zWd) (F : Nat) (d : Nat) (hd : 0 ≤ d) (v1 : Int32) (v2 : Int32) (v3 : Int32) (v4 : Int32) (s : zM) : zMt w yX12_seatsBy cX12_seatsBy 12 none d zφN zφN zrv [.ref (w.2.2.2 + 69), .int v1, .int v2, .int v3, .int v4] s (f_X12_seatsBy F v1 v2 v3 v4 s) := by
  refine zMtN_of (own := RX12) rfl (by decide +kernel) (Nat.le_of_ble_eq_true rfl) cd_X12_seatsBy [(0, .ref (w.2.2.2 + 69)), (1, .int v1), (2, .int v2), (3, .int v3), (4, .int v4)] rfl ?_
  rintro a rfl K
  unfold f_X12_seatsBy
  refine z_iload_n K 3 rfl dX12_seatsBy_0 ?_
  refine z_istore K (lv' := [(5, .int v3), (0, .ref (a.1.2.2.2 + 69)), (1, .int v1), (2, .int v2), (3, .int v3), (4, .int v4)]) dX12_seatsBy_1 (Nat.le_of_ble_eq_true rfl) rfl ?_
  refine z_iload K 5 rfl dX12_seatsBy_3 ?_
  refine z_istore K (lv' := [(6, .int v4), (5, .int v3), (0, .ref (a.1.2.2.2 + 69)), (1, .int v1), (2, .int v2), (3, .int v3), (4, .int v4)]) dX12_seatsBy_5 (Nat.le_of_ble_eq_true rfl) rfl ?_
  refine z_iconst K ci_0 dX12_seatsBy_7 ?_
  refine z_istore K (lv' := [(7, .int (0 : Int32)), (6, .int v4), (5, .int v3), (0, .ref (a.1.2.2.2 + 69)), (1, .int v1), (2, .int v2), (3, .int v3), (4, .int v4)]) dX12_seatsBy_8 (Nat.le_of_ble_eq_true rfl) rfl ?_
  refine z_iconst K ci_0 dX12_seatsBy_10 ?_
  refine z_istore K (lv' := [(8, .int (0 : Int32)), (7, .int (0 : Int32)), (6, .int v4), (5, .int v3), (0, .ref (a.1.2.2.2 + 69)), (1, .int v1), (2, .int v2), (3, .int v3), (4, .int v4)]) dX12_seatsBy_11 (Nat.le_of_ble_eq_true rfl) rfl ?_
  refine z_iconst K ci_0 dX12_seatsBy_13 ?_
  refine z_istore K (lv' := [(9, .int (0 : Int32)), (8, .int (0 : Int32)), (7, .int (0 : Int32)), (6, .int v4), (5, .int v3), (0, .ref (a.1.2.2.2 + 69)), (1, .int v1), (2, .int v2), (3, .int v3), (4, .int v4)]) dX12_seatsBy_14 (Nat.le_of_ble_eq_true rfl) rfl ?_
  refine z_sub [5, 6, 7, 4, 3, 2, 1, 0] rfl ?_
  refine t_X12_seatsBy_L16 F K hd v1 v2 (fun s14 => ?_) F v3 v4 (0 : Int32) (0 : Int32) (0 : Int32) s
  exact z_vret K dX12_seatsBy_143
def f_X12_seating_L95 (F : Nat) (k122 : zM → Option (Int32 × zM)) (v1 : Int32) (v2 : Int32) (v3 : Int32) : Nat → Int32 → zM → Option (Int32 × zM)
  | 0, _, _ => none
  | n + 1, v4, s =>
    if v4 < (16 : Int32) then
      if zin v4 16 = true then
        if zin v4 16 = true then
          lt (zs s 99 (v4).toNatClampNeg (zg s 71 (v4).toNatClampNeg)) (fun s14 =>
          lt (v4 + (1 : Int32)) (fun y15 =>
          f_X12_seating_L95 F k122 v1 v2 v3 n y15 s14))
        else none
      else none
    else
      k122 s
set_option maxRecDepth 100000 in
set_option maxHeartbeats 4000000 in
theorem t_X12_seating_L95 {a : zA} {d : Nat} (F : Nat) (K : zOK a cX12_seating 9 RX12 (some .int) d) (hd : 5 ≤ d) {k122 : zM → Option (Int32 × zM)} (v1 : Int32) (v2 : Int32) (v3 : Int32) (h122 : ∀ (s : zM), zJ a 9 (zG a zφN zri) zφN 122 [(0, .ref (a.1.2.2.2 + 69)), (1, .int v1), (2, .int v2), (3, .int v3)] [] s (k122 s)) : ∀ (n : Nat) (v4 : Int32) (s : zM), zJ a 9 (zG a zφN zri) zφN 95 [(0, .ref (a.1.2.2.2 + 69)), (1, .int v1), (2, .int v2), (3, .int v3), (4, .int v4)] [] s (f_X12_seating_L95 F k122 v1 v2 v3 n v4 s) := by
  intro n
  induction n with
  | zero => intros; exact z_none
  | succ n ih =>
    intro v4 s
    rw [f_X12_seating_L95]
    refine z_iload K 4 rfl dX12_seating_95 ?_
    refine z_bipush K cb_16 dX12_seating_97 ?_
    refine z_icmp_ge K (tgt := 122) dX12_seating_99 (by decide) ?_ ?_
    · refine z_sub [0, 1, 2, 3] rfl ?_
      exact h122 s
    · refine z_aload_n K 0 rfl dX12_seating_102 ?_
      refine z_getr K fd_X12_98 ob_69_47 dX12_seating_103 ?_
      refine z_iload K 4 rfl dX12_seating_106 ?_
      refine z_aload_n K 0 rfl dX12_seating_108 ?_
      refine z_getr K fd_X12_13 ob_69_3 dX12_seating_109 ?_
      refine z_iload K 4 rfl dX12_seating_112 ?_
      refine z_iald K ar_71 dX12_seating_114 ?_
      refine z_iast K ar_99 dX12_seating_115 ?_
      refine z_ltm (fun s14 => ?_)
      refine z_iincN K (j := 4) (lv' := [(0, .ref (a.1.2.2.2 + 69)), (1, .int v1), (2, .int v2), (3, .int v3)]) ci_1 rfl dX12_seating_116 (Nat.le_of_ble_eq_true rfl) rfl (fun y15 => ?_)
      refine z_goto K (tgt := 95) dX12_seating_119 (by decide) ?_
      refine z_sub [1, 2, 3, 4, 0] rfl ?_
      exact ih y15 s14
def f_X12_seating_L128 (F : Nat) (k147 : Int32 → zM → Option (Int32 × zM)) (v1 : Int32) (v2 : Int32) (v3 : Int32) : Nat → Int32 → Int32 → zM → Option (Int32 × zM)
  | 0, _, _, _ => none
  | n + 1, v4, v5, s =>
    if v2 < v5 then
      k147 v4 s
    else
      lt ((v4 * v5)) (fun y17 =>
      lt (v5 + (1 : Int32)) (fun y18 =>
      f_X12_seating_L128 F k147 v1 v2 v3 n y17 y18 s))
set_option maxRecDepth 100000 in
set_option maxHeartbeats 4000000 in
theorem t_X12_seating_L128 {a : zA} {d : Nat} (F : Nat) (K : zOK a cX12_seating 9 RX12 (some .int) d) (hd : 5 ≤ d) {k147 : Int32 → zM → Option (Int32 × zM)} (v1 : Int32) (v2 : Int32) (v3 : Int32) (h147 : ∀ (v4 : Int32) (s : zM), zJ a 9 (zG a zφN zri) zφN 147 [(0, .ref (a.1.2.2.2 + 69)), (1, .int v1), (2, .int v2), (3, .int v3), (4, .int v4)] [] s (k147 v4 s)) : ∀ (n : Nat) (v4 : Int32) (v5 : Int32) (s : zM), zJ a 9 (zG a zφN zri) zφN 128 [(0, .ref (a.1.2.2.2 + 69)), (1, .int v1), (2, .int v2), (3, .int v3), (4, .int v4), (5, .int v5)] [] s (f_X12_seating_L128 F k147 v1 v2 v3 n v4 v5 s) := by
  intro n
  induction n with
  | zero => intros; exact z_none
  | succ n ih =>
    intro v4 v5 s
    rw [f_X12_seating_L128]
    refine z_iload K 5 rfl dX12_seating_128 ?_
    refine z_iload_n K 2 rfl dX12_seating_130 ?_
    refine z_icmp_gt K (tgt := 147) dX12_seating_131 (by decide) ?_ ?_
    · refine z_sub [0, 1, 2, 3, 4] rfl ?_
      exact h147 v4 s
    · refine z_iload K 4 rfl dX12_seating_134 ?_
      refine z_iload K 5 rfl dX12_seating_136 ?_
      refine z_imul K dX12_seating_138 ?_
      refine z_topi (fun y17 => ?_)
      refine z_istore K (lv' := [(4, .int y17), (0, .ref (a.1.2.2.2 + 69)), (1, .int v1), (2, .int v2), (3, .int v3), (5, .int v5)]) dX12_seating_139 (Nat.le_of_ble_eq_true rfl) rfl ?_
      refine z_iincN K (j := 5) (lv' := [(4, .int y17), (0, .ref (a.1.2.2.2 + 69)), (1, .int v1), (2, .int v2), (3, .int v3)]) ci_1 rfl dX12_seating_141 (Nat.le_of_ble_eq_true rfl) rfl (fun y18 => ?_)
      refine z_goto K (tgt := 128) dX12_seating_144 (by decide) ?_
      refine z_sub [2, 3, 4, 5, 1, 0] rfl ?_
      exact ih y17 y18 s
def f_X12_seating_L158 (F : Nat) (k205 : Int32 → Int32 → zM → Option (Int32 × zM)) (v1 : Int32) (v2 : Int32) (v3 : Int32) (v4 : Int32) : Nat → Int32 → Int32 → Int32 → zM → Option (Int32 × zM)
  | 0, _, _, _, _ => none
  | n + 1, v5, v6, v7, s =>
    if v7 < v4 then
      bnd (f_X12_seatsBy F v1 v2 v7 v4 s) (fun _ s21 =>
      bnd (f_X12_sumOf F s21) (fun r23 s22 =>
      if r23 < v6 then
        lt (v7 + (1 : Int32)) (fun y24 =>
        f_X12_seating_L158 F k205 v1 v2 v3 v4 n v7 r23 y24 s22)
      else
        lt (v7 + (1 : Int32)) (fun y25 =>
        f_X12_seating_L158 F k205 v1 v2 v3 v4 n v5 v6 y25 s22)))
    else
      k205 v5 v6 s
set_option maxRecDepth 100000 in
set_option maxHeartbeats 4000000 in
theorem t_X12_seating_L158 {a : zA} {d : Nat} (F : Nat) (K : zOK a cX12_seating 9 RX12 (some .int) d) (hd : 5 ≤ d) {k205 : Int32 → Int32 → zM → Option (Int32 × zM)} (v1 : Int32) (v2 : Int32) (v3 : Int32) (v4 : Int32) (h205 : ∀ (v5 : Int32) (v6 : Int32) (s : zM), zJ a 9 (zG a zφN zri) zφN 205 [(0, .ref (a.1.2.2.2 + 69)), (1, .int v1), (2, .int v2), (3, .int v3), (4, .int v4), (5, .int v5), (6, .int v6)] [] s (k205 v5 v6 s)) : ∀ (n : Nat) (v5 : Int32) (v6 : Int32) (v7 : Int32) (s : zM), zJ a 9 (zG a zφN zri) zφN 158 [(0, .ref (a.1.2.2.2 + 69)), (1, .int v1), (2, .int v2), (3, .int v3), (4, .int v4), (5, .int v5), (6, .int v6), (7, .int v7)] [] s (f_X12_seating_L158 F k205 v1 v2 v3 v4 n v5 v6 v7 s) := by
  intro n
  induction n with
  | zero => intros; exact z_none
  | succ n ih =>
    intro v5 v6 v7 s
    rw [f_X12_seating_L158]
    refine z_iload K 7 rfl dX12_seating_158 ?_
    refine z_iload K 4 rfl dX12_seating_160 ?_
    refine z_icmp_ge K (tgt := 205) dX12_seating_162 (by decide) ?_ ?_
    · refine z_sub [0, 1, 2, 3, 4, 5, 6] rfl ?_
      exact h205 v5 v6 s
    · refine z_aload_n K 0 rfl dX12_seating_165 ?_
      refine z_iload_n K 1 rfl dX12_seating_166 ?_
      refine z_iload_n K 2 rfl dX12_seating_167 ?_
      refine z_iload K 7 rfl dX12_seating_168 ?_
      refine z_iload K 4 rfl dX12_seating_170 ?_
      refine z_cVv (As := [.int v1, .int v2, .int v7, .int v4]) (rest := []) K (t_X12_seatsBy a.1 F (d - 1) (by omega) v1 v2 v7 v4 s) mf_X12_seatsBy ml_X12_398 (Nat.le_of_ble_eq_true rfl) (by omega) rfl rc_69 rfl (Nat.le_of_ble_eq_true rfl) dX12_seating_172 (fun _ s21 => ?_)
      refine z_aload_n K 0 rfl dX12_seating_175 ?_
      refine z_cVi (As := []) (rest := []) K (t_X12_sumOf a.1 F (d - 1) (by omega) s21) mf_X12_sumOf ml_X12_387 (Nat.le_of_ble_eq_true rfl) (by omega) rfl rc_69 rfl (Nat.le_of_ble_eq_true rfl) dX12_seating_176 (fun r23 s22 => ?_)
      refine z_istore K (lv' := [(8, .int r23), (0, .ref (a.1.2.2.2 + 69)), (1, .int v1), (2, .int v2), (3, .int v3), (4, .int v4), (5, .int v5), (6, .int v6), (7, .int v7)]) dX12_seating_179 (Nat.le_of_ble_eq_true rfl) rfl ?_
      refine z_iload K 0 rfl dX12_seating_181 ?_
      refine z_iload K 7 rfl dX12_seating_183 ?_
      refine z_icmp_lt K (tgt := 191) dX12_seating_185 (by decide) ?_ ?_
      · refine z_iload K 0 rfl dX12_seating_191 ?_
        refine z_istore K (lv' := [(6, .int r23), (8, .int r23), (0, .ref (a.1.2.2.2 + 69)), (1, .int v1), (2, .int v2), (3, .int v3), (4, .int v4), (5, .int v5), (7, .int v7)]) dX12_seating_193 (Nat.le_of_ble_eq_true rfl) rfl ?_
        refine z_iload K 8 rfl dX12_seating_195 ?_
        refine z_istore K (lv' := [(5, .int v7), (6, .int r23), (8, .int r23), (0, .ref (a.1.2.2.2 + 69)), (1, .int v1), (2, .int v2), (3, .int v3), (4, .int v4), (7, .int v7)]) dX12_seating_197 (Nat.le_of_ble_eq_true rfl) rfl ?_
        refine z_iincN K (j := 8) (lv' := [(5, .int v7), (6, .int r23), (8, .int r23), (0, .ref (a.1.2.2.2 + 69)), (1, .int v1), (2, .int v2), (3, .int v3), (4, .int v4)]) ci_1 rfl dX12_seating_199 (Nat.le_of_ble_eq_true rfl) rfl (fun y24 => ?_)
        refine z_goto K (tgt := 158) dX12_seating_202 (by decide) ?_
        refine z_sub [4, 5, 6, 7, 8, 1, 2, 0] rfl ?_
        exact ih v7 r23 y24 s22
      · refine z_goto K (tgt := 199) dX12_seating_188 (by decide) ?_
        refine z_iincN K (j := 8) (lv' := [(8, .int r23), (0, .ref (a.1.2.2.2 + 69)), (1, .int v1), (2, .int v2), (3, .int v3), (4, .int v4), (5, .int v5), (6, .int v6)]) ci_1 rfl dX12_seating_199 (Nat.le_of_ble_eq_true rfl) rfl (fun y25 => ?_)
        refine z_goto K (tgt := 158) dX12_seating_202 (by decide) ?_
        refine z_sub [2, 3, 4, 5, 6, 7, 8, 0] rfl ?_
        exact ih v5 v6 y25 s22
def f_X12_seating_L241 (F : Nat) (k274 : zM → Option (Int32 × zM)) (v3 : Int32) (v7 : Int32) : Nat → Int32 → zM → Option (Int32 × zM)
  | 0, _, _ => none
  | n + 1, v8, s =>
    if v8 < (16 : Int32) then
      if v3 = (16 : Int32) then
        k274 s
      else
        if zin v8 16 = true then
          if zin v8 16 = true then
            lt (zs s 71 (v8).toNatClampNeg (zg s 99 (v8).toNatClampNeg)) (fun s32 =>
            lt (v8 + (1 : Int32)) (fun y33 =>
            f_X12_seating_L241 F k274 v3 v7 n y33 s32))
          else none
        else none
    else
      k274 s
set_option maxRecDepth 100000 in
set_option maxHeartbeats 4000000 in
theorem t_X12_seating_L241 {a : zA} {d : Nat} (F : Nat) (K : zOK a cX12_seating 9 RX12 (some .int) d) (hd : 5 ≤ d) {k274 : zM → Option (Int32 × zM)} (v3 : Int32) (v7 : Int32) (h274 : ∀ (s : zM), zJ a 9 (zG a zφN zri) zφN 274 [(7, .int v7)] [] s (k274 s)) : ∀ (n : Nat) (v8 : Int32) (s : zM), zJ a 9 (zG a zφN zri) zφN 241 [(0, .ref (a.1.2.2.2 + 69)), (3, .int v3), (7, .int v7), (8, .int v8)] [] s (f_X12_seating_L241 F k274 v3 v7 n v8 s) := by
  intro n
  induction n with
  | zero => intros; exact z_none
  | succ n ih =>
    intro v8 s
    rw [f_X12_seating_L241]
    refine z_iload K 3 rfl dX12_seating_241 ?_
    refine z_bipush K cb_16 dX12_seating_243 ?_
    refine z_icmp_ge K (tgt := 274) dX12_seating_245 (by decide) ?_ ?_
    · refine z_sub [2] rfl ?_
      exact h274 s
    · refine z_iload_n K 1 rfl dX12_seating_248 ?_
      refine z_bipush K cb_16 dX12_seating_249 ?_
      refine z_icmp_eq K (tgt := 274) dX12_seating_251 (by decide) ?_ ?_
      · refine z_sub [2] rfl ?_
        exact h274 s
      · refine z_aload_n K 0 rfl dX12_seating_254 ?_
        refine z_getr K fd_X12_13 ob_69_3 dX12_seating_255 ?_
        refine z_iload K 3 rfl dX12_seating_258 ?_
        refine z_aload_n K 0 rfl dX12_seating_260 ?_
        refine z_getr K fd_X12_98 ob_69_47 dX12_seating_261 ?_
        refine z_iload K 3 rfl dX12_seating_264 ?_
        refine z_iald K ar_99 dX12_seating_266 ?_
        refine z_iast K ar_71 dX12_seating_267 ?_
        refine z_ltm (fun s32 => ?_)
        refine z_iincN K (j := 3) (lv' := [(0, .ref (a.1.2.2.2 + 69)), (3, .int v3), (7, .int v7)]) ci_1 rfl dX12_seating_268 (Nat.le_of_ble_eq_true rfl) rfl (fun y33 => ?_)
        refine z_goto K (tgt := 241) dX12_seating_271 (by decide) ?_
        refine z_sub [1, 2, 3, 0] rfl ?_
        exact ih y33 s32
def f_X12_seating_j74 (F : Nat) (v1 : Int32) (v2 : Int32) (v3 : Int32) (s : zM) : Option (Int32 × zM) :=
  lt (zs s 69 7 (0 : Int32)) (fun s11 =>
  bnd (f_X12_takesSeats F v1 v2 s11) (fun r13 s12 =>
  if r13 = 0 then
    some ((-999999 : Int32), s12)
  else
    f_X12_seating_L95 F (fun s16 =>
      f_X12_seating_L128 F (fun y20 s19 =>
        f_X12_seating_L158 F (fun y27 y28 s26 =>
          bnd (f_X12_seatsBy F v1 v2 y27 y20 s26) (fun _ s29 =>
          bnd (f_X12_in v3 (0 : Int32) (15 : Int32) s29) (fun r31 s30 =>
          if r31 = 0 then
            f_X12_seating_L241 F (fun s34 =>
              some (y28, s34)) v3 y28 F (0 : Int32) s30
          else
            if zin v3 16 = true then
              lt ((zg s30 71 (v3).toNatClampNeg)) (fun y35 =>
              f_X12_seating_L241 F (fun s36 =>
                some (y35, s36)) v3 y35 F (0 : Int32) s30)
            else none))) v1 v2 v3 y20 F (0 : Int32) (1000000000 : Int32) (0 : Int32) s19) v1 v2 v3 F (1 : Int32) (2 : Int32) s16) v1 v2 v3 F (0 : Int32) s12))
set_option maxRecDepth 100000 in
set_option maxHeartbeats 4000000 in
theorem t_X12_seating_j74 {a : zA} {d : Nat} (F : Nat) (K : zOK a cX12_seating 9 RX12 (some .int) d) (hd : 5 ≤ d) (v1 : Int32) (v2 : Int32) (v3 : Int32) (s : zM) : zJ a 9 (zG a zφN zri) zφN 74 [(0, .ref (a.1.2.2.2 + 69)), (1, .int v1), (2, .int v2), (3, .int v3)] [] s (f_X12_seating_j74 F v1 v2 v3 s) := by
  unfold f_X12_seating_j74
  refine z_aload_n K 0 rfl dX12_seating_74 ?_
  refine z_iconst K ci_0 dX12_seating_75 ?_
  refine z_puti K fw_X12_186 ob_69_7 dX12_seating_76 ?_
  refine z_ltm (fun s11 => ?_)
  refine z_aload_n K 0 rfl dX12_seating_79 ?_
  refine z_iload_n K 1 rfl dX12_seating_80 ?_
  refine z_iload_n K 2 rfl dX12_seating_81 ?_
  refine z_cVi (As := [.int v1, .int v2]) (rest := []) K (t_X12_takesSeats a.1 F (d - 1) (by omega) v1 v2 s11) mf_X12_takesSeats ml_X12_394 (Nat.le_of_ble_eq_true rfl) (by omega) rfl rc_69 rfl (Nat.le_of_ble_eq_true rfl) dX12_seating_82 (fun r13 s12 => ?_)
  refine z_if_ne K (tgt := 92) dX12_seating_85 (by decide) ?_ ?_
  · refine z_iconst K ci_0 dX12_seating_92 ?_
    refine z_istore K (lv' := [(4, .int (0 : Int32)), (0, .ref (a.1.2.2.2 + 69)), (1, .int v1), (2, .int v2), (3, .int v3)]) dX12_seating_93 (Nat.le_of_ble_eq_true rfl) rfl ?_
    refine z_sub [1, 2, 3, 4, 0] rfl ?_
    refine t_X12_seating_L95 F K hd v1 v2 v3 (fun s16 => ?_) F (0 : Int32) s12
    refine z_iconst K ci_1 dX12_seating_122 ?_
    refine z_istore K (lv' := [(4, .int (1 : Int32)), (0, .ref (a.1.2.2.2 + 69)), (1, .int v1), (2, .int v2), (3, .int v3)]) dX12_seating_123 (Nat.le_of_ble_eq_true rfl) rfl ?_
    refine z_iconst K ci_2 dX12_seating_125 ?_
    refine z_istore K (lv' := [(5, .int (2 : Int32)), (4, .int (1 : Int32)), (0, .ref (a.1.2.2.2 + 69)), (1, .int v1), (2, .int v2), (3, .int v3)]) dX12_seating_126 (Nat.le_of_ble_eq_true rfl) rfl ?_
    refine z_sub [2, 3, 4, 5, 1, 0] rfl ?_
    refine t_X12_seating_L128 F K hd v1 v2 v3 (fun y20 s19 => ?_) F (1 : Int32) (2 : Int32) s16
    refine z_iconst K ci_0 dX12_seating_147 ?_
    refine z_istore K (lv' := [(5, .int (0 : Int32)), (0, .ref (a.1.2.2.2 + 69)), (1, .int v1), (2, .int v2), (3, .int v3), (4, .int y20)]) dX12_seating_148 (Nat.le_of_ble_eq_true rfl) rfl ?_
    refine z_ldcw K cst_X12_339 dX12_seating_150 ?_
    refine z_istore K (lv' := [(6, .int (1000000000 : Int32)), (5, .int (0 : Int32)), (0, .ref (a.1.2.2.2 + 69)), (1, .int v1), (2, .int v2), (3, .int v3), (4, .int y20)]) dX12_seating_153 (Nat.le_of_ble_eq_true rfl) rfl ?_
    refine z_iconst K ci_0 dX12_seating_155 ?_
    refine z_istore K (lv' := [(7, .int (0 : Int32)), (6, .int (1000000000 : Int32)), (5, .int (0 : Int32)), (0, .ref (a.1.2.2.2 + 69)), (1, .int v1), (2, .int v2), (3, .int v3), (4, .int y20)]) dX12_seating_156 (Nat.le_of_ble_eq_true rfl) rfl ?_
    refine z_sub [3, 4, 5, 6, 7, 2, 1, 0] rfl ?_
    refine t_X12_seating_L158 F K hd v1 v2 v3 y20 (fun y27 y28 s26 => ?_) F (0 : Int32) (1000000000 : Int32) (0 : Int32) s19
    refine z_aload_n K 0 rfl dX12_seating_205 ?_
    refine z_iload_n K 1 rfl dX12_seating_206 ?_
    refine z_iload_n K 2 rfl dX12_seating_207 ?_
    refine z_iload K 5 rfl dX12_seating_208 ?_
    refine z_iload K 4 rfl dX12_seating_210 ?_
    refine z_cVv (As := [.int v1, .int v2, .int y27, .int y20]) (rest := []) K (t_X12_seatsBy a.1 F (d - 1) (by omega) v1 v2 y27 y20 s26) mf_X12_seatsBy ml_X12_398 (Nat.le_of_ble_eq_true rfl) (by omega) rfl rc_69 rfl (Nat.le_of_ble_eq_true rfl) dX12_seating_212 (fun _ s29 => ?_)
    refine z_iload_n K 3 rfl dX12_seating_215 ?_
    refine z_iconst K ci_0 dX12_seating_216 ?_
    refine z_bipush K cb_15 dX12_seating_217 ?_
    refine z_cSi (As := [.int v3, .int (0 : Int32), .int (15 : Int32)]) (rest := []) K (t_X12_in a.1 (d - 1) (by omega) v3 (0 : Int32) (15 : Int32) s29) mf_X12_in ml_X12_171 (Nat.le_of_ble_eq_true rfl) (by omega) rfl rfl (Nat.le_of_ble_eq_true rfl) dX12_seating_219 (fun r31 s30 => ?_)
    refine z_if_eq K (tgt := 234) dX12_seating_222 (by decide) ?_ ?_
    · refine z_iload K 6 rfl dX12_seating_234 ?_
      refine z_istore K (lv' := [(7, .int y28), (0, .ref (a.1.2.2.2 + 69)), (1, .int v1), (2, .int v2), (3, .int v3), (4, .int y20), (5, .int y27), (6, .int y28)]) dX12_seating_236 (Nat.le_of_ble_eq_true rfl) rfl ?_
      refine z_iconst K ci_0 dX12_seating_238 ?_
      refine z_istore K (lv' := [(8, .int (0 : Int32)), (7, .int y28), (0, .ref (a.1.2.2.2 + 69)), (1, .int v1), (2, .int v2), (3, .int v3), (4, .int y20), (5, .int y27), (6, .int y28)]) dX12_seating_239 (Nat.le_of_ble_eq_true rfl) rfl ?_
      refine z_sub [2, 5, 1, 0] rfl ?_
      refine t_X12_seating_L241 F K hd v3 y28 (fun s34 => ?_) F (0 : Int32) s30
      refine z_iload K 0 rfl dX12_seating_274 ?_
      exact z_iret K dX12_seating_276
    · refine z_aload_n K 0 rfl dX12_seating_225 ?_
      refine z_getr K fd_X12_13 ob_69_3 dX12_seating_226 ?_
      refine z_iload_n K 3 rfl dX12_seating_229 ?_
      refine z_iald K ar_71 dX12_seating_230 ?_
      refine z_goto K (tgt := 236) dX12_seating_231 (by decide) ?_
      refine z_topi (fun y35 => ?_)
      refine z_istore K (lv' := [(7, .int y35), (0, .ref (a.1.2.2.2 + 69)), (1, .int v1), (2, .int v2), (3, .int v3), (4, .int y20), (5, .int y27), (6, .int y28)]) dX12_seating_236 (Nat.le_of_ble_eq_true rfl) rfl ?_
      refine z_iconst K ci_0 dX12_seating_238 ?_
      refine z_istore K (lv' := [(8, .int (0 : Int32)), (7, .int y35), (0, .ref (a.1.2.2.2 + 69)), (1, .int v1), (2, .int v2), (3, .int v3), (4, .int y20), (5, .int y27), (6, .int y28)]) dX12_seating_239 (Nat.le_of_ble_eq_true rfl) rfl ?_
      refine z_sub [2, 5, 1, 0] rfl ?_
      refine t_X12_seating_L241 F K hd v3 y35 (fun s36 => ?_) F (0 : Int32) s30
      refine z_iload K 0 rfl dX12_seating_274 ?_
      exact z_iret K dX12_seating_276
  · refine z_ldcw K cst_X12_397 dX12_seating_88 ?_
    exact z_iret K dX12_seating_91
def f_X12_seating (F : Nat) (v1 : Int32) (v2 : Int32) (v3 : Int32) (s : zM) : Option (Int32 × zM) :=
  bnd (f_X12_in v1 (1 : Int32) (((1 : Int32) <<< ((zg s 69 0) &&& 31)) - (1 : Int32)) s) (fun r2 s1 =>
  if r2 = 0 then
    some ((-1000000 : Int32), s1)
  else
    bnd (f_X12_in v2 (1 : Int32) (7 : Int32) s1) (fun r4 s3 =>
    if r4 = 0 then
      some ((-1000000 : Int32), s3)
    else
      bnd (f_X12_bits F v1 s3) (fun r6 s5 =>
      if r6 = v2 then
        if (zg s5 69 7) < v2 then
          some ((-1000000 : Int32), s5)
        else
          bnd (f_X12_in v3 (-1 : Int32) (16 : Int32) s5) (fun r8 s7 =>
          if r8 = 0 then
            some ((-1000000 : Int32), s7)
          else
            bnd (f_X12_in v3 (0 : Int32) (15 : Int32) s7) (fun r10 s9 =>
            if r10 = 0 then
              f_X12_seating_j74 F v1 v2 v3 s9
            else
              if ((v1 >>> (v3 &&& 31)) &&& (1 : Int32)) = 0 then
                some ((-1000000 : Int32), s9)
              else
                f_X12_seating_j74 F v1 v2 v3 s9))
      else
        some ((-1000000 : Int32), s5))))
set_option maxRecDepth 100000 in
set_option maxHeartbeats 4000000 in
theorem t_X12_seating (w : zWd) (F : Nat) (d : Nat) (hd : 5 ≤ d) (v1 : Int32) (v2 : Int32) (v3 : Int32) (s : zM) : zMt w yX12_seating cX12_seating 9 (some .int) d zφN zφN zri [.ref (w.2.2.2 + 69), .int v1, .int v2, .int v3] s (f_X12_seating F v1 v2 v3 s) := by
  refine zMtN_of (own := RX12) rfl (by decide +kernel) (Nat.le_of_ble_eq_true rfl) cd_X12_seating [(0, .ref (w.2.2.2 + 69)), (1, .int v1), (2, .int v2), (3, .int v3)] rfl ?_
  rintro a rfl K
  unfold f_X12_seating
  refine z_iload_n K 1 rfl dX12_seating_0 ?_
  refine z_iconst K ci_1 dX12_seating_1 ?_
  refine z_iconst K ci_1 dX12_seating_2 ?_
  refine z_aload_n K 0 rfl dX12_seating_3 ?_
  refine z_geti K fd_X12_168 ob_69_0 dX12_seating_4 ?_
  refine z_ishl K dX12_seating_7 ?_
  refine z_iconst K ci_1 dX12_seating_8 ?_
  refine z_isub K dX12_seating_9 ?_
  refine z_cSi (As := [.int v1, .int (1 : Int32), .int (((1 : Int32) <<< ((zg s 69 0) &&& 31)) - (1 : Int32))]) (rest := []) K (t_X12_in a.1 (d - 1) (by omega) v1 (1 : Int32) (((1 : Int32) <<< ((zg s 69 0) &&& 31)) - (1 : Int32)) s) mf_X12_in ml_X12_171 (Nat.le_of_ble_eq_true rfl) (by omega) rfl rfl (Nat.le_of_ble_eq_true rfl) dX12_seating_10 (fun r2 s1 => ?_)
  refine z_if_eq K (tgt := 70) dX12_seating_13 (by decide) ?_ ?_
  · refine z_ldcw K cst_X12_393 dX12_seating_70 ?_
    exact z_iret K dX12_seating_73
  · refine z_iload_n K 2 rfl dX12_seating_16 ?_
    refine z_iconst K ci_1 dX12_seating_17 ?_
    refine z_bipush K cb_7 dX12_seating_18 ?_
    refine z_cSi (As := [.int v2, .int (1 : Int32), .int (7 : Int32)]) (rest := []) K (t_X12_in a.1 (d - 1) (by omega) v2 (1 : Int32) (7 : Int32) s1) mf_X12_in ml_X12_171 (Nat.le_of_ble_eq_true rfl) (by omega) rfl rfl (Nat.le_of_ble_eq_true rfl) dX12_seating_20 (fun r4 s3 => ?_)
    refine z_if_eq K (tgt := 70) dX12_seating_23 (by decide) ?_ ?_
    · refine z_ldcw K cst_X12_393 dX12_seating_70 ?_
      exact z_iret K dX12_seating_73
    · refine z_iload_n K 1 rfl dX12_seating_26 ?_
      refine z_cSi (As := [.int v1]) (rest := []) K (t_X12_bits a.1 F (d - 1) (by omega) v1 s3) mf_X12_bits ml_X12_390 (Nat.le_of_ble_eq_true rfl) (by omega) rfl rfl (Nat.le_of_ble_eq_true rfl) dX12_seating_27 (fun r6 s5 => ?_)
      refine z_iload_n K 2 rfl dX12_seating_30 ?_
      refine z_icmp_ne K (tgt := 70) dX12_seating_31 (by decide) ?_ ?_
      · refine z_ldcw K cst_X12_393 dX12_seating_70 ?_
        exact z_iret K dX12_seating_73
      · refine z_iload_n K 2 rfl dX12_seating_34 ?_
        refine z_aload_n K 0 rfl dX12_seating_35 ?_
        refine z_geti K fd_X12_186 ob_69_7 dX12_seating_36 ?_
        refine z_icmp_gt K (tgt := 70) dX12_seating_39 (by decide) ?_ ?_
        · refine z_ldcw K cst_X12_393 dX12_seating_70 ?_
          exact z_iret K dX12_seating_73
        · refine z_iload_n K 3 rfl dX12_seating_42 ?_
          refine z_iconst K ci_m1 dX12_seating_43 ?_
          refine z_bipush K cb_16 dX12_seating_44 ?_
          refine z_cSi (As := [.int v3, .int (-1 : Int32), .int (16 : Int32)]) (rest := []) K (t_X12_in a.1 (d - 1) (by omega) v3 (-1 : Int32) (16 : Int32) s5) mf_X12_in ml_X12_171 (Nat.le_of_ble_eq_true rfl) (by omega) rfl rfl (Nat.le_of_ble_eq_true rfl) dX12_seating_46 (fun r8 s7 => ?_)
          refine z_if_eq K (tgt := 70) dX12_seating_49 (by decide) ?_ ?_
          · refine z_ldcw K cst_X12_393 dX12_seating_70 ?_
            exact z_iret K dX12_seating_73
          · refine z_iload_n K 3 rfl dX12_seating_52 ?_
            refine z_iconst K ci_0 dX12_seating_53 ?_
            refine z_bipush K cb_15 dX12_seating_54 ?_
            refine z_cSi (As := [.int v3, .int (0 : Int32), .int (15 : Int32)]) (rest := []) K (t_X12_in a.1 (d - 1) (by omega) v3 (0 : Int32) (15 : Int32) s7) mf_X12_in ml_X12_171 (Nat.le_of_ble_eq_true rfl) (by omega) rfl rfl (Nat.le_of_ble_eq_true rfl) dX12_seating_56 (fun r10 s9 => ?_)
            refine z_if_eq K (tgt := 74) dX12_seating_59 (by decide) ?_ ?_
            · exact t_X12_seating_j74 F K hd v1 v2 v3 s9
            · refine z_iload_n K 1 rfl dX12_seating_62 ?_
              refine z_iload_n K 3 rfl dX12_seating_63 ?_
              refine z_ishr K dX12_seating_64 ?_
              refine z_iconst K ci_1 dX12_seating_65 ?_
              refine z_iand K dX12_seating_66 ?_
              refine z_if_ne K (tgt := 74) dX12_seating_67 (by decide) ?_ ?_
              · exact t_X12_seating_j74 F K hd v1 v2 v3 s9
              · refine z_ldcw K cst_X12_393 dX12_seating_70 ?_
                exact z_iret K dX12_seating_73
def f_X12_changes (F : Nat) (v1 : Int32) (v2 : Int32) (s : zM) : Option (Unit × zM) :=
  bnd (f_X12_guestAt F v2 s) (fun r2 s1 =>
  if zin v1 16 = true then
    lt ((zg s1 71 (v1).toNatClampNeg)) (fun y3 =>
    if zin v1 16 = true then
      lt (zs s1 71 (v1).toNatClampNeg v2) (fun s4 =>
      if r2 = (-1 : Int32) then
        some ((), s4)
      else
        if zin r2 16 = true then
          lt (zs s4 71 (r2).toNatClampNeg y3) (fun s5 =>
          some ((), s5))
        else none)
    else none)
  else none)
set_option maxRecDepth 100000 in
set_option maxHeartbeats 4000000 in
theorem t_X12_changes (w : zWd) (F : Nat) (d : Nat) (hd : 1 ≤ d) (v1 : Int32) (v2 : Int32) (s : zM) : zMt w yX12_changes cX12_changes 5 none d zφN zφN zrv [.ref (w.2.2.2 + 69), .int v1, .int v2] s (f_X12_changes F v1 v2 s) := by
  refine zMtN_of (own := RX12) rfl (by decide +kernel) (Nat.le_of_ble_eq_true rfl) cd_X12_changes [(0, .ref (w.2.2.2 + 69)), (1, .int v1), (2, .int v2)] rfl ?_
  rintro a rfl K
  unfold f_X12_changes
  refine z_aload_n K 0 rfl dX12_changes_0 ?_
  refine z_iload_n K 2 rfl dX12_changes_1 ?_
  refine z_cVi (As := [.int v2]) (rest := []) K (t_X12_guestAt a.1 F (d - 1) (by omega) v2 s) mf_X12_guestAt ml_X12_179 (Nat.le_of_ble_eq_true rfl) (by omega) rfl rc_69 rfl (Nat.le_of_ble_eq_true rfl) dX12_changes_2 (fun r2 s1 => ?_)
  refine z_istore_n K (lv' := [(3, .int r2), (0, .ref (a.1.2.2.2 + 69)), (1, .int v1), (2, .int v2)]) dX12_changes_5 rfl (Nat.le_of_ble_eq_true rfl) rfl ?_
  refine z_aload_n K 1 rfl dX12_changes_6 ?_
  refine z_getr K fd_X12_13 ob_69_3 dX12_changes_7 ?_
  refine z_iload_n K 2 rfl dX12_changes_10 ?_
  refine z_iald K ar_71 dX12_changes_11 ?_
  refine z_topi (fun y3 => ?_)
  refine z_istore K (lv' := [(4, .int y3), (3, .int r2), (0, .ref (a.1.2.2.2 + 69)), (1, .int v1), (2, .int v2)]) dX12_changes_12 (Nat.le_of_ble_eq_true rfl) rfl ?_
  refine z_aload_n K 2 rfl dX12_changes_14 ?_
  refine z_getr K fd_X12_13 ob_69_3 dX12_changes_15 ?_
  refine z_iload_n K 3 rfl dX12_changes_18 ?_
  refine z_iload_n K 4 rfl dX12_changes_19 ?_
  refine z_iast K ar_71 dX12_changes_20 ?_
  refine z_ltm (fun s4 => ?_)
  refine z_iload_n K 1 rfl dX12_changes_21 ?_
  refine z_iconst K ci_m1 dX12_changes_22 ?_
  refine z_icmp_eq K (tgt := 34) dX12_changes_23 (by decide) ?_ ?_
  · exact z_vret K dX12_changes_34
  · refine z_aload_n K 2 rfl dX12_changes_26 ?_
    refine z_getr K fd_X12_13 ob_69_3 dX12_changes_27 ?_
    refine z_iload_n K 1 rfl dX12_changes_30 ?_
    refine z_iload K 0 rfl dX12_changes_31 ?_
    refine z_iast K ar_71 dX12_changes_33 ?_
    refine z_ltm (fun s5 => ?_)
    exact z_vret K dX12_changes_34
def f_X12_laysExchange_j76 (F : Nat) (k46 : Int32 → Int32 → zM → Option (Int32 × zM)) (v2 : Int32) (v3 : Int32) (v1 : Int32) (v4 : Int32) (s : zM) : Option (Int32 × zM) :=
  bnd (f_X12_changes F v2 v4 s) (fun _ s10 =>
  bnd (f_X12_sumOf F s10) (fun r12 s11 =>
  bnd (f_X12_changes F v2 v3 s11) (fun _ s13 =>
  if r12 < v1 then
    lt (zs s13 69 48 v2) (fun s14 =>
    lt (zs s14 69 49 v4) (fun s15 =>
    lt (v4 + (1 : Int32)) (fun y16 =>
    k46 r12 y16 s15)))
  else
    lt (v4 + (1 : Int32)) (fun y17 =>
    k46 v1 y17 s13))))
set_option maxRecDepth 100000 in
set_option maxHeartbeats 4000000 in
theorem t_X12_laysExchange_j76 {a : zA} {d : Nat} (F : Nat) (K : zOK a cX12_laysExchange 7 RX12 (some .int) d) (hd : 5 ≤ d) {k46 : Int32 → Int32 → zM → Option (Int32 × zM)} (v2 : Int32) (v3 : Int32) (h46 : ∀ (v1 : Int32) (v4 : Int32) (s : zM), zJ a 7 (zG a zφN zri) zφN 46 [(0, .ref (a.1.2.2.2 + 69)), (1, .int v1), (2, .int v2), (3, .int v3), (4, .int v4)] [] s (k46 v1 v4 s)) (v1 : Int32) (v4 : Int32) (s : zM) : zJ a 7 (zG a zφN zri) zφN 76 [(0, .ref (a.1.2.2.2 + 69)), (1, .int v1), (2, .int v2), (3, .int v3), (4, .int v4)] [] s (f_X12_laysExchange_j76 F k46 v2 v3 v1 v4 s) := by
  unfold f_X12_laysExchange_j76
  refine z_aload_n K 0 rfl dX12_laysExchange_76 ?_
  refine z_iload_n K 2 rfl dX12_laysExchange_77 ?_
  refine z_iload K 4 rfl dX12_laysExchange_78 ?_
  refine z_cVv (As := [.int v2, .int v4]) (rest := []) K (t_X12_changes a.1 F (d - 1) (by omega) v2 v4 s) mf_X12_changes ml_X12_408 (Nat.le_of_ble_eq_true rfl) (by omega) rfl rc_69 rfl (Nat.le_of_ble_eq_true rfl) dX12_laysExchange_80 (fun _ s10 => ?_)
  refine z_aload_n K 0 rfl dX12_laysExchange_83 ?_
  refine z_cVi (As := []) (rest := []) K (t_X12_sumOf a.1 F (d - 1) (by omega) s10) mf_X12_sumOf ml_X12_387 (Nat.le_of_ble_eq_true rfl) (by omega) rfl rc_69 rfl (Nat.le_of_ble_eq_true rfl) dX12_laysExchange_84 (fun r12 s11 => ?_)
  refine z_istore K (lv' := [(6, .int r12), (0, .ref (a.1.2.2.2 + 69)), (1, .int v1), (2, .int v2), (3, .int v3), (4, .int v4)]) dX12_laysExchange_87 (Nat.le_of_ble_eq_true rfl) rfl ?_
  refine z_aload_n K 1 rfl dX12_laysExchange_89 ?_
  refine z_iload_n K 3 rfl dX12_laysExchange_90 ?_
  refine z_iload_n K 4 rfl dX12_laysExchange_91 ?_
  refine z_cVv (As := [.int v2, .int v3]) (rest := []) K (t_X12_changes a.1 F (d - 1) (by omega) v2 v3 s11) mf_X12_changes ml_X12_408 (Nat.le_of_ble_eq_true rfl) (by omega) rfl rc_69 rfl (Nat.le_of_ble_eq_true rfl) dX12_laysExchange_92 (fun _ s13 => ?_)
  refine z_iload K 0 rfl dX12_laysExchange_95 ?_
  refine z_iload_n K 2 rfl dX12_laysExchange_97 ?_
  refine z_icmp_lt K (tgt := 104) dX12_laysExchange_98 (by decide) ?_ ?_
  · refine z_iload K 0 rfl dX12_laysExchange_104 ?_
    refine z_istore_n K (lv' := [(1, .int r12), (6, .int r12), (0, .ref (a.1.2.2.2 + 69)), (2, .int v2), (3, .int v3), (4, .int v4)]) dX12_laysExchange_106 rfl (Nat.le_of_ble_eq_true rfl) rfl ?_
    refine z_aload_n K 2 rfl dX12_laysExchange_107 ?_
    refine z_iload_n K 3 rfl dX12_laysExchange_108 ?_
    refine z_puti K fw_X12_402 ob_69_48 dX12_laysExchange_109 ?_
    refine z_ltm (fun s14 => ?_)
    refine z_aload_n K 2 rfl dX12_laysExchange_112 ?_
    refine z_iload K 5 rfl dX12_laysExchange_113 ?_
    refine z_puti K fw_X12_405 ob_69_49 dX12_laysExchange_115 ?_
    refine z_ltm (fun s15 => ?_)
    refine z_iincN K (j := 5) (lv' := [(1, .int r12), (6, .int r12), (0, .ref (a.1.2.2.2 + 69)), (2, .int v2), (3, .int v3)]) ci_1 rfl dX12_laysExchange_118 (Nat.le_of_ble_eq_true rfl) rfl (fun y16 => ?_)
    refine z_goto K (tgt := 46) dX12_laysExchange_121 (by decide) ?_
    refine z_sub [3, 1, 4, 5, 0] rfl ?_
    exact h46 r12 y16 s15
  · refine z_goto K (tgt := 118) dX12_laysExchange_101 (by decide) ?_
    refine z_iincN K (j := 5) (lv' := [(6, .int r12), (0, .ref (a.1.2.2.2 + 69)), (1, .int v1), (2, .int v2), (3, .int v3)]) ci_1 rfl dX12_laysExchange_118 (Nat.le_of_ble_eq_true rfl) rfl (fun y17 => ?_)
    refine z_goto K (tgt := 46) dX12_laysExchange_121 (by decide) ?_
    refine z_sub [2, 3, 4, 5, 0] rfl ?_
    exact h46 v1 y17 s13
def f_X12_laysExchange_L46 (F : Nat) (k124 : Int32 → zM → Option (Int32 × zM)) (v2 : Int32) (v3 : Int32) : Nat → Int32 → Int32 → zM → Option (Int32 × zM)
  | 0, _, _, _ => none
  | n + 1, v1, v4, s =>
    if v4 < (40 : Int32) then
      bnd (f_X12_guestAt F v4 s) (fun r9 s8 =>
      if r9 = (-1 : Int32) then
        f_X12_laysExchange_j76 F (f_X12_laysExchange_L46 F k124 v2 v3 n) v2 v3 v1 v4 s8
      else
        if v2 < r9 then
          f_X12_laysExchange_j76 F (f_X12_laysExchange_L46 F k124 v2 v3 n) v2 v3 v1 v4 s8
        else
          lt (v4 + (1 : Int32)) (fun y18 =>
          f_X12_laysExchange_L46 F k124 v2 v3 n v1 y18 s8))
    else
      k124 v1 s
set_option maxRecDepth 100000 in
set_option maxHeartbeats 4000000 in
theorem t_X12_laysExchange_L46 {a : zA} {d : Nat} (F : Nat) (K : zOK a cX12_laysExchange 7 RX12 (some .int) d) (hd : 5 ≤ d) {k124 : Int32 → zM → Option (Int32 × zM)} (v2 : Int32) (v3 : Int32) (h124 : ∀ (v1 : Int32) (s : zM), zJ a 7 (zG a zφN zri) zφN 124 [(0, .ref (a.1.2.2.2 + 69)), (1, .int v1), (2, .int v2)] [] s (k124 v1 s)) : ∀ (n : Nat) (v1 : Int32) (v4 : Int32) (s : zM), zJ a 7 (zG a zφN zri) zφN 46 [(0, .ref (a.1.2.2.2 + 69)), (1, .int v1), (2, .int v2), (3, .int v3), (4, .int v4)] [] s (f_X12_laysExchange_L46 F k124 v2 v3 n v1 v4 s) := by
  intro n
  induction n with
  | zero => intros; exact z_none
  | succ n ih =>
    intro v1 v4 s
    rw [f_X12_laysExchange_L46]
    refine z_iload K 4 rfl dX12_laysExchange_46 ?_
    refine z_bipush K cb_40 dX12_laysExchange_48 ?_
    refine z_icmp_ge K (tgt := 124) dX12_laysExchange_50 (by decide) ?_ ?_
    · refine z_sub [0, 1, 2] rfl ?_
      exact h124 v1 s
    · refine z_aload_n K 0 rfl dX12_laysExchange_53 ?_
      refine z_iload K 4 rfl dX12_laysExchange_54 ?_
      refine z_cVi (As := [.int v4]) (rest := []) K (t_X12_guestAt a.1 F (d - 1) (by omega) v4 s) mf_X12_guestAt ml_X12_179 (Nat.le_of_ble_eq_true rfl) (by omega) rfl rc_69 rfl (Nat.le_of_ble_eq_true rfl) dX12_laysExchange_56 (fun r9 s8 => ?_)
      refine z_istore K (lv' := [(5, .int r9), (0, .ref (a.1.2.2.2 + 69)), (1, .int v1), (2, .int v2), (3, .int v3), (4, .int v4)]) dX12_laysExchange_59 (Nat.le_of_ble_eq_true rfl) rfl ?_
      refine z_iload K 0 rfl dX12_laysExchange_61 ?_
      refine z_iconst K ci_m1 dX12_laysExchange_63 ?_
      refine z_icmp_eq K (tgt := 76) dX12_laysExchange_64 (by decide) ?_ ?_
      · refine z_sub [1, 2, 3, 4, 5] rfl ?_
        exact t_X12_laysExchange_j76 F K hd v2 v3 ih v1 v4 s8
      · refine z_iload K 0 rfl dX12_laysExchange_67 ?_
        refine z_iload_n K 3 rfl dX12_laysExchange_69 ?_
        refine z_icmp_gt K (tgt := 76) dX12_laysExchange_70 (by decide) ?_ ?_
        · refine z_sub [1, 2, 3, 4, 5] rfl ?_
          exact t_X12_laysExchange_j76 F K hd v2 v3 ih v1 v4 s8
        · refine z_goto K (tgt := 118) dX12_laysExchange_73 (by decide) ?_
          refine z_iincN K (j := 5) (lv' := [(5, .int r9), (0, .ref (a.1.2.2.2 + 69)), (1, .int v1), (2, .int v2), (3, .int v3)]) ci_1 rfl dX12_laysExchange_118 (Nat.le_of_ble_eq_true rfl) rfl (fun y18 => ?_)
          refine z_goto K (tgt := 46) dX12_laysExchange_121 (by decide) ?_
          refine z_sub [2, 3, 4, 5, 0] rfl ?_
          exact ih v1 y18 s8
def f_X12_laysExchange_L17 (F : Nat) (k130 : Int32 → zM → Option (Int32 × zM)) : Nat → Int32 → Int32 → zM → Option (Int32 × zM)
  | 0, _, _, _ => none
  | n + 1, v1, v2, s =>
    if v2 < (zg s 69 0) then
      bnd (f_X12_sits v2 s) (fun r6 s5 =>
      if r6 = 0 then
        lt (v2 + (1 : Int32)) (fun y22 =>
        f_X12_laysExchange_L17 F k130 n v1 y22 s5)
      else
        if zin v2 16 = true then
          lt ((zg s5 71 (v2).toNatClampNeg)) (fun y7 =>
          f_X12_laysExchange_L46 F (fun y20 s19 =>
            lt (v2 + (1 : Int32)) (fun y21 =>
            f_X12_laysExchange_L17 F k130 n y20 y21 s19)) v2 y7 F v1 (0 : Int32) s5)
        else none)
    else
      k130 v1 s
set_option maxRecDepth 100000 in
set_option maxHeartbeats 4000000 in
theorem t_X12_laysExchange_L17 {a : zA} {d : Nat} (F : Nat) (K : zOK a cX12_laysExchange 7 RX12 (some .int) d) (hd : 5 ≤ d) {k130 : Int32 → zM → Option (Int32 × zM)} (h130 : ∀ (v1 : Int32) (s : zM), zJ a 7 (zG a zφN zri) zφN 130 [(1, .int v1)] [] s (k130 v1 s)) : ∀ (n : Nat) (v1 : Int32) (v2 : Int32) (s : zM), zJ a 7 (zG a zφN zri) zφN 17 [(0, .ref (a.1.2.2.2 + 69)), (1, .int v1), (2, .int v2)] [] s (f_X12_laysExchange_L17 F k130 n v1 v2 s) := by
  intro n
  induction n with
  | zero => intros; exact z_none
  | succ n ih =>
    intro v1 v2 s
    rw [f_X12_laysExchange_L17]
    refine z_iload_n K 2 rfl dX12_laysExchange_17 ?_
    refine z_aload_n K 0 rfl dX12_laysExchange_18 ?_
    refine z_geti K fd_X12_168 ob_69_0 dX12_laysExchange_19 ?_
    refine z_icmp_ge K (tgt := 130) dX12_laysExchange_22 (by decide) ?_ ?_
    · refine z_sub [1] rfl ?_
      exact h130 v1 s
    · refine z_aload_n K 0 rfl dX12_laysExchange_25 ?_
      refine z_iload_n K 2 rfl dX12_laysExchange_26 ?_
      refine z_cVi (As := [.int v2]) (rest := []) K (t_X12_sits a.1 (d - 1) (by omega) v2 s) mf_X12_sits ml_X12_309 (Nat.le_of_ble_eq_true rfl) (by omega) rfl rc_69 rfl (Nat.le_of_ble_eq_true rfl) dX12_laysExchange_27 (fun r6 s5 => ?_)
      refine z_if_ne K (tgt := 36) dX12_laysExchange_30 (by decide) ?_ ?_
      · refine z_aload_n K 0 rfl dX12_laysExchange_36 ?_
        refine z_getr K fd_X12_13 ob_69_3 dX12_laysExchange_37 ?_
        refine z_iload_n K 2 rfl dX12_laysExchange_40 ?_
        refine z_iald K ar_71 dX12_laysExchange_41 ?_
        refine z_topi (fun y7 => ?_)
        refine z_istore_n K (lv' := [(3, .int y7), (0, .ref (a.1.2.2.2 + 69)), (1, .int v1), (2, .int v2)]) dX12_laysExchange_42 rfl (Nat.le_of_ble_eq_true rfl) rfl ?_
        refine z_iconst K ci_0 dX12_laysExchange_43 ?_
        refine z_istore K (lv' := [(4, .int (0 : Int32)), (3, .int y7), (0, .ref (a.1.2.2.2 + 69)), (1, .int v1), (2, .int v2)]) dX12_laysExchange_44 (Nat.le_of_ble_eq_true rfl) rfl ?_
        refine z_sub [2, 3, 4, 1, 0] rfl ?_
        refine t_X12_laysExchange_L46 F K hd v2 y7 (fun y20 s19 => ?_) F v1 (0 : Int32) s5
        refine z_iincN K (j := 2) (lv' := [(0, .ref (a.1.2.2.2 + 69)), (1, .int y20)]) ci_1 rfl dX12_laysExchange_124 (Nat.le_of_ble_eq_true rfl) rfl (fun y21 => ?_)
        refine z_goto K (tgt := 17) dX12_laysExchange_127 (by decide) ?_
        refine z_sub [1, 2, 0] rfl ?_
        exact ih y20 y21 s19
      · refine z_goto K (tgt := 124) dX12_laysExchange_33 (by decide) ?_
        refine z_iincN K (j := 2) (lv' := [(0, .ref (a.1.2.2.2 + 69)), (1, .int v1)]) ci_1 rfl dX12_laysExchange_124 (Nat.le_of_ble_eq_true rfl) rfl (fun y22 => ?_)
        refine z_goto K (tgt := 17) dX12_laysExchange_127 (by decide) ?_
        refine z_sub [1, 2, 0] rfl ?_
        exact ih v1 y22 s5
def f_X12_laysExchange (F : Nat) (s : zM) : Option (Int32 × zM) :=
  bnd (f_X12_sumOf F s) (fun r2 s1 =>
  lt (zs s1 69 48 (-1 : Int32)) (fun s3 =>
  lt (zs s3 69 49 (-1 : Int32)) (fun s4 =>
  f_X12_laysExchange_L17 F (fun y24 s23 =>
    some (y24, s23)) F r2 (0 : Int32) s4)))
set_option maxRecDepth 100000 in
set_option maxHeartbeats 4000000 in
theorem t_X12_laysExchange (w : zWd) (F : Nat) (d : Nat) (hd : 5 ≤ d) (s : zM) : zMt w yX12_laysExchange cX12_laysExchange 7 (some .int) d zφN zφN zri [.ref (w.2.2.2 + 69)] s (f_X12_laysExchange F s) := by
  refine zMtN_of (own := RX12) rfl (by decide +kernel) (Nat.le_of_ble_eq_true rfl) cd_X12_laysExchange [(0, .ref (w.2.2.2 + 69))] rfl ?_
  rintro a rfl K
  unfold f_X12_laysExchange
  refine z_aload_n K 0 rfl dX12_laysExchange_0 ?_
  refine z_cVi (As := []) (rest := []) K (t_X12_sumOf a.1 F (d - 1) (by omega) s) mf_X12_sumOf ml_X12_387 (Nat.le_of_ble_eq_true rfl) (by omega) rfl rc_69 rfl (Nat.le_of_ble_eq_true rfl) dX12_laysExchange_1 (fun r2 s1 => ?_)
  refine z_istore_n K (lv' := [(1, .int r2), (0, .ref (a.1.2.2.2 + 69))]) dX12_laysExchange_4 rfl (Nat.le_of_ble_eq_true rfl) rfl ?_
  refine z_aload_n K 1 rfl dX12_laysExchange_5 ?_
  refine z_iconst K ci_m1 dX12_laysExchange_6 ?_
  refine z_puti K fw_X12_402 ob_69_48 dX12_laysExchange_7 ?_
  refine z_ltm (fun s3 => ?_)
  refine z_aload_n K 1 rfl dX12_laysExchange_10 ?_
  refine z_iconst K ci_m1 dX12_laysExchange_11 ?_
  refine z_puti K fw_X12_405 ob_69_49 dX12_laysExchange_12 ?_
  refine z_ltm (fun s4 => ?_)
  refine z_iconst K ci_0 dX12_laysExchange_15 ?_
  refine z_istore_n K (lv' := [(2, .int (0 : Int32)), (1, .int r2), (0, .ref (a.1.2.2.2 + 69))]) dX12_laysExchange_16 rfl (Nat.le_of_ble_eq_true rfl) rfl ?_
  refine z_sub [2, 1, 0] rfl ?_
  refine t_X12_laysExchange_L17 F K hd (fun y24 s23 => ?_) F r2 (0 : Int32) s4
  refine z_iload_n K 0 rfl dX12_laysExchange_130 ?_
  exact z_iret K dX12_laysExchange_131
def f_X12_exchange (F : Nat) (v1 : Int32) (s : zM) : Option (Int32 × zM) :=
  bnd (f_X12_in v1 (0 : Int32) (2 : Int32) s) (fun r2 s1 =>
  if r2 = 0 then
    some ((-1000000 : Int32), s1)
  else
    bnd (f_X12_laysExchange F s1) (fun r4 s3 =>
    if v1 = (2 : Int32) then
      some (r4, s3)
    else
      if (zg s3 69 48) = (-1 : Int32) then
        some ((-2 : Int32), s3)
      else
        if v1 = 0 then
          some ((zg s3 69 48), s3)
        else
          some ((zg s3 69 49), s3)))
set_option maxRecDepth 100000 in
set_option maxHeartbeats 4000000 in
theorem t_X12_exchange (w : zWd) (F : Nat) (d : Nat) (hd : 6 ≤ d) (v1 : Int32) (s : zM) : zMt w yX12_exchange cX12_exchange 3 (some .int) d zφN zφN zri [.ref (w.2.2.2 + 69), .int v1] s (f_X12_exchange F v1 s) := by
  refine zMtN_of (own := RX12) rfl (by decide +kernel) (Nat.le_of_ble_eq_true rfl) cd_X12_exchange [(0, .ref (w.2.2.2 + 69)), (1, .int v1)] rfl ?_
  rintro a rfl K
  unfold f_X12_exchange
  refine z_iload_n K 1 rfl dX12_exchange_0 ?_
  refine z_iconst K ci_0 dX12_exchange_1 ?_
  refine z_iconst K ci_2 dX12_exchange_2 ?_
  refine z_cSi (As := [.int v1, .int (0 : Int32), .int (2 : Int32)]) (rest := []) K (t_X12_in a.1 (d - 1) (by omega) v1 (0 : Int32) (2 : Int32) s) mf_X12_in ml_X12_171 (Nat.le_of_ble_eq_true rfl) (by omega) rfl rfl (Nat.le_of_ble_eq_true rfl) dX12_exchange_3 (fun r2 s1 => ?_)
  refine z_if_ne K (tgt := 13) dX12_exchange_6 (by decide) ?_ ?_
  · refine z_aload_n K 0 rfl dX12_exchange_13 ?_
    refine z_cVi (As := []) (rest := []) K (t_X12_laysExchange a.1 F (d - 1) (by omega) s1) mf_X12_laysExchange ml_X12_411 (Nat.le_of_ble_eq_true rfl) (by omega) rfl rc_69 rfl (Nat.le_of_ble_eq_true rfl) dX12_exchange_14 (fun r4 s3 => ?_)
    refine z_istore_n K (lv' := [(2, .int r4), (0, .ref (a.1.2.2.2 + 69)), (1, .int v1)]) dX12_exchange_17 rfl (Nat.le_of_ble_eq_true rfl) rfl ?_
    refine z_iload_n K 2 rfl dX12_exchange_18 ?_
    refine z_iconst K ci_2 dX12_exchange_19 ?_
    refine z_icmp_ne K (tgt := 27) dX12_exchange_20 (by decide) ?_ ?_
    · refine z_aload_n K 1 rfl dX12_exchange_27 ?_
      refine z_geti K fd_X12_402 ob_69_48 dX12_exchange_28 ?_
      refine z_iconst K ci_m1 dX12_exchange_31 ?_
      refine z_icmp_ne K (tgt := 40) dX12_exchange_32 (by decide) ?_ ?_
      · refine z_iload_n K 2 rfl dX12_exchange_40 ?_
        refine z_if_ne K (tgt := 51) dX12_exchange_41 (by decide) ?_ ?_
        · refine z_aload_n K 1 rfl dX12_exchange_51 ?_
          refine z_geti K fd_X12_405 ob_69_49 dX12_exchange_52 ?_
          exact z_iret K dX12_exchange_55
        · refine z_aload_n K 1 rfl dX12_exchange_44 ?_
          refine z_geti K fd_X12_402 ob_69_48 dX12_exchange_45 ?_
          refine z_goto K (tgt := 55) dX12_exchange_48 (by decide) ?_
          exact z_iret K dX12_exchange_55
      · refine z_bipush K cb_m2 dX12_exchange_35 ?_
        refine z_goto K (tgt := 55) dX12_exchange_37 (by decide) ?_
        exact z_iret K dX12_exchange_55
    · refine z_iload_n K 0 rfl dX12_exchange_23 ?_
      refine z_goto K (tgt := 55) dX12_exchange_24 (by decide) ?_
      exact z_iret K dX12_exchange_55
  · refine z_ldcw K cst_X12_393 dX12_exchange_9 ?_
    exact z_iret K dX12_exchange_12
def f_X12_exchanges_L7 (F : Nat) (k45 : Int32 → zM → Option (Int32 × zM)) : Nat → Int32 → zM → Option (Int32 × zM)
  | 0, _, _ => none
  | n + 1, v1, s =>
    if v1 < (50 : Int32) then
      if (zg s 69 48) = (-1 : Int32) then
        k45 v1 s
      else
        bnd (f_X12_changes F (zg s 69 48) (zg s 69 49) s) (fun _ s3 =>
        lt ((v1 + (1 : Int32))) (fun y4 =>
        bnd (f_X12_laysExchange F s3) (fun r6 s5 =>
        f_X12_exchanges_L7 F k45 n y4 s5)))
    else
      k45 v1 s
set_option maxRecDepth 100000 in
set_option maxHeartbeats 4000000 in
theorem t_X12_exchanges_L7 {a : zA} {d : Nat} (F : Nat) (K : zOK a cX12_exchanges 2 RX12 (some .int) d) (hd : 6 ≤ d) {k45 : Int32 → zM → Option (Int32 × zM)} (h45 : ∀ (v1 : Int32) (s : zM), zJ a 2 (zG a zφN zri) zφN 45 [(1, .int v1)] [] s (k45 v1 s)) : ∀ (n : Nat) (v1 : Int32) (s : zM), zJ a 2 (zG a zφN zri) zφN 7 [(0, .ref (a.1.2.2.2 + 69)), (1, .int v1)] [] s (f_X12_exchanges_L7 F k45 n v1 s) := by
  intro n
  induction n with
  | zero => intros; exact z_none
  | succ n ih =>
    intro v1 s
    rw [f_X12_exchanges_L7]
    refine z_iload_n K 1 rfl dX12_exchanges_7 ?_
    refine z_bipush K cb_50 dX12_exchanges_8 ?_
    refine z_icmp_ge K (tgt := 45) dX12_exchanges_10 (by decide) ?_ ?_
    · refine z_sub [1] rfl ?_
      exact h45 v1 s
    · refine z_aload_n K 0 rfl dX12_exchanges_13 ?_
      refine z_geti K fd_X12_402 ob_69_48 dX12_exchanges_14 ?_
      refine z_iconst K ci_m1 dX12_exchanges_17 ?_
      refine z_icmp_eq K (tgt := 45) dX12_exchanges_18 (by decide) ?_ ?_
      · refine z_sub [1] rfl ?_
        exact h45 v1 s
      · refine z_aload_n K 0 rfl dX12_exchanges_21 ?_
        refine z_aload_n K 0 rfl dX12_exchanges_22 ?_
        refine z_geti K fd_X12_402 ob_69_48 dX12_exchanges_23 ?_
        refine z_aload_n K 0 rfl dX12_exchanges_26 ?_
        refine z_geti K fd_X12_405 ob_69_49 dX12_exchanges_27 ?_
        refine z_cVv (As := [.int (zg s 69 48), .int (zg s 69 49)]) (rest := []) K (t_X12_changes a.1 F (d - 1) (by omega) (zg s 69 48) (zg s 69 49) s) mf_X12_changes ml_X12_408 (Nat.le_of_ble_eq_true rfl) (by omega) rfl rc_69 rfl (Nat.le_of_ble_eq_true rfl) dX12_exchanges_30 (fun _ s3 => ?_)
        refine z_iload_n K 1 rfl dX12_exchanges_33 ?_
        refine z_iconst K ci_1 dX12_exchanges_34 ?_
        refine z_iadd K dX12_exchanges_35 ?_
        refine z_topi (fun y4 => ?_)
        refine z_istore_n K (lv' := [(1, .int y4), (0, .ref (a.1.2.2.2 + 69))]) dX12_exchanges_36 rfl (Nat.le_of_ble_eq_true rfl) rfl ?_
        refine z_aload_n K 1 rfl dX12_exchanges_37 ?_
        refine z_cVi (As := []) (rest := []) K (t_X12_laysExchange a.1 F (d - 1) (by omega) s3) mf_X12_laysExchange ml_X12_411 (Nat.le_of_ble_eq_true rfl) (by omega) rfl rc_69 rfl (Nat.le_of_ble_eq_true rfl) dX12_exchanges_38 (fun r6 s5 => ?_)
        refine z_pop K rfl dX12_exchanges_41 ?_
        refine z_goto K (tgt := 7) dX12_exchanges_42 (by decide) ?_
        refine z_sub [1, 0] rfl ?_
        exact ih y4 s5
def f_X12_exchanges (F : Nat) (s : zM) : Option (Int32 × zM) :=
  bnd (f_X12_laysExchange F s) (fun r2 s1 =>
  f_X12_exchanges_L7 F (fun y8 s7 =>
    some (y8, s7)) F (0 : Int32) s1)
set_option maxRecDepth 100000 in
set_option maxHeartbeats 4000000 in
theorem t_X12_exchanges (w : zWd) (F : Nat) (d : Nat) (hd : 6 ≤ d) (s : zM) : zMt w yX12_exchanges cX12_exchanges 2 (some .int) d zφN zφN zri [.ref (w.2.2.2 + 69)] s (f_X12_exchanges F s) := by
  refine zMtN_of (own := RX12) rfl (by decide +kernel) (Nat.le_of_ble_eq_true rfl) cd_X12_exchanges [(0, .ref (w.2.2.2 + 69))] rfl ?_
  rintro a rfl K
  unfold f_X12_exchanges
  refine z_iconst K ci_0 dX12_exchanges_0 ?_
  refine z_istore_n K (lv' := [(1, .int (0 : Int32)), (0, .ref (a.1.2.2.2 + 69))]) dX12_exchanges_1 rfl (Nat.le_of_ble_eq_true rfl) rfl ?_
  refine z_aload_n K 1 rfl dX12_exchanges_2 ?_
  refine z_cVi (As := []) (rest := []) K (t_X12_laysExchange a.1 F (d - 1) (by omega) s) mf_X12_laysExchange ml_X12_411 (Nat.le_of_ble_eq_true rfl) (by omega) rfl rc_69 rfl (Nat.le_of_ble_eq_true rfl) dX12_exchanges_3 (fun r2 s1 => ?_)
  refine z_pop K rfl dX12_exchanges_6 ?_
  refine z_sub [1, 0] rfl ?_
  refine t_X12_exchanges_L7 F K hd (fun y8 s7 => ?_) F (0 : Int32) s1
  refine z_iload_n K 0 rfl dX12_exchanges_45 ?_
  exact z_iret K dX12_exchanges_46
def f_X12_isStray (v1 : Int32) (s : zM) : Option (Int32 × zM) :=
  bnd (f_X12_sits v1 s) (fun r2 s1 =>
  if r2 = 0 then
    some ((0 : Int32), s1)
  else
    if zin v1 16 = true then
      if zin v1 16 = true then
        if ((zg s1 71 (v1).toNatClampNeg) - (zg s1 71 (v1).toNatClampNeg) / (2 : Int32) * (2 : Int32)) = (zg s1 70 (v1).toNatClampNeg) then
          some ((0 : Int32), s1)
        else
          some ((1 : Int32), s1)
      else none
    else none)
set_option maxRecDepth 100000 in
set_option maxHeartbeats 4000000 in
theorem t_X12_isStray (w : zWd) (d : Nat) (hd : 1 ≤ d) (v1 : Int32) (s : zM) : zMt w yX12_isStray cX12_isStray 2 (some .boolean) d zφN zφN zri [.ref (w.2.2.2 + 69), .int v1] s (f_X12_isStray v1 s) := by
  refine zMtN_of (own := RX12) rfl (by decide +kernel) (Nat.le_of_ble_eq_true rfl) cd_X12_isStray [(0, .ref (w.2.2.2 + 69)), (1, .int v1)] rfl ?_
  rintro a rfl K
  unfold f_X12_isStray
  refine z_aload_n K 0 rfl dX12_isStray_0 ?_
  refine z_iload_n K 1 rfl dX12_isStray_1 ?_
  refine z_cVi (As := [.int v1]) (rest := []) K (t_X12_sits a.1 (d - 1) (by omega) v1 s) mf_X12_sits ml_X12_309 (Nat.le_of_ble_eq_true rfl) (by omega) rfl rc_69 rfl (Nat.le_of_ble_eq_true rfl) dX12_isStray_2 (fun r2 s1 => ?_)
  refine z_if_eq K (tgt := 29) dX12_isStray_5 (by decide) ?_ ?_
  · refine z_iconst K ci_0 dX12_isStray_29 ?_
    exact z_zret (Or.inl rfl) K dX12_isStray_30
  · refine z_aload_n K 0 rfl dX12_isStray_8 ?_
    refine z_getr K fd_X12_13 ob_69_3 dX12_isStray_9 ?_
    refine z_iload_n K 1 rfl dX12_isStray_12 ?_
    refine z_iald K ar_71 dX12_isStray_13 ?_
    refine z_iconst K ci_2 dX12_isStray_14 ?_
    refine z_iremc K (by decide) dX12_isStray_15 ?_
    refine z_aload_n K 0 rfl dX12_isStray_16 ?_
    refine z_getr K fd_X12_7 ob_69_2 dX12_isStray_17 ?_
    refine z_iload_n K 1 rfl dX12_isStray_20 ?_
    refine z_iald K ar_70 dX12_isStray_21 ?_
    refine z_icmp_eq K (tgt := 29) dX12_isStray_22 (by decide) ?_ ?_
    · refine z_iconst K ci_0 dX12_isStray_29 ?_
      exact z_zret (Or.inl rfl) K dX12_isStray_30
    · refine z_iconst K ci_1 dX12_isStray_25 ?_
      refine z_goto K (tgt := 30) dX12_isStray_26 (by decide) ?_
      exact z_zret (Or.inr rfl) K dX12_isStray_30
def f_X12_strays_L4 (F : Nat) (k36 : Int32 → zM → Option (Int32 × zM)) : Nat → Int32 → Int32 → zM → Option (Int32 × zM)
  | 0, _, _, _ => none
  | n + 1, v1, v2, s =>
    if v2 < (zg s 69 0) then
      bnd (f_X12_isStray v2 s) (fun r2 s1 =>
      if r2 = 0 then
        lt (v2 + (1 : Int32)) (fun y3 =>
        f_X12_strays_L4 F k36 n v1 y3 s1)
      else
        lt ((v1 ||| ((1 : Int32) <<< (v2 &&& 31)))) (fun y4 =>
        lt (v2 + (1 : Int32)) (fun y5 =>
        f_X12_strays_L4 F k36 n y4 y5 s1)))
    else
      k36 v1 s
set_option maxRecDepth 100000 in
set_option maxHeartbeats 4000000 in
theorem t_X12_strays_L4 {a : zA} {d : Nat} (F : Nat) (K : zOK a cX12_strays 3 RX12 (some .int) d) (hd : 2 ≤ d) {k36 : Int32 → zM → Option (Int32 × zM)} (h36 : ∀ (v1 : Int32) (s : zM), zJ a 3 (zG a zφN zri) zφN 36 [(1, .int v1)] [] s (k36 v1 s)) : ∀ (n : Nat) (v1 : Int32) (v2 : Int32) (s : zM), zJ a 3 (zG a zφN zri) zφN 4 [(0, .ref (a.1.2.2.2 + 69)), (1, .int v1), (2, .int v2)] [] s (f_X12_strays_L4 F k36 n v1 v2 s) := by
  intro n
  induction n with
  | zero => intros; exact z_none
  | succ n ih =>
    intro v1 v2 s
    rw [f_X12_strays_L4]
    refine z_iload_n K 2 rfl dX12_strays_4 ?_
    refine z_aload_n K 0 rfl dX12_strays_5 ?_
    refine z_geti K fd_X12_168 ob_69_0 dX12_strays_6 ?_
    refine z_icmp_ge K (tgt := 36) dX12_strays_9 (by decide) ?_ ?_
    · refine z_sub [1] rfl ?_
      exact h36 v1 s
    · refine z_aload_n K 0 rfl dX12_strays_12 ?_
      refine z_iload_n K 2 rfl dX12_strays_13 ?_
      refine z_cVi (As := [.int v2]) (rest := []) K (t_X12_isStray a.1 (d - 1) (by omega) v2 s) mf_X12_isStray ml_X12_414 (Nat.le_of_ble_eq_true rfl) (by omega) rfl rc_69 rfl (Nat.le_of_ble_eq_true rfl) dX12_strays_14 (fun r2 s1 => ?_)
      refine z_if_eq K (tgt := 28) dX12_strays_17 (by decide) ?_ ?_
      · refine z_iload_n K 1 rfl dX12_strays_28 ?_
        refine z_istore_n K (lv' := [(1, .int v1), (0, .ref (a.1.2.2.2 + 69)), (2, .int v2)]) dX12_strays_29 rfl (Nat.le_of_ble_eq_true rfl) rfl ?_
        refine z_iincN K (j := 2) (lv' := [(1, .int v1), (0, .ref (a.1.2.2.2 + 69))]) ci_1 rfl dX12_strays_30 (Nat.le_of_ble_eq_true rfl) rfl (fun y3 => ?_)
        refine z_goto K (tgt := 4) dX12_strays_33 (by decide) ?_
        refine z_sub [2, 1, 0] rfl ?_
        exact ih v1 y3 s1
      · refine z_iload_n K 1 rfl dX12_strays_20 ?_
        refine z_iconst K ci_1 dX12_strays_21 ?_
        refine z_iload_n K 2 rfl dX12_strays_22 ?_
        refine z_ishl K dX12_strays_23 ?_
        refine z_ior K dX12_strays_24 ?_
        refine z_goto K (tgt := 29) dX12_strays_25 (by decide) ?_
        refine z_topi (fun y4 => ?_)
        refine z_istore_n K (lv' := [(1, .int y4), (0, .ref (a.1.2.2.2 + 69)), (2, .int v2)]) dX12_strays_29 rfl (Nat.le_of_ble_eq_true rfl) rfl ?_
        refine z_iincN K (j := 2) (lv' := [(1, .int y4), (0, .ref (a.1.2.2.2 + 69))]) ci_1 rfl dX12_strays_30 (Nat.le_of_ble_eq_true rfl) rfl (fun y5 => ?_)
        refine z_goto K (tgt := 4) dX12_strays_33 (by decide) ?_
        refine z_sub [2, 1, 0] rfl ?_
        exact ih y4 y5 s1
def f_X12_strays (F : Nat) (s : zM) : Option (Int32 × zM) :=
  f_X12_strays_L4 F (fun y7 s6 =>
    some (y7, s6)) F (0 : Int32) (0 : Int32) s
set_option maxRecDepth 100000 in
set_option maxHeartbeats 4000000 in
theorem t_X12_strays (w : zWd) (F : Nat) (d : Nat) (hd : 2 ≤ d) (s : zM) : zMt w yX12_strays cX12_strays 3 (some .int) d zφN zφN zri [.ref (w.2.2.2 + 69)] s (f_X12_strays F s) := by
  refine zMtN_of (own := RX12) rfl (by decide +kernel) (Nat.le_of_ble_eq_true rfl) cd_X12_strays [(0, .ref (w.2.2.2 + 69))] rfl ?_
  rintro a rfl K
  unfold f_X12_strays
  refine z_iconst K ci_0 dX12_strays_0 ?_
  refine z_istore_n K (lv' := [(1, .int (0 : Int32)), (0, .ref (a.1.2.2.2 + 69))]) dX12_strays_1 rfl (Nat.le_of_ble_eq_true rfl) rfl ?_
  refine z_iconst K ci_0 dX12_strays_2 ?_
  refine z_istore_n K (lv' := [(2, .int (0 : Int32)), (1, .int (0 : Int32)), (0, .ref (a.1.2.2.2 + 69))]) dX12_strays_3 rfl (Nat.le_of_ble_eq_true rfl) rfl ?_
  refine z_sub [2, 1, 0] rfl ?_
  refine t_X12_strays_L4 F K hd (fun y7 s6 => ?_) F (0 : Int32) (0 : Int32) s
  refine z_iload_n K 0 rfl dX12_strays_36 ?_
  exact z_iret K dX12_strays_37
def f_X12_home_j37 (F : Nat) (k6 : Int32 → Int32 → Int32 → zM → Option (Int32 × zM)) (v2 : Int32) (v3 : Int32) (w0 : Int32) (w1 : Int32) (s : zM) : Option (Int32 × zM) :=
  lt ((w1 + w0)) (fun y3 =>
  bnd (f_X12_isStray v3 s) (fun r5 s4 =>
  if r5 = 0 then
    lt ((v2 + (0 : Int32))) (fun y6 =>
    lt (v3 + (1 : Int32)) (fun y7 =>
    k6 y3 y6 y7 s4))
  else
    if zin v3 16 = true then
      if (zg s4 70 (v3).toNatClampNeg) = (1 : Int32) then
        lt ((v2 + (1 : Int32))) (fun y10 =>
        lt (v3 + (1 : Int32)) (fun y11 =>
        k6 y3 y10 y11 s4))
      else
        lt ((v2 + (0 : Int32))) (fun y8 =>
        lt (v3 + (1 : Int32)) (fun y9 =>
        k6 y3 y8 y9 s4))
    else none))
set_option maxRecDepth 100000 in
set_option maxHeartbeats 4000000 in
theorem t_X12_home_j37 {a : zA} {d : Nat} (F : Nat) (K : zOK a cX12_home 4 RX12 (some .int) d) (hd : 2 ≤ d) {k6 : Int32 → Int32 → Int32 → zM → Option (Int32 × zM)} (h6 : ∀ (v1 : Int32) (v2 : Int32) (v3 : Int32) (s : zM), zJ a 4 (zG a zφN zri) zφN 6 [(0, .ref (a.1.2.2.2 + 69)), (1, .int v1), (2, .int v2), (3, .int v3)] [] s (k6 v1 v2 v3 s)) (v2 : Int32) (v3 : Int32) (w0 : Int32) (w1 : Int32) (s : zM) : zJ a 4 (zG a zφN zri) zφN 37 [(0, .ref (a.1.2.2.2 + 69)), (2, .int v2), (3, .int v3)] [.int w0, .int w1] s (f_X12_home_j37 F k6 v2 v3 w0 w1 s) := by
  unfold f_X12_home_j37
  refine z_iadd K dX12_home_37 ?_
  refine z_topi (fun y3 => ?_)
  refine z_istore_n K (lv' := [(1, .int y3), (0, .ref (a.1.2.2.2 + 69)), (2, .int v2), (3, .int v3)]) dX12_home_38 rfl (Nat.le_of_ble_eq_true rfl) rfl ?_
  refine z_iload_n K 2 rfl dX12_home_39 ?_
  refine z_aload_n K 1 rfl dX12_home_40 ?_
  refine z_iload_n K 3 rfl dX12_home_41 ?_
  refine z_cVi (As := [.int v3]) (rest := [.int v2]) K (t_X12_isStray a.1 (d - 1) (by omega) v3 s) mf_X12_isStray ml_X12_414 (Nat.le_of_ble_eq_true rfl) (by omega) rfl rc_69 rfl (Nat.le_of_ble_eq_true rfl) dX12_home_42 (fun r5 s4 => ?_)
  refine z_if_eq K (tgt := 62) dX12_home_45 (by decide) ?_ ?_
  · refine z_iconst K ci_0 dX12_home_62 ?_
    refine z_iadd K dX12_home_63 ?_
    refine z_topi (fun y6 => ?_)
    refine z_istore_n K (lv' := [(2, .int y6), (1, .int y3), (0, .ref (a.1.2.2.2 + 69)), (3, .int v3)]) dX12_home_64 rfl (Nat.le_of_ble_eq_true rfl) rfl ?_
    refine z_iincN K (j := 3) (lv' := [(2, .int y6), (1, .int y3), (0, .ref (a.1.2.2.2 + 69))]) ci_1 rfl dX12_home_65 (Nat.le_of_ble_eq_true rfl) rfl (fun y7 => ?_)
    refine z_goto K (tgt := 6) dX12_home_68 (by decide) ?_
    refine z_sub [3, 2, 1, 0] rfl ?_
    exact h6 y3 y6 y7 s4
  · refine z_aload_n K 1 rfl dX12_home_48 ?_
    refine z_getr K fd_X12_7 ob_69_2 dX12_home_49 ?_
    refine z_iload_n K 3 rfl dX12_home_52 ?_
    refine z_iald K ar_70 dX12_home_53 ?_
    refine z_iconst K ci_1 dX12_home_54 ?_
    refine z_icmp_ne K (tgt := 62) dX12_home_55 (by decide) ?_ ?_
    · refine z_iconst K ci_0 dX12_home_62 ?_
      refine z_iadd K dX12_home_63 ?_
      refine z_topi (fun y8 => ?_)
      refine z_istore_n K (lv' := [(2, .int y8), (1, .int y3), (0, .ref (a.1.2.2.2 + 69)), (3, .int v3)]) dX12_home_64 rfl (Nat.le_of_ble_eq_true rfl) rfl ?_
      refine z_iincN K (j := 3) (lv' := [(2, .int y8), (1, .int y3), (0, .ref (a.1.2.2.2 + 69))]) ci_1 rfl dX12_home_65 (Nat.le_of_ble_eq_true rfl) rfl (fun y9 => ?_)
      refine z_goto K (tgt := 6) dX12_home_68 (by decide) ?_
      refine z_sub [3, 2, 1, 0] rfl ?_
      exact h6 y3 y8 y9 s4
    · refine z_iconst K ci_1 dX12_home_58 ?_
      refine z_goto K (tgt := 63) dX12_home_59 (by decide) ?_
      refine z_iadd K dX12_home_63 ?_
      refine z_topi (fun y10 => ?_)
      refine z_istore_n K (lv' := [(2, .int y10), (1, .int y3), (0, .ref (a.1.2.2.2 + 69)), (3, .int v3)]) dX12_home_64 rfl (Nat.le_of_ble_eq_true rfl) rfl ?_
      refine z_iincN K (j := 3) (lv' := [(2, .int y10), (1, .int y3), (0, .ref (a.1.2.2.2 + 69))]) ci_1 rfl dX12_home_65 (Nat.le_of_ble_eq_true rfl) rfl (fun y11 => ?_)
      refine z_goto K (tgt := 6) dX12_home_68 (by decide) ?_
      refine z_sub [3, 2, 1, 0] rfl ?_
      exact h6 y3 y10 y11 s4
def f_X12_home_j36 (F : Nat) (k6 : Int32 → Int32 → Int32 → zM → Option (Int32 × zM)) (v2 : Int32) (v3 : Int32) (w0 : Int32) (s : zM) : Option (Int32 × zM) :=
  f_X12_home_j37 F k6 v2 v3 (0 : Int32) w0 s
set_option maxRecDepth 100000 in
set_option maxHeartbeats 4000000 in
theorem t_X12_home_j36 {a : zA} {d : Nat} (F : Nat) (K : zOK a cX12_home 4 RX12 (some .int) d) (hd : 2 ≤ d) {k6 : Int32 → Int32 → Int32 → zM → Option (Int32 × zM)} (h6 : ∀ (v1 : Int32) (v2 : Int32) (v3 : Int32) (s : zM), zJ a 4 (zG a zφN zri) zφN 6 [(0, .ref (a.1.2.2.2 + 69)), (1, .int v1), (2, .int v2), (3, .int v3)] [] s (k6 v1 v2 v3 s)) (v2 : Int32) (v3 : Int32) (w0 : Int32) (s : zM) : zJ a 4 (zG a zφN zri) zφN 36 [(0, .ref (a.1.2.2.2 + 69)), (2, .int v2), (3, .int v3)] [.int w0] s (f_X12_home_j36 F k6 v2 v3 w0 s) := by
  unfold f_X12_home_j36
  refine z_iconst K ci_0 dX12_home_36 ?_
  exact t_X12_home_j37 F K hd h6 v2 v3 (0 : Int32) w0 s
def f_X12_home_L6 (F : Nat) (k71 : Int32 → Int32 → zM → Option (Int32 × zM)) : Nat → Int32 → Int32 → Int32 → zM → Option (Int32 × zM)
  | 0, _, _, _, _ => none
  | n + 1, v1, v2, v3, s =>
    if v3 < (zg s 69 0) then
      bnd (f_X12_isStray v3 s) (fun r2 s1 =>
      if r2 = 0 then
        f_X12_home_j36 F (f_X12_home_L6 F k71 n) v2 v3 v1 s1
      else
        if zin v3 16 = true then
          if (zg s1 70 (v3).toNatClampNeg) = 0 then
            f_X12_home_j37 F (f_X12_home_L6 F k71 n) v2 v3 (1 : Int32) v1 s1
          else
            f_X12_home_j36 F (f_X12_home_L6 F k71 n) v2 v3 v1 s1
        else none)
    else
      k71 v1 v2 s
set_option maxRecDepth 100000 in
set_option maxHeartbeats 4000000 in
theorem t_X12_home_L6 {a : zA} {d : Nat} (F : Nat) (K : zOK a cX12_home 4 RX12 (some .int) d) (hd : 2 ≤ d) {k71 : Int32 → Int32 → zM → Option (Int32 × zM)} (h71 : ∀ (v1 : Int32) (v2 : Int32) (s : zM), zJ a 4 (zG a zφN zri) zφN 71 [(1, .int v1), (2, .int v2)] [] s (k71 v1 v2 s)) : ∀ (n : Nat) (v1 : Int32) (v2 : Int32) (v3 : Int32) (s : zM), zJ a 4 (zG a zφN zri) zφN 6 [(0, .ref (a.1.2.2.2 + 69)), (1, .int v1), (2, .int v2), (3, .int v3)] [] s (f_X12_home_L6 F k71 n v1 v2 v3 s) := by
  intro n
  induction n with
  | zero => intros; exact z_none
  | succ n ih =>
    intro v1 v2 v3 s
    rw [f_X12_home_L6]
    refine z_iload_n K 3 rfl dX12_home_6 ?_
    refine z_aload_n K 0 rfl dX12_home_7 ?_
    refine z_geti K fd_X12_168 ob_69_0 dX12_home_8 ?_
    refine z_icmp_ge K (tgt := 71) dX12_home_11 (by decide) ?_ ?_
    · refine z_sub [1, 2] rfl ?_
      exact h71 v1 v2 s
    · refine z_iload_n K 1 rfl dX12_home_14 ?_
      refine z_aload_n K 0 rfl dX12_home_15 ?_
      refine z_iload_n K 3 rfl dX12_home_16 ?_
      refine z_cVi (As := [.int v3]) (rest := [.int v1]) K (t_X12_isStray a.1 (d - 1) (by omega) v3 s) mf_X12_isStray ml_X12_414 (Nat.le_of_ble_eq_true rfl) (by omega) rfl rc_69 rfl (Nat.le_of_ble_eq_true rfl) dX12_home_17 (fun r2 s1 => ?_)
      refine z_if_eq K (tgt := 36) dX12_home_20 (by decide) ?_ ?_
      · refine z_sub [0, 2, 3] rfl ?_
        exact t_X12_home_j36 F K hd ih v2 v3 v1 s1
      · refine z_aload_n K 0 rfl dX12_home_23 ?_
        refine z_getr K fd_X12_7 ob_69_2 dX12_home_24 ?_
        refine z_iload_n K 3 rfl dX12_home_27 ?_
        refine z_iald K ar_70 dX12_home_28 ?_
        refine z_if_ne K (tgt := 36) dX12_home_29 (by decide) ?_ ?_
        · refine z_sub [0, 2, 3] rfl ?_
          exact t_X12_home_j36 F K hd ih v2 v3 v1 s1
        · refine z_iconst K ci_1 dX12_home_32 ?_
          refine z_goto K (tgt := 37) dX12_home_33 (by decide) ?_
          refine z_sub [0, 2, 3] rfl ?_
          exact t_X12_home_j37 F K hd ih v2 v3 (1 : Int32) v1 s1
def f_X12_home (F : Nat) (s : zM) : Option (Int32 × zM) :=
  f_X12_home_L6 F (fun y13 y14 s12 =>
    if y14 < y13 then
      some (y13, s12)
    else
      some (y14, s12)) F (0 : Int32) (0 : Int32) (0 : Int32) s
set_option maxRecDepth 100000 in
set_option maxHeartbeats 4000000 in
theorem t_X12_home (w : zWd) (F : Nat) (d : Nat) (hd : 2 ≤ d) (s : zM) : zMt w yX12_home cX12_home 4 (some .int) d zφN zφN zri [.ref (w.2.2.2 + 69)] s (f_X12_home F s) := by
  refine zMtN_of (own := RX12) rfl (by decide +kernel) (Nat.le_of_ble_eq_true rfl) cd_X12_home [(0, .ref (w.2.2.2 + 69))] rfl ?_
  rintro a rfl K
  unfold f_X12_home
  refine z_iconst K ci_0 dX12_home_0 ?_
  refine z_istore_n K (lv' := [(1, .int (0 : Int32)), (0, .ref (a.1.2.2.2 + 69))]) dX12_home_1 rfl (Nat.le_of_ble_eq_true rfl) rfl ?_
  refine z_iconst K ci_0 dX12_home_2 ?_
  refine z_istore_n K (lv' := [(2, .int (0 : Int32)), (1, .int (0 : Int32)), (0, .ref (a.1.2.2.2 + 69))]) dX12_home_3 rfl (Nat.le_of_ble_eq_true rfl) rfl ?_
  refine z_iconst K ci_0 dX12_home_4 ?_
  refine z_istore_n K (lv' := [(3, .int (0 : Int32)), (2, .int (0 : Int32)), (1, .int (0 : Int32)), (0, .ref (a.1.2.2.2 + 69))]) dX12_home_5 rfl (Nat.le_of_ble_eq_true rfl) rfl ?_
  refine z_sub [3, 2, 1, 0] rfl ?_
  refine t_X12_home_L6 F K hd (fun y13 y14 s12 => ?_) F (0 : Int32) (0 : Int32) (0 : Int32) s
  refine z_iload_n K 0 rfl dX12_home_71 ?_
  refine z_iload_n K 1 rfl dX12_home_72 ?_
  refine z_icmp_le K (tgt := 80) dX12_home_73 (by decide) ?_ ?_
  · refine z_iload_n K 1 rfl dX12_home_80 ?_
    exact z_iret K dX12_home_81
  · refine z_iload_n K 0 rfl dX12_home_76 ?_
    refine z_goto K (tgt := 81) dX12_home_77 (by decide) ?_
    exact z_iret K dX12_home_81
def f_X12_heir_j21 (v1 : Int32) (v2 : Int32) (s : zM) : Option (Int32 × zM) :=
  if v1 = v2 then
    some ((0 : Int32), s)
  else
    if zin v1 16 = true then
      lt (zs s 73 (v1).toNatClampNeg v2) (fun s3 =>
      some ((1 : Int32), s3))
    else none
set_option maxRecDepth 100000 in
set_option maxHeartbeats 4000000 in
theorem t_X12_heir_j21 {a : zA} {d : Nat} (K : zOK a cX12_heir 3 RX12 (some .boolean) d) (hd : 1 ≤ d) (v1 : Int32) (v2 : Int32) (s : zM) : zJ a 3 (zG a zφN zri) zφN 21 [(0, .ref (a.1.2.2.2 + 69)), (1, .int v1), (2, .int v2)] [] s (f_X12_heir_j21 v1 v2 s) := by
  unfold f_X12_heir_j21
  refine z_iload_n K 1 rfl dX12_heir_21 ?_
  refine z_iload_n K 2 rfl dX12_heir_22 ?_
  refine z_icmp_ne K (tgt := 28) dX12_heir_23 (by decide) ?_ ?_
  · refine z_aload_n K 0 rfl dX12_heir_28 ?_
    refine z_getr K fd_X12_19 ob_69_5 dX12_heir_29 ?_
    refine z_iload_n K 1 rfl dX12_heir_32 ?_
    refine z_iload_n K 2 rfl dX12_heir_33 ?_
    refine z_iast K ar_73 dX12_heir_34 ?_
    refine z_ltm (fun s3 => ?_)
    refine z_iconst K ci_1 dX12_heir_35 ?_
    exact z_zret (Or.inr rfl) K dX12_heir_36
  · refine z_iconst K ci_0 dX12_heir_26 ?_
    exact z_zret (Or.inl rfl) K dX12_heir_27
def f_X12_heir (v1 : Int32) (v2 : Int32) (s : zM) : Option (Int32 × zM) :=
  bnd (f_X12_isGuest v1 s) (fun r2 s1 =>
  if r2 = 0 then
    some ((0 : Int32), s1)
  else
    if v2 = (-1 : Int32) then
      f_X12_heir_j21 v1 v2 s1
    else
      bnd (f_X12_isGuest v2 s1) (fun r5 s4 =>
      if r5 = 0 then
        some ((0 : Int32), s4)
      else
        f_X12_heir_j21 v1 v2 s4))
set_option maxRecDepth 100000 in
set_option maxHeartbeats 4000000 in
theorem t_X12_heir (w : zWd) (d : Nat) (hd : 1 ≤ d) (v1 : Int32) (v2 : Int32) (s : zM) : zMt w yX12_heir cX12_heir 3 (some .boolean) d zφN zφN zri [.ref (w.2.2.2 + 69), .int v1, .int v2] s (f_X12_heir v1 v2 s) := by
  refine zMtN_of (own := RX12) rfl (by decide +kernel) (Nat.le_of_ble_eq_true rfl) cd_X12_heir [(0, .ref (w.2.2.2 + 69)), (1, .int v1), (2, .int v2)] rfl ?_
  rintro a rfl K
  unfold f_X12_heir
  refine z_aload_n K 0 rfl dX12_heir_0 ?_
  refine z_iload_n K 1 rfl dX12_heir_1 ?_
  refine z_cVi (As := [.int v1]) (rest := []) K (t_X12_isGuest a.1 (d - 1) (by omega) v1 s) mf_X12_isGuest ml_X12_183 (Nat.le_of_ble_eq_true rfl) (by omega) rfl rc_69 rfl (Nat.le_of_ble_eq_true rfl) dX12_heir_2 (fun r2 s1 => ?_)
  refine z_if_eq K (tgt := 26) dX12_heir_5 (by decide) ?_ ?_
  · refine z_iconst K ci_0 dX12_heir_26 ?_
    exact z_zret (Or.inl rfl) K dX12_heir_27
  · refine z_iload_n K 2 rfl dX12_heir_8 ?_
    refine z_iconst K ci_m1 dX12_heir_9 ?_
    refine z_icmp_eq K (tgt := 21) dX12_heir_10 (by decide) ?_ ?_
    · exact t_X12_heir_j21 K hd v1 v2 s1
    · refine z_aload_n K 0 rfl dX12_heir_13 ?_
      refine z_iload_n K 2 rfl dX12_heir_14 ?_
      refine z_cVi (As := [.int v2]) (rest := []) K (t_X12_isGuest a.1 (d - 1) (by omega) v2 s1) mf_X12_isGuest ml_X12_183 (Nat.le_of_ble_eq_true rfl) (by omega) rfl rc_69 rfl (Nat.le_of_ble_eq_true rfl) dX12_heir_15 (fun r5 s4 => ?_)
      refine z_if_eq K (tgt := 26) dX12_heir_18 (by decide) ?_ ?_
      · refine z_iconst K ci_0 dX12_heir_26 ?_
        exact z_zret (Or.inl rfl) K dX12_heir_27
      · exact t_X12_heir_j21 K hd v1 v2 s4
def f_X12_dies_L54 (F : Nat) (k98 : zM → Option (Int32 × zM)) (v2 : Int32) : Nat → Int32 → Int32 → zM → Option (Int32 × zM)
  | 0, _, _, _ => none
  | n + 1, v3, v4, s =>
    if v4 < (15 : Int32) then
      if v3 = (-1 : Int32) then
        k98 s
      else
        if zin v3 16 = true then
          if (zg s 71 (v3).toNatClampNeg) = (-1 : Int32) then
            if zin v3 16 = true then
              lt (zs s 71 (v3).toNatClampNeg v2) (fun s8 =>
              some (v3, s8))
            else none
          else
            if zin v3 16 = true then
              lt ((zg s 73 (v3).toNatClampNeg)) (fun y6 =>
              lt (v4 + (1 : Int32)) (fun y7 =>
              f_X12_dies_L54 F k98 v2 n y6 y7 s))
            else none
        else none
    else
      k98 s
set_option maxRecDepth 100000 in
set_option maxHeartbeats 4000000 in
theorem t_X12_dies_L54 {a : zA} {d : Nat} (F : Nat) (K : zOK a cX12_dies 5 RX12 (some .int) d) (hd : 1 ≤ d) {k98 : zM → Option (Int32 × zM)} (v2 : Int32) (h98 : ∀ (s : zM), zJ a 5 (zG a zφN zri) zφN 98 [] [] s (k98 s)) : ∀ (n : Nat) (v3 : Int32) (v4 : Int32) (s : zM), zJ a 5 (zG a zφN zri) zφN 54 [(0, .ref (a.1.2.2.2 + 69)), (2, .int v2), (3, .int v3), (4, .int v4)] [] s (f_X12_dies_L54 F k98 v2 n v3 v4 s) := by
  intro n
  induction n with
  | zero => intros; exact z_none
  | succ n ih =>
    intro v3 v4 s
    rw [f_X12_dies_L54]
    refine z_iload K 3 rfl dX12_dies_54 ?_
    refine z_bipush K cb_15 dX12_dies_56 ?_
    refine z_icmp_ge K (tgt := 98) dX12_dies_58 (by decide) ?_ ?_
    · refine z_sub [] rfl ?_
      exact h98 s
    · refine z_iload_n K 2 rfl dX12_dies_61 ?_
      refine z_iconst K ci_m1 dX12_dies_62 ?_
      refine z_icmp_eq K (tgt := 98) dX12_dies_63 (by decide) ?_ ?_
      · refine z_sub [] rfl ?_
        exact h98 s
      · refine z_aload_n K 0 rfl dX12_dies_66 ?_
        refine z_getr K fd_X12_13 ob_69_3 dX12_dies_67 ?_
        refine z_iload_n K 2 rfl dX12_dies_70 ?_
        refine z_iald K ar_71 dX12_dies_71 ?_
        refine z_iconst K ci_m1 dX12_dies_72 ?_
        refine z_icmp_ne K (tgt := 85) dX12_dies_73 (by decide) ?_ ?_
        · refine z_aload_n K 0 rfl dX12_dies_85 ?_
          refine z_getr K fd_X12_19 ob_69_5 dX12_dies_86 ?_
          refine z_iload_n K 2 rfl dX12_dies_89 ?_
          refine z_iald K ar_73 dX12_dies_90 ?_
          refine z_topi (fun y6 => ?_)
          refine z_istore_n K (lv' := [(3, .int y6), (0, .ref (a.1.2.2.2 + 69)), (2, .int v2), (4, .int v4)]) dX12_dies_91 rfl (Nat.le_of_ble_eq_true rfl) rfl ?_
          refine z_iincN K (j := 3) (lv' := [(3, .int y6), (0, .ref (a.1.2.2.2 + 69)), (2, .int v2)]) ci_1 rfl dX12_dies_92 (Nat.le_of_ble_eq_true rfl) rfl (fun y7 => ?_)
          refine z_goto K (tgt := 54) dX12_dies_95 (by decide) ?_
          refine z_sub [2, 3, 1, 0] rfl ?_
          exact ih y6 y7 s
        · refine z_aload_n K 0 rfl dX12_dies_76 ?_
          refine z_getr K fd_X12_13 ob_69_3 dX12_dies_77 ?_
          refine z_iload_n K 2 rfl dX12_dies_80 ?_
          refine z_iload_n K 1 rfl dX12_dies_81 ?_
          refine z_iast K ar_71 dX12_dies_82 ?_
          refine z_ltm (fun s8 => ?_)
          refine z_iload_n K 2 rfl dX12_dies_83 ?_
          exact z_iret K dX12_dies_84
def f_X12_dies (F : Nat) (v1 : Int32) (s : zM) : Option (Int32 × zM) :=
  bnd (f_X12_isGuest v1 s) (fun r2 s1 =>
  if r2 = 0 then
    some ((-1 : Int32), s1)
  else
    if zin v1 16 = true then
      if (zg s1 71 (v1).toNatClampNeg) = (-2 : Int32) then
        some ((-1 : Int32), s1)
      else
        if zin v1 16 = true then
          lt ((zg s1 71 (v1).toNatClampNeg)) (fun y3 =>
          if zin v1 16 = true then
            lt (zs s1 71 (v1).toNatClampNeg (-2 : Int32)) (fun s4 =>
            if y3 = (-1 : Int32) then
              some ((-2 : Int32), s4)
            else
              if zin v1 16 = true then
                lt ((zg s4 73 (v1).toNatClampNeg)) (fun y5 =>
                f_X12_dies_L54 F (fun s9 =>
                  some ((-2 : Int32), s9)) y3 F y5 (0 : Int32) s4)
              else none)
          else none)
        else none
    else none)
set_option maxRecDepth 100000 in
set_option maxHeartbeats 4000000 in
theorem t_X12_dies (w : zWd) (F : Nat) (d : Nat) (hd : 1 ≤ d) (v1 : Int32) (s : zM) : zMt w yX12_dies cX12_dies 5 (some .int) d zφN zφN zri [.ref (w.2.2.2 + 69), .int v1] s (f_X12_dies F v1 s) := by
  refine zMtN_of (own := RX12) rfl (by decide +kernel) (Nat.le_of_ble_eq_true rfl) cd_X12_dies [(0, .ref (w.2.2.2 + 69)), (1, .int v1)] rfl ?_
  rintro a rfl K
  unfold f_X12_dies
  refine z_aload_n K 0 rfl dX12_dies_0 ?_
  refine z_iload_n K 1 rfl dX12_dies_1 ?_
  refine z_cVi (As := [.int v1]) (rest := []) K (t_X12_isGuest a.1 (d - 1) (by omega) v1 s) mf_X12_isGuest ml_X12_183 (Nat.le_of_ble_eq_true rfl) (by omega) rfl rc_69 rfl (Nat.le_of_ble_eq_true rfl) dX12_dies_2 (fun r2 s1 => ?_)
  refine z_if_eq K (tgt := 19) dX12_dies_5 (by decide) ?_ ?_
  · refine z_iconst K ci_m1 dX12_dies_19 ?_
    exact z_iret K dX12_dies_20
  · refine z_aload_n K 0 rfl dX12_dies_8 ?_
    refine z_getr K fd_X12_13 ob_69_3 dX12_dies_9 ?_
    refine z_iload_n K 1 rfl dX12_dies_12 ?_
    refine z_iald K ar_71 dX12_dies_13 ?_
    refine z_bipush K cb_m2 dX12_dies_14 ?_
    refine z_icmp_ne K (tgt := 21) dX12_dies_16 (by decide) ?_ ?_
    · refine z_aload_n K 0 rfl dX12_dies_21 ?_
      refine z_getr K fd_X12_13 ob_69_3 dX12_dies_22 ?_
      refine z_iload_n K 1 rfl dX12_dies_25 ?_
      refine z_iald K ar_71 dX12_dies_26 ?_
      refine z_topi (fun y3 => ?_)
      refine z_istore_n K (lv' := [(2, .int y3), (0, .ref (a.1.2.2.2 + 69)), (1, .int v1)]) dX12_dies_27 rfl (Nat.le_of_ble_eq_true rfl) rfl ?_
      refine z_aload_n K 1 rfl dX12_dies_28 ?_
      refine z_getr K fd_X12_13 ob_69_3 dX12_dies_29 ?_
      refine z_iload_n K 2 rfl dX12_dies_32 ?_
      refine z_bipush K cb_m2 dX12_dies_33 ?_
      refine z_iast K ar_71 dX12_dies_35 ?_
      refine z_ltm (fun s4 => ?_)
      refine z_iload_n K 0 rfl dX12_dies_36 ?_
      refine z_iconst K ci_m1 dX12_dies_37 ?_
      refine z_icmp_ne K (tgt := 44) dX12_dies_38 (by decide) ?_ ?_
      · refine z_aload_n K 1 rfl dX12_dies_44 ?_
        refine z_getr K fd_X12_19 ob_69_5 dX12_dies_45 ?_
        refine z_iload_n K 2 rfl dX12_dies_48 ?_
        refine z_iald K ar_73 dX12_dies_49 ?_
        refine z_topi (fun y5 => ?_)
        refine z_istore_n K (lv' := [(3, .int y5), (2, .int y3), (0, .ref (a.1.2.2.2 + 69)), (1, .int v1)]) dX12_dies_50 rfl (Nat.le_of_ble_eq_true rfl) rfl ?_
        refine z_iconst K ci_0 dX12_dies_51 ?_
        refine z_istore K (lv' := [(4, .int (0 : Int32)), (3, .int y5), (2, .int y3), (0, .ref (a.1.2.2.2 + 69)), (1, .int v1)]) dX12_dies_52 (Nat.le_of_ble_eq_true rfl) rfl ?_
        refine z_sub [3, 2, 1, 0] rfl ?_
        refine t_X12_dies_L54 F K hd y3 (fun s9 => ?_) F y5 (0 : Int32) s4
        refine z_bipush K cb_m2 dX12_dies_98 ?_
        exact z_iret K dX12_dies_100
      · refine z_bipush K cb_m2 dX12_dies_41 ?_
        exact z_iret K dX12_dies_43
    · refine z_iconst K ci_m1 dX12_dies_19 ?_
      exact z_iret K dX12_dies_20
def f_X12_knives (v1 : Int32) (v2 : Int32) (s : zM) : Option (Int32 × zM) :=
  bnd (f_X12_isSeat v1 s) (fun r2 s1 =>
  if r2 = 0 then
    some ((0 : Int32), s1)
  else
    bnd (f_X12_in v2 (0 : Int32) (9 : Int32) s1) (fun r4 s3 =>
    if r4 = 0 then
      some ((0 : Int32), s3)
    else
      if zin v1 40 = true then
        lt (zs s3 100 (v1).toNatClampNeg v2) (fun s5 =>
        some ((1 : Int32), s5))
      else none))
set_option maxRecDepth 100000 in
set_option maxHeartbeats 4000000 in
theorem t_X12_knives (w : zWd) (d : Nat) (hd : 1 ≤ d) (v1 : Int32) (v2 : Int32) (s : zM) : zMt w yX12_knives cX12_knives 3 (some .boolean) d zφN zφN zri [.ref (w.2.2.2 + 69), .int v1, .int v2] s (f_X12_knives v1 v2 s) := by
  refine zMtN_of (own := RX12) rfl (by decide +kernel) (Nat.le_of_ble_eq_true rfl) cd_X12_knives [(0, .ref (w.2.2.2 + 69)), (1, .int v1), (2, .int v2)] rfl ?_
  rintro a rfl K
  unfold f_X12_knives
  refine z_iload_n K 1 rfl dX12_knives_0 ?_
  refine z_cSi (As := [.int v1]) (rest := []) K (t_X12_isSeat a.1 (d - 1) (by omega) v1 s) mf_X12_isSeat ml_X12_175 (Nat.le_of_ble_eq_true rfl) (by omega) rfl rfl (Nat.le_of_ble_eq_true rfl) dX12_knives_1 (fun r2 s1 => ?_)
  refine z_if_eq K (tgt := 17) dX12_knives_4 (by decide) ?_ ?_
  · refine z_iconst K ci_0 dX12_knives_17 ?_
    exact z_zret (Or.inl rfl) K dX12_knives_18
  · refine z_iload_n K 2 rfl dX12_knives_7 ?_
    refine z_iconst K ci_0 dX12_knives_8 ?_
    refine z_bipush K cb_9 dX12_knives_9 ?_
    refine z_cSi (As := [.int v2, .int (0 : Int32), .int (9 : Int32)]) (rest := []) K (t_X12_in a.1 (d - 1) (by omega) v2 (0 : Int32) (9 : Int32) s1) mf_X12_in ml_X12_171 (Nat.le_of_ble_eq_true rfl) (by omega) rfl rfl (Nat.le_of_ble_eq_true rfl) dX12_knives_11 (fun r4 s3 => ?_)
    refine z_if_ne K (tgt := 19) dX12_knives_14 (by decide) ?_ ?_
    · refine z_aload_n K 0 rfl dX12_knives_19 ?_
      refine z_getr K fd_X12_101 ob_69_51 dX12_knives_20 ?_
      refine z_iload_n K 1 rfl dX12_knives_23 ?_
      refine z_iload_n K 2 rfl dX12_knives_24 ?_
      refine z_iast K ar_100 dX12_knives_25 ?_
      refine z_ltm (fun s5 => ?_)
      refine z_iconst K ci_1 dX12_knives_26 ?_
      exact z_zret (Or.inr rfl) K dX12_knives_27
    · refine z_iconst K ci_0 dX12_knives_17 ?_
      exact z_zret (Or.inl rfl) K dX12_knives_18
def f_X12_put (v1 : Int32) (v2 : Int32) (v3 : Int32) (s : zM) : Option (Int32 × zM) :=
  bnd (f_X12_isSeat v1 s) (fun r2 s1 =>
  if r2 = 0 then
    some ((0 : Int32), s1)
  else
    bnd (f_X12_isSeat v2 s1) (fun r4 s3 =>
    if r4 = 0 then
      some ((0 : Int32), s3)
    else
      if v1 = v2 then
        some ((0 : Int32), s3)
      else
        if v3 < (1 : Int32) then
          some ((0 : Int32), s3)
        else
          if zin v1 40 = true then
            if (zg s3 100 (v1).toNatClampNeg) < v3 then
              some ((0 : Int32), s3)
            else
              if zin v2 40 = true then
                if (99 : Int32) < ((zg s3 100 (v2).toNatClampNeg) + v3) then
                  some ((0 : Int32), s3)
                else
                  if zin v1 40 = true then
                    if zin v1 40 = true then
                      lt (zs s3 100 (v1).toNatClampNeg ((zg s3 100 (v1).toNatClampNeg) - v3)) (fun s5 =>
                      if zin v2 40 = true then
                        if zin v2 40 = true then
                          lt (zs s5 100 (v2).toNatClampNeg ((zg s5 100 (v2).toNatClampNeg) + v3)) (fun s6 =>
                          some ((1 : Int32), s6))
                        else none
                      else none)
                    else none
                  else none
              else none
          else none))
set_option maxRecDepth 100000 in
set_option maxHeartbeats 4000000 in
theorem t_X12_put (w : zWd) (d : Nat) (hd : 1 ≤ d) (v1 : Int32) (v2 : Int32) (v3 : Int32) (s : zM) : zMt w yX12_put cX12_put 4 (some .boolean) d zφN zφN zri [.ref (w.2.2.2 + 69), .int v1, .int v2, .int v3] s (f_X12_put v1 v2 v3 s) := by
  refine zMtN_of (own := RX12) rfl (by decide +kernel) (Nat.le_of_ble_eq_true rfl) cd_X12_put [(0, .ref (w.2.2.2 + 69)), (1, .int v1), (2, .int v2), (3, .int v3)] rfl ?_
  rintro a rfl K
  unfold f_X12_put
  refine z_iload_n K 1 rfl dX12_put_0 ?_
  refine z_cSi (As := [.int v1]) (rest := []) K (t_X12_isSeat a.1 (d - 1) (by omega) v1 s) mf_X12_isSeat ml_X12_175 (Nat.le_of_ble_eq_true rfl) (by omega) rfl rfl (Nat.le_of_ble_eq_true rfl) dX12_put_1 (fun r2 s1 => ?_)
  refine z_if_eq K (tgt := 47) dX12_put_4 (by decide) ?_ ?_
  · refine z_iconst K ci_0 dX12_put_47 ?_
    exact z_zret (Or.inl rfl) K dX12_put_48
  · refine z_iload_n K 2 rfl dX12_put_7 ?_
    refine z_cSi (As := [.int v2]) (rest := []) K (t_X12_isSeat a.1 (d - 1) (by omega) v2 s1) mf_X12_isSeat ml_X12_175 (Nat.le_of_ble_eq_true rfl) (by omega) rfl rfl (Nat.le_of_ble_eq_true rfl) dX12_put_8 (fun r4 s3 => ?_)
    refine z_if_eq K (tgt := 47) dX12_put_11 (by decide) ?_ ?_
    · refine z_iconst K ci_0 dX12_put_47 ?_
      exact z_zret (Or.inl rfl) K dX12_put_48
    · refine z_iload_n K 1 rfl dX12_put_14 ?_
      refine z_iload_n K 2 rfl dX12_put_15 ?_
      refine z_icmp_eq K (tgt := 47) dX12_put_16 (by decide) ?_ ?_
      · refine z_iconst K ci_0 dX12_put_47 ?_
        exact z_zret (Or.inl rfl) K dX12_put_48
      · refine z_iload_n K 3 rfl dX12_put_19 ?_
        refine z_iconst K ci_1 dX12_put_20 ?_
        refine z_icmp_lt K (tgt := 47) dX12_put_21 (by decide) ?_ ?_
        · refine z_iconst K ci_0 dX12_put_47 ?_
          exact z_zret (Or.inl rfl) K dX12_put_48
        · refine z_iload_n K 3 rfl dX12_put_24 ?_
          refine z_aload_n K 0 rfl dX12_put_25 ?_
          refine z_getr K fd_X12_101 ob_69_51 dX12_put_26 ?_
          refine z_iload_n K 1 rfl dX12_put_29 ?_
          refine z_iald K ar_100 dX12_put_30 ?_
          refine z_icmp_gt K (tgt := 47) dX12_put_31 (by decide) ?_ ?_
          · refine z_iconst K ci_0 dX12_put_47 ?_
            exact z_zret (Or.inl rfl) K dX12_put_48
          · refine z_aload_n K 0 rfl dX12_put_34 ?_
            refine z_getr K fd_X12_101 ob_69_51 dX12_put_35 ?_
            refine z_iload_n K 2 rfl dX12_put_38 ?_
            refine z_iald K ar_100 dX12_put_39 ?_
            refine z_iload_n K 3 rfl dX12_put_40 ?_
            refine z_iadd K dX12_put_41 ?_
            refine z_bipush K cb_99 dX12_put_42 ?_
            refine z_icmp_le K (tgt := 49) dX12_put_44 (by decide) ?_ ?_
            · refine z_aload_n K 0 rfl dX12_put_49 ?_
              refine z_getr K fd_X12_101 ob_69_51 dX12_put_50 ?_
              refine z_iload_n K 1 rfl dX12_put_53 ?_
              refine z_aload_n K 0 rfl dX12_put_54 ?_
              refine z_getr K fd_X12_101 ob_69_51 dX12_put_55 ?_
              refine z_iload_n K 1 rfl dX12_put_58 ?_
              refine z_iald K ar_100 dX12_put_59 ?_
              refine z_iload_n K 3 rfl dX12_put_60 ?_
              refine z_isub K dX12_put_61 ?_
              refine z_iast K ar_100 dX12_put_62 ?_
              refine z_ltm (fun s5 => ?_)
              refine z_aload_n K 0 rfl dX12_put_63 ?_
              refine z_getr K fd_X12_101 ob_69_51 dX12_put_64 ?_
              refine z_iload_n K 2 rfl dX12_put_67 ?_
              refine z_aload_n K 0 rfl dX12_put_68 ?_
              refine z_getr K fd_X12_101 ob_69_51 dX12_put_69 ?_
              refine z_iload_n K 2 rfl dX12_put_72 ?_
              refine z_iald K ar_100 dX12_put_73 ?_
              refine z_iload_n K 3 rfl dX12_put_74 ?_
              refine z_iadd K dX12_put_75 ?_
              refine z_iast K ar_100 dX12_put_76 ?_
              refine z_ltm (fun s6 => ?_)
              refine z_iconst K ci_1 dX12_put_77 ?_
              exact z_zret (Or.inr rfl) K dX12_put_78
            · refine z_iconst K ci_0 dX12_put_47 ?_
              exact z_zret (Or.inl rfl) K dX12_put_48
def f_X12_counted (v1 : Int32) (v2 : Int32) (v3 : Int32) (v4 : Int32) (s : zM) : Option (Int32 × zM) :=
  bnd (f_X12_in v1 (0 : Int32) (1 : Int32) s) (fun r2 s1 =>
  if r2 = 0 then
    some ((-1 : Int32), s1)
  else
    bnd (f_X12_isPlace v2 s1) (fun r4 s3 =>
    if r4 = 0 then
      some ((-1 : Int32), s3)
    else
      bnd (f_X12_isPlace v3 s3) (fun r6 s5 =>
      if r6 = 0 then
        some ((-1 : Int32), s5)
      else
        if v3 < v2 then
          some ((-1 : Int32), s5)
        else
          bnd (f_X12_in v4 (0 : Int32) (999 : Int32) s5) (fun r8 s7 =>
          if r8 = 0 then
            some ((-1 : Int32), s7)
          else
            if (zg s7 69 50) = (20 : Int32) then
              some ((-1 : Int32), s7)
            else
              if zin (zg s7 69 50) 20 = true then
                lt (zs s7 101 ((zg s7 69 50)).toNatClampNeg v1) (fun s9 =>
                if zin (zg s9 69 50) 20 = true then
                  lt (zs s9 102 ((zg s9 69 50)).toNatClampNeg v2) (fun s10 =>
                  if zin (zg s10 69 50) 20 = true then
                    lt (zs s10 103 ((zg s10 69 50)).toNatClampNeg v3) (fun s11 =>
                    if zin (zg s11 69 50) 20 = true then
                      lt (zs s11 104 ((zg s11 69 50)).toNatClampNeg v4) (fun s12 =>
                      lt (zs s12 69 50 ((zg s12 69 50) + (1 : Int32))) (fun s13 =>
                      some ((zg s13 69 50), s13)))
                    else none)
                  else none)
                else none)
              else none))))
set_option maxRecDepth 100000 in
set_option maxHeartbeats 4000000 in
theorem t_X12_counted (w : zWd) (d : Nat) (hd : 1 ≤ d) (v1 : Int32) (v2 : Int32) (v3 : Int32) (v4 : Int32) (s : zM) : zMt w yX12_counted cX12_counted 5 (some .int) d zφN zφN zri [.ref (w.2.2.2 + 69), .int v1, .int v2, .int v3, .int v4] s (f_X12_counted v1 v2 v3 v4 s) := by
  refine zMtN_of (own := RX12) rfl (by decide +kernel) (Nat.le_of_ble_eq_true rfl) cd_X12_counted [(0, .ref (w.2.2.2 + 69)), (1, .int v1), (2, .int v2), (3, .int v3), (4, .int v4)] rfl ?_
  rintro a rfl K
  unfold f_X12_counted
  refine z_iload_n K 1 rfl dX12_counted_0 ?_
  refine z_iconst K ci_0 dX12_counted_1 ?_
  refine z_iconst K ci_1 dX12_counted_2 ?_
  refine z_cSi (As := [.int v1, .int (0 : Int32), .int (1 : Int32)]) (rest := []) K (t_X12_in a.1 (d - 1) (by omega) v1 (0 : Int32) (1 : Int32) s) mf_X12_in ml_X12_171 (Nat.le_of_ble_eq_true rfl) (by omega) rfl rfl (Nat.le_of_ble_eq_true rfl) dX12_counted_3 (fun r2 s1 => ?_)
  refine z_if_eq K (tgt := 49) dX12_counted_6 (by decide) ?_ ?_
  · refine z_iconst K ci_m1 dX12_counted_49 ?_
    exact z_iret K dX12_counted_50
  · refine z_iload_n K 2 rfl dX12_counted_9 ?_
    refine z_cSi (As := [.int v2]) (rest := []) K (t_X12_isPlace a.1 (d - 1) (by omega) v2 s1) mf_X12_isPlace ml_X12_333 (Nat.le_of_ble_eq_true rfl) (by omega) rfl rfl (Nat.le_of_ble_eq_true rfl) dX12_counted_10 (fun r4 s3 => ?_)
    refine z_if_eq K (tgt := 49) dX12_counted_13 (by decide) ?_ ?_
    · refine z_iconst K ci_m1 dX12_counted_49 ?_
      exact z_iret K dX12_counted_50
    · refine z_iload_n K 3 rfl dX12_counted_16 ?_
      refine z_cSi (As := [.int v3]) (rest := []) K (t_X12_isPlace a.1 (d - 1) (by omega) v3 s3) mf_X12_isPlace ml_X12_333 (Nat.le_of_ble_eq_true rfl) (by omega) rfl rfl (Nat.le_of_ble_eq_true rfl) dX12_counted_17 (fun r6 s5 => ?_)
      refine z_if_eq K (tgt := 49) dX12_counted_20 (by decide) ?_ ?_
      · refine z_iconst K ci_m1 dX12_counted_49 ?_
        exact z_iret K dX12_counted_50
      · refine z_iload_n K 3 rfl dX12_counted_23 ?_
        refine z_iload_n K 2 rfl dX12_counted_24 ?_
        refine z_icmp_lt K (tgt := 49) dX12_counted_25 (by decide) ?_ ?_
        · refine z_iconst K ci_m1 dX12_counted_49 ?_
          exact z_iret K dX12_counted_50
        · refine z_iload K 4 rfl dX12_counted_28 ?_
          refine z_iconst K ci_0 dX12_counted_30 ?_
          refine z_sipush K cs_999 dX12_counted_31 ?_
          refine z_cSi (As := [.int v4, .int (0 : Int32), .int (999 : Int32)]) (rest := []) K (t_X12_in a.1 (d - 1) (by omega) v4 (0 : Int32) (999 : Int32) s5) mf_X12_in ml_X12_171 (Nat.le_of_ble_eq_true rfl) (by omega) rfl rfl (Nat.le_of_ble_eq_true rfl) dX12_counted_34 (fun r8 s7 => ?_)
          refine z_if_eq K (tgt := 49) dX12_counted_37 (by decide) ?_ ?_
          · refine z_iconst K ci_m1 dX12_counted_49 ?_
            exact z_iret K dX12_counted_50
          · refine z_aload_n K 0 rfl dX12_counted_40 ?_
            refine z_geti K fd_X12_417 ob_69_50 dX12_counted_41 ?_
            refine z_bipush K cb_20 dX12_counted_44 ?_
            refine z_icmp_ne K (tgt := 51) dX12_counted_46 (by decide) ?_ ?_
            · refine z_aload_n K 0 rfl dX12_counted_51 ?_
              refine z_getr K fd_X12_104 ob_69_52 dX12_counted_52 ?_
              refine z_aload_n K 0 rfl dX12_counted_55 ?_
              refine z_geti K fd_X12_417 ob_69_50 dX12_counted_56 ?_
              refine z_iload_n K 1 rfl dX12_counted_59 ?_
              refine z_iast K ar_101 dX12_counted_60 ?_
              refine z_ltm (fun s9 => ?_)
              refine z_aload_n K 0 rfl dX12_counted_61 ?_
              refine z_getr K fd_X12_107 ob_69_53 dX12_counted_62 ?_
              refine z_aload_n K 0 rfl dX12_counted_65 ?_
              refine z_geti K fd_X12_417 ob_69_50 dX12_counted_66 ?_
              refine z_iload_n K 2 rfl dX12_counted_69 ?_
              refine z_iast K ar_102 dX12_counted_70 ?_
              refine z_ltm (fun s10 => ?_)
              refine z_aload_n K 0 rfl dX12_counted_71 ?_
              refine z_getr K fd_X12_110 ob_69_54 dX12_counted_72 ?_
              refine z_aload_n K 0 rfl dX12_counted_75 ?_
              refine z_geti K fd_X12_417 ob_69_50 dX12_counted_76 ?_
              refine z_iload_n K 3 rfl dX12_counted_79 ?_
              refine z_iast K ar_103 dX12_counted_80 ?_
              refine z_ltm (fun s11 => ?_)
              refine z_aload_n K 0 rfl dX12_counted_81 ?_
              refine z_getr K fd_X12_113 ob_69_55 dX12_counted_82 ?_
              refine z_aload_n K 0 rfl dX12_counted_85 ?_
              refine z_geti K fd_X12_417 ob_69_50 dX12_counted_86 ?_
              refine z_iload K 4 rfl dX12_counted_89 ?_
              refine z_iast K ar_104 dX12_counted_91 ?_
              refine z_ltm (fun s12 => ?_)
              refine z_aload_n K 0 rfl dX12_counted_92 ?_
              refine z_aload_n K 0 rfl dX12_counted_93 ?_
              refine z_geti K fd_X12_417 ob_69_50 dX12_counted_94 ?_
              refine z_iconst K ci_1 dX12_counted_97 ?_
              refine z_iadd K dX12_counted_98 ?_
              refine z_puti K fw_X12_417 ob_69_50 dX12_counted_99 ?_
              refine z_ltm (fun s13 => ?_)
              refine z_aload_n K 0 rfl dX12_counted_102 ?_
              refine z_geti K fd_X12_417 ob_69_50 dX12_counted_103 ?_
              exact z_iret K dX12_counted_106
            · refine z_iconst K ci_m1 dX12_counted_49 ?_
              exact z_iret K dX12_counted_50
def f_X12_knivesFrom_L6 (F : Nat) (k34 : Int32 → zM → Option (Int32 × zM)) (v1 : Int32) (v3 : Int32) : Nat → Int32 → Int32 → zM → Option (Int32 × zM)
  | 0, _, _, _ => none
  | n + 1, v4, v5, s =>
    if v3 < v5 then
      k34 v4 s
    else
      if zin (((2 : Int32) * v5) + v1) 40 = true then
        lt ((v4 + (zg s 100 ((((2 : Int32) * v5) + v1)).toNatClampNeg))) (fun y1 =>
        lt (v5 + (1 : Int32)) (fun y2 =>
        f_X12_knivesFrom_L6 F k34 v1 v3 n y1 y2 s))
      else none
set_option maxRecDepth 100000 in
set_option maxHeartbeats 4000000 in
theorem t_X12_knivesFrom_L6 {a : zA} {d : Nat} (F : Nat) (K : zOK a cX12_knivesFrom 6 RX12 (some .int) d) (hd : 0 ≤ d) {k34 : Int32 → zM → Option (Int32 × zM)} (v1 : Int32) (v3 : Int32) (h34 : ∀ (v4 : Int32) (s : zM), zJ a 6 (zG a zφN zri) zφN 34 [(4, .int v4)] [] s (k34 v4 s)) : ∀ (n : Nat) (v4 : Int32) (v5 : Int32) (s : zM), zJ a 6 (zG a zφN zri) zφN 6 [(0, .ref (a.1.2.2.2 + 69)), (1, .int v1), (3, .int v3), (4, .int v4), (5, .int v5)] [] s (f_X12_knivesFrom_L6 F k34 v1 v3 n v4 v5 s) := by
  intro n
  induction n with
  | zero => intros; exact z_none
  | succ n ih =>
    intro v4 v5 s
    rw [f_X12_knivesFrom_L6]
    refine z_iload K 4 rfl dX12_knivesFrom_6 ?_
    refine z_iload_n K 2 rfl dX12_knivesFrom_8 ?_
    refine z_icmp_gt K (tgt := 34) dX12_knivesFrom_9 (by decide) ?_ ?_
    · refine z_sub [3] rfl ?_
      exact h34 v4 s
    · refine z_iload K 3 rfl dX12_knivesFrom_12 ?_
      refine z_aload_n K 0 rfl dX12_knivesFrom_14 ?_
      refine z_getr K fd_X12_101 ob_69_51 dX12_knivesFrom_15 ?_
      refine z_iconst K ci_2 dX12_knivesFrom_18 ?_
      refine z_iload K 4 rfl dX12_knivesFrom_19 ?_
      refine z_imul K dX12_knivesFrom_21 ?_
      refine z_iload_n K 1 rfl dX12_knivesFrom_22 ?_
      refine z_iadd K dX12_knivesFrom_23 ?_
      refine z_iald K ar_100 dX12_knivesFrom_24 ?_
      refine z_iadd K dX12_knivesFrom_25 ?_
      refine z_topi (fun y1 => ?_)
      refine z_istore K (lv' := [(4, .int y1), (0, .ref (a.1.2.2.2 + 69)), (1, .int v1), (3, .int v3), (5, .int v5)]) dX12_knivesFrom_26 (Nat.le_of_ble_eq_true rfl) rfl ?_
      refine z_iincN K (j := 4) (lv' := [(4, .int y1), (0, .ref (a.1.2.2.2 + 69)), (1, .int v1), (3, .int v3)]) ci_1 rfl dX12_knivesFrom_28 (Nat.le_of_ble_eq_true rfl) rfl (fun y2 => ?_)
      refine z_goto K (tgt := 6) dX12_knivesFrom_31 (by decide) ?_
      refine z_sub [2, 3, 4, 1, 0] rfl ?_
      exact ih y1 y2 s
def f_X12_knivesFrom (F : Nat) (v1 : Int32) (v2 : Int32) (v3 : Int32) (s : zM) : Option (Int32 × zM) :=
  f_X12_knivesFrom_L6 F (fun y4 s3 =>
    some (y4, s3)) v1 v3 F (0 : Int32) v2 s
set_option maxRecDepth 100000 in
set_option maxHeartbeats 4000000 in
theorem t_X12_knivesFrom (w : zWd) (F : Nat) (d : Nat) (hd : 0 ≤ d) (v1 : Int32) (v2 : Int32) (v3 : Int32) (s : zM) : zMt w yX12_knivesFrom cX12_knivesFrom 6 (some .int) d zφN zφN zri [.ref (w.2.2.2 + 69), .int v1, .int v2, .int v3] s (f_X12_knivesFrom F v1 v2 v3 s) := by
  refine zMtN_of (own := RX12) rfl (by decide +kernel) (Nat.le_of_ble_eq_true rfl) cd_X12_knivesFrom [(0, .ref (w.2.2.2 + 69)), (1, .int v1), (2, .int v2), (3, .int v3)] rfl ?_
  rintro a rfl K
  unfold f_X12_knivesFrom
  refine z_iconst K ci_0 dX12_knivesFrom_0 ?_
  refine z_istore K (lv' := [(4, .int (0 : Int32)), (0, .ref (a.1.2.2.2 + 69)), (1, .int v1), (2, .int v2), (3, .int v3)]) dX12_knivesFrom_1 (Nat.le_of_ble_eq_true rfl) rfl ?_
  refine z_iload_n K 3 rfl dX12_knivesFrom_3 ?_
  refine z_istore K (lv' := [(5, .int v2), (4, .int (0 : Int32)), (0, .ref (a.1.2.2.2 + 69)), (1, .int v1), (2, .int v2), (3, .int v3)]) dX12_knivesFrom_4 (Nat.le_of_ble_eq_true rfl) rfl ?_
  refine z_sub [2, 3, 5, 1, 0] rfl ?_
  refine t_X12_knivesFrom_L6 F K hd v1 v3 (fun y4 s3 => ?_) F (0 : Int32) v2 s
  refine z_iload K 0 rfl dX12_knivesFrom_34 ?_
  exact z_iret K dX12_knivesFrom_36
def f_X12_missing (F : Nat) (v1 : Int32) (s : zM) : Option (Int32 × zM) :=
  if v1 < 0 then
    some ((-100000 : Int32), s)
  else
    if v1 < (zg s 69 50) then
      if zin v1 20 = true then
        if zin v1 20 = true then
          if zin v1 20 = true then
            bnd (f_X12_knivesFrom F (zg s 101 (v1).toNatClampNeg) (zg s 102 (v1).toNatClampNeg) (zg s 103 (v1).toNatClampNeg) s) (fun r2 s1 =>
            if zin v1 20 = true then
              some ((r2 - (zg s1 104 (v1).toNatClampNeg)), s1)
            else none)
          else none
        else none
      else none
    else
      some ((-100000 : Int32), s)
set_option maxRecDepth 100000 in
set_option maxHeartbeats 4000000 in
theorem t_X12_missing (w : zWd) (F : Nat) (d : Nat) (hd : 1 ≤ d) (v1 : Int32) (s : zM) : zMt w yX12_missing cX12_missing 2 (some .int) d zφN zφN zri [.ref (w.2.2.2 + 69), .int v1] s (f_X12_missing F v1 s) := by
  refine zMtN_of (own := RX12) rfl (by decide +kernel) (Nat.le_of_ble_eq_true rfl) cd_X12_missing [(0, .ref (w.2.2.2 + 69)), (1, .int v1)] rfl ?_
  rintro a rfl K
  unfold f_X12_missing
  refine z_iload_n K 1 rfl dX12_missing_0 ?_
  refine z_if_lt K (tgt := 12) dX12_missing_1 (by decide) ?_ ?_
  · refine z_ldcw K cst_X12_420 dX12_missing_12 ?_
    refine z_goto K (tgt := 47) dX12_missing_15 (by decide) ?_
    exact z_iret K dX12_missing_47
  · refine z_iload_n K 1 rfl dX12_missing_4 ?_
    refine z_aload_n K 0 rfl dX12_missing_5 ?_
    refine z_geti K fd_X12_417 ob_69_50 dX12_missing_6 ?_
    refine z_icmp_lt K (tgt := 18) dX12_missing_9 (by decide) ?_ ?_
    · refine z_aload_n K 0 rfl dX12_missing_18 ?_
      refine z_aload_n K 0 rfl dX12_missing_19 ?_
      refine z_getr K fd_X12_104 ob_69_52 dX12_missing_20 ?_
      refine z_iload_n K 1 rfl dX12_missing_23 ?_
      refine z_iald K ar_101 dX12_missing_24 ?_
      refine z_aload_n K 0 rfl dX12_missing_25 ?_
      refine z_getr K fd_X12_107 ob_69_53 dX12_missing_26 ?_
      refine z_iload_n K 1 rfl dX12_missing_29 ?_
      refine z_iald K ar_102 dX12_missing_30 ?_
      refine z_aload_n K 0 rfl dX12_missing_31 ?_
      refine z_getr K fd_X12_110 ob_69_54 dX12_missing_32 ?_
      refine z_iload_n K 1 rfl dX12_missing_35 ?_
      refine z_iald K ar_103 dX12_missing_36 ?_
      refine z_cVi (As := [.int (zg s 101 (v1).toNatClampNeg), .int (zg s 102 (v1).toNatClampNeg), .int (zg s 103 (v1).toNatClampNeg)]) (rest := []) K (t_X12_knivesFrom a.1 F (d - 1) (by omega) (zg s 101 (v1).toNatClampNeg) (zg s 102 (v1).toNatClampNeg) (zg s 103 (v1).toNatClampNeg) s) mf_X12_knivesFrom ml_X12_421 (Nat.le_of_ble_eq_true rfl) (by omega) rfl rc_69 rfl (Nat.le_of_ble_eq_true rfl) dX12_missing_37 (fun r2 s1 => ?_)
      refine z_aload_n K 0 rfl dX12_missing_40 ?_
      refine z_getr K fd_X12_113 ob_69_55 dX12_missing_41 ?_
      refine z_iload_n K 1 rfl dX12_missing_44 ?_
      refine z_iald K ar_104 dX12_missing_45 ?_
      refine z_isub K dX12_missing_46 ?_
      exact z_iret K dX12_missing_47
    · refine z_ldcw K cst_X12_420 dX12_missing_12 ?_
      refine z_goto K (tgt := 47) dX12_missing_15 (by decide) ?_
      exact z_iret K dX12_missing_47
def f_X12_joins_L54 (F : Nat) (k112 : zM → Option (Int32 × zM)) (v1 : Int32) (v4 : Int32) (v5 : Int32) : Nat → Int32 → zM → Option (Int32 × zM)
  | 0, _, _ => none
  | n + 1, v6, s =>
    if v6 < (21 : Int32) then
      if zin v6 21 = true then
        if (zg s 106 (v6).toNatClampNeg) = v5 then
          if zin v1 21 = true then
            if zin v6 21 = true then
              lt (zs s 106 (v6).toNatClampNeg (zg s 106 (v1).toNatClampNeg)) (fun s3 =>
              if zin v6 21 = true then
                if zin v6 21 = true then
                  lt (zs s3 105 (v6).toNatClampNeg ((zg s3 105 (v6).toNatClampNeg) + v4)) (fun s4 =>
                  lt (v6 + (1 : Int32)) (fun y5 =>
                  f_X12_joins_L54 F k112 v1 v4 v5 n y5 s4))
                else none
              else none)
            else none
          else none
        else
          lt (v6 + (1 : Int32)) (fun y6 =>
          f_X12_joins_L54 F k112 v1 v4 v5 n y6 s)
      else none
    else
      k112 s
set_option maxRecDepth 100000 in
set_option maxHeartbeats 4000000 in
theorem t_X12_joins_L54 {a : zA} {d : Nat} (F : Nat) (K : zOK a cX12_joins 7 RX12 (some .boolean) d) (hd : 0 ≤ d) {k112 : zM → Option (Int32 × zM)} (v1 : Int32) (v4 : Int32) (v5 : Int32) (h112 : ∀ (s : zM), zJ a 7 (zG a zφN zri) zφN 112 [] [] s (k112 s)) : ∀ (n : Nat) (v6 : Int32) (s : zM), zJ a 7 (zG a zφN zri) zφN 54 [(0, .ref (a.1.2.2.2 + 69)), (1, .int v1), (4, .int v4), (5, .int v5), (6, .int v6)] [] s (f_X12_joins_L54 F k112 v1 v4 v5 n v6 s) := by
  intro n
  induction n with
  | zero => intros; exact z_none
  | succ n ih =>
    intro v6 s
    rw [f_X12_joins_L54]
    refine z_iload K 4 rfl dX12_joins_54 ?_
    refine z_bipush K cb_21 dX12_joins_56 ?_
    refine z_icmp_ge K (tgt := 112) dX12_joins_58 (by decide) ?_ ?_
    · refine z_sub [] rfl ?_
      exact h112 s
    · refine z_aload_n K 0 rfl dX12_joins_61 ?_
      refine z_getr K fd_X12_119 ob_69_57 dX12_joins_62 ?_
      refine z_iload K 4 rfl dX12_joins_65 ?_
      refine z_iald K ar_106 dX12_joins_67 ?_
      refine z_iload K 3 rfl dX12_joins_68 ?_
      refine z_icmp_eq K (tgt := 76) dX12_joins_70 (by decide) ?_ ?_
      · refine z_aload_n K 0 rfl dX12_joins_76 ?_
        refine z_getr K fd_X12_119 ob_69_57 dX12_joins_77 ?_
        refine z_iload K 4 rfl dX12_joins_80 ?_
        refine z_aload_n K 0 rfl dX12_joins_82 ?_
        refine z_getr K fd_X12_119 ob_69_57 dX12_joins_83 ?_
        refine z_iload_n K 1 rfl dX12_joins_86 ?_
        refine z_iald K ar_106 dX12_joins_87 ?_
        refine z_iast K ar_106 dX12_joins_88 ?_
        refine z_ltm (fun s3 => ?_)
        refine z_aload_n K 0 rfl dX12_joins_89 ?_
        refine z_getr K fd_X12_116 ob_69_56 dX12_joins_90 ?_
        refine z_iload K 4 rfl dX12_joins_93 ?_
        refine z_aload_n K 0 rfl dX12_joins_95 ?_
        refine z_getr K fd_X12_116 ob_69_56 dX12_joins_96 ?_
        refine z_iload K 4 rfl dX12_joins_99 ?_
        refine z_iald K ar_105 dX12_joins_101 ?_
        refine z_iload K 2 rfl dX12_joins_102 ?_
        refine z_iadd K dX12_joins_104 ?_
        refine z_iast K ar_105 dX12_joins_105 ?_
        refine z_ltm (fun s4 => ?_)
        refine z_iincN K (j := 4) (lv' := [(0, .ref (a.1.2.2.2 + 69)), (1, .int v1), (4, .int v4), (5, .int v5)]) ci_1 rfl dX12_joins_106 (Nat.le_of_ble_eq_true rfl) rfl (fun y5 => ?_)
        refine z_goto K (tgt := 54) dX12_joins_109 (by decide) ?_
        refine z_sub [1, 2, 3, 4, 0] rfl ?_
        exact ih y5 s4
      · refine z_goto K (tgt := 106) dX12_joins_73 (by decide) ?_
        refine z_iincN K (j := 4) (lv' := [(0, .ref (a.1.2.2.2 + 69)), (1, .int v1), (4, .int v4), (5, .int v5)]) ci_1 rfl dX12_joins_106 (Nat.le_of_ble_eq_true rfl) rfl (fun y6 => ?_)
        refine z_goto K (tgt := 54) dX12_joins_109 (by decide) ?_
        refine z_sub [1, 2, 3, 4, 0] rfl ?_
        exact ih y6 s
def f_X12_joins (F : Nat) (v1 : Int32) (v2 : Int32) (v3 : Int32) (s : zM) : Option (Int32 × zM) :=
  if zin v1 21 = true then
    if zin v2 21 = true then
      lt ((((zg s 105 (v1).toNatClampNeg) + v3) - (zg s 105 (v2).toNatClampNeg))) (fun y1 =>
      if zin v1 21 = true then
        if zin v2 21 = true then
          if (zg s 106 (v1).toNatClampNeg) = (zg s 106 (v2).toNatClampNeg) then
            if y1 = 0 then
              some ((1 : Int32), s)
            else
              some ((0 : Int32), s)
          else
            if zin v2 21 = true then
              lt ((zg s 106 (v2).toNatClampNeg)) (fun y2 =>
              f_X12_joins_L54 F (fun s7 =>
                some ((1 : Int32), s7)) v1 y1 y2 F (0 : Int32) s)
            else none
        else none
      else none)
    else none
  else none
set_option maxRecDepth 100000 in
set_option maxHeartbeats 4000000 in
theorem t_X12_joins (w : zWd) (F : Nat) (d : Nat) (hd : 0 ≤ d) (v1 : Int32) (v2 : Int32) (v3 : Int32) (s : zM) : zMt w yX12_joins cX12_joins 7 (some .boolean) d zφN zφN zri [.ref (w.2.2.2 + 69), .int v1, .int v2, .int v3] s (f_X12_joins F v1 v2 v3 s) := by
  refine zMtN_of (own := RX12) rfl (by decide +kernel) (Nat.le_of_ble_eq_true rfl) cd_X12_joins [(0, .ref (w.2.2.2 + 69)), (1, .int v1), (2, .int v2), (3, .int v3)] rfl ?_
  rintro a rfl K
  unfold f_X12_joins
  refine z_aload_n K 0 rfl dX12_joins_0 ?_
  refine z_getr K fd_X12_116 ob_69_56 dX12_joins_1 ?_
  refine z_iload_n K 1 rfl dX12_joins_4 ?_
  refine z_iald K ar_105 dX12_joins_5 ?_
  refine z_iload_n K 3 rfl dX12_joins_6 ?_
  refine z_iadd K dX12_joins_7 ?_
  refine z_aload_n K 0 rfl dX12_joins_8 ?_
  refine z_getr K fd_X12_116 ob_69_56 dX12_joins_9 ?_
  refine z_iload_n K 2 rfl dX12_joins_12 ?_
  refine z_iald K ar_105 dX12_joins_13 ?_
  refine z_isub K dX12_joins_14 ?_
  refine z_topi (fun y1 => ?_)
  refine z_istore K (lv' := [(4, .int y1), (0, .ref (a.1.2.2.2 + 69)), (1, .int v1), (2, .int v2), (3, .int v3)]) dX12_joins_15 (Nat.le_of_ble_eq_true rfl) rfl ?_
  refine z_aload_n K 1 rfl dX12_joins_17 ?_
  refine z_getr K fd_X12_119 ob_69_57 dX12_joins_18 ?_
  refine z_iload_n K 2 rfl dX12_joins_21 ?_
  refine z_iald K ar_106 dX12_joins_22 ?_
  refine z_aload_n K 1 rfl dX12_joins_23 ?_
  refine z_getr K fd_X12_119 ob_69_57 dX12_joins_24 ?_
  refine z_iload_n K 3 rfl dX12_joins_27 ?_
  refine z_iald K ar_106 dX12_joins_28 ?_
  refine z_icmp_ne K (tgt := 43) dX12_joins_29 (by decide) ?_ ?_
  · refine z_aload_n K 1 rfl dX12_joins_43 ?_
    refine z_getr K fd_X12_119 ob_69_57 dX12_joins_44 ?_
    refine z_iload_n K 3 rfl dX12_joins_47 ?_
    refine z_iald K ar_106 dX12_joins_48 ?_
    refine z_topi (fun y2 => ?_)
    refine z_istore K (lv' := [(5, .int y2), (4, .int y1), (0, .ref (a.1.2.2.2 + 69)), (1, .int v1), (2, .int v2), (3, .int v3)]) dX12_joins_49 (Nat.le_of_ble_eq_true rfl) rfl ?_
    refine z_iconst K ci_0 dX12_joins_51 ?_
    refine z_istore K (lv' := [(6, .int (0 : Int32)), (5, .int y2), (4, .int y1), (0, .ref (a.1.2.2.2 + 69)), (1, .int v1), (2, .int v2), (3, .int v3)]) dX12_joins_52 (Nat.le_of_ble_eq_true rfl) rfl ?_
    refine z_sub [3, 4, 2, 1, 0] rfl ?_
    refine t_X12_joins_L54 F K hd v1 y1 y2 (fun s7 => ?_) F (0 : Int32) s
    refine z_iconst K ci_1 dX12_joins_112 ?_
    exact z_zret (Or.inr rfl) K dX12_joins_113
  · refine z_iload K 0 rfl dX12_joins_32 ?_
    refine z_if_ne K (tgt := 41) dX12_joins_34 (by decide) ?_ ?_
    · refine z_iconst K ci_0 dX12_joins_41 ?_
      exact z_zret (Or.inl rfl) K dX12_joins_42
    · refine z_iconst K ci_1 dX12_joins_37 ?_
      refine z_goto K (tgt := 42) dX12_joins_38 (by decide) ?_
      exact z_zret (Or.inr rfl) K dX12_joins_42
def f_X12_wrongOf_L2 (F : Nat) (k28 : zM → Option (Int32 × zM)) (v1 : Int32) : Nat → Int32 → zM → Option (Int32 × zM)
  | 0, _, _ => none
  | n + 1, v2, s =>
    if v2 < (21 : Int32) then
      if zin v2 21 = true then
        lt (zs s 106 (v2).toNatClampNeg v2) (fun s1 =>
        if zin v2 21 = true then
          lt (zs s1 105 (v2).toNatClampNeg (0 : Int32)) (fun s2 =>
          lt (v2 + (1 : Int32)) (fun y3 =>
          f_X12_wrongOf_L2 F k28 v1 n y3 s2))
        else none)
      else none
    else
      k28 s
set_option maxRecDepth 100000 in
set_option maxHeartbeats 4000000 in
theorem t_X12_wrongOf_L2 {a : zA} {d : Nat} (F : Nat) (K : zOK a cX12_wrongOf 3 RX12 (some .int) d) (hd : 1 ≤ d) {k28 : zM → Option (Int32 × zM)} (v1 : Int32) (h28 : ∀ (s : zM), zJ a 3 (zG a zφN zri) zφN 28 [(0, .ref (a.1.2.2.2 + 69)), (1, .int v1)] [] s (k28 s)) : ∀ (n : Nat) (v2 : Int32) (s : zM), zJ a 3 (zG a zφN zri) zφN 2 [(0, .ref (a.1.2.2.2 + 69)), (1, .int v1), (2, .int v2)] [] s (f_X12_wrongOf_L2 F k28 v1 n v2 s) := by
  intro n
  induction n with
  | zero => intros; exact z_none
  | succ n ih =>
    intro v2 s
    rw [f_X12_wrongOf_L2]
    refine z_iload_n K 2 rfl dX12_wrongOf_2 ?_
    refine z_bipush K cb_21 dX12_wrongOf_3 ?_
    refine z_icmp_ge K (tgt := 28) dX12_wrongOf_5 (by decide) ?_ ?_
    · refine z_sub [0, 1] rfl ?_
      exact h28 s
    · refine z_aload_n K 0 rfl dX12_wrongOf_8 ?_
      refine z_getr K fd_X12_119 ob_69_57 dX12_wrongOf_9 ?_
      refine z_iload_n K 2 rfl dX12_wrongOf_12 ?_
      refine z_iload_n K 2 rfl dX12_wrongOf_13 ?_
      refine z_iast K ar_106 dX12_wrongOf_14 ?_
      refine z_ltm (fun s1 => ?_)
      refine z_aload_n K 0 rfl dX12_wrongOf_15 ?_
      refine z_getr K fd_X12_116 ob_69_56 dX12_wrongOf_16 ?_
      refine z_iload_n K 2 rfl dX12_wrongOf_19 ?_
      refine z_iconst K ci_0 dX12_wrongOf_20 ?_
      refine z_iast K ar_105 dX12_wrongOf_21 ?_
      refine z_ltm (fun s2 => ?_)
      refine z_iincN K (j := 2) (lv' := [(0, .ref (a.1.2.2.2 + 69)), (1, .int v1)]) ci_1 rfl dX12_wrongOf_22 (Nat.le_of_ble_eq_true rfl) rfl (fun y3 => ?_)
      refine z_goto K (tgt := 2) dX12_wrongOf_25 (by decide) ?_
      refine z_sub [1, 2, 0] rfl ?_
      exact ih y3 s2
def f_X12_wrongOf_L46 (F : Nat) (k99 : zM → Option (Int32 × zM)) (v1 : Int32) : Nat → Int32 → zM → Option (Int32 × zM)
  | 0, _, _ => none
  | n + 1, v2, s =>
    if v2 < (zg s 69 50) then
      if zin v2 20 = true then
        if (zg s 101 (v2).toNatClampNeg) = v1 then
          if zin v2 20 = true then
            if zin v2 20 = true then
              if zin v2 20 = true then
                bnd (f_X12_joins F (zg s 102 (v2).toNatClampNeg) ((zg s 103 (v2).toNatClampNeg) + (1 : Int32)) (zg s 104 (v2).toNatClampNeg) s) (fun r11 s10 =>
                if r11 = 0 then
                  some (v2, s10)
                else
                  lt (v2 + (1 : Int32)) (fun y12 =>
                  f_X12_wrongOf_L46 F k99 v1 n y12 s10))
              else none
            else none
          else none
        else
          lt (v2 + (1 : Int32)) (fun y9 =>
          f_X12_wrongOf_L46 F k99 v1 n y9 s)
      else none
    else
      k99 s
set_option maxRecDepth 100000 in
set_option maxHeartbeats 4000000 in
theorem t_X12_wrongOf_L46 {a : zA} {d : Nat} (F : Nat) (K : zOK a cX12_wrongOf 3 RX12 (some .int) d) (hd : 1 ≤ d) {k99 : zM → Option (Int32 × zM)} (v1 : Int32) (h99 : ∀ (s : zM), zJ a 3 (zG a zφN zri) zφN 99 [] [] s (k99 s)) : ∀ (n : Nat) (v2 : Int32) (s : zM), zJ a 3 (zG a zφN zri) zφN 46 [(0, .ref (a.1.2.2.2 + 69)), (1, .int v1), (2, .int v2)] [] s (f_X12_wrongOf_L46 F k99 v1 n v2 s) := by
  intro n
  induction n with
  | zero => intros; exact z_none
  | succ n ih =>
    intro v2 s
    rw [f_X12_wrongOf_L46]
    refine z_iload_n K 2 rfl dX12_wrongOf_46 ?_
    refine z_aload_n K 0 rfl dX12_wrongOf_47 ?_
    refine z_geti K fd_X12_417 ob_69_50 dX12_wrongOf_48 ?_
    refine z_icmp_ge K (tgt := 99) dX12_wrongOf_51 (by decide) ?_ ?_
    · refine z_sub [] rfl ?_
      exact h99 s
    · refine z_aload_n K 0 rfl dX12_wrongOf_54 ?_
      refine z_getr K fd_X12_104 ob_69_52 dX12_wrongOf_55 ?_
      refine z_iload_n K 2 rfl dX12_wrongOf_58 ?_
      refine z_iald K ar_101 dX12_wrongOf_59 ?_
      refine z_iload_n K 1 rfl dX12_wrongOf_60 ?_
      refine z_icmp_ne K (tgt := 93) dX12_wrongOf_61 (by decide) ?_ ?_
      · refine z_iincN K (j := 2) (lv' := [(0, .ref (a.1.2.2.2 + 69)), (1, .int v1)]) ci_1 rfl dX12_wrongOf_93 (Nat.le_of_ble_eq_true rfl) rfl (fun y9 => ?_)
        refine z_goto K (tgt := 46) dX12_wrongOf_96 (by decide) ?_
        refine z_sub [1, 2, 0] rfl ?_
        exact ih y9 s
      · refine z_aload_n K 0 rfl dX12_wrongOf_64 ?_
        refine z_aload_n K 0 rfl dX12_wrongOf_65 ?_
        refine z_getr K fd_X12_107 ob_69_53 dX12_wrongOf_66 ?_
        refine z_iload_n K 2 rfl dX12_wrongOf_69 ?_
        refine z_iald K ar_102 dX12_wrongOf_70 ?_
        refine z_aload_n K 0 rfl dX12_wrongOf_71 ?_
        refine z_getr K fd_X12_110 ob_69_54 dX12_wrongOf_72 ?_
        refine z_iload_n K 2 rfl dX12_wrongOf_75 ?_
        refine z_iald K ar_103 dX12_wrongOf_76 ?_
        refine z_iconst K ci_1 dX12_wrongOf_77 ?_
        refine z_iadd K dX12_wrongOf_78 ?_
        refine z_aload_n K 0 rfl dX12_wrongOf_79 ?_
        refine z_getr K fd_X12_113 ob_69_55 dX12_wrongOf_80 ?_
        refine z_iload_n K 2 rfl dX12_wrongOf_83 ?_
        refine z_iald K ar_104 dX12_wrongOf_84 ?_
        refine z_cVi (As := [.int (zg s 102 (v2).toNatClampNeg), .int ((zg s 103 (v2).toNatClampNeg) + (1 : Int32)), .int (zg s 104 (v2).toNatClampNeg)]) (rest := []) K (t_X12_joins a.1 F (d - 1) (by omega) (zg s 102 (v2).toNatClampNeg) ((zg s 103 (v2).toNatClampNeg) + (1 : Int32)) (zg s 104 (v2).toNatClampNeg) s) mf_X12_joins ml_X12_424 (Nat.le_of_ble_eq_true rfl) (by omega) rfl rc_69 rfl (Nat.le_of_ble_eq_true rfl) dX12_wrongOf_85 (fun r11 s10 => ?_)
        refine z_if_ne K (tgt := 93) dX12_wrongOf_88 (by decide) ?_ ?_
        · refine z_iincN K (j := 2) (lv' := [(0, .ref (a.1.2.2.2 + 69)), (1, .int v1)]) ci_1 rfl dX12_wrongOf_93 (Nat.le_of_ble_eq_true rfl) rfl (fun y12 => ?_)
          refine z_goto K (tgt := 46) dX12_wrongOf_96 (by decide) ?_
          refine z_sub [1, 2, 0] rfl ?_
          exact ih y12 s10
        · refine z_iload_n K 2 rfl dX12_wrongOf_91 ?_
          exact z_iret K dX12_wrongOf_92
def f_X12_wrongOf (F : Nat) (v1 : Int32) (s : zM) : Option (Int32 × zM) :=
  f_X12_wrongOf_L2 F (fun s4 =>
    bnd (f_X12_knivesFrom F v1 (0 : Int32) (19 : Int32) s4) (fun r6 s5 =>
    bnd (f_X12_joins F (0 : Int32) (20 : Int32) r6 s5) (fun r8 s7 =>
    f_X12_wrongOf_L46 F (fun s13 =>
      some ((-1 : Int32), s13)) v1 F (0 : Int32) s7))) v1 F (0 : Int32) s
set_option maxRecDepth 100000 in
set_option maxHeartbeats 4000000 in
theorem t_X12_wrongOf (w : zWd) (F : Nat) (d : Nat) (hd : 1 ≤ d) (v1 : Int32) (s : zM) : zMt w yX12_wrongOf cX12_wrongOf 3 (some .int) d zφN zφN zri [.ref (w.2.2.2 + 69), .int v1] s (f_X12_wrongOf F v1 s) := by
  refine zMtN_of (own := RX12) rfl (by decide +kernel) (Nat.le_of_ble_eq_true rfl) cd_X12_wrongOf [(0, .ref (w.2.2.2 + 69)), (1, .int v1)] rfl ?_
  rintro a rfl K
  unfold f_X12_wrongOf
  refine z_iconst K ci_0 dX12_wrongOf_0 ?_
  refine z_istore_n K (lv' := [(2, .int (0 : Int32)), (0, .ref (a.1.2.2.2 + 69)), (1, .int v1)]) dX12_wrongOf_1 rfl (Nat.le_of_ble_eq_true rfl) rfl ?_
  refine z_sub [1, 2, 0] rfl ?_
  refine t_X12_wrongOf_L2 F K hd v1 (fun s4 => ?_) F (0 : Int32) s
  refine z_aload_n K 0 rfl dX12_wrongOf_28 ?_
  refine z_iconst K ci_0 dX12_wrongOf_29 ?_
  refine z_bipush K cb_20 dX12_wrongOf_30 ?_
  refine z_aload_n K 0 rfl dX12_wrongOf_32 ?_
  refine z_iload_n K 1 rfl dX12_wrongOf_33 ?_
  refine z_iconst K ci_0 dX12_wrongOf_34 ?_
  refine z_bipush K cb_19 dX12_wrongOf_35 ?_
  refine z_cVi (As := [.int v1, .int (0 : Int32), .int (19 : Int32)]) (rest := [.int (20 : Int32), .int (0 : Int32), .ref (a.1.2.2.2 + 69)]) K (t_X12_knivesFrom a.1 F (d - 1) (by omega) v1 (0 : Int32) (19 : Int32) s4) mf_X12_knivesFrom ml_X12_421 (Nat.le_of_ble_eq_true rfl) (by omega) rfl rc_69 rfl (Nat.le_of_ble_eq_true rfl) dX12_wrongOf_37 (fun r6 s5 => ?_)
  refine z_cVi (As := [.int (0 : Int32), .int (20 : Int32), .int r6]) (rest := []) K (t_X12_joins a.1 F (d - 1) (by omega) (0 : Int32) (20 : Int32) r6 s5) mf_X12_joins ml_X12_424 (Nat.le_of_ble_eq_true rfl) (by omega) rfl rc_69 rfl (Nat.le_of_ble_eq_true rfl) dX12_wrongOf_40 (fun r8 s7 => ?_)
  refine z_pop K rfl dX12_wrongOf_43 ?_
  refine z_iconst K ci_0 dX12_wrongOf_44 ?_
  refine z_istore_n K (lv' := [(2, .int (0 : Int32)), (0, .ref (a.1.2.2.2 + 69)), (1, .int v1)]) dX12_wrongOf_45 rfl (Nat.le_of_ble_eq_true rfl) rfl ?_
  refine z_sub [1, 2, 0] rfl ?_
  refine t_X12_wrongOf_L46 F K hd v1 (fun s13 => ?_) F (0 : Int32) s7
  refine z_iconst K ci_m1 dX12_wrongOf_99 ?_
  exact z_iret K dX12_wrongOf_100
def f_X12_wrong (F : Nat) (s : zM) : Option (Int32 × zM) :=
  bnd (f_X12_wrongOf F (0 : Int32) s) (fun r2 s1 =>
  bnd (f_X12_wrongOf F (1 : Int32) s1) (fun r4 s3 =>
  if r2 = (-1 : Int32) then
    some (r4, s3)
  else
    if r4 = (-1 : Int32) then
      some (r2, s3)
    else
      if r4 < r2 then
        some (r4, s3)
      else
        some (r2, s3)))
set_option maxRecDepth 100000 in
set_option maxHeartbeats 4000000 in
theorem t_X12_wrong (w : zWd) (F : Nat) (d : Nat) (hd : 2 ≤ d) (s : zM) : zMt w yX12_wrong cX12_wrong 3 (some .int) d zφN zφN zri [.ref (w.2.2.2 + 69)] s (f_X12_wrong F s) := by
  refine zMtN_of (own := RX12) rfl (by decide +kernel) (Nat.le_of_ble_eq_true rfl) cd_X12_wrong [(0, .ref (w.2.2.2 + 69))] rfl ?_
  rintro a rfl K
  unfold f_X12_wrong
  refine z_aload_n K 0 rfl dX12_wrong_0 ?_
  refine z_iconst K ci_0 dX12_wrong_1 ?_
  refine z_cVi (As := [.int (0 : Int32)]) (rest := []) K (t_X12_wrongOf a.1 F (d - 1) (by omega) (0 : Int32) s) mf_X12_wrongOf ml_X12_427 (Nat.le_of_ble_eq_true rfl) (by omega) rfl rc_69 rfl (Nat.le_of_ble_eq_true rfl) dX12_wrong_2 (fun r2 s1 => ?_)
  refine z_istore_n K (lv' := [(1, .int r2), (0, .ref (a.1.2.2.2 + 69))]) dX12_wrong_5 rfl (Nat.le_of_ble_eq_true rfl) rfl ?_
  refine z_aload_n K 1 rfl dX12_wrong_6 ?_
  refine z_iconst K ci_1 dX12_wrong_7 ?_
  refine z_cVi (As := [.int (1 : Int32)]) (rest := []) K (t_X12_wrongOf a.1 F (d - 1) (by omega) (1 : Int32) s1) mf_X12_wrongOf ml_X12_427 (Nat.le_of_ble_eq_true rfl) (by omega) rfl rc_69 rfl (Nat.le_of_ble_eq_true rfl) dX12_wrong_8 (fun r4 s3 => ?_)
  refine z_istore_n K (lv' := [(2, .int r4), (1, .int r2), (0, .ref (a.1.2.2.2 + 69))]) dX12_wrong_11 rfl (Nat.le_of_ble_eq_true rfl) rfl ?_
  refine z_iload_n K 1 rfl dX12_wrong_12 ?_
  refine z_iconst K ci_m1 dX12_wrong_13 ?_
  refine z_icmp_eq K (tgt := 27) dX12_wrong_14 (by decide) ?_ ?_
  · refine z_iload_n K 0 rfl dX12_wrong_27 ?_
    refine z_goto K (tgt := 32) dX12_wrong_28 (by decide) ?_
    exact z_iret K dX12_wrong_32
  · refine z_iload_n K 0 rfl dX12_wrong_17 ?_
    refine z_iconst K ci_m1 dX12_wrong_18 ?_
    refine z_icmp_eq K (tgt := 31) dX12_wrong_19 (by decide) ?_ ?_
    · refine z_iload_n K 1 rfl dX12_wrong_31 ?_
      exact z_iret K dX12_wrong_32
    · refine z_iload_n K 0 rfl dX12_wrong_22 ?_
      refine z_iload_n K 1 rfl dX12_wrong_23 ?_
      refine z_icmp_ge K (tgt := 31) dX12_wrong_24 (by decide) ?_ ?_
      · refine z_iload_n K 1 rfl dX12_wrong_31 ?_
        exact z_iret K dX12_wrong_32
      · refine z_iload_n K 0 rfl dX12_wrong_27 ?_
        refine z_goto K (tgt := 32) dX12_wrong_28 (by decide) ?_
        exact z_iret K dX12_wrong_32
def f_X12_isMany (v0 : Int32) (s : zM) : Option (Int32 × zM) :=
  if 0 < v0 then
    if v0 < (100 : Int32) then
      some ((1 : Int32), s)
    else
      some ((0 : Int32), s)
  else
    some ((0 : Int32), s)
set_option maxRecDepth 100000 in
set_option maxHeartbeats 4000000 in
theorem t_X12_isMany (w : zWd) (d : Nat) (hd : 0 ≤ d) (v0 : Int32) (s : zM) : zMt w yX12_isMany cX12_isMany 1 (some .boolean) d zφN zφN zri [.int v0] s (f_X12_isMany v0 s) := by
  refine zMtN_of (own := RX12) rfl (by decide +kernel) (Nat.le_of_ble_eq_true rfl) cd_X12_isMany [(0, .int v0)] rfl ?_
  rintro a rfl K
  unfold f_X12_isMany
  refine z_iload_n K 0 rfl dX12_isMany_0 ?_
  refine z_if_le K (tgt := 14) dX12_isMany_1 (by decide) ?_ ?_
  · refine z_iconst K ci_0 dX12_isMany_14 ?_
    exact z_zret (Or.inl rfl) K dX12_isMany_15
  · refine z_iload_n K 0 rfl dX12_isMany_4 ?_
    refine z_bipush K cb_100 dX12_isMany_5 ?_
    refine z_icmp_ge K (tgt := 14) dX12_isMany_7 (by decide) ?_ ?_
    · refine z_iconst K ci_0 dX12_isMany_14 ?_
      exact z_zret (Or.inl rfl) K dX12_isMany_15
    · refine z_iconst K ci_1 dX12_isMany_10 ?_
      refine z_goto K (tgt := 15) dX12_isMany_11 (by decide) ?_
      exact z_zret (Or.inr rfl) K dX12_isMany_15
def f_X12_gives (v1 : Int32) (v2 : Int32) (s : zM) : Option (Int32 × zM) :=
  bnd (f_X12_isGuest v1 s) (fun r2 s1 =>
  if r2 = 0 then
    some ((-1 : Int32), s1)
  else
    bnd (f_X12_isMany v2 s1) (fun r4 s3 =>
    if r4 = 0 then
      some ((-1 : Int32), s3)
    else
      bnd (f_X12_sits v1 s3) (fun r6 s5 =>
      if r6 = 0 then
        some ((-2 : Int32), s5)
      else
        if zin v1 16 = true then
          if (9999 : Int32) < ((zg s5 107 (v1).toNatClampNeg) + v2) then
            some ((-2 : Int32), s5)
          else
            if zin v1 16 = true then
              if zin v1 16 = true then
                lt (zs s5 107 (v1).toNatClampNeg ((zg s5 107 (v1).toNatClampNeg) + v2)) (fun s7 =>
                if zin v1 16 = true then
                  if zin v1 16 = true then
                    lt (zs s7 109 (v1).toNatClampNeg ((zg s7 109 (v1).toNatClampNeg) + v2)) (fun s8 =>
                    if zin v1 16 = true then
                      some ((zg s8 107 (v1).toNatClampNeg), s8)
                    else none)
                  else none
                else none)
              else none
            else none
        else none)))
set_option maxRecDepth 100000 in
set_option maxHeartbeats 4000000 in
theorem t_X12_gives (w : zWd) (d : Nat) (hd : 1 ≤ d) (v1 : Int32) (v2 : Int32) (s : zM) : zMt w yX12_gives cX12_gives 3 (some .int) d zφN zφN zri [.ref (w.2.2.2 + 69), .int v1, .int v2] s (f_X12_gives v1 v2 s) := by
  refine zMtN_of (own := RX12) rfl (by decide +kernel) (Nat.le_of_ble_eq_true rfl) cd_X12_gives [(0, .ref (w.2.2.2 + 69)), (1, .int v1), (2, .int v2)] rfl ?_
  rintro a rfl K
  unfold f_X12_gives
  refine z_aload_n K 0 rfl dX12_gives_0 ?_
  refine z_iload_n K 1 rfl dX12_gives_1 ?_
  refine z_cVi (As := [.int v1]) (rest := []) K (t_X12_isGuest a.1 (d - 1) (by omega) v1 s) mf_X12_isGuest ml_X12_183 (Nat.le_of_ble_eq_true rfl) (by omega) rfl rc_69 rfl (Nat.le_of_ble_eq_true rfl) dX12_gives_2 (fun r2 s1 => ?_)
  refine z_if_eq K (tgt := 15) dX12_gives_5 (by decide) ?_ ?_
  · refine z_iconst K ci_m1 dX12_gives_15 ?_
    exact z_iret K dX12_gives_16
  · refine z_iload_n K 2 rfl dX12_gives_8 ?_
    refine z_cSi (As := [.int v2]) (rest := []) K (t_X12_isMany a.1 (d - 1) (by omega) v2 s1) mf_X12_isMany ml_X12_430 (Nat.le_of_ble_eq_true rfl) (by omega) rfl rfl (Nat.le_of_ble_eq_true rfl) dX12_gives_9 (fun r4 s3 => ?_)
    refine z_if_ne K (tgt := 17) dX12_gives_12 (by decide) ?_ ?_
    · refine z_aload_n K 0 rfl dX12_gives_17 ?_
      refine z_iload_n K 1 rfl dX12_gives_18 ?_
      refine z_cVi (As := [.int v1]) (rest := []) K (t_X12_sits a.1 (d - 1) (by omega) v1 s3) mf_X12_sits ml_X12_309 (Nat.le_of_ble_eq_true rfl) (by omega) rfl rc_69 rfl (Nat.le_of_ble_eq_true rfl) dX12_gives_19 (fun r6 s5 => ?_)
      refine z_if_eq K (tgt := 39) dX12_gives_22 (by decide) ?_ ?_
      · refine z_bipush K cb_m2 dX12_gives_39 ?_
        exact z_iret K dX12_gives_41
      · refine z_aload_n K 0 rfl dX12_gives_25 ?_
        refine z_getr K fd_X12_122 ob_69_58 dX12_gives_26 ?_
        refine z_iload_n K 1 rfl dX12_gives_29 ?_
        refine z_iald K ar_107 dX12_gives_30 ?_
        refine z_iload_n K 2 rfl dX12_gives_31 ?_
        refine z_iadd K dX12_gives_32 ?_
        refine z_sipush K cs_9999 dX12_gives_33 ?_
        refine z_icmp_le K (tgt := 42) dX12_gives_36 (by decide) ?_ ?_
        · refine z_aload_n K 0 rfl dX12_gives_42 ?_
          refine z_getr K fd_X12_122 ob_69_58 dX12_gives_43 ?_
          refine z_iload_n K 1 rfl dX12_gives_46 ?_
          refine z_aload_n K 0 rfl dX12_gives_47 ?_
          refine z_getr K fd_X12_122 ob_69_58 dX12_gives_48 ?_
          refine z_iload_n K 1 rfl dX12_gives_51 ?_
          refine z_iald K ar_107 dX12_gives_52 ?_
          refine z_iload_n K 2 rfl dX12_gives_53 ?_
          refine z_iadd K dX12_gives_54 ?_
          refine z_iast K ar_107 dX12_gives_55 ?_
          refine z_ltm (fun s7 => ?_)
          refine z_aload_n K 0 rfl dX12_gives_56 ?_
          refine z_getr K fd_X12_128 ob_69_60 dX12_gives_57 ?_
          refine z_iload_n K 1 rfl dX12_gives_60 ?_
          refine z_aload_n K 0 rfl dX12_gives_61 ?_
          refine z_getr K fd_X12_128 ob_69_60 dX12_gives_62 ?_
          refine z_iload_n K 1 rfl dX12_gives_65 ?_
          refine z_iald K ar_109 dX12_gives_66 ?_
          refine z_iload_n K 2 rfl dX12_gives_67 ?_
          refine z_iadd K dX12_gives_68 ?_
          refine z_iast K ar_109 dX12_gives_69 ?_
          refine z_ltm (fun s8 => ?_)
          refine z_aload_n K 0 rfl dX12_gives_70 ?_
          refine z_getr K fd_X12_122 ob_69_58 dX12_gives_71 ?_
          refine z_iload_n K 1 rfl dX12_gives_74 ?_
          refine z_iald K ar_107 dX12_gives_75 ?_
          exact z_iret K dX12_gives_76
        · refine z_bipush K cb_m2 dX12_gives_39 ?_
          exact z_iret K dX12_gives_41
    · refine z_iconst K ci_m1 dX12_gives_15 ?_
      exact z_iret K dX12_gives_16
def f_X12_mayPass (F : Nat) (v1 : Int32) (v2 : Int32) (v3 : Int32) (s : zM) : Option (Int32 × zM) :=
  bnd (f_X12_sitNext F v1 v2 s) (fun r2 s1 =>
  if r2 = 0 then
    some ((0 : Int32), s1)
  else
    bnd (f_X12_lets F v1 v2 s1) (fun r4 s3 =>
    if r4 = 0 then
      some ((0 : Int32), s3)
    else
      if zin v2 16 = true then
        if (9999 : Int32) < ((zg s3 107 (v2).toNatClampNeg) + v3) then
          some ((0 : Int32), s3)
        else
          if zin (((16 : Int32) * v1) + v2) 256 = true then
            if (9999 : Int32) < ((zg s3 112 ((((16 : Int32) * v1) + v2)).toNatClampNeg) + v3) then
              some ((0 : Int32), s3)
            else
              some ((1 : Int32), s3)
          else none
      else none))
set_option maxRecDepth 100000 in
set_option maxHeartbeats 4000000 in
theorem t_X12_mayPass (w : zWd) (F : Nat) (d : Nat) (hd : 4 ≤ d) (v1 : Int32) (v2 : Int32) (v3 : Int32) (s : zM) : zMt w yX12_mayPass cX12_mayPass 4 (some .boolean) d zφN zφN zri [.ref (w.2.2.2 + 69), .int v1, .int v2, .int v3] s (f_X12_mayPass F v1 v2 v3 s) := by
  refine zMtN_of (own := RX12) rfl (by decide +kernel) (Nat.le_of_ble_eq_true rfl) cd_X12_mayPass [(0, .ref (w.2.2.2 + 69)), (1, .int v1), (2, .int v2), (3, .int v3)] rfl ?_
  rintro a rfl K
  unfold f_X12_mayPass
  refine z_aload_n K 0 rfl dX12_mayPass_0 ?_
  refine z_iload_n K 1 rfl dX12_mayPass_1 ?_
  refine z_iload_n K 2 rfl dX12_mayPass_2 ?_
  refine z_cVi (As := [.int v1, .int v2]) (rest := []) K (t_X12_sitNext a.1 F (d - 1) (by omega) v1 v2 s) mf_X12_sitNext ml_X12_315 (Nat.le_of_ble_eq_true rfl) (by omega) rfl rc_69 rfl (Nat.le_of_ble_eq_true rfl) dX12_mayPass_3 (fun r2 s1 => ?_)
  refine z_if_eq K (tgt := 55) dX12_mayPass_6 (by decide) ?_ ?_
  · refine z_iconst K ci_0 dX12_mayPass_55 ?_
    exact z_zret (Or.inl rfl) K dX12_mayPass_56
  · refine z_aload_n K 0 rfl dX12_mayPass_9 ?_
    refine z_iload_n K 1 rfl dX12_mayPass_10 ?_
    refine z_iload_n K 2 rfl dX12_mayPass_11 ?_
    refine z_cVi (As := [.int v1, .int v2]) (rest := []) K (t_X12_lets a.1 F (d - 1) (by omega) v1 v2 s1) mf_X12_lets ml_X12_324 (Nat.le_of_ble_eq_true rfl) (by omega) rfl rc_69 rfl (Nat.le_of_ble_eq_true rfl) dX12_mayPass_12 (fun r4 s3 => ?_)
    refine z_if_eq K (tgt := 55) dX12_mayPass_15 (by decide) ?_ ?_
    · refine z_iconst K ci_0 dX12_mayPass_55 ?_
      exact z_zret (Or.inl rfl) K dX12_mayPass_56
    · refine z_aload_n K 0 rfl dX12_mayPass_18 ?_
      refine z_getr K fd_X12_122 ob_69_58 dX12_mayPass_19 ?_
      refine z_iload_n K 2 rfl dX12_mayPass_22 ?_
      refine z_iald K ar_107 dX12_mayPass_23 ?_
      refine z_iload_n K 3 rfl dX12_mayPass_24 ?_
      refine z_iadd K dX12_mayPass_25 ?_
      refine z_sipush K cs_9999 dX12_mayPass_26 ?_
      refine z_icmp_gt K (tgt := 55) dX12_mayPass_29 (by decide) ?_ ?_
      · refine z_iconst K ci_0 dX12_mayPass_55 ?_
        exact z_zret (Or.inl rfl) K dX12_mayPass_56
      · refine z_aload_n K 0 rfl dX12_mayPass_32 ?_
        refine z_getr K fd_X12_137 ob_69_63 dX12_mayPass_33 ?_
        refine z_bipush K cb_16 dX12_mayPass_36 ?_
        refine z_iload_n K 1 rfl dX12_mayPass_38 ?_
        refine z_imul K dX12_mayPass_39 ?_
        refine z_iload_n K 2 rfl dX12_mayPass_40 ?_
        refine z_iadd K dX12_mayPass_41 ?_
        refine z_iald K ar_112 dX12_mayPass_42 ?_
        refine z_iload_n K 3 rfl dX12_mayPass_43 ?_
        refine z_iadd K dX12_mayPass_44 ?_
        refine z_sipush K cs_9999 dX12_mayPass_45 ?_
        refine z_icmp_gt K (tgt := 55) dX12_mayPass_48 (by decide) ?_ ?_
        · refine z_iconst K ci_0 dX12_mayPass_55 ?_
          exact z_zret (Or.inl rfl) K dX12_mayPass_56
        · refine z_iconst K ci_1 dX12_mayPass_51 ?_
          refine z_goto K (tgt := 56) dX12_mayPass_52 (by decide) ?_
          exact z_zret (Or.inr rfl) K dX12_mayPass_56
def f_X12_hands (v1 : Int32) (v2 : Int32) (v3 : Int32) (s : zM) : Option (Unit × zM) :=
  if zin v1 16 = true then
    if zin v1 16 = true then
      lt (zs s 107 (v1).toNatClampNeg ((zg s 107 (v1).toNatClampNeg) - v3)) (fun s1 =>
      if zin v2 16 = true then
        if zin v2 16 = true then
          lt (zs s1 107 (v2).toNatClampNeg ((zg s1 107 (v2).toNatClampNeg) + v3)) (fun s2 =>
          if zin v1 16 = true then
            if zin v1 16 = true then
              lt (zs s2 111 (v1).toNatClampNeg ((zg s2 111 (v1).toNatClampNeg) + v3)) (fun s3 =>
              if zin v2 16 = true then
                if zin v2 16 = true then
                  lt (zs s3 110 (v2).toNatClampNeg ((zg s3 110 (v2).toNatClampNeg) + v3)) (fun s4 =>
                  if zin (((16 : Int32) * v1) + v2) 256 = true then
                    if zin (((16 : Int32) * v1) + v2) 256 = true then
                      lt (zs s4 112 ((((16 : Int32) * v1) + v2)).toNatClampNeg ((zg s4 112 ((((16 : Int32) * v1) + v2)).toNatClampNeg) + v3)) (fun s5 =>
                      some ((), s5))
                    else none
                  else none)
                else none
              else none)
            else none
          else none)
        else none
      else none)
    else none
  else none
set_option maxRecDepth 100000 in
set_option maxHeartbeats 4000000 in
theorem t_X12_hands (w : zWd) (d : Nat) (hd : 0 ≤ d) (v1 : Int32) (v2 : Int32) (v3 : Int32) (s : zM) : zMt w yX12_hands cX12_hands 4 none d zφN zφN zrv [.ref (w.2.2.2 + 69), .int v1, .int v2, .int v3] s (f_X12_hands v1 v2 v3 s) := by
  refine zMtN_of (own := RX12) rfl (by decide +kernel) (Nat.le_of_ble_eq_true rfl) cd_X12_hands [(0, .ref (w.2.2.2 + 69)), (1, .int v1), (2, .int v2), (3, .int v3)] rfl ?_
  rintro a rfl K
  unfold f_X12_hands
  refine z_aload_n K 0 rfl dX12_hands_0 ?_
  refine z_getr K fd_X12_122 ob_69_58 dX12_hands_1 ?_
  refine z_iload_n K 1 rfl dX12_hands_4 ?_
  refine z_aload_n K 0 rfl dX12_hands_5 ?_
  refine z_getr K fd_X12_122 ob_69_58 dX12_hands_6 ?_
  refine z_iload_n K 1 rfl dX12_hands_9 ?_
  refine z_iald K ar_107 dX12_hands_10 ?_
  refine z_iload_n K 3 rfl dX12_hands_11 ?_
  refine z_isub K dX12_hands_12 ?_
  refine z_iast K ar_107 dX12_hands_13 ?_
  refine z_ltm (fun s1 => ?_)
  refine z_aload_n K 0 rfl dX12_hands_14 ?_
  refine z_getr K fd_X12_122 ob_69_58 dX12_hands_15 ?_
  refine z_iload_n K 2 rfl dX12_hands_18 ?_
  refine z_aload_n K 0 rfl dX12_hands_19 ?_
  refine z_getr K fd_X12_122 ob_69_58 dX12_hands_20 ?_
  refine z_iload_n K 2 rfl dX12_hands_23 ?_
  refine z_iald K ar_107 dX12_hands_24 ?_
  refine z_iload_n K 3 rfl dX12_hands_25 ?_
  refine z_iadd K dX12_hands_26 ?_
  refine z_iast K ar_107 dX12_hands_27 ?_
  refine z_ltm (fun s2 => ?_)
  refine z_aload_n K 0 rfl dX12_hands_28 ?_
  refine z_getr K fd_X12_134 ob_69_62 dX12_hands_29 ?_
  refine z_iload_n K 1 rfl dX12_hands_32 ?_
  refine z_aload_n K 0 rfl dX12_hands_33 ?_
  refine z_getr K fd_X12_134 ob_69_62 dX12_hands_34 ?_
  refine z_iload_n K 1 rfl dX12_hands_37 ?_
  refine z_iald K ar_111 dX12_hands_38 ?_
  refine z_iload_n K 3 rfl dX12_hands_39 ?_
  refine z_iadd K dX12_hands_40 ?_
  refine z_iast K ar_111 dX12_hands_41 ?_
  refine z_ltm (fun s3 => ?_)
  refine z_aload_n K 0 rfl dX12_hands_42 ?_
  refine z_getr K fd_X12_131 ob_69_61 dX12_hands_43 ?_
  refine z_iload_n K 2 rfl dX12_hands_46 ?_
  refine z_aload_n K 0 rfl dX12_hands_47 ?_
  refine z_getr K fd_X12_131 ob_69_61 dX12_hands_48 ?_
  refine z_iload_n K 2 rfl dX12_hands_51 ?_
  refine z_iald K ar_110 dX12_hands_52 ?_
  refine z_iload_n K 3 rfl dX12_hands_53 ?_
  refine z_iadd K dX12_hands_54 ?_
  refine z_iast K ar_110 dX12_hands_55 ?_
  refine z_ltm (fun s4 => ?_)
  refine z_aload_n K 0 rfl dX12_hands_56 ?_
  refine z_getr K fd_X12_137 ob_69_63 dX12_hands_57 ?_
  refine z_bipush K cb_16 dX12_hands_60 ?_
  refine z_iload_n K 1 rfl dX12_hands_62 ?_
  refine z_imul K dX12_hands_63 ?_
  refine z_iload_n K 2 rfl dX12_hands_64 ?_
  refine z_iadd K dX12_hands_65 ?_
  refine z_aload_n K 0 rfl dX12_hands_66 ?_
  refine z_getr K fd_X12_137 ob_69_63 dX12_hands_67 ?_
  refine z_bipush K cb_16 dX12_hands_70 ?_
  refine z_iload_n K 1 rfl dX12_hands_72 ?_
  refine z_imul K dX12_hands_73 ?_
  refine z_iload_n K 2 rfl dX12_hands_74 ?_
  refine z_iadd K dX12_hands_75 ?_
  refine z_iald K ar_112 dX12_hands_76 ?_
  refine z_iload_n K 3 rfl dX12_hands_77 ?_
  refine z_iadd K dX12_hands_78 ?_
  refine z_iast K ar_112 dX12_hands_79 ?_
  refine z_ltm (fun s5 => ?_)
  exact z_vret K dX12_hands_80
def f_X12_passes (F : Nat) (v1 : Int32) (v2 : Int32) (v3 : Int32) (s : zM) : Option (Int32 × zM) :=
  bnd (f_X12_isGuest v1 s) (fun r2 s1 =>
  if r2 = 0 then
    some ((-1 : Int32), s1)
  else
    bnd (f_X12_isGuest v2 s1) (fun r4 s3 =>
    if r4 = 0 then
      some ((-1 : Int32), s3)
    else
      if v1 = v2 then
        some ((-1 : Int32), s3)
      else
        bnd (f_X12_isMany v3 s3) (fun r6 s5 =>
        if r6 = 0 then
          some ((-1 : Int32), s5)
        else
          bnd (f_X12_mayPass F v1 v2 v3 s5) (fun r8 s7 =>
          if r8 = 0 then
            some ((-2 : Int32), s7)
          else
            if zin v1 16 = true then
              if (zg s7 107 (v1).toNatClampNeg) < v3 then
                some ((-3 : Int32), s7)
              else
                bnd (f_X12_hands v1 v2 v3 s7) (fun _ s9 =>
                if zin v1 16 = true then
                  some ((zg s9 107 (v1).toNatClampNeg), s9)
                else none)
            else none))))
set_option maxRecDepth 100000 in
set_option maxHeartbeats 4000000 in
theorem t_X12_passes (w : zWd) (F : Nat) (d : Nat) (hd : 5 ≤ d) (v1 : Int32) (v2 : Int32) (v3 : Int32) (s : zM) : zMt w yX12_passes cX12_passes 4 (some .int) d zφN zφN zri [.ref (w.2.2.2 + 69), .int v1, .int v2, .int v3] s (f_X12_passes F v1 v2 v3 s) := by
  refine zMtN_of (own := RX12) rfl (by decide +kernel) (Nat.le_of_ble_eq_true rfl) cd_X12_passes [(0, .ref (w.2.2.2 + 69)), (1, .int v1), (2, .int v2), (3, .int v3)] rfl ?_
  rintro a rfl K
  unfold f_X12_passes
  refine z_aload_n K 0 rfl dX12_passes_0 ?_
  refine z_iload_n K 1 rfl dX12_passes_1 ?_
  refine z_cVi (As := [.int v1]) (rest := []) K (t_X12_isGuest a.1 (d - 1) (by omega) v1 s) mf_X12_isGuest ml_X12_183 (Nat.le_of_ble_eq_true rfl) (by omega) rfl rc_69 rfl (Nat.le_of_ble_eq_true rfl) dX12_passes_2 (fun r2 s1 => ?_)
  refine z_if_eq K (tgt := 28) dX12_passes_5 (by decide) ?_ ?_
  · refine z_iconst K ci_m1 dX12_passes_28 ?_
    exact z_iret K dX12_passes_29
  · refine z_aload_n K 0 rfl dX12_passes_8 ?_
    refine z_iload_n K 2 rfl dX12_passes_9 ?_
    refine z_cVi (As := [.int v2]) (rest := []) K (t_X12_isGuest a.1 (d - 1) (by omega) v2 s1) mf_X12_isGuest ml_X12_183 (Nat.le_of_ble_eq_true rfl) (by omega) rfl rc_69 rfl (Nat.le_of_ble_eq_true rfl) dX12_passes_10 (fun r4 s3 => ?_)
    refine z_if_eq K (tgt := 28) dX12_passes_13 (by decide) ?_ ?_
    · refine z_iconst K ci_m1 dX12_passes_28 ?_
      exact z_iret K dX12_passes_29
    · refine z_iload_n K 1 rfl dX12_passes_16 ?_
      refine z_iload_n K 2 rfl dX12_passes_17 ?_
      refine z_icmp_eq K (tgt := 28) dX12_passes_18 (by decide) ?_ ?_
      · refine z_iconst K ci_m1 dX12_passes_28 ?_
        exact z_iret K dX12_passes_29
      · refine z_iload_n K 3 rfl dX12_passes_21 ?_
        refine z_cSi (As := [.int v3]) (rest := []) K (t_X12_isMany a.1 (d - 1) (by omega) v3 s3) mf_X12_isMany ml_X12_430 (Nat.le_of_ble_eq_true rfl) (by omega) rfl rfl (Nat.le_of_ble_eq_true rfl) dX12_passes_22 (fun r6 s5 => ?_)
        refine z_if_ne K (tgt := 30) dX12_passes_25 (by decide) ?_ ?_
        · refine z_aload_n K 0 rfl dX12_passes_30 ?_
          refine z_iload_n K 1 rfl dX12_passes_31 ?_
          refine z_iload_n K 2 rfl dX12_passes_32 ?_
          refine z_iload_n K 3 rfl dX12_passes_33 ?_
          refine z_cVi (As := [.int v1, .int v2, .int v3]) (rest := []) K (t_X12_mayPass a.1 F (d - 1) (by omega) v1 v2 v3 s5) mf_X12_mayPass ml_X12_433 (Nat.le_of_ble_eq_true rfl) (by omega) rfl rc_69 rfl (Nat.le_of_ble_eq_true rfl) dX12_passes_34 (fun r8 s7 => ?_)
          refine z_if_ne K (tgt := 43) dX12_passes_37 (by decide) ?_ ?_
          · refine z_aload_n K 0 rfl dX12_passes_43 ?_
            refine z_getr K fd_X12_122 ob_69_58 dX12_passes_44 ?_
            refine z_iload_n K 1 rfl dX12_passes_47 ?_
            refine z_iald K ar_107 dX12_passes_48 ?_
            refine z_iload_n K 3 rfl dX12_passes_49 ?_
            refine z_icmp_ge K (tgt := 56) dX12_passes_50 (by decide) ?_ ?_
            · refine z_aload_n K 0 rfl dX12_passes_56 ?_
              refine z_iload_n K 1 rfl dX12_passes_57 ?_
              refine z_iload_n K 2 rfl dX12_passes_58 ?_
              refine z_iload_n K 3 rfl dX12_passes_59 ?_
              refine z_cVv (As := [.int v1, .int v2, .int v3]) (rest := []) K (t_X12_hands a.1 (d - 1) (by omega) v1 v2 v3 s7) mf_X12_hands ml_X12_436 (Nat.le_of_ble_eq_true rfl) (by omega) rfl rc_69 rfl (Nat.le_of_ble_eq_true rfl) dX12_passes_60 (fun _ s9 => ?_)
              refine z_aload_n K 0 rfl dX12_passes_63 ?_
              refine z_getr K fd_X12_122 ob_69_58 dX12_passes_64 ?_
              refine z_iload_n K 1 rfl dX12_passes_67 ?_
              refine z_iald K ar_107 dX12_passes_68 ?_
              exact z_iret K dX12_passes_69
            · refine z_bipush K cb_m3 dX12_passes_53 ?_
              exact z_iret K dX12_passes_55
          · refine z_bipush K cb_m2 dX12_passes_40 ?_
            exact z_iret K dX12_passes_42
        · refine z_iconst K ci_m1 dX12_passes_28 ?_
          exact z_iret K dX12_passes_29
def f_X12_eats (v1 : Int32) (v2 : Int32) (s : zM) : Option (Int32 × zM) :=
  bnd (f_X12_isGuest v1 s) (fun r2 s1 =>
  if r2 = 0 then
    some ((-1 : Int32), s1)
  else
    bnd (f_X12_isMany v2 s1) (fun r4 s3 =>
    if r4 = 0 then
      some ((-1 : Int32), s3)
    else
      if zin v1 16 = true then
        if (zg s3 107 (v1).toNatClampNeg) < v2 then
          some ((-3 : Int32), s3)
        else
          if zin v1 16 = true then
            if zin v1 16 = true then
              lt (zs s3 107 (v1).toNatClampNeg ((zg s3 107 (v1).toNatClampNeg) - v2)) (fun s5 =>
              if zin v1 16 = true then
                if zin v1 16 = true then
                  lt (zs s5 108 (v1).toNatClampNeg ((zg s5 108 (v1).toNatClampNeg) + v2)) (fun s6 =>
                  if zin v1 16 = true then
                    some ((zg s6 107 (v1).toNatClampNeg), s6)
                  else none)
                else none
              else none)
            else none
          else none
      else none))
set_option maxRecDepth 100000 in
set_option maxHeartbeats 4000000 in
theorem t_X12_eats (w : zWd) (d : Nat) (hd : 1 ≤ d) (v1 : Int32) (v2 : Int32) (s : zM) : zMt w yX12_eats cX12_eats 3 (some .int) d zφN zφN zri [.ref (w.2.2.2 + 69), .int v1, .int v2] s (f_X12_eats v1 v2 s) := by
  refine zMtN_of (own := RX12) rfl (by decide +kernel) (Nat.le_of_ble_eq_true rfl) cd_X12_eats [(0, .ref (w.2.2.2 + 69)), (1, .int v1), (2, .int v2)] rfl ?_
  rintro a rfl K
  unfold f_X12_eats
  refine z_aload_n K 0 rfl dX12_eats_0 ?_
  refine z_iload_n K 1 rfl dX12_eats_1 ?_
  refine z_cVi (As := [.int v1]) (rest := []) K (t_X12_isGuest a.1 (d - 1) (by omega) v1 s) mf_X12_isGuest ml_X12_183 (Nat.le_of_ble_eq_true rfl) (by omega) rfl rc_69 rfl (Nat.le_of_ble_eq_true rfl) dX12_eats_2 (fun r2 s1 => ?_)
  refine z_if_eq K (tgt := 15) dX12_eats_5 (by decide) ?_ ?_
  · refine z_iconst K ci_m1 dX12_eats_15 ?_
    exact z_iret K dX12_eats_16
  · refine z_iload_n K 2 rfl dX12_eats_8 ?_
    refine z_cSi (As := [.int v2]) (rest := []) K (t_X12_isMany a.1 (d - 1) (by omega) v2 s1) mf_X12_isMany ml_X12_430 (Nat.le_of_ble_eq_true rfl) (by omega) rfl rfl (Nat.le_of_ble_eq_true rfl) dX12_eats_9 (fun r4 s3 => ?_)
    refine z_if_ne K (tgt := 17) dX12_eats_12 (by decide) ?_ ?_
    · refine z_aload_n K 0 rfl dX12_eats_17 ?_
      refine z_getr K fd_X12_122 ob_69_58 dX12_eats_18 ?_
      refine z_iload_n K 1 rfl dX12_eats_21 ?_
      refine z_iald K ar_107 dX12_eats_22 ?_
      refine z_iload_n K 2 rfl dX12_eats_23 ?_
      refine z_icmp_ge K (tgt := 30) dX12_eats_24 (by decide) ?_ ?_
      · refine z_aload_n K 0 rfl dX12_eats_30 ?_
        refine z_getr K fd_X12_122 ob_69_58 dX12_eats_31 ?_
        refine z_iload_n K 1 rfl dX12_eats_34 ?_
        refine z_aload_n K 0 rfl dX12_eats_35 ?_
        refine z_getr K fd_X12_122 ob_69_58 dX12_eats_36 ?_
        refine z_iload_n K 1 rfl dX12_eats_39 ?_
        refine z_iald K ar_107 dX12_eats_40 ?_
        refine z_iload_n K 2 rfl dX12_eats_41 ?_
        refine z_isub K dX12_eats_42 ?_
        refine z_iast K ar_107 dX12_eats_43 ?_
        refine z_ltm (fun s5 => ?_)
        refine z_aload_n K 0 rfl dX12_eats_44 ?_
        refine z_getr K fd_X12_125 ob_69_59 dX12_eats_45 ?_
        refine z_iload_n K 1 rfl dX12_eats_48 ?_
        refine z_aload_n K 0 rfl dX12_eats_49 ?_
        refine z_getr K fd_X12_125 ob_69_59 dX12_eats_50 ?_
        refine z_iload_n K 1 rfl dX12_eats_53 ?_
        refine z_iald K ar_108 dX12_eats_54 ?_
        refine z_iload_n K 2 rfl dX12_eats_55 ?_
        refine z_iadd K dX12_eats_56 ?_
        refine z_iast K ar_108 dX12_eats_57 ?_
        refine z_ltm (fun s6 => ?_)
        refine z_aload_n K 0 rfl dX12_eats_58 ?_
        refine z_getr K fd_X12_122 ob_69_58 dX12_eats_59 ?_
        refine z_iload_n K 1 rfl dX12_eats_62 ?_
        refine z_iald K ar_107 dX12_eats_63 ?_
        exact z_iret K dX12_eats_64
      · refine z_bipush K cb_m3 dX12_eats_27 ?_
        exact z_iret K dX12_eats_29
    · refine z_iconst K ci_m1 dX12_eats_15 ?_
      exact z_iret K dX12_eats_16
def f_X12_fed (v1 : Int32) (v2 : Int32) (s : zM) : Option (Int32 × zM) :=
  bnd (f_X12_isGuest v1 s) (fun r2 s1 =>
  if r2 = 0 then
    some ((-1 : Int32), s1)
  else
    bnd (f_X12_isGuest v2 s1) (fun r4 s3 =>
    if r4 = 0 then
      some ((-1 : Int32), s3)
    else
      if v1 = v2 then
        some ((-1 : Int32), s3)
      else
        if zin (((16 : Int32) * v1) + v2) 256 = true then
          some ((zg s3 112 ((((16 : Int32) * v1) + v2)).toNatClampNeg), s3)
        else none))
set_option maxRecDepth 100000 in
set_option maxHeartbeats 4000000 in
theorem t_X12_fed (w : zWd) (d : Nat) (hd : 1 ≤ d) (v1 : Int32) (v2 : Int32) (s : zM) : zMt w yX12_fed cX12_fed 3 (some .int) d zφN zφN zri [.ref (w.2.2.2 + 69), .int v1, .int v2] s (f_X12_fed v1 v2 s) := by
  refine zMtN_of (own := RX12) rfl (by decide +kernel) (Nat.le_of_ble_eq_true rfl) cd_X12_fed [(0, .ref (w.2.2.2 + 69)), (1, .int v1), (2, .int v2)] rfl ?_
  rintro a rfl K
  unfold f_X12_fed
  refine z_aload_n K 0 rfl dX12_fed_0 ?_
  refine z_iload_n K 1 rfl dX12_fed_1 ?_
  refine z_cVi (As := [.int v1]) (rest := []) K (t_X12_isGuest a.1 (d - 1) (by omega) v1 s) mf_X12_isGuest ml_X12_183 (Nat.le_of_ble_eq_true rfl) (by omega) rfl rc_69 rfl (Nat.le_of_ble_eq_true rfl) dX12_fed_2 (fun r2 s1 => ?_)
  refine z_if_eq K (tgt := 35) dX12_fed_5 (by decide) ?_ ?_
  · refine z_iconst K ci_m1 dX12_fed_35 ?_
    exact z_iret K dX12_fed_36
  · refine z_aload_n K 0 rfl dX12_fed_8 ?_
    refine z_iload_n K 2 rfl dX12_fed_9 ?_
    refine z_cVi (As := [.int v2]) (rest := []) K (t_X12_isGuest a.1 (d - 1) (by omega) v2 s1) mf_X12_isGuest ml_X12_183 (Nat.le_of_ble_eq_true rfl) (by omega) rfl rc_69 rfl (Nat.le_of_ble_eq_true rfl) dX12_fed_10 (fun r4 s3 => ?_)
    refine z_if_eq K (tgt := 35) dX12_fed_13 (by decide) ?_ ?_
    · refine z_iconst K ci_m1 dX12_fed_35 ?_
      exact z_iret K dX12_fed_36
    · refine z_iload_n K 1 rfl dX12_fed_16 ?_
      refine z_iload_n K 2 rfl dX12_fed_17 ?_
      refine z_icmp_eq K (tgt := 35) dX12_fed_18 (by decide) ?_ ?_
      · refine z_iconst K ci_m1 dX12_fed_35 ?_
        exact z_iret K dX12_fed_36
      · refine z_aload_n K 0 rfl dX12_fed_21 ?_
        refine z_getr K fd_X12_137 ob_69_63 dX12_fed_22 ?_
        refine z_bipush K cb_16 dX12_fed_25 ?_
        refine z_iload_n K 1 rfl dX12_fed_27 ?_
        refine z_imul K dX12_fed_28 ?_
        refine z_iload_n K 2 rfl dX12_fed_29 ?_
        refine z_iadd K dX12_fed_30 ?_
        refine z_iald K ar_112 dX12_fed_31 ?_
        refine z_goto K (tgt := 36) dX12_fed_32 (by decide) ?_
        exact z_iret K dX12_fed_36
def f_X12_led (v1 : Int32) (v2 : Int32) (s : zM) : Option (Int32 × zM) :=
  bnd (f_X12_isGuest v1 s) (fun r2 s1 =>
  if r2 = 0 then
    some ((-1 : Int32), s1)
  else
    if v2 = (0 : Int32) then
      if zin v1 16 = true then
        some ((zg s1 107 (v1).toNatClampNeg), s1)
      else none
    else
      if v2 = (1 : Int32) then
        if zin v1 16 = true then
          some ((zg s1 108 (v1).toNatClampNeg), s1)
        else none
      else
        if v2 = (2 : Int32) then
          if zin v1 16 = true then
            some ((zg s1 109 (v1).toNatClampNeg), s1)
          else none
        else
          if v2 = (3 : Int32) then
            if zin v1 16 = true then
              some ((zg s1 110 (v1).toNatClampNeg), s1)
            else none
          else
            if v2 = (4 : Int32) then
              if zin v1 16 = true then
                some ((zg s1 111 (v1).toNatClampNeg), s1)
              else none
            else
              some ((-1 : Int32), s1))
set_option maxRecDepth 100000 in
set_option maxHeartbeats 4000000 in
theorem t_X12_led (w : zWd) (d : Nat) (hd : 1 ≤ d) (v1 : Int32) (v2 : Int32) (s : zM) : zMt w yX12_led cX12_led 3 (some .int) d zφN zφN zri [.ref (w.2.2.2 + 69), .int v1, .int v2] s (f_X12_led v1 v2 s) := by
  refine zMtN_of (own := RX12) rfl (by decide +kernel) (Nat.le_of_ble_eq_true rfl) cd_X12_led [(0, .ref (w.2.2.2 + 69)), (1, .int v1), (2, .int v2)] rfl ?_
  rintro a rfl K
  unfold f_X12_led
  refine z_aload_n K 0 rfl dX12_led_0 ?_
  refine z_iload_n K 1 rfl dX12_led_1 ?_
  refine z_cVi (As := [.int v1]) (rest := []) K (t_X12_isGuest a.1 (d - 1) (by omega) v1 s) mf_X12_isGuest ml_X12_183 (Nat.le_of_ble_eq_true rfl) (by omega) rfl rc_69 rfl (Nat.le_of_ble_eq_true rfl) dX12_led_2 (fun r2 s1 => ?_)
  refine z_if_ne K (tgt := 10) dX12_led_5 (by decide) ?_ ?_
  · refine z_iload_n K 2 rfl dX12_led_10 ?_
    refine z_ite (fun hs0 => ?_) (fun hs0 => ?_)
    · refine z_tswIn K (tgt := 44) (off := 33) dX12_led_11 (by rw [hs0]; decide) (by rw [hs0]; decide) (by rw [hs0]; rfl) (by decide) ?_
      refine z_aload_n K 0 rfl dX12_led_44 ?_
      refine z_getr K fd_X12_122 ob_69_58 dX12_led_45 ?_
      refine z_iload_n K 1 rfl dX12_led_48 ?_
      refine z_iald K ar_107 dX12_led_49 ?_
      exact z_iret K dX12_led_50
    · refine z_ite (fun hs1 => ?_) (fun hs1 => ?_)
      · refine z_tswIn K (tgt := 51) (off := 40) dX12_led_11 (by rw [hs1]; decide) (by rw [hs1]; decide) (by rw [hs1]; rfl) (by decide) ?_
        refine z_aload_n K 0 rfl dX12_led_51 ?_
        refine z_getr K fd_X12_125 ob_69_59 dX12_led_52 ?_
        refine z_iload_n K 1 rfl dX12_led_55 ?_
        refine z_iald K ar_108 dX12_led_56 ?_
        exact z_iret K dX12_led_57
      · refine z_ite (fun hs2 => ?_) (fun hs2 => ?_)
        · refine z_tswIn K (tgt := 58) (off := 47) dX12_led_11 (by rw [hs2]; decide) (by rw [hs2]; decide) (by rw [hs2]; rfl) (by decide) ?_
          refine z_aload_n K 0 rfl dX12_led_58 ?_
          refine z_getr K fd_X12_128 ob_69_60 dX12_led_59 ?_
          refine z_iload_n K 1 rfl dX12_led_62 ?_
          refine z_iald K ar_109 dX12_led_63 ?_
          exact z_iret K dX12_led_64
        · refine z_ite (fun hs3 => ?_) (fun hs3 => ?_)
          · refine z_tswIn K (tgt := 65) (off := 54) dX12_led_11 (by rw [hs3]; decide) (by rw [hs3]; decide) (by rw [hs3]; rfl) (by decide) ?_
            refine z_aload_n K 0 rfl dX12_led_65 ?_
            refine z_getr K fd_X12_131 ob_69_61 dX12_led_66 ?_
            refine z_iload_n K 1 rfl dX12_led_69 ?_
            refine z_iald K ar_110 dX12_led_70 ?_
            exact z_iret K dX12_led_71
          · refine z_ite (fun hs4 => ?_) (fun hs4 => ?_)
            · refine z_tswIn K (tgt := 72) (off := 61) dX12_led_11 (by rw [hs4]; decide) (by rw [hs4]; decide) (by rw [hs4]; rfl) (by decide) ?_
              refine z_aload_n K 0 rfl dX12_led_72 ?_
              refine z_getr K fd_X12_134 ob_69_62 dX12_led_73 ?_
              refine z_iload_n K 1 rfl dX12_led_76 ?_
              refine z_iald K ar_111 dX12_led_77 ?_
              exact z_iret K dX12_led_78
            · have hsw : v2.toInt < 0 ∨ 4 < v2.toInt := by
                have q0 := lv_neT hs0 (a := 0) rfl
                have q1 := lv_neT hs1 (a := 1) rfl
                have q2 := lv_neT hs2 (a := 2) rfl
                have q3 := lv_neT hs3 (a := 3) rfl
                have q4 := lv_neT hs4 (a := 4) rfl
                omega
              refine z_tswOut K (tgt := 79) dX12_led_11 hsw (by decide) ?_
              refine z_iconst K ci_m1 dX12_led_79 ?_
              exact z_iret K dX12_led_80
  · refine z_iconst K ci_m1 dX12_led_8 ?_
    exact z_iret K dX12_led_9
def f_X12_seed (v1 : Int32) (s : zM) : Option (Int32 × zM) :=
  bnd (f_X12_in v1 (0 : Int32) (65535 : Int32) s) (fun r2 s1 =>
  if r2 = 0 then
    some ((0 : Int32), s1)
  else
    lt (zs s1 69 1 v1) (fun s3 =>
    some ((1 : Int32), s3)))
set_option maxRecDepth 100000 in
set_option maxHeartbeats 4000000 in
theorem t_X12_seed (w : zWd) (d : Nat) (hd : 1 ≤ d) (v1 : Int32) (s : zM) : zMt w yX12_seed cX12_seed 2 (some .boolean) d zφN zφN zri [.ref (w.2.2.2 + 69), .int v1] s (f_X12_seed v1 s) := by
  refine zMtN_of (own := RX12) rfl (by decide +kernel) (Nat.le_of_ble_eq_true rfl) cd_X12_seed [(0, .ref (w.2.2.2 + 69)), (1, .int v1)] rfl ?_
  rintro a rfl K
  unfold f_X12_seed
  refine z_iload_n K 1 rfl dX12_seed_0 ?_
  refine z_iconst K ci_0 dX12_seed_1 ?_
  refine z_ldcw K cst_X12_440 dX12_seed_2 ?_
  refine z_cSi (As := [.int v1, .int (0 : Int32), .int (65535 : Int32)]) (rest := []) K (t_X12_in a.1 (d - 1) (by omega) v1 (0 : Int32) (65535 : Int32) s) mf_X12_in ml_X12_171 (Nat.le_of_ble_eq_true rfl) (by omega) rfl rfl (Nat.le_of_ble_eq_true rfl) dX12_seed_5 (fun r2 s1 => ?_)
  refine z_if_ne K (tgt := 13) dX12_seed_8 (by decide) ?_ ?_
  · refine z_aload_n K 0 rfl dX12_seed_13 ?_
    refine z_iload_n K 1 rfl dX12_seed_14 ?_
    refine z_puti K fw_X12_164 ob_69_1 dX12_seed_15 ?_
    refine z_ltm (fun s3 => ?_)
    refine z_iconst K ci_1 dX12_seed_18 ?_
    exact z_zret (Or.inr rfl) K dX12_seed_19
  · refine z_iconst K ci_0 dX12_seed_11 ?_
    exact z_zret (Or.inl rfl) K dX12_seed_12
def f_X12_guestBeside (F : Nat) (v1 : Int32) (v2 : Int32) (s : zM) : Option (Int32 × zM) :=
  if zin v1 16 = true then
    bnd (f_X12_beside (zg s 71 (v1).toNatClampNeg) v2 s) (fun r2 s1 =>
    if r2 = (-1 : Int32) then
      some ((-1 : Int32), s1)
    else
      bnd (f_X12_guestAt F r2 s1) (fun r4 s3 =>
      some (r4, s3)))
  else none
set_option maxRecDepth 100000 in
set_option maxHeartbeats 4000000 in
theorem t_X12_guestBeside (w : zWd) (F : Nat) (d : Nat) (hd : 2 ≤ d) (v1 : Int32) (v2 : Int32) (s : zM) : zMt w yX12_guestBeside cX12_guestBeside 4 (some .int) d zφN zφN zri [.ref (w.2.2.2 + 69), .int v1, .int v2] s (f_X12_guestBeside F v1 v2 s) := by
  refine zMtN_of (own := RX12) rfl (by decide +kernel) (Nat.le_of_ble_eq_true rfl) cd_X12_guestBeside [(0, .ref (w.2.2.2 + 69)), (1, .int v1), (2, .int v2)] rfl ?_
  rintro a rfl K
  unfold f_X12_guestBeside
  refine z_aload_n K 0 rfl dX12_guestBeside_0 ?_
  refine z_getr K fd_X12_13 ob_69_3 dX12_guestBeside_1 ?_
  refine z_iload_n K 1 rfl dX12_guestBeside_4 ?_
  refine z_iald K ar_71 dX12_guestBeside_5 ?_
  refine z_iload_n K 2 rfl dX12_guestBeside_6 ?_
  refine z_cSi (As := [.int (zg s 71 (v1).toNatClampNeg), .int v2]) (rest := []) K (t_X12_beside a.1 (d - 1) (by omega) (zg s 71 (v1).toNatClampNeg) v2 s) mf_X12_beside ml_X12_306 (Nat.le_of_ble_eq_true rfl) (by omega) rfl rfl (Nat.le_of_ble_eq_true rfl) dX12_guestBeside_7 (fun r2 s1 => ?_)
  refine z_istore_n K (lv' := [(3, .int r2), (0, .ref (a.1.2.2.2 + 69)), (1, .int v1), (2, .int v2)]) dX12_guestBeside_10 rfl (Nat.le_of_ble_eq_true rfl) rfl ?_
  refine z_iload_n K 0 rfl dX12_guestBeside_11 ?_
  refine z_iconst K ci_m1 dX12_guestBeside_12 ?_
  refine z_icmp_ne K (tgt := 20) dX12_guestBeside_13 (by decide) ?_ ?_
  · refine z_aload_n K 1 rfl dX12_guestBeside_20 ?_
    refine z_iload_n K 0 rfl dX12_guestBeside_21 ?_
    refine z_cVi (As := [.int r2]) (rest := []) K (t_X12_guestAt a.1 F (d - 1) (by omega) r2 s1) mf_X12_guestAt ml_X12_179 (Nat.le_of_ble_eq_true rfl) (by omega) rfl rc_69 rfl (Nat.le_of_ble_eq_true rfl) dX12_guestBeside_22 (fun r4 s3 => ?_)
    exact z_iret K dX12_guestBeside_25
  · refine z_iconst K ci_m1 dX12_guestBeside_16 ?_
    refine z_goto K (tgt := 25) dX12_guestBeside_17 (by decide) ?_
    exact z_iret K dX12_guestBeside_25
def f_X12_draw_L16 (F : Nat) (k139 : Int32 → zM → Option (Int32 × zM)) (v1 : Int32) : Nat → Int32 → Int32 → zM → Option (Int32 × zM)
  | 0, _, _, _ => none
  | n + 1, v2, v3, s =>
    if v3 < v1 then
      lt (zs s 69 1 ((((25173 : Int32) * (zg s 69 1)) + (13849 : Int32)) - (((25173 : Int32) * (zg s 69 1)) + (13849 : Int32)) / (65536 : Int32) * (65536 : Int32))) (fun s3 =>
      lt (((zg s3 69 1) - (zg s3 69 1) / (16 : Int32) * (16 : Int32))) (fun y4 =>
      bnd (f_X12_isGuest y4 s3) (fun r6 s5 =>
      if r6 = 0 then
        lt (v3 + (1 : Int32)) (fun y7 =>
        f_X12_draw_L16 F k139 v1 n v2 y7 s5)
      else
        bnd (f_X12_sits y4 s5) (fun r9 s8 =>
        if r9 = 0 then
          lt (v3 + (1 : Int32)) (fun y20 =>
          f_X12_draw_L16 F k139 v1 n v2 y20 s8)
        else
          bnd (f_X12_guestBeside F y4 (((zg s8 69 1) / (16 : Int32)) - ((zg s8 69 1) / (16 : Int32)) / (3 : Int32) * (3 : Int32)) s8) (fun r11 s10 =>
          if r11 = (-1 : Int32) then
            lt (v3 + (1 : Int32)) (fun y12 =>
            f_X12_draw_L16 F k139 v1 n v2 y12 s10)
          else
            bnd (f_X12_mayPass F y4 r11 (1 : Int32) s10) (fun r14 s13 =>
            if r14 = 0 then
              lt (v3 + (1 : Int32)) (fun y15 =>
              f_X12_draw_L16 F k139 v1 n v2 y15 s13)
            else
              if zin y4 16 = true then
                if (zg s13 107 (y4).toNatClampNeg) < (1 : Int32) then
                  lt (v3 + (1 : Int32)) (fun y19 =>
                  f_X12_draw_L16 F k139 v1 n v2 y19 s13)
                else
                  bnd (f_X12_hands y4 r11 (1 : Int32) s13) (fun _ s16 =>
                  lt ((v2 + (1 : Int32))) (fun y17 =>
                  lt (v3 + (1 : Int32)) (fun y18 =>
                  f_X12_draw_L16 F k139 v1 n y17 y18 s16)))
              else none))))))
    else
      k139 v2 s
set_option maxRecDepth 100000 in
set_option maxHeartbeats 4000000 in
theorem t_X12_draw_L16 {a : zA} {d : Nat} (F : Nat) (K : zOK a cX12_draw 6 RX12 (some .int) d) (hd : 5 ≤ d) {k139 : Int32 → zM → Option (Int32 × zM)} (v1 : Int32) (h139 : ∀ (v2 : Int32) (s : zM), zJ a 6 (zG a zφN zri) zφN 139 [(2, .int v2)] [] s (k139 v2 s)) : ∀ (n : Nat) (v2 : Int32) (v3 : Int32) (s : zM), zJ a 6 (zG a zφN zri) zφN 16 [(0, .ref (a.1.2.2.2 + 69)), (1, .int v1), (2, .int v2), (3, .int v3)] [] s (f_X12_draw_L16 F k139 v1 n v2 v3 s) := by
  intro n
  induction n with
  | zero => intros; exact z_none
  | succ n ih =>
    intro v2 v3 s
    rw [f_X12_draw_L16]
    refine z_iload_n K 3 rfl dX12_draw_16 ?_
    refine z_iload_n K 1 rfl dX12_draw_17 ?_
    refine z_icmp_ge K (tgt := 139) dX12_draw_18 (by decide) ?_ ?_
    · refine z_sub [2] rfl ?_
      exact h139 v2 s
    · refine z_aload_n K 0 rfl dX12_draw_21 ?_
      refine z_sipush K cs_25173 dX12_draw_22 ?_
      refine z_aload_n K 0 rfl dX12_draw_25 ?_
      refine z_geti K fd_X12_164 ob_69_1 dX12_draw_26 ?_
      refine z_imul K dX12_draw_29 ?_
      refine z_sipush K cs_13849 dX12_draw_30 ?_
      refine z_iadd K dX12_draw_33 ?_
      refine z_ldcw K cst_X12_441 dX12_draw_34 ?_
      refine z_iremc K (by decide) dX12_draw_37 ?_
      refine z_puti K fw_X12_164 ob_69_1 dX12_draw_38 ?_
      refine z_ltm (fun s3 => ?_)
      refine z_aload_n K 0 rfl dX12_draw_41 ?_
      refine z_geti K fd_X12_164 ob_69_1 dX12_draw_42 ?_
      refine z_bipush K cb_16 dX12_draw_45 ?_
      refine z_iremc K (by decide) dX12_draw_47 ?_
      refine z_topi (fun y4 => ?_)
      refine z_istore K (lv' := [(4, .int y4), (0, .ref (a.1.2.2.2 + 69)), (1, .int v1), (2, .int v2), (3, .int v3)]) dX12_draw_48 (Nat.le_of_ble_eq_true rfl) rfl ?_
      refine z_aload_n K 1 rfl dX12_draw_50 ?_
      refine z_iload K 0 rfl dX12_draw_51 ?_
      refine z_cVi (As := [.int y4]) (rest := []) K (t_X12_isGuest a.1 (d - 1) (by omega) y4 s3) mf_X12_isGuest ml_X12_183 (Nat.le_of_ble_eq_true rfl) (by omega) rfl rc_69 rfl (Nat.le_of_ble_eq_true rfl) dX12_draw_53 (fun r6 s5 => ?_)
      refine z_if_eq K (tgt := 133) dX12_draw_56 (by decide) ?_ ?_
      · refine z_iincN K (j := 4) (lv' := [(4, .int y4), (0, .ref (a.1.2.2.2 + 69)), (1, .int v1), (2, .int v2)]) ci_1 rfl dX12_draw_133 (Nat.le_of_ble_eq_true rfl) rfl (fun y7 => ?_)
        refine z_goto K (tgt := 16) dX12_draw_136 (by decide) ?_
        refine z_sub [2, 3, 4, 0] rfl ?_
        exact ih v2 y7 s5
      · refine z_aload_n K 1 rfl dX12_draw_59 ?_
        refine z_iload K 0 rfl dX12_draw_60 ?_
        refine z_cVi (As := [.int y4]) (rest := []) K (t_X12_sits a.1 (d - 1) (by omega) y4 s5) mf_X12_sits ml_X12_309 (Nat.le_of_ble_eq_true rfl) (by omega) rfl rc_69 rfl (Nat.le_of_ble_eq_true rfl) dX12_draw_62 (fun r9 s8 => ?_)
        refine z_if_ne K (tgt := 71) dX12_draw_65 (by decide) ?_ ?_
        · refine z_aload_n K 1 rfl dX12_draw_71 ?_
          refine z_iload K 0 rfl dX12_draw_72 ?_
          refine z_aload_n K 1 rfl dX12_draw_74 ?_
          refine z_geti K fd_X12_164 ob_69_1 dX12_draw_75 ?_
          refine z_bipush K cb_16 dX12_draw_78 ?_
          refine z_idivc K (by decide) dX12_draw_80 ?_
          refine z_iconst K ci_3 dX12_draw_81 ?_
          refine z_iremc K (by decide) dX12_draw_82 ?_
          refine z_cVi (As := [.int y4, .int (((zg s8 69 1) / (16 : Int32)) - ((zg s8 69 1) / (16 : Int32)) / (3 : Int32) * (3 : Int32))]) (rest := []) K (t_X12_guestBeside a.1 F (d - 1) (by omega) y4 (((zg s8 69 1) / (16 : Int32)) - ((zg s8 69 1) / (16 : Int32)) / (3 : Int32) * (3 : Int32)) s8) mf_X12_guestBeside ml_X12_442 (Nat.le_of_ble_eq_true rfl) (by omega) rfl rc_69 rfl (Nat.le_of_ble_eq_true rfl) dX12_draw_83 (fun r11 s10 => ?_)
          refine z_istore K (lv' := [(5, .int r11), (4, .int y4), (0, .ref (a.1.2.2.2 + 69)), (1, .int v1), (2, .int v2), (3, .int v3)]) dX12_draw_86 (Nat.le_of_ble_eq_true rfl) rfl ?_
          refine z_iload K 0 rfl dX12_draw_88 ?_
          refine z_iconst K ci_m1 dX12_draw_90 ?_
          refine z_icmp_eq K (tgt := 133) dX12_draw_91 (by decide) ?_ ?_
          · refine z_iincN K (j := 5) (lv' := [(5, .int r11), (4, .int y4), (0, .ref (a.1.2.2.2 + 69)), (1, .int v1), (2, .int v2)]) ci_1 rfl dX12_draw_133 (Nat.le_of_ble_eq_true rfl) rfl (fun y12 => ?_)
            refine z_goto K (tgt := 16) dX12_draw_136 (by decide) ?_
            refine z_sub [3, 4, 5, 0] rfl ?_
            exact ih v2 y12 s10
          · refine z_aload_n K 2 rfl dX12_draw_94 ?_
            refine z_iload K 1 rfl dX12_draw_95 ?_
            refine z_iload K 0 rfl dX12_draw_97 ?_
            refine z_iconst K ci_1 dX12_draw_99 ?_
            refine z_cVi (As := [.int y4, .int r11, .int (1 : Int32)]) (rest := []) K (t_X12_mayPass a.1 F (d - 1) (by omega) y4 r11 (1 : Int32) s10) mf_X12_mayPass ml_X12_433 (Nat.le_of_ble_eq_true rfl) (by omega) rfl rc_69 rfl (Nat.le_of_ble_eq_true rfl) dX12_draw_100 (fun r14 s13 => ?_)
            refine z_if_eq K (tgt := 133) dX12_draw_103 (by decide) ?_ ?_
            · refine z_iincN K (j := 5) (lv' := [(5, .int r11), (4, .int y4), (0, .ref (a.1.2.2.2 + 69)), (1, .int v1), (2, .int v2)]) ci_1 rfl dX12_draw_133 (Nat.le_of_ble_eq_true rfl) rfl (fun y15 => ?_)
              refine z_goto K (tgt := 16) dX12_draw_136 (by decide) ?_
              refine z_sub [3, 4, 5, 0] rfl ?_
              exact ih v2 y15 s13
            · refine z_aload_n K 2 rfl dX12_draw_106 ?_
              refine z_getr K fd_X12_122 ob_69_58 dX12_draw_107 ?_
              refine z_iload K 1 rfl dX12_draw_110 ?_
              refine z_iald K ar_107 dX12_draw_112 ?_
              refine z_iconst K ci_1 dX12_draw_113 ?_
              refine z_icmp_ge K (tgt := 120) dX12_draw_114 (by decide) ?_ ?_
              · refine z_aload_n K 2 rfl dX12_draw_120 ?_
                refine z_iload K 1 rfl dX12_draw_121 ?_
                refine z_iload K 0 rfl dX12_draw_123 ?_
                refine z_iconst K ci_1 dX12_draw_125 ?_
                refine z_cVv (As := [.int y4, .int r11, .int (1 : Int32)]) (rest := []) K (t_X12_hands a.1 (d - 1) (by omega) y4 r11 (1 : Int32) s13) mf_X12_hands ml_X12_436 (Nat.le_of_ble_eq_true rfl) (by omega) rfl rc_69 rfl (Nat.le_of_ble_eq_true rfl) dX12_draw_126 (fun _ s16 => ?_)
                refine z_iload_n K 4 rfl dX12_draw_129 ?_
                refine z_iconst K ci_1 dX12_draw_130 ?_
                refine z_iadd K dX12_draw_131 ?_
                refine z_topi (fun y17 => ?_)
                refine z_istore_n K (lv' := [(2, .int y17), (5, .int r11), (4, .int y4), (0, .ref (a.1.2.2.2 + 69)), (1, .int v1), (3, .int v3)]) dX12_draw_132 rfl (Nat.le_of_ble_eq_true rfl) rfl ?_
                refine z_iincN K (j := 5) (lv' := [(2, .int y17), (5, .int r11), (4, .int y4), (0, .ref (a.1.2.2.2 + 69)), (1, .int v1)]) ci_1 rfl dX12_draw_133 (Nat.le_of_ble_eq_true rfl) rfl (fun y18 => ?_)
                refine z_goto K (tgt := 16) dX12_draw_136 (by decide) ?_
                refine z_sub [4, 5, 1, 0] rfl ?_
                exact ih y17 y18 s16
              · refine z_goto K (tgt := 133) dX12_draw_117 (by decide) ?_
                refine z_iincN K (j := 5) (lv' := [(5, .int r11), (4, .int y4), (0, .ref (a.1.2.2.2 + 69)), (1, .int v1), (2, .int v2)]) ci_1 rfl dX12_draw_133 (Nat.le_of_ble_eq_true rfl) rfl (fun y19 => ?_)
                refine z_goto K (tgt := 16) dX12_draw_136 (by decide) ?_
                refine z_sub [3, 4, 5, 0] rfl ?_
                exact ih v2 y19 s13
        · refine z_goto K (tgt := 133) dX12_draw_68 (by decide) ?_
          refine z_iincN K (j := 4) (lv' := [(4, .int y4), (0, .ref (a.1.2.2.2 + 69)), (1, .int v1), (2, .int v2)]) ci_1 rfl dX12_draw_133 (Nat.le_of_ble_eq_true rfl) rfl (fun y20 => ?_)
          refine z_goto K (tgt := 16) dX12_draw_136 (by decide) ?_
          refine z_sub [2, 3, 4, 0] rfl ?_
          exact ih v2 y20 s8
def f_X12_draw (F : Nat) (v1 : Int32) (s : zM) : Option (Int32 × zM) :=
  bnd (f_X12_in v1 (1 : Int32) (60 : Int32) s) (fun r2 s1 =>
  if r2 = 0 then
    some ((-1 : Int32), s1)
  else
    f_X12_draw_L16 F (fun y22 s21 =>
      some (y22, s21)) v1 F (0 : Int32) (0 : Int32) s1)
set_option maxRecDepth 100000 in
set_option maxHeartbeats 4000000 in
theorem t_X12_draw (w : zWd) (F : Nat) (d : Nat) (hd : 5 ≤ d) (v1 : Int32) (s : zM) : zMt w yX12_draw cX12_draw 6 (some .int) d zφN zφN zri [.ref (w.2.2.2 + 69), .int v1] s (f_X12_draw F v1 s) := by
  refine zMtN_of (own := RX12) rfl (by decide +kernel) (Nat.le_of_ble_eq_true rfl) cd_X12_draw [(0, .ref (w.2.2.2 + 69)), (1, .int v1)] rfl ?_
  rintro a rfl K
  unfold f_X12_draw
  refine z_iload_n K 1 rfl dX12_draw_0 ?_
  refine z_iconst K ci_1 dX12_draw_1 ?_
  refine z_bipush K cb_60 dX12_draw_2 ?_
  refine z_cSi (As := [.int v1, .int (1 : Int32), .int (60 : Int32)]) (rest := []) K (t_X12_in a.1 (d - 1) (by omega) v1 (1 : Int32) (60 : Int32) s) mf_X12_in ml_X12_171 (Nat.le_of_ble_eq_true rfl) (by omega) rfl rfl (Nat.le_of_ble_eq_true rfl) dX12_draw_4 (fun r2 s1 => ?_)
  refine z_if_ne K (tgt := 12) dX12_draw_7 (by decide) ?_ ?_
  · refine z_iconst K ci_0 dX12_draw_12 ?_
    refine z_istore_n K (lv' := [(2, .int (0 : Int32)), (0, .ref (a.1.2.2.2 + 69)), (1, .int v1)]) dX12_draw_13 rfl (Nat.le_of_ble_eq_true rfl) rfl ?_
    refine z_iconst K ci_0 dX12_draw_14 ?_
    refine z_istore_n K (lv' := [(3, .int (0 : Int32)), (2, .int (0 : Int32)), (0, .ref (a.1.2.2.2 + 69)), (1, .int v1)]) dX12_draw_15 rfl (Nat.le_of_ble_eq_true rfl) rfl ?_
    refine z_sub [2, 3, 1, 0] rfl ?_
    refine t_X12_draw_L16 F K hd v1 (fun y22 s21 => ?_) F (0 : Int32) (0 : Int32) s1
    refine z_iload_n K 0 rfl dX12_draw_139 ?_
    exact z_iret K dX12_draw_140
  · refine z_iconst K ci_m1 dX12_draw_10 ?_
    exact z_iret K dX12_draw_11
def f_X12_copies_L2 (F : Nat) (p : Nat) (q : Nat) (k19 : zM → Option (Unit × zM)) (v2 : Int32) : Nat → Int32 → zM → Option (Unit × zM)
  | 0, _, _ => none
  | n + 1, v3, s =>
    if v3 < v2 then
      if zin v3 (zlen p) = true then
        if zin v3 (zlen q) = true then
          lt (zs s q (v3).toNatClampNeg (zg s p (v3).toNatClampNeg)) (fun s1 =>
          lt (v3 + (1 : Int32)) (fun y2 =>
          f_X12_copies_L2 F p q k19 v2 n y2 s1))
        else none
      else none
    else
      k19 s
set_option maxRecDepth 100000 in
set_option maxHeartbeats 4000000 in
theorem t_X12_copies_L2 {a : zA} {d : Nat} (F : Nat) (K : zOK a cX12_copies 4 RX12 none d) (hd : 0 ≤ d) (p : Nat) (q : Nat) (hp : zKD[p]? = some (.inl (0, zlen p))) (hq : zKD[q]? = some (.inl (0, zlen q))) {k19 : zM → Option (Unit × zM)} (v2 : Int32) (h19 : ∀ (s : zM), zJ a 4 (zG a zφN zrv) zφN 19 [] [] s (k19 s)) : ∀ (n : Nat) (v3 : Int32) (s : zM), zJ a 4 (zG a zφN zrv) zφN 2 [(0, .ref (a.1.2.2.2 + p)), (1, .ref (a.1.2.2.2 + q)), (2, .int v2), (3, .int v3)] [] s (f_X12_copies_L2 F p q k19 v2 n v3 s) := by
  intro n
  induction n with
  | zero => intros; exact z_none
  | succ n ih =>
    intro v3 s
    rw [f_X12_copies_L2]
    refine z_iload_n K 3 rfl dX12_copies_2 ?_
    refine z_iload_n K 2 rfl dX12_copies_3 ?_
    refine z_icmp_ge K (tgt := 19) dX12_copies_4 (by decide) ?_ ?_
    · refine z_sub [] rfl ?_
      exact h19 s
    · refine z_aload_n K 1 rfl dX12_copies_7 ?_
      refine z_iload_n K 3 rfl dX12_copies_8 ?_
      refine z_aload_n K 0 rfl dX12_copies_9 ?_
      refine z_iload_n K 3 rfl dX12_copies_10 ?_
      refine z_iald K hp dX12_copies_11 ?_
      refine z_iast K hq dX12_copies_12 ?_
      refine z_ltm (fun s1 => ?_)
      refine z_iincN K (j := 3) (lv' := [(0, .ref (a.1.2.2.2 + p)), (1, .ref (a.1.2.2.2 + q)), (2, .int v2)]) ci_1 rfl dX12_copies_13 (Nat.le_of_ble_eq_true rfl) rfl (fun y2 => ?_)
      refine z_goto K (tgt := 2) dX12_copies_16 (by decide) ?_
      refine z_sub [1, 2, 3, 0] rfl ?_
      exact ih y2 s1
def f_X12_copies (F : Nat) (p : Nat) (q : Nat) (v2 : Int32) (s : zM) : Option (Unit × zM) :=
  f_X12_copies_L2 F p q (fun s3 =>
    some ((), s3)) v2 F (0 : Int32) s
set_option maxRecDepth 100000 in
set_option maxHeartbeats 4000000 in
theorem t_X12_copies (w : zWd) (F : Nat) (d : Nat) (hd : 0 ≤ d) (p : Nat) (q : Nat) (hp : zKD[p]? = some (.inl (0, zlen p))) (hq : zKD[q]? = some (.inl (0, zlen q))) (v2 : Int32) (s : zM) : zMt w yX12_copies cX12_copies 4 none d zφN zφN zrv [.ref (w.2.2.2 + p), .ref (w.2.2.2 + q), .int v2] s (f_X12_copies F p q v2 s) := by
  refine zMtN_of (own := RX12) rfl (by decide +kernel) (Nat.le_of_ble_eq_true rfl) cd_X12_copies [(0, .ref (w.2.2.2 + p)), (1, .ref (w.2.2.2 + q)), (2, .int v2)] rfl ?_
  rintro a rfl K
  unfold f_X12_copies
  refine z_iconst K ci_0 dX12_copies_0 ?_
  refine z_istore_n K (lv' := [(3, .int (0 : Int32)), (0, .ref (a.1.2.2.2 + p)), (1, .ref (a.1.2.2.2 + q)), (2, .int v2)]) dX12_copies_1 rfl (Nat.le_of_ble_eq_true rfl) rfl ?_
  refine z_sub [1, 2, 3, 0] rfl ?_
  refine t_X12_copies_L2 F K hd p q hp hq v2 (fun s3 => ?_) F (0 : Int32) s
  exact z_vret K dX12_copies_19
def f_X12_keep_L130 (F : Nat) (k160 : Int32 → zM → Option (Int32 × zM)) : Nat → Int32 → Int32 → zM → Option (Int32 × zM)
  | 0, _, _, _ => none
  | n + 1, v1, v2, s =>
    if v2 < (zg s 69 0) then
      bnd (f_X12_sits v2 s) (fun r13 s12 =>
      if r13 = 0 then
        lt ((v1 + (0 : Int32))) (fun y14 =>
        lt (v2 + (1 : Int32)) (fun y15 =>
        f_X12_keep_L130 F k160 n y14 y15 s12))
      else
        lt ((v1 + (1 : Int32))) (fun y16 =>
        lt (v2 + (1 : Int32)) (fun y17 =>
        f_X12_keep_L130 F k160 n y16 y17 s12)))
    else
      k160 v1 s
set_option maxRecDepth 100000 in
set_option maxHeartbeats 4000000 in
theorem t_X12_keep_L130 {a : zA} {d : Nat} (F : Nat) (K : zOK a cX12_keep 3 RX12 (some .int) d) (hd : 1 ≤ d) {k160 : Int32 → zM → Option (Int32 × zM)} (h160 : ∀ (v1 : Int32) (s : zM), zJ a 3 (zG a zφN zri) zφN 160 [(1, .int v1)] [] s (k160 v1 s)) : ∀ (n : Nat) (v1 : Int32) (v2 : Int32) (s : zM), zJ a 3 (zG a zφN zri) zφN 130 [(0, .ref (a.1.2.2.2 + 69)), (1, .int v1), (2, .int v2)] [] s (f_X12_keep_L130 F k160 n v1 v2 s) := by
  intro n
  induction n with
  | zero => intros; exact z_none
  | succ n ih =>
    intro v1 v2 s
    rw [f_X12_keep_L130]
    refine z_iload_n K 2 rfl dX12_keep_130 ?_
    refine z_aload_n K 0 rfl dX12_keep_131 ?_
    refine z_geti K fd_X12_168 ob_69_0 dX12_keep_132 ?_
    refine z_icmp_ge K (tgt := 160) dX12_keep_135 (by decide) ?_ ?_
    · refine z_sub [1] rfl ?_
      exact h160 v1 s
    · refine z_iload_n K 1 rfl dX12_keep_138 ?_
      refine z_aload_n K 0 rfl dX12_keep_139 ?_
      refine z_iload_n K 2 rfl dX12_keep_140 ?_
      refine z_cVi (As := [.int v2]) (rest := [.int v1]) K (t_X12_sits a.1 (d - 1) (by omega) v2 s) mf_X12_sits ml_X12_309 (Nat.le_of_ble_eq_true rfl) (by omega) rfl rc_69 rfl (Nat.le_of_ble_eq_true rfl) dX12_keep_141 (fun r13 s12 => ?_)
      refine z_if_eq K (tgt := 151) dX12_keep_144 (by decide) ?_ ?_
      · refine z_iconst K ci_0 dX12_keep_151 ?_
        refine z_iadd K dX12_keep_152 ?_
        refine z_topi (fun y14 => ?_)
        refine z_istore_n K (lv' := [(1, .int y14), (0, .ref (a.1.2.2.2 + 69)), (2, .int v2)]) dX12_keep_153 rfl (Nat.le_of_ble_eq_true rfl) rfl ?_
        refine z_iincN K (j := 2) (lv' := [(1, .int y14), (0, .ref (a.1.2.2.2 + 69))]) ci_1 rfl dX12_keep_154 (Nat.le_of_ble_eq_true rfl) rfl (fun y15 => ?_)
        refine z_goto K (tgt := 130) dX12_keep_157 (by decide) ?_
        refine z_sub [2, 1, 0] rfl ?_
        exact ih y14 y15 s12
      · refine z_iconst K ci_1 dX12_keep_147 ?_
        refine z_goto K (tgt := 152) dX12_keep_148 (by decide) ?_
        refine z_iadd K dX12_keep_152 ?_
        refine z_topi (fun y16 => ?_)
        refine z_istore_n K (lv' := [(1, .int y16), (0, .ref (a.1.2.2.2 + 69)), (2, .int v2)]) dX12_keep_153 rfl (Nat.le_of_ble_eq_true rfl) rfl ?_
        refine z_iincN K (j := 2) (lv' := [(1, .int y16), (0, .ref (a.1.2.2.2 + 69))]) ci_1 rfl dX12_keep_154 (Nat.le_of_ble_eq_true rfl) rfl (fun y17 => ?_)
        refine z_goto K (tgt := 130) dX12_keep_157 (by decide) ?_
        refine z_sub [2, 1, 0] rfl ?_
        exact ih y16 y17 s12
def f_X12_keep (F : Nat) (s : zM) : Option (Int32 × zM) :=
  lt (zs s 69 64 (1 : Int32)) (fun s1 =>
  lt (zs s1 69 65 (zg s1 69 0)) (fun s2 =>
  lt (zs s2 69 66 (zg s2 69 1)) (fun s3 =>
  bnd (f_X12_copies F 71 113 (16 : Int32) s3) (fun _ s4 =>
  bnd (f_X12_copies F 100 114 (40 : Int32) s4) (fun _ s5 =>
  bnd (f_X12_copies F 107 115 (16 : Int32) s5) (fun _ s6 =>
  bnd (f_X12_copies F 108 116 (16 : Int32) s6) (fun _ s7 =>
  bnd (f_X12_copies F 109 117 (16 : Int32) s7) (fun _ s8 =>
  bnd (f_X12_copies F 110 118 (16 : Int32) s8) (fun _ s9 =>
  bnd (f_X12_copies F 111 119 (16 : Int32) s9) (fun _ s10 =>
  bnd (f_X12_copies F 112 120 (256 : Int32) s10) (fun _ s11 =>
  f_X12_keep_L130 F (fun y19 s18 =>
    some (y19, s18)) F (0 : Int32) (0 : Int32) s11)))))))))))
set_option maxRecDepth 100000 in
set_option maxHeartbeats 4000000 in
theorem t_X12_keep (w : zWd) (F : Nat) (d : Nat) (hd : 1 ≤ d) (s : zM) : zMt w yX12_keep cX12_keep 3 (some .int) d zφN zφN zri [.ref (w.2.2.2 + 69)] s (f_X12_keep F s) := by
  refine zMtN_of (own := RX12) rfl (by decide +kernel) (Nat.le_of_ble_eq_true rfl) cd_X12_keep [(0, .ref (w.2.2.2 + 69))] rfl ?_
  rintro a rfl K
  unfold f_X12_keep
  refine z_aload_n K 0 rfl dX12_keep_0 ?_
  refine z_iconst K ci_1 dX12_keep_1 ?_
  refine z_putz K (Or.inr rfl) fw_X12_445 ob_69_64 dX12_keep_2 ?_
  refine z_ltm (fun s1 => ?_)
  refine z_aload_n K 0 rfl dX12_keep_5 ?_
  refine z_aload_n K 0 rfl dX12_keep_6 ?_
  refine z_geti K fd_X12_168 ob_69_0 dX12_keep_7 ?_
  refine z_puti K fw_X12_449 ob_69_65 dX12_keep_10 ?_
  refine z_ltm (fun s2 => ?_)
  refine z_aload_n K 0 rfl dX12_keep_13 ?_
  refine z_aload_n K 0 rfl dX12_keep_14 ?_
  refine z_geti K fd_X12_164 ob_69_1 dX12_keep_15 ?_
  refine z_puti K fw_X12_452 ob_69_66 dX12_keep_18 ?_
  refine z_ltm (fun s3 => ?_)
  refine z_aload_n K 0 rfl dX12_keep_21 ?_
  refine z_getr K fd_X12_13 ob_69_3 dX12_keep_22 ?_
  refine z_aload_n K 0 rfl dX12_keep_25 ?_
  refine z_getr K fd_X12_140 ob_69_67 dX12_keep_26 ?_
  refine z_bipush K cb_16 dX12_keep_29 ?_
  refine z_cSv (As := [.ref (a.1.2.2.2 + 71), .ref (a.1.2.2.2 + 113), .int (16 : Int32)]) (rest := []) K (t_X12_copies a.1 F (d - 1) (by omega) 71 113 ar_71 ar_113 (16 : Int32) s3) mf_X12_copies ml_X12_455 (Nat.le_of_ble_eq_true rfl) (by omega) rfl rfl (Nat.le_of_ble_eq_true rfl) dX12_keep_31 (fun _ s4 => ?_)
  refine z_aload_n K 0 rfl dX12_keep_34 ?_
  refine z_getr K fd_X12_101 ob_69_51 dX12_keep_35 ?_
  refine z_aload_n K 0 rfl dX12_keep_38 ?_
  refine z_getr K fd_X12_143 ob_69_68 dX12_keep_39 ?_
  refine z_bipush K cb_40 dX12_keep_42 ?_
  refine z_cSv (As := [.ref (a.1.2.2.2 + 100), .ref (a.1.2.2.2 + 114), .int (40 : Int32)]) (rest := []) K (t_X12_copies a.1 F (d - 1) (by omega) 100 114 ar_100 ar_114 (40 : Int32) s4) mf_X12_copies ml_X12_455 (Nat.le_of_ble_eq_true rfl) (by omega) rfl rfl (Nat.le_of_ble_eq_true rfl) dX12_keep_44 (fun _ s5 => ?_)
  refine z_aload_n K 0 rfl dX12_keep_47 ?_
  refine z_getr K fd_X12_122 ob_69_58 dX12_keep_48 ?_
  refine z_aload_n K 0 rfl dX12_keep_51 ?_
  refine z_getr K fd_X12_146 ob_69_69 dX12_keep_52 ?_
  refine z_bipush K cb_16 dX12_keep_55 ?_
  refine z_cSv (As := [.ref (a.1.2.2.2 + 107), .ref (a.1.2.2.2 + 115), .int (16 : Int32)]) (rest := []) K (t_X12_copies a.1 F (d - 1) (by omega) 107 115 ar_107 ar_115 (16 : Int32) s5) mf_X12_copies ml_X12_455 (Nat.le_of_ble_eq_true rfl) (by omega) rfl rfl (Nat.le_of_ble_eq_true rfl) dX12_keep_57 (fun _ s6 => ?_)
  refine z_aload_n K 0 rfl dX12_keep_60 ?_
  refine z_getr K fd_X12_125 ob_69_59 dX12_keep_61 ?_
  refine z_aload_n K 0 rfl dX12_keep_64 ?_
  refine z_getr K fd_X12_149 ob_69_70 dX12_keep_65 ?_
  refine z_bipush K cb_16 dX12_keep_68 ?_
  refine z_cSv (As := [.ref (a.1.2.2.2 + 108), .ref (a.1.2.2.2 + 116), .int (16 : Int32)]) (rest := []) K (t_X12_copies a.1 F (d - 1) (by omega) 108 116 ar_108 ar_116 (16 : Int32) s6) mf_X12_copies ml_X12_455 (Nat.le_of_ble_eq_true rfl) (by omega) rfl rfl (Nat.le_of_ble_eq_true rfl) dX12_keep_70 (fun _ s7 => ?_)
  refine z_aload_n K 0 rfl dX12_keep_73 ?_
  refine z_getr K fd_X12_128 ob_69_60 dX12_keep_74 ?_
  refine z_aload_n K 0 rfl dX12_keep_77 ?_
  refine z_getr K fd_X12_152 ob_69_71 dX12_keep_78 ?_
  refine z_bipush K cb_16 dX12_keep_81 ?_
  refine z_cSv (As := [.ref (a.1.2.2.2 + 109), .ref (a.1.2.2.2 + 117), .int (16 : Int32)]) (rest := []) K (t_X12_copies a.1 F (d - 1) (by omega) 109 117 ar_109 ar_117 (16 : Int32) s7) mf_X12_copies ml_X12_455 (Nat.le_of_ble_eq_true rfl) (by omega) rfl rfl (Nat.le_of_ble_eq_true rfl) dX12_keep_83 (fun _ s8 => ?_)
  refine z_aload_n K 0 rfl dX12_keep_86 ?_
  refine z_getr K fd_X12_131 ob_69_61 dX12_keep_87 ?_
  refine z_aload_n K 0 rfl dX12_keep_90 ?_
  refine z_getr K fd_X12_155 ob_69_72 dX12_keep_91 ?_
  refine z_bipush K cb_16 dX12_keep_94 ?_
  refine z_cSv (As := [.ref (a.1.2.2.2 + 110), .ref (a.1.2.2.2 + 118), .int (16 : Int32)]) (rest := []) K (t_X12_copies a.1 F (d - 1) (by omega) 110 118 ar_110 ar_118 (16 : Int32) s8) mf_X12_copies ml_X12_455 (Nat.le_of_ble_eq_true rfl) (by omega) rfl rfl (Nat.le_of_ble_eq_true rfl) dX12_keep_96 (fun _ s9 => ?_)
  refine z_aload_n K 0 rfl dX12_keep_99 ?_
  refine z_getr K fd_X12_134 ob_69_62 dX12_keep_100 ?_
  refine z_aload_n K 0 rfl dX12_keep_103 ?_
  refine z_getr K fd_X12_158 ob_69_73 dX12_keep_104 ?_
  refine z_bipush K cb_16 dX12_keep_107 ?_
  refine z_cSv (As := [.ref (a.1.2.2.2 + 111), .ref (a.1.2.2.2 + 119), .int (16 : Int32)]) (rest := []) K (t_X12_copies a.1 F (d - 1) (by omega) 111 119 ar_111 ar_119 (16 : Int32) s9) mf_X12_copies ml_X12_455 (Nat.le_of_ble_eq_true rfl) (by omega) rfl rfl (Nat.le_of_ble_eq_true rfl) dX12_keep_109 (fun _ s10 => ?_)
  refine z_aload_n K 0 rfl dX12_keep_112 ?_
  refine z_getr K fd_X12_137 ob_69_63 dX12_keep_113 ?_
  refine z_aload_n K 0 rfl dX12_keep_116 ?_
  refine z_getr K fd_X12_161 ob_69_74 dX12_keep_117 ?_
  refine z_sipush K cs_256 dX12_keep_120 ?_
  refine z_cSv (As := [.ref (a.1.2.2.2 + 112), .ref (a.1.2.2.2 + 120), .int (256 : Int32)]) (rest := []) K (t_X12_copies a.1 F (d - 1) (by omega) 112 120 ar_112 ar_120 (256 : Int32) s10) mf_X12_copies ml_X12_455 (Nat.le_of_ble_eq_true rfl) (by omega) rfl rfl (Nat.le_of_ble_eq_true rfl) dX12_keep_123 (fun _ s11 => ?_)
  refine z_iconst K ci_0 dX12_keep_126 ?_
  refine z_istore_n K (lv' := [(1, .int (0 : Int32)), (0, .ref (a.1.2.2.2 + 69))]) dX12_keep_127 rfl (Nat.le_of_ble_eq_true rfl) rfl ?_
  refine z_iconst K ci_0 dX12_keep_128 ?_
  refine z_istore_n K (lv' := [(2, .int (0 : Int32)), (1, .int (0 : Int32)), (0, .ref (a.1.2.2.2 + 69))]) dX12_keep_129 rfl (Nat.le_of_ble_eq_true rfl) rfl ?_
  refine z_sub [2, 1, 0] rfl ?_
  refine t_X12_keep_L130 F K hd (fun y19 s18 => ?_) F (0 : Int32) (0 : Int32) s11
  refine z_iload_n K 0 rfl dX12_keep_160 ?_
  exact z_iret K dX12_keep_161
def f_X12_undo (F : Nat) (s : zM) : Option (Int32 × zM) :=
  if (zg s 69 64) = 0 then
    some ((0 : Int32), s)
  else
    if (zg s 69 0) = (zg s 69 65) then
      lt (zs s 69 1 (zg s 69 66)) (fun s1 =>
      bnd (f_X12_copies F 113 71 (16 : Int32) s1) (fun _ s2 =>
      bnd (f_X12_copies F 114 100 (40 : Int32) s2) (fun _ s3 =>
      bnd (f_X12_copies F 115 107 (16 : Int32) s3) (fun _ s4 =>
      bnd (f_X12_copies F 116 108 (16 : Int32) s4) (fun _ s5 =>
      bnd (f_X12_copies F 117 109 (16 : Int32) s5) (fun _ s6 =>
      bnd (f_X12_copies F 118 110 (16 : Int32) s6) (fun _ s7 =>
      bnd (f_X12_copies F 119 111 (16 : Int32) s7) (fun _ s8 =>
      bnd (f_X12_copies F 120 112 (256 : Int32) s8) (fun _ s9 =>
      some ((1 : Int32), s9))))))))))
    else
      some ((0 : Int32), s)
set_option maxRecDepth 100000 in
set_option maxHeartbeats 4000000 in
theorem t_X12_undo (w : zWd) (F : Nat) (d : Nat) (hd : 1 ≤ d) (s : zM) : zMt w yX12_undo cX12_undo 1 (some .boolean) d zφN zφN zri [.ref (w.2.2.2 + 69)] s (f_X12_undo F s) := by
  refine zMtN_of (own := RX12) rfl (by decide +kernel) (Nat.le_of_ble_eq_true rfl) cd_X12_undo [(0, .ref (w.2.2.2 + 69))] rfl ?_
  rintro a rfl K
  unfold f_X12_undo
  refine z_aload_n K 0 rfl dX12_undo_0 ?_
  refine z_geti K fd_X12_445 ob_69_64 dX12_undo_1 ?_
  refine z_if_eq K (tgt := 18) dX12_undo_4 (by decide) ?_ ?_
  · refine z_iconst K ci_0 dX12_undo_18 ?_
    exact z_zret (Or.inl rfl) K dX12_undo_19
  · refine z_aload_n K 0 rfl dX12_undo_7 ?_
    refine z_geti K fd_X12_168 ob_69_0 dX12_undo_8 ?_
    refine z_aload_n K 0 rfl dX12_undo_11 ?_
    refine z_geti K fd_X12_449 ob_69_65 dX12_undo_12 ?_
    refine z_icmp_eq K (tgt := 20) dX12_undo_15 (by decide) ?_ ?_
    · refine z_aload_n K 0 rfl dX12_undo_20 ?_
      refine z_aload_n K 0 rfl dX12_undo_21 ?_
      refine z_geti K fd_X12_452 ob_69_66 dX12_undo_22 ?_
      refine z_puti K fw_X12_164 ob_69_1 dX12_undo_25 ?_
      refine z_ltm (fun s1 => ?_)
      refine z_aload_n K 0 rfl dX12_undo_28 ?_
      refine z_getr K fd_X12_140 ob_69_67 dX12_undo_29 ?_
      refine z_aload_n K 0 rfl dX12_undo_32 ?_
      refine z_getr K fd_X12_13 ob_69_3 dX12_undo_33 ?_
      refine z_bipush K cb_16 dX12_undo_36 ?_
      refine z_cSv (As := [.ref (a.1.2.2.2 + 113), .ref (a.1.2.2.2 + 71), .int (16 : Int32)]) (rest := []) K (t_X12_copies a.1 F (d - 1) (by omega) 113 71 ar_113 ar_71 (16 : Int32) s1) mf_X12_copies ml_X12_455 (Nat.le_of_ble_eq_true rfl) (by omega) rfl rfl (Nat.le_of_ble_eq_true rfl) dX12_undo_38 (fun _ s2 => ?_)
      refine z_aload_n K 0 rfl dX12_undo_41 ?_
      refine z_getr K fd_X12_143 ob_69_68 dX12_undo_42 ?_
      refine z_aload_n K 0 rfl dX12_undo_45 ?_
      refine z_getr K fd_X12_101 ob_69_51 dX12_undo_46 ?_
      refine z_bipush K cb_40 dX12_undo_49 ?_
      refine z_cSv (As := [.ref (a.1.2.2.2 + 114), .ref (a.1.2.2.2 + 100), .int (40 : Int32)]) (rest := []) K (t_X12_copies a.1 F (d - 1) (by omega) 114 100 ar_114 ar_100 (40 : Int32) s2) mf_X12_copies ml_X12_455 (Nat.le_of_ble_eq_true rfl) (by omega) rfl rfl (Nat.le_of_ble_eq_true rfl) dX12_undo_51 (fun _ s3 => ?_)
      refine z_aload_n K 0 rfl dX12_undo_54 ?_
      refine z_getr K fd_X12_146 ob_69_69 dX12_undo_55 ?_
      refine z_aload_n K 0 rfl dX12_undo_58 ?_
      refine z_getr K fd_X12_122 ob_69_58 dX12_undo_59 ?_
      refine z_bipush K cb_16 dX12_undo_62 ?_
      refine z_cSv (As := [.ref (a.1.2.2.2 + 115), .ref (a.1.2.2.2 + 107), .int (16 : Int32)]) (rest := []) K (t_X12_copies a.1 F (d - 1) (by omega) 115 107 ar_115 ar_107 (16 : Int32) s3) mf_X12_copies ml_X12_455 (Nat.le_of_ble_eq_true rfl) (by omega) rfl rfl (Nat.le_of_ble_eq_true rfl) dX12_undo_64 (fun _ s4 => ?_)
      refine z_aload_n K 0 rfl dX12_undo_67 ?_
      refine z_getr K fd_X12_149 ob_69_70 dX12_undo_68 ?_
      refine z_aload_n K 0 rfl dX12_undo_71 ?_
      refine z_getr K fd_X12_125 ob_69_59 dX12_undo_72 ?_
      refine z_bipush K cb_16 dX12_undo_75 ?_
      refine z_cSv (As := [.ref (a.1.2.2.2 + 116), .ref (a.1.2.2.2 + 108), .int (16 : Int32)]) (rest := []) K (t_X12_copies a.1 F (d - 1) (by omega) 116 108 ar_116 ar_108 (16 : Int32) s4) mf_X12_copies ml_X12_455 (Nat.le_of_ble_eq_true rfl) (by omega) rfl rfl (Nat.le_of_ble_eq_true rfl) dX12_undo_77 (fun _ s5 => ?_)
      refine z_aload_n K 0 rfl dX12_undo_80 ?_
      refine z_getr K fd_X12_152 ob_69_71 dX12_undo_81 ?_
      refine z_aload_n K 0 rfl dX12_undo_84 ?_
      refine z_getr K fd_X12_128 ob_69_60 dX12_undo_85 ?_
      refine z_bipush K cb_16 dX12_undo_88 ?_
      refine z_cSv (As := [.ref (a.1.2.2.2 + 117), .ref (a.1.2.2.2 + 109), .int (16 : Int32)]) (rest := []) K (t_X12_copies a.1 F (d - 1) (by omega) 117 109 ar_117 ar_109 (16 : Int32) s5) mf_X12_copies ml_X12_455 (Nat.le_of_ble_eq_true rfl) (by omega) rfl rfl (Nat.le_of_ble_eq_true rfl) dX12_undo_90 (fun _ s6 => ?_)
      refine z_aload_n K 0 rfl dX12_undo_93 ?_
      refine z_getr K fd_X12_155 ob_69_72 dX12_undo_94 ?_
      refine z_aload_n K 0 rfl dX12_undo_97 ?_
      refine z_getr K fd_X12_131 ob_69_61 dX12_undo_98 ?_
      refine z_bipush K cb_16 dX12_undo_101 ?_
      refine z_cSv (As := [.ref (a.1.2.2.2 + 118), .ref (a.1.2.2.2 + 110), .int (16 : Int32)]) (rest := []) K (t_X12_copies a.1 F (d - 1) (by omega) 118 110 ar_118 ar_110 (16 : Int32) s6) mf_X12_copies ml_X12_455 (Nat.le_of_ble_eq_true rfl) (by omega) rfl rfl (Nat.le_of_ble_eq_true rfl) dX12_undo_103 (fun _ s7 => ?_)
      refine z_aload_n K 0 rfl dX12_undo_106 ?_
      refine z_getr K fd_X12_158 ob_69_73 dX12_undo_107 ?_
      refine z_aload_n K 0 rfl dX12_undo_110 ?_
      refine z_getr K fd_X12_134 ob_69_62 dX12_undo_111 ?_
      refine z_bipush K cb_16 dX12_undo_114 ?_
      refine z_cSv (As := [.ref (a.1.2.2.2 + 119), .ref (a.1.2.2.2 + 111), .int (16 : Int32)]) (rest := []) K (t_X12_copies a.1 F (d - 1) (by omega) 119 111 ar_119 ar_111 (16 : Int32) s7) mf_X12_copies ml_X12_455 (Nat.le_of_ble_eq_true rfl) (by omega) rfl rfl (Nat.le_of_ble_eq_true rfl) dX12_undo_116 (fun _ s8 => ?_)
      refine z_aload_n K 0 rfl dX12_undo_119 ?_
      refine z_getr K fd_X12_161 ob_69_74 dX12_undo_120 ?_
      refine z_aload_n K 0 rfl dX12_undo_123 ?_
      refine z_getr K fd_X12_137 ob_69_63 dX12_undo_124 ?_
      refine z_sipush K cs_256 dX12_undo_127 ?_
      refine z_cSv (As := [.ref (a.1.2.2.2 + 120), .ref (a.1.2.2.2 + 112), .int (256 : Int32)]) (rest := []) K (t_X12_copies a.1 F (d - 1) (by omega) 120 112 ar_120 ar_112 (256 : Int32) s8) mf_X12_copies ml_X12_455 (Nat.le_of_ble_eq_true rfl) (by omega) rfl rfl (Nat.le_of_ble_eq_true rfl) dX12_undo_130 (fun _ s9 => ?_)
      refine z_iconst K ci_1 dX12_undo_133 ?_
      exact z_zret (Or.inr rfl) K dX12_undo_134
    · refine z_iconst K ci_0 dX12_undo_18 ?_
      exact z_zret (Or.inl rfl) K dX12_undo_19
def f_X12_tapeNumber_L6 (F : Nat) (k37 : Int32 → zM → Option (Int32 × zM)) (v1 : Int32) : Nat → Int32 → Int32 → zM → Option (Int32 × zM)
  | 0, _, _, _ => none
  | n + 1, v2, v3, s =>
    if v3 < (((4 : Int32) * v1) + (4 : Int32)) then
      if zin v3 220 = true then
        lt (((v2 <<< ((8 : Int32) &&& 31)) ||| ((zg s 74 (v3).toNatClampNeg) &&& (255 : Int32)))) (fun y2 =>
        lt (v3 + (1 : Int32)) (fun y3 =>
        f_X12_tapeNumber_L6 F k37 v1 n y2 y3 s))
      else none
    else
      k37 v2 s
set_option maxRecDepth 100000 in
set_option maxHeartbeats 4000000 in
theorem t_X12_tapeNumber_L6 {a : zA} {d : Nat} (F : Nat) (K : zOK a cX12_tapeNumber 4 RX12 (some .int) d) (hd : 0 ≤ d) {k37 : Int32 → zM → Option (Int32 × zM)} (v1 : Int32) (h37 : ∀ (v2 : Int32) (s : zM), zJ a 4 (zG a zφN zri) zφN 37 [(2, .int v2)] [] s (k37 v2 s)) : ∀ (n : Nat) (v2 : Int32) (v3 : Int32) (s : zM), zJ a 4 (zG a zφN zri) zφN 6 [(0, .ref (a.1.2.2.2 + 69)), (1, .int v1), (2, .int v2), (3, .int v3)] [] s (f_X12_tapeNumber_L6 F k37 v1 n v2 v3 s) := by
  intro n
  induction n with
  | zero => intros; exact z_none
  | succ n ih =>
    intro v2 v3 s
    rw [f_X12_tapeNumber_L6]
    refine z_iload_n K 3 rfl dX12_tapeNumber_6 ?_
    refine z_iconst K ci_4 dX12_tapeNumber_7 ?_
    refine z_iload_n K 1 rfl dX12_tapeNumber_8 ?_
    refine z_imul K dX12_tapeNumber_9 ?_
    refine z_iconst K ci_4 dX12_tapeNumber_10 ?_
    refine z_iadd K dX12_tapeNumber_11 ?_
    refine z_icmp_ge K (tgt := 37) dX12_tapeNumber_12 (by decide) ?_ ?_
    · refine z_sub [2] rfl ?_
      exact h37 v2 s
    · refine z_iload_n K 2 rfl dX12_tapeNumber_15 ?_
      refine z_bipush K cb_8 dX12_tapeNumber_16 ?_
      refine z_ishl K dX12_tapeNumber_18 ?_
      refine z_aload_n K 0 rfl dX12_tapeNumber_19 ?_
      refine z_getr K fd_X12_22 ob_69_6 dX12_tapeNumber_20 ?_
      refine z_iload_n K 3 rfl dX12_tapeNumber_23 ?_
      refine z_bald K ar_74 dX12_tapeNumber_24 ?_
      refine z_sipush K cs_255 dX12_tapeNumber_25 ?_
      refine z_iand K dX12_tapeNumber_28 ?_
      refine z_ior K dX12_tapeNumber_29 ?_
      refine z_topi (fun y2 => ?_)
      refine z_istore_n K (lv' := [(2, .int y2), (0, .ref (a.1.2.2.2 + 69)), (1, .int v1), (3, .int v3)]) dX12_tapeNumber_30 rfl (Nat.le_of_ble_eq_true rfl) rfl ?_
      refine z_iincN K (j := 3) (lv' := [(2, .int y2), (0, .ref (a.1.2.2.2 + 69)), (1, .int v1)]) ci_1 rfl dX12_tapeNumber_31 (Nat.le_of_ble_eq_true rfl) rfl (fun y3 => ?_)
      refine z_goto K (tgt := 6) dX12_tapeNumber_34 (by decide) ?_
      refine z_sub [2, 3, 1, 0] rfl ?_
      exact ih y2 y3 s
def f_X12_tapeNumber (F : Nat) (v1 : Int32) (s : zM) : Option (Int32 × zM) :=
  lt (((4 : Int32) * v1)) (fun y1 =>
  f_X12_tapeNumber_L6 F (fun y5 s4 =>
    some (y5, s4)) v1 F (0 : Int32) y1 s)
set_option maxRecDepth 100000 in
set_option maxHeartbeats 4000000 in
theorem t_X12_tapeNumber (w : zWd) (F : Nat) (d : Nat) (hd : 0 ≤ d) (v1 : Int32) (s : zM) : zMt w yX12_tapeNumber cX12_tapeNumber 4 (some .int) d zφN zφN zri [.ref (w.2.2.2 + 69), .int v1] s (f_X12_tapeNumber F v1 s) := by
  refine zMtN_of (own := RX12) rfl (by decide +kernel) (Nat.le_of_ble_eq_true rfl) cd_X12_tapeNumber [(0, .ref (w.2.2.2 + 69)), (1, .int v1)] rfl ?_
  rintro a rfl K
  unfold f_X12_tapeNumber
  refine z_iconst K ci_0 dX12_tapeNumber_0 ?_
  refine z_istore_n K (lv' := [(2, .int (0 : Int32)), (0, .ref (a.1.2.2.2 + 69)), (1, .int v1)]) dX12_tapeNumber_1 rfl (Nat.le_of_ble_eq_true rfl) rfl ?_
  refine z_iconst K ci_4 dX12_tapeNumber_2 ?_
  refine z_iload_n K 2 rfl dX12_tapeNumber_3 ?_
  refine z_imul K dX12_tapeNumber_4 ?_
  refine z_topi (fun y1 => ?_)
  refine z_istore_n K (lv' := [(3, .int y1), (2, .int (0 : Int32)), (0, .ref (a.1.2.2.2 + 69)), (1, .int v1)]) dX12_tapeNumber_5 rfl (Nat.le_of_ble_eq_true rfl) rfl ?_
  refine z_sub [2, 3, 1, 0] rfl ?_
  refine t_X12_tapeNumber_L6 F K hd v1 (fun y5 s4 => ?_) F (0 : Int32) y1 s
  refine z_iload_n K 0 rfl dX12_tapeNumber_37 ?_
  exact z_iret K dX12_tapeNumber_38
def f_X12_check_L39 (F : Nat) (k69 : zM → Option (Int32 × zM)) (v1 : Int32) (v2 : Int32) : Nat → Int32 → zM → Option (Int32 × zM)
  | 0, _, _ => none
  | n + 1, v3, s =>
    if v3 < v2 then
      bnd (f_X12_tapeNumber F v3 s) (fun r7 s6 =>
      bnd (f_X12_guestAt F (((2 : Int32) * v3) + v1) s6) (fun r9 s8 =>
      if r7 = r9 then
        lt (v3 + (1 : Int32)) (fun y10 =>
        f_X12_check_L39 F k69 v1 v2 n y10 s8)
      else
        some (v3, s8)))
    else
      k69 s
set_option maxRecDepth 100000 in
set_option maxHeartbeats 4000000 in
theorem t_X12_check_L39 {a : zA} {d : Nat} (F : Nat) (K : zOK a cX12_check 4 RX12 (some .int) d) (hd : 1 ≤ d) {k69 : zM → Option (Int32 × zM)} (v1 : Int32) (v2 : Int32) (h69 : ∀ (s : zM), zJ a 4 (zG a zφN zri) zφN 69 [] [] s (k69 s)) : ∀ (n : Nat) (v3 : Int32) (s : zM), zJ a 4 (zG a zφN zri) zφN 39 [(0, .ref (a.1.2.2.2 + 69)), (1, .int v1), (2, .int v2), (3, .int v3)] [] s (f_X12_check_L39 F k69 v1 v2 n v3 s) := by
  intro n
  induction n with
  | zero => intros; exact z_none
  | succ n ih =>
    intro v3 s
    rw [f_X12_check_L39]
    refine z_iload_n K 3 rfl dX12_check_39 ?_
    refine z_iload_n K 2 rfl dX12_check_40 ?_
    refine z_icmp_ge K (tgt := 69) dX12_check_41 (by decide) ?_ ?_
    · refine z_sub [] rfl ?_
      exact h69 s
    · refine z_aload_n K 0 rfl dX12_check_44 ?_
      refine z_iload_n K 3 rfl dX12_check_45 ?_
      refine z_cVi (As := [.int v3]) (rest := []) K (t_X12_tapeNumber a.1 F (d - 1) (by omega) v3 s) mf_X12_tapeNumber ml_X12_459 (Nat.le_of_ble_eq_true rfl) (by omega) rfl rc_69 rfl (Nat.le_of_ble_eq_true rfl) dX12_check_46 (fun r7 s6 => ?_)
      refine z_aload_n K 0 rfl dX12_check_49 ?_
      refine z_iconst K ci_2 dX12_check_50 ?_
      refine z_iload_n K 3 rfl dX12_check_51 ?_
      refine z_imul K dX12_check_52 ?_
      refine z_iload_n K 1 rfl dX12_check_53 ?_
      refine z_iadd K dX12_check_54 ?_
      refine z_cVi (As := [.int (((2 : Int32) * v3) + v1)]) (rest := [.int r7]) K (t_X12_guestAt a.1 F (d - 1) (by omega) (((2 : Int32) * v3) + v1) s6) mf_X12_guestAt ml_X12_179 (Nat.le_of_ble_eq_true rfl) (by omega) rfl rc_69 rfl (Nat.le_of_ble_eq_true rfl) dX12_check_55 (fun r9 s8 => ?_)
      refine z_icmp_eq K (tgt := 63) dX12_check_58 (by decide) ?_ ?_
      · refine z_iincN K (j := 3) (lv' := [(0, .ref (a.1.2.2.2 + 69)), (1, .int v1), (2, .int v2)]) ci_1 rfl dX12_check_63 (Nat.le_of_ble_eq_true rfl) rfl (fun y10 => ?_)
        refine z_goto K (tgt := 39) dX12_check_66 (by decide) ?_
        refine z_sub [1, 2, 3, 0] rfl ?_
        exact ih y10 s8
      · refine z_iload_n K 3 rfl dX12_check_61 ?_
        exact z_iret K dX12_check_62
def f_X12_check (F : Nat) (v1 : Int32) (v2 : Int32) (s : zM) : Option (Int32 × zM) :=
  bnd (f_X12_in v1 (0 : Int32) (1 : Int32) s) (fun r2 s1 =>
  if r2 = 0 then
    some ((-2 : Int32), s1)
  else
    bnd (f_X12_in v2 (0 : Int32) (20 : Int32) s1) (fun r4 s3 =>
    if r4 = 0 then
      some ((-2 : Int32), s3)
    else
      if ((zg s3 69 7) / (4 : Int32)) < v2 then
        some ((-2 : Int32), s3)
      else
        lt (zs s3 69 7 (0 : Int32)) (fun s5 =>
        f_X12_check_L39 F (fun s11 =>
          some ((-1 : Int32), s11)) v1 v2 F (0 : Int32) s5)))
set_option maxRecDepth 100000 in
set_option maxHeartbeats 4000000 in
theorem t_X12_check (w : zWd) (F : Nat) (d : Nat) (hd : 1 ≤ d) (v1 : Int32) (v2 : Int32) (s : zM) : zMt w yX12_check cX12_check 4 (some .int) d zφN zφN zri [.ref (w.2.2.2 + 69), .int v1, .int v2] s (f_X12_check F v1 v2 s) := by
  refine zMtN_of (own := RX12) rfl (by decide +kernel) (Nat.le_of_ble_eq_true rfl) cd_X12_check [(0, .ref (w.2.2.2 + 69)), (1, .int v1), (2, .int v2)] rfl ?_
  rintro a rfl K
  unfold f_X12_check
  refine z_iload_n K 1 rfl dX12_check_0 ?_
  refine z_iconst K ci_0 dX12_check_1 ?_
  refine z_iconst K ci_1 dX12_check_2 ?_
  refine z_cSi (As := [.int v1, .int (0 : Int32), .int (1 : Int32)]) (rest := []) K (t_X12_in a.1 (d - 1) (by omega) v1 (0 : Int32) (1 : Int32) s) mf_X12_in ml_X12_171 (Nat.le_of_ble_eq_true rfl) (by omega) rfl rfl (Nat.le_of_ble_eq_true rfl) dX12_check_3 (fun r2 s1 => ?_)
  refine z_if_eq K (tgt := 29) dX12_check_6 (by decide) ?_ ?_
  · refine z_bipush K cb_m2 dX12_check_29 ?_
    exact z_iret K dX12_check_31
  · refine z_iload_n K 2 rfl dX12_check_9 ?_
    refine z_iconst K ci_0 dX12_check_10 ?_
    refine z_bipush K cb_20 dX12_check_11 ?_
    refine z_cSi (As := [.int v2, .int (0 : Int32), .int (20 : Int32)]) (rest := []) K (t_X12_in a.1 (d - 1) (by omega) v2 (0 : Int32) (20 : Int32) s1) mf_X12_in ml_X12_171 (Nat.le_of_ble_eq_true rfl) (by omega) rfl rfl (Nat.le_of_ble_eq_true rfl) dX12_check_13 (fun r4 s3 => ?_)
    refine z_if_eq K (tgt := 29) dX12_check_16 (by decide) ?_ ?_
    · refine z_bipush K cb_m2 dX12_check_29 ?_
      exact z_iret K dX12_check_31
    · refine z_iload_n K 2 rfl dX12_check_19 ?_
      refine z_aload_n K 0 rfl dX12_check_20 ?_
      refine z_geti K fd_X12_186 ob_69_7 dX12_check_21 ?_
      refine z_iconst K ci_4 dX12_check_24 ?_
      refine z_idivc K (by decide) dX12_check_25 ?_
      refine z_icmp_le K (tgt := 32) dX12_check_26 (by decide) ?_ ?_
      · refine z_aload_n K 0 rfl dX12_check_32 ?_
        refine z_iconst K ci_0 dX12_check_33 ?_
        refine z_puti K fw_X12_186 ob_69_7 dX12_check_34 ?_
        refine z_ltm (fun s5 => ?_)
        refine z_iconst K ci_0 dX12_check_37 ?_
        refine z_istore_n K (lv' := [(3, .int (0 : Int32)), (0, .ref (a.1.2.2.2 + 69)), (1, .int v1), (2, .int v2)]) dX12_check_38 rfl (Nat.le_of_ble_eq_true rfl) rfl ?_
        refine z_sub [1, 2, 3, 0] rfl ?_
        refine t_X12_check_L39 F K hd v1 v2 (fun s11 => ?_) F (0 : Int32) s5
        refine z_iconst K ci_m1 dX12_check_69 ?_
        exact z_iret K dX12_check_70
      · refine z_bipush K cb_m2 dX12_check_29 ?_
        exact z_iret K dX12_check_31
def f_X12_count (v1 : Int32) (s : zM) : Option (Int32 × zM) :=
  if v1 = (0 : Int32) then
    some ((zg s 69 0), s)
  else
    if v1 = (1 : Int32) then
      some ((zg s 69 16), s)
    else
      if v1 = (2 : Int32) then
        some ((zg s 69 7), s)
      else
        if v1 = (3 : Int32) then
          some ((zg s 69 30), s)
        else
          if v1 = (4 : Int32) then
            some ((zg s 69 31), s)
          else
            if v1 = (5 : Int32) then
              some ((zg s 69 50), s)
            else
              if v1 = (6 : Int32) then
                some ((zg s 69 1), s)
              else
                bnd (f_X12_in v1 (20 : Int32) ((19 : Int32) + (zg s 69 0)) s) (fun r2 s1 =>
                if r2 = 0 then
                  bnd (f_X12_in v1 (40 : Int32) (79 : Int32) s1) (fun r4 s3 =>
                  if r4 = 0 then
                    some ((-1 : Int32), s3)
                  else
                    if zin (v1 - (40 : Int32)) 40 = true then
                      some ((zg s3 100 ((v1 - (40 : Int32))).toNatClampNeg), s3)
                    else none)
                else
                  if zin (v1 - (20 : Int32)) 16 = true then
                    some ((zg s1 71 ((v1 - (20 : Int32))).toNatClampNeg), s1)
                  else none)
set_option maxRecDepth 100000 in
set_option maxHeartbeats 4000000 in
theorem t_X12_count (w : zWd) (d : Nat) (hd : 1 ≤ d) (v1 : Int32) (s : zM) : zMt w yX12_count cX12_count 2 (some .int) d zφN zφN zri [.ref (w.2.2.2 + 69), .int v1] s (f_X12_count v1 s) := by
  refine zMtN_of (own := RX12) rfl (by decide +kernel) (Nat.le_of_ble_eq_true rfl) cd_X12_count [(0, .ref (w.2.2.2 + 69)), (1, .int v1)] rfl ?_
  rintro a rfl K
  unfold f_X12_count
  refine z_iload_n K 1 rfl dX12_count_0 ?_
  refine z_ite (fun hs0 => ?_) (fun hs0 => ?_)
  · refine z_tswIn K (tgt := 44) (off := 43) dX12_count_1 (by rw [hs0]; decide) (by rw [hs0]; decide) (by rw [hs0]; rfl) (by decide) ?_
    refine z_aload_n K 0 rfl dX12_count_44 ?_
    refine z_geti K fd_X12_168 ob_69_0 dX12_count_45 ?_
    exact z_iret K dX12_count_48
  · refine z_ite (fun hs1 => ?_) (fun hs1 => ?_)
    · refine z_tswIn K (tgt := 49) (off := 48) dX12_count_1 (by rw [hs1]; decide) (by rw [hs1]; decide) (by rw [hs1]; rfl) (by decide) ?_
      refine z_aload_n K 0 rfl dX12_count_49 ?_
      refine z_geti K fd_X12_283 ob_69_16 dX12_count_50 ?_
      exact z_iret K dX12_count_53
    · refine z_ite (fun hs2 => ?_) (fun hs2 => ?_)
      · refine z_tswIn K (tgt := 54) (off := 53) dX12_count_1 (by rw [hs2]; decide) (by rw [hs2]; decide) (by rw [hs2]; rfl) (by decide) ?_
        refine z_aload_n K 0 rfl dX12_count_54 ?_
        refine z_geti K fd_X12_186 ob_69_7 dX12_count_55 ?_
        exact z_iret K dX12_count_58
      · refine z_ite (fun hs3 => ?_) (fun hs3 => ?_)
        · refine z_tswIn K (tgt := 59) (off := 58) dX12_count_1 (by rw [hs3]; decide) (by rw [hs3]; decide) (by rw [hs3]; rfl) (by decide) ?_
          refine z_aload_n K 0 rfl dX12_count_59 ?_
          refine z_geti K fd_X12_336 ob_69_30 dX12_count_60 ?_
          exact z_iret K dX12_count_63
        · refine z_ite (fun hs4 => ?_) (fun hs4 => ?_)
          · refine z_tswIn K (tgt := 64) (off := 63) dX12_count_1 (by rw [hs4]; decide) (by rw [hs4]; decide) (by rw [hs4]; rfl) (by decide) ?_
            refine z_aload_n K 0 rfl dX12_count_64 ?_
            refine z_geti K fd_X12_349 ob_69_31 dX12_count_65 ?_
            exact z_iret K dX12_count_68
          · refine z_ite (fun hs5 => ?_) (fun hs5 => ?_)
            · refine z_tswIn K (tgt := 69) (off := 68) dX12_count_1 (by rw [hs5]; decide) (by rw [hs5]; decide) (by rw [hs5]; rfl) (by decide) ?_
              refine z_aload_n K 0 rfl dX12_count_69 ?_
              refine z_geti K fd_X12_417 ob_69_50 dX12_count_70 ?_
              exact z_iret K dX12_count_73
            · refine z_ite (fun hs6 => ?_) (fun hs6 => ?_)
              · refine z_tswIn K (tgt := 74) (off := 73) dX12_count_1 (by rw [hs6]; decide) (by rw [hs6]; decide) (by rw [hs6]; rfl) (by decide) ?_
                refine z_aload_n K 0 rfl dX12_count_74 ?_
                refine z_geti K fd_X12_164 ob_69_1 dX12_count_75 ?_
                exact z_iret K dX12_count_78
              · have hsw : v1.toInt < 0 ∨ 6 < v1.toInt := by
                  have q0 := lv_neT hs0 (a := 0) rfl
                  have q1 := lv_neT hs1 (a := 1) rfl
                  have q2 := lv_neT hs2 (a := 2) rfl
                  have q3 := lv_neT hs3 (a := 3) rfl
                  have q4 := lv_neT hs4 (a := 4) rfl
                  have q5 := lv_neT hs5 (a := 5) rfl
                  have q6 := lv_neT hs6 (a := 6) rfl
                  omega
                refine z_tswOut K (tgt := 79) dX12_count_1 hsw (by decide) ?_
                refine z_iload_n K 1 rfl dX12_count_79 ?_
                refine z_bipush K cb_20 dX12_count_80 ?_
                refine z_bipush K cb_19 dX12_count_82 ?_
                refine z_aload_n K 0 rfl dX12_count_84 ?_
                refine z_geti K fd_X12_168 ob_69_0 dX12_count_85 ?_
                refine z_iadd K dX12_count_88 ?_
                refine z_cSi (As := [.int v1, .int (20 : Int32), .int ((19 : Int32) + (zg s 69 0))]) (rest := []) K (t_X12_in a.1 (d - 1) (by omega) v1 (20 : Int32) ((19 : Int32) + (zg s 69 0)) s) mf_X12_in ml_X12_171 (Nat.le_of_ble_eq_true rfl) (by omega) rfl rfl (Nat.le_of_ble_eq_true rfl) dX12_count_89 (fun r2 s1 => ?_)
                refine z_if_eq K (tgt := 105) dX12_count_92 (by decide) ?_ ?_
                · refine z_iload_n K 1 rfl dX12_count_105 ?_
                  refine z_bipush K cb_40 dX12_count_106 ?_
                  refine z_bipush K cb_79 dX12_count_108 ?_
                  refine z_cSi (As := [.int v1, .int (40 : Int32), .int (79 : Int32)]) (rest := []) K (t_X12_in a.1 (d - 1) (by omega) v1 (40 : Int32) (79 : Int32) s1) mf_X12_in ml_X12_171 (Nat.le_of_ble_eq_true rfl) (by omega) rfl rfl (Nat.le_of_ble_eq_true rfl) dX12_count_110 (fun r4 s3 => ?_)
                  refine z_if_eq K (tgt := 128) dX12_count_113 (by decide) ?_ ?_
                  · refine z_iconst K ci_m1 dX12_count_128 ?_
                    exact z_iret K dX12_count_129
                  · refine z_aload_n K 0 rfl dX12_count_116 ?_
                    refine z_getr K fd_X12_101 ob_69_51 dX12_count_117 ?_
                    refine z_iload_n K 1 rfl dX12_count_120 ?_
                    refine z_bipush K cb_40 dX12_count_121 ?_
                    refine z_isub K dX12_count_123 ?_
                    refine z_iald K ar_100 dX12_count_124 ?_
                    refine z_goto K (tgt := 129) dX12_count_125 (by decide) ?_
                    exact z_iret K dX12_count_129
                · refine z_aload_n K 0 rfl dX12_count_95 ?_
                  refine z_getr K fd_X12_13 ob_69_3 dX12_count_96 ?_
                  refine z_iload_n K 1 rfl dX12_count_99 ?_
                  refine z_bipush K cb_20 dX12_count_100 ?_
                  refine z_isub K dX12_count_102 ?_
                  refine z_iald K ar_71 dX12_count_103 ?_
                  exact z_iret K dX12_count_104
