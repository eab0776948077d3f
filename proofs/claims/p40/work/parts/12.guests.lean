def f_X0_number (s : zM) : Option (Int32 × zM) :=
  some ((zg s 3 8), s)
set_option maxRecDepth 100000 in
set_option maxHeartbeats 4000000 in
theorem t_X0_number (w : zWd) (d : Nat) (hd : 0 ≤ d) (s : zM) : zMt w yX0_number cX0_number 1 (some .int) d zφN zφN zri [.ref (w.2.2.2 + 3)] s (f_X0_number s) := by
  refine zMtN_of (own := RX0) rfl (by decide +kernel) (Nat.le_of_ble_eq_true rfl) cd_X0_number [(0, .ref (w.2.2.2 + 3))] rfl ?_
  rintro a rfl K
  unfold f_X0_number
  refine z_aload_n K 0 rfl dX0_number_0 ?_
  refine z_geti K fd_X0_39 ob_3_8 dX0_number_1 ?_
  exact z_iret K dX0_number_4
def f_X0_isFull (s : zM) : Option (Int32 × zM) :=
  if (zg s 3 8) < (16 : Int32) then
    some ((0 : Int32), s)
  else
    some ((1 : Int32), s)
set_option maxRecDepth 100000 in
set_option maxHeartbeats 4000000 in
theorem t_X0_isFull (w : zWd) (d : Nat) (hd : 0 ≤ d) (s : zM) : zMt w yX0_isFull cX0_isFull 1 (some .boolean) d zφN zφN zri [.ref (w.2.2.2 + 3)] s (f_X0_isFull s) := by
  refine zMtN_of (own := RX0) rfl (by decide +kernel) (Nat.le_of_ble_eq_true rfl) cd_X0_isFull [(0, .ref (w.2.2.2 + 3))] rfl ?_
  rintro a rfl K
  unfold f_X0_isFull
  refine z_aload_n K 0 rfl dX0_isFull_0 ?_
  refine z_geti K fd_X0_39 ob_3_8 dX0_isFull_1 ?_
  refine z_bipush K cb_16 dX0_isFull_4 ?_
  refine z_icmp_lt K (tgt := 13) dX0_isFull_6 (by decide) ?_ ?_
  · refine z_iconst K ci_0 dX0_isFull_13 ?_
    exact z_zret (Or.inl rfl) K dX0_isFull_14
  · refine z_iconst K ci_1 dX0_isFull_9 ?_
    refine z_goto K (tgt := 14) dX0_isFull_10 (by decide) ?_
    exact z_zret (Or.inr rfl) K dX0_isFull_14
def f_X0_knows (v1 : Int32) (s : zM) : Option (Int32 × zM) :=
  if v1 < 0 then
    some ((0 : Int32), s)
  else
    if v1 < (zg s 3 8) then
      if v1 < (16 : Int32) then
        some ((1 : Int32), s)
      else
        some ((0 : Int32), s)
    else
      some ((0 : Int32), s)
set_option maxRecDepth 100000 in
set_option maxHeartbeats 4000000 in
theorem t_X0_knows (w : zWd) (d : Nat) (hd : 0 ≤ d) (v1 : Int32) (s : zM) : zMt w yX0_knows cX0_knows 2 (some .boolean) d zφN zφN zri [.ref (w.2.2.2 + 3), .int v1] s (f_X0_knows v1 s) := by
  refine zMtN_of (own := RX0) rfl (by decide +kernel) (Nat.le_of_ble_eq_true rfl) cd_X0_knows [(0, .ref (w.2.2.2 + 3)), (1, .int v1)] rfl ?_
  rintro a rfl K
  unfold f_X0_knows
  refine z_iload_n K 1 rfl dX0_knows_0 ?_
  refine z_if_lt K (tgt := 22) dX0_knows_1 (by decide) ?_ ?_
  · refine z_iconst K ci_0 dX0_knows_22 ?_
    exact z_zret (Or.inl rfl) K dX0_knows_23
  · refine z_iload_n K 1 rfl dX0_knows_4 ?_
    refine z_aload_n K 0 rfl dX0_knows_5 ?_
    refine z_geti K fd_X0_39 ob_3_8 dX0_knows_6 ?_
    refine z_icmp_ge K (tgt := 22) dX0_knows_9 (by decide) ?_ ?_
    · refine z_iconst K ci_0 dX0_knows_22 ?_
      exact z_zret (Or.inl rfl) K dX0_knows_23
    · refine z_iload_n K 1 rfl dX0_knows_12 ?_
      refine z_bipush K cb_16 dX0_knows_13 ?_
      refine z_icmp_ge K (tgt := 22) dX0_knows_15 (by decide) ?_ ?_
      · refine z_iconst K ci_0 dX0_knows_22 ?_
        exact z_zret (Or.inl rfl) K dX0_knows_23
      · refine z_iconst K ci_1 dX0_knows_18 ?_
        refine z_goto K (tgt := 23) dX0_knows_19 (by decide) ?_
        exact z_zret (Or.inr rfl) K dX0_knows_23
def f_X0_lives (v1 : Int32) (s : zM) : Option (Int32 × zM) :=
  bnd (f_X0_knows v1 s) (fun r2 s1 =>
  if r2 = 0 then
    some ((0 : Int32), s1)
  else
    if zin v1 16 = true then
      if (zg s1 5 (v1).toNatClampNeg) = 0 then
        some ((0 : Int32), s1)
      else
        some ((1 : Int32), s1)
    else none)
set_option maxRecDepth 100000 in
set_option maxHeartbeats 4000000 in
theorem t_X0_lives (w : zWd) (d : Nat) (hd : 1 ≤ d) (v1 : Int32) (s : zM) : zMt w yX0_lives cX0_lives 2 (some .boolean) d zφN zφN zri [.ref (w.2.2.2 + 3), .int v1] s (f_X0_lives v1 s) := by
  refine zMtN_of (own := RX0) rfl (by decide +kernel) (Nat.le_of_ble_eq_true rfl) cd_X0_lives [(0, .ref (w.2.2.2 + 3)), (1, .int v1)] rfl ?_
  rintro a rfl K
  unfold f_X0_lives
  refine z_aload_n K 0 rfl dX0_lives_0 ?_
  refine z_iload_n K 1 rfl dX0_lives_1 ?_
  refine z_cVi (As := [.int v1]) (rest := []) K (t_X0_knows a.1 (d - 1) (by omega) v1 s) mf_X0_knows ml_X0_43 (Nat.le_of_ble_eq_true rfl) (by omega) rfl rc_3 rfl (Nat.le_of_ble_eq_true rfl) dX0_lives_2 (fun r2 s1 => ?_)
  refine z_if_eq K (tgt := 21) dX0_lives_5 (by decide) ?_ ?_
  · refine z_iconst K ci_0 dX0_lives_21 ?_
    exact z_zret (Or.inl rfl) K dX0_lives_22
  · refine z_aload_n K 0 rfl dX0_lives_8 ?_
    refine z_getr K fd_X0_15 ob_3_1 dX0_lives_9 ?_
    refine z_iload_n K 1 rfl dX0_lives_12 ?_
    refine z_zald K ar_5 dX0_lives_13 ?_
    refine z_if_eq K (tgt := 21) dX0_lives_14 (by decide) ?_ ?_
    · refine z_iconst K ci_0 dX0_lives_21 ?_
      exact z_zret (Or.inl rfl) K dX0_lives_22
    · refine z_iconst K ci_1 dX0_lives_17 ?_
      refine z_goto K (tgt := 22) dX0_lives_18 (by decide) ?_
      exact z_zret (Or.inr rfl) K dX0_lives_22
def f_X0_seatOf (v1 : Int32) (s : zM) : Option (Int32 × zM) :=
  bnd (f_X0_knows v1 s) (fun r2 s1 =>
  if r2 = 0 then
    some ((-1 : Int32), s1)
  else
    if zin v1 16 = true then
      some ((zg s1 6 (v1).toNatClampNeg), s1)
    else none)
set_option maxRecDepth 100000 in
set_option maxHeartbeats 4000000 in
theorem t_X0_seatOf (w : zWd) (d : Nat) (hd : 1 ≤ d) (v1 : Int32) (s : zM) : zMt w yX0_seatOf cX0_seatOf 2 (some .int) d zφN zφN zri [.ref (w.2.2.2 + 3), .int v1] s (f_X0_seatOf v1 s) := by
  refine zMtN_of (own := RX0) rfl (by decide +kernel) (Nat.le_of_ble_eq_true rfl) cd_X0_seatOf [(0, .ref (w.2.2.2 + 3)), (1, .int v1)] rfl ?_
  rintro a rfl K
  unfold f_X0_seatOf
  refine z_aload_n K 0 rfl dX0_seatOf_0 ?_
  refine z_iload_n K 1 rfl dX0_seatOf_1 ?_
  refine z_cVi (As := [.int v1]) (rest := []) K (t_X0_knows a.1 (d - 1) (by omega) v1 s) mf_X0_knows ml_X0_43 (Nat.le_of_ble_eq_true rfl) (by omega) rfl rc_3 rfl (Nat.le_of_ble_eq_true rfl) dX0_seatOf_2 (fun r2 s1 => ?_)
  refine z_if_eq K (tgt := 17) dX0_seatOf_5 (by decide) ?_ ?_
  · refine z_iconst K ci_m1 dX0_seatOf_17 ?_
    exact z_iret K dX0_seatOf_18
  · refine z_aload_n K 0 rfl dX0_seatOf_8 ?_
    refine z_getr K fd_X0_19 ob_3_2 dX0_seatOf_9 ?_
    refine z_iload_n K 1 rfl dX0_seatOf_12 ?_
    refine z_iald K ar_6 dX0_seatOf_13 ?_
    refine z_goto K (tgt := 18) dX0_seatOf_14 (by decide) ?_
    exact z_iret K dX0_seatOf_18
def f_X0_sits (v1 : Int32) (s : zM) : Option (Int32 × zM) :=
  bnd (f_X0_seatOf v1 s) (fun r2 s1 =>
  if r2 = (-1 : Int32) then
    some ((0 : Int32), s1)
  else
    some ((1 : Int32), s1))
set_option maxRecDepth 100000 in
set_option maxHeartbeats 4000000 in
theorem t_X0_sits (w : zWd) (d : Nat) (hd : 2 ≤ d) (v1 : Int32) (s : zM) : zMt w yX0_sits cX0_sits 2 (some .boolean) d zφN zφN zri [.ref (w.2.2.2 + 3), .int v1] s (f_X0_sits v1 s) := by
  refine zMtN_of (own := RX0) rfl (by decide +kernel) (Nat.le_of_ble_eq_true rfl) cd_X0_sits [(0, .ref (w.2.2.2 + 3)), (1, .int v1)] rfl ?_
  rintro a rfl K
  unfold f_X0_sits
  refine z_aload_n K 0 rfl dX0_sits_0 ?_
  refine z_iload_n K 1 rfl dX0_sits_1 ?_
  refine z_cVi (As := [.int v1]) (rest := []) K (t_X0_seatOf a.1 (d - 1) (by omega) v1 s) mf_X0_seatOf ml_X0_47 (Nat.le_of_ble_eq_true rfl) (by omega) rfl rc_3 rfl (Nat.le_of_ble_eq_true rfl) dX0_sits_2 (fun r2 s1 => ?_)
  refine z_iconst K ci_m1 dX0_sits_5 ?_
  refine z_icmp_eq K (tgt := 13) dX0_sits_6 (by decide) ?_ ?_
  · refine z_iconst K ci_0 dX0_sits_13 ?_
    exact z_zret (Or.inl rfl) K dX0_sits_14
  · refine z_iconst K ci_1 dX0_sits_9 ?_
    refine z_goto K (tgt := 14) dX0_sits_10 (by decide) ?_
    exact z_zret (Or.inr rfl) K dX0_sits_14
def f_X0_landOf (v1 : Int32) (s : zM) : Option (Int32 × zM) :=
  bnd (f_X0_knows v1 s) (fun r2 s1 =>
  if r2 = 0 then
    some ((0 : Int32), s1)
  else
    if zin v1 16 = true then
      some ((zg s1 4 (v1).toNatClampNeg), s1)
    else none)
set_option maxRecDepth 100000 in
set_option maxHeartbeats 4000000 in
theorem t_X0_landOf (w : zWd) (d : Nat) (hd : 1 ≤ d) (v1 : Int32) (s : zM) : zMt w yX0_landOf cX0_landOf 2 (some .int) d zφN zφN zri [.ref (w.2.2.2 + 3), .int v1] s (f_X0_landOf v1 s) := by
  refine zMtN_of (own := RX0) rfl (by decide +kernel) (Nat.le_of_ble_eq_true rfl) cd_X0_landOf [(0, .ref (w.2.2.2 + 3)), (1, .int v1)] rfl ?_
  rintro a rfl K
  unfold f_X0_landOf
  refine z_aload_n K 0 rfl dX0_landOf_0 ?_
  refine z_iload_n K 1 rfl dX0_landOf_1 ?_
  refine z_cVi (As := [.int v1]) (rest := []) K (t_X0_knows a.1 (d - 1) (by omega) v1 s) mf_X0_knows ml_X0_43 (Nat.le_of_ble_eq_true rfl) (by omega) rfl rc_3 rfl (Nat.le_of_ble_eq_true rfl) dX0_landOf_2 (fun r2 s1 => ?_)
  refine z_if_eq K (tgt := 17) dX0_landOf_5 (by decide) ?_ ?_
  · refine z_iconst K ci_0 dX0_landOf_17 ?_
    exact z_iret K dX0_landOf_18
  · refine z_aload_n K 0 rfl dX0_landOf_8 ?_
    refine z_getr K fd_X0_11 ob_3_0 dX0_landOf_9 ?_
    refine z_iload_n K 1 rfl dX0_landOf_12 ?_
    refine z_iald K ar_4 dX0_landOf_13 ?_
    refine z_goto K (tgt := 18) dX0_landOf_14 (by decide) ?_
    exact z_iret K dX0_landOf_18
def f_X0_isStray (v1 : Int32) (s : zM) : Option (Int32 × zM) :=
  bnd (f_X0_sits v1 s) (fun r2 s1 =>
  if r2 = 0 then
    some ((0 : Int32), s1)
  else
    bnd (f_X0_seatOf v1 s1) (fun r4 s3 =>
    bnd (f_X0_landOf v1 s3) (fun r6 s5 =>
    if (r4 &&& (1 : Int32)) = r6 then
      some ((0 : Int32), s5)
    else
      some ((1 : Int32), s5))))
set_option maxRecDepth 100000 in
set_option maxHeartbeats 4000000 in
theorem t_X0_isStray (w : zWd) (d : Nat) (hd : 3 ≤ d) (v1 : Int32) (s : zM) : zMt w yX0_isStray cX0_isStray 2 (some .boolean) d zφN zφN zri [.ref (w.2.2.2 + 3), .int v1] s (f_X0_isStray v1 s) := by
  refine zMtN_of (own := RX0) rfl (by decide +kernel) (Nat.le_of_ble_eq_true rfl) cd_X0_isStray [(0, .ref (w.2.2.2 + 3)), (1, .int v1)] rfl ?_
  rintro a rfl K
  unfold f_X0_isStray
  refine z_aload_n K 0 rfl dX0_isStray_0 ?_
  refine z_iload_n K 1 rfl dX0_isStray_1 ?_
  refine z_cVi (As := [.int v1]) (rest := []) K (t_X0_sits a.1 (d - 1) (by omega) v1 s) mf_X0_sits ml_X0_51 (Nat.le_of_ble_eq_true rfl) (by omega) rfl rc_3 rfl (Nat.le_of_ble_eq_true rfl) dX0_isStray_2 (fun r2 s1 => ?_)
  refine z_if_eq K (tgt := 27) dX0_isStray_5 (by decide) ?_ ?_
  · refine z_iconst K ci_0 dX0_isStray_27 ?_
    exact z_zret (Or.inl rfl) K dX0_isStray_28
  · refine z_aload_n K 0 rfl dX0_isStray_8 ?_
    refine z_iload_n K 1 rfl dX0_isStray_9 ?_
    refine z_cVi (As := [.int v1]) (rest := []) K (t_X0_seatOf a.1 (d - 1) (by omega) v1 s1) mf_X0_seatOf ml_X0_47 (Nat.le_of_ble_eq_true rfl) (by omega) rfl rc_3 rfl (Nat.le_of_ble_eq_true rfl) dX0_isStray_10 (fun r4 s3 => ?_)
    refine z_iconst K ci_1 dX0_isStray_13 ?_
    refine z_iand K dX0_isStray_14 ?_
    refine z_aload_n K 0 rfl dX0_isStray_15 ?_
    refine z_iload_n K 1 rfl dX0_isStray_16 ?_
    refine z_cVi (As := [.int v1]) (rest := [.int (r4 &&& (1 : Int32))]) K (t_X0_landOf a.1 (d - 1) (by omega) v1 s3) mf_X0_landOf ml_X0_54 (Nat.le_of_ble_eq_true rfl) (by omega) rfl rc_3 rfl (Nat.le_of_ble_eq_true rfl) dX0_isStray_17 (fun r6 s5 => ?_)
    refine z_icmp_eq K (tgt := 27) dX0_isStray_20 (by decide) ?_ ?_
    · refine z_iconst K ci_0 dX0_isStray_27 ?_
      exact z_zret (Or.inl rfl) K dX0_isStray_28
    · refine z_iconst K ci_1 dX0_isStray_23 ?_
      refine z_goto K (tgt := 28) dX0_isStray_24 (by decide) ?_
      exact z_zret (Or.inr rfl) K dX0_isStray_28
def f_X0_at (v1 : Int32) (s : zM) : Option (Int32 × zM) :=
  bnd (f_X8_isSeat v1 s) (fun r2 s1 =>
  if r2 = 0 then
    some ((-1 : Int32), s1)
  else
    if zin v1 40 = true then
      some ((zg s1 9 (v1).toNatClampNeg), s1)
    else none)
set_option maxRecDepth 100000 in
set_option maxHeartbeats 4000000 in
theorem t_X0_at (w : zWd) (d : Nat) (hd : 1 ≤ d) (v1 : Int32) (s : zM) : zMt w yX0_at cX0_at 2 (some .int) d zφN zφN zri [.ref (w.2.2.2 + 3), .int v1] s (f_X0_at v1 s) := by
  refine zMtN_of (own := RX0) rfl (by decide +kernel) (Nat.le_of_ble_eq_true rfl) cd_X0_at [(0, .ref (w.2.2.2 + 3)), (1, .int v1)] rfl ?_
  rintro a rfl K
  unfold f_X0_at
  refine z_iload_n K 1 rfl dX0_at_0 ?_
  refine z_cSi (As := [.int v1]) (rest := []) K (t_X8_isSeat a.1 (d - 1) (by omega) v1 s) mf_X8_isSeat ml_X0_57 (Nat.le_of_ble_eq_true rfl) (by omega) rfl rfl (Nat.le_of_ble_eq_true rfl) dX0_at_1 (fun r2 s1 => ?_)
  refine z_if_eq K (tgt := 16) dX0_at_4 (by decide) ?_ ?_
  · refine z_iconst K ci_m1 dX0_at_16 ?_
    exact z_iret K dX0_at_17
  · refine z_aload_n K 0 rfl dX0_at_7 ?_
    refine z_getr K fd_X0_30 ob_3_5 dX0_at_8 ?_
    refine z_iload_n K 1 rfl dX0_at_11 ?_
    refine z_iald K ar_9 dX0_at_12 ?_
    refine z_goto K (tgt := 17) dX0_at_13 (by decide) ?_
    exact z_iret K dX0_at_17
def f_X0_place_j33 (v1 : Int32) (v2 : Int32) (s : zM) : Option (Unit × zM) :=
  if zin v1 16 = true then
    lt (zs s 6 (v1).toNatClampNeg v2) (fun s5 =>
    bnd (f_X8_isSeat v2 s5) (fun r7 s6 =>
    if r7 = 0 then
      some ((), s6)
    else
      if zin v2 40 = true then
        lt (zs s6 9 (v2).toNatClampNeg v1) (fun s8 =>
        some ((), s8))
      else none))
  else none
set_option maxRecDepth 100000 in
set_option maxHeartbeats 4000000 in
theorem t_X0_place_j33 {a : zA} {d : Nat} (K : zOK a cX0_place 3 RX0 none d) (hd : 1 ≤ d) (v1 : Int32) (v2 : Int32) (s : zM) : zJ a 3 (zG a zφN zrv) zφN 33 [(0, .ref (a.1.2.2.2 + 3)), (1, .int v1), (2, .int v2)] [] s (f_X0_place_j33 v1 v2 s) := by
  unfold f_X0_place_j33
  refine z_aload_n K 0 rfl dX0_place_33 ?_
  refine z_getr K fd_X0_19 ob_3_2 dX0_place_34 ?_
  refine z_iload_n K 1 rfl dX0_place_37 ?_
  refine z_iload_n K 2 rfl dX0_place_38 ?_
  refine z_iast K ar_6 dX0_place_39 ?_
  refine z_ltm (fun s5 => ?_)
  refine z_iload_n K 2 rfl dX0_place_40 ?_
  refine z_cSi (As := [.int v2]) (rest := []) K (t_X8_isSeat a.1 (d - 1) (by omega) v2 s5) mf_X8_isSeat ml_X0_57 (Nat.le_of_ble_eq_true rfl) (by omega) rfl rfl (Nat.le_of_ble_eq_true rfl) dX0_place_41 (fun r7 s6 => ?_)
  refine z_if_eq K (tgt := 54) dX0_place_44 (by decide) ?_ ?_
  · exact z_vret K dX0_place_54
  · refine z_aload_n K 0 rfl dX0_place_47 ?_
    refine z_getr K fd_X0_30 ob_3_5 dX0_place_48 ?_
    refine z_iload_n K 2 rfl dX0_place_51 ?_
    refine z_iload_n K 1 rfl dX0_place_52 ?_
    refine z_iast K ar_9 dX0_place_53 ?_
    refine z_ltm (fun s8 => ?_)
    exact z_vret K dX0_place_54
def f_X0_place (v1 : Int32) (v2 : Int32) (s : zM) : Option (Unit × zM) :=
  bnd (f_X0_knows v1 s) (fun r2 s1 =>
  if r2 = 0 then
    some ((), s1)
  else
    if zin v1 16 = true then
      bnd (f_X8_isSeat (zg s1 6 (v1).toNatClampNeg) s1) (fun r4 s3 =>
      if r4 = 0 then
        f_X0_place_j33 v1 v2 s3
      else
        if zin v1 16 = true then
          if zin (zg s3 6 (v1).toNatClampNeg) 40 = true then
            lt (zs s3 9 ((zg s3 6 (v1).toNatClampNeg)).toNatClampNeg (-1 : Int32)) (fun s9 =>
            f_X0_place_j33 v1 v2 s9)
          else none
        else none)
    else none)
set_option maxRecDepth 100000 in
set_option maxHeartbeats 4000000 in
theorem t_X0_place (w : zWd) (d : Nat) (hd : 1 ≤ d) (v1 : Int32) (v2 : Int32) (s : zM) : zMt w yX0_place cX0_place 3 none d zφN zφN zrv [.ref (w.2.2.2 + 3), .int v1, .int v2] s (f_X0_place v1 v2 s) := by
  refine zMtN_of (own := RX0) rfl (by decide +kernel) (Nat.le_of_ble_eq_true rfl) cd_X0_place [(0, .ref (w.2.2.2 + 3)), (1, .int v1), (2, .int v2)] rfl ?_
  rintro a rfl K
  unfold f_X0_place
  refine z_aload_n K 0 rfl dX0_place_0 ?_
  refine z_iload_n K 1 rfl dX0_place_1 ?_
  refine z_cVi (As := [.int v1]) (rest := []) K (t_X0_knows a.1 (d - 1) (by omega) v1 s) mf_X0_knows ml_X0_43 (Nat.le_of_ble_eq_true rfl) (by omega) rfl rc_3 rfl (Nat.le_of_ble_eq_true rfl) dX0_place_2 (fun r2 s1 => ?_)
  refine z_if_ne K (tgt := 9) dX0_place_5 (by decide) ?_ ?_
  · refine z_aload_n K 0 rfl dX0_place_9 ?_
    refine z_getr K fd_X0_19 ob_3_2 dX0_place_10 ?_
    refine z_iload_n K 1 rfl dX0_place_13 ?_
    refine z_iald K ar_6 dX0_place_14 ?_
    refine z_cSi (As := [.int (zg s1 6 (v1).toNatClampNeg)]) (rest := []) K (t_X8_isSeat a.1 (d - 1) (by omega) (zg s1 6 (v1).toNatClampNeg) s1) mf_X8_isSeat ml_X0_57 (Nat.le_of_ble_eq_true rfl) (by omega) rfl rfl (Nat.le_of_ble_eq_true rfl) dX0_place_15 (fun r4 s3 => ?_)
    refine z_if_eq K (tgt := 33) dX0_place_18 (by decide) ?_ ?_
    · exact t_X0_place_j33 K hd v1 v2 s3
    · refine z_aload_n K 0 rfl dX0_place_21 ?_
      refine z_getr K fd_X0_30 ob_3_5 dX0_place_22 ?_
      refine z_aload_n K 0 rfl dX0_place_25 ?_
      refine z_getr K fd_X0_19 ob_3_2 dX0_place_26 ?_
      refine z_iload_n K 1 rfl dX0_place_29 ?_
      refine z_iald K ar_6 dX0_place_30 ?_
      refine z_iconst K ci_m1 dX0_place_31 ?_
      refine z_iast K ar_9 dX0_place_32 ?_
      refine z_ltm (fun s9 => ?_)
      exact t_X0_place_j33 K hd v1 v2 s9
  · exact z_vret K dX0_place_8
def f_X0_add (v1 : Int32) (v2 : Int32) (s : zM) : Option (Int32 × zM) :=
  bnd (f_X0_isFull s) (fun r2 s1 =>
  if r2 = 0 then
    lt ((zg s1 3 8)) (fun y3 =>
    lt (zs s1 3 8 ((zg s1 3 8) + (1 : Int32))) (fun s4 =>
    if zin y3 16 = true then
      lt (zs s4 4 (y3).toNatClampNeg v1) (fun s5 =>
      if zin y3 16 = true then
        lt (zs s5 5 (y3).toNatClampNeg (vp_nar .boolean (1 : Int32))) (fun s6 =>
        bnd (f_X0_place y3 v2 s6) (fun _ s7 =>
        some (y3, s7)))
      else none)
    else none))
  else
    some ((-1 : Int32), s1))
set_option maxRecDepth 100000 in
set_option maxHeartbeats 4000000 in
theorem t_X0_add (w : zWd) (d : Nat) (hd : 2 ≤ d) (v1 : Int32) (v2 : Int32) (s : zM) : zMt w yX0_add cX0_add 4 (some .int) d zφN zφN zri [.ref (w.2.2.2 + 3), .int v1, .int v2] s (f_X0_add v1 v2 s) := by
  refine zMtN_of (own := RX0) rfl (by decide +kernel) (Nat.le_of_ble_eq_true rfl) cd_X0_add [(0, .ref (w.2.2.2 + 3)), (1, .int v1), (2, .int v2)] rfl ?_
  rintro a rfl K
  unfold f_X0_add
  refine z_aload_n K 0 rfl dX0_add_0 ?_
  refine z_cVi (As := []) (rest := []) K (t_X0_isFull a.1 (d - 1) (by omega) s) mf_X0_isFull ml_X0_60 (Nat.le_of_ble_eq_true rfl) (by omega) rfl rc_3 rfl (Nat.le_of_ble_eq_true rfl) dX0_add_1 (fun r2 s1 => ?_)
  refine z_if_eq K (tgt := 9) dX0_add_4 (by decide) ?_ ?_
  · refine z_aload_n K 0 rfl dX0_add_9 ?_
    refine z_geti K fd_X0_39 ob_3_8 dX0_add_10 ?_
    refine z_topi (fun y3 => ?_)
    refine z_istore_n K (lv' := [(3, .int y3), (0, .ref (a.1.2.2.2 + 3)), (1, .int v1), (2, .int v2)]) dX0_add_13 rfl (Nat.le_of_ble_eq_true rfl) rfl ?_
    refine z_aload_n K 1 rfl dX0_add_14 ?_
    refine z_dup K rfl dX0_add_15 ?_
    refine z_geti K fd_X0_39 ob_3_8 dX0_add_16 ?_
    refine z_iconst K ci_1 dX0_add_19 ?_
    refine z_iadd K dX0_add_20 ?_
    refine z_puti K fw_X0_39 ob_3_8 dX0_add_21 ?_
    refine z_ltm (fun s4 => ?_)
    refine z_aload_n K 1 rfl dX0_add_24 ?_
    refine z_getr K fd_X0_11 ob_3_0 dX0_add_25 ?_
    refine z_iload_n K 0 rfl dX0_add_28 ?_
    refine z_iload_n K 2 rfl dX0_add_29 ?_
    refine z_iast K ar_4 dX0_add_30 ?_
    refine z_ltm (fun s5 => ?_)
    refine z_aload_n K 1 rfl dX0_add_31 ?_
    refine z_getr K fd_X0_15 ob_3_1 dX0_add_32 ?_
    refine z_iload_n K 0 rfl dX0_add_35 ?_
    refine z_iconst K ci_1 dX0_add_36 ?_
    refine z_zast K ar_5 dX0_add_37 ?_
    refine z_ltm (fun s6 => ?_)
    refine z_aload_n K 1 rfl dX0_add_38 ?_
    refine z_iload_n K 0 rfl dX0_add_39 ?_
    refine z_iload_n K 3 rfl dX0_add_40 ?_
    refine z_cVv (As := [.int y3, .int v2]) (rest := []) K (t_X0_place a.1 (d - 1) (by omega) y3 v2 s6) mf_X0_place ml_X0_64 (Nat.le_of_ble_eq_true rfl) (by omega) rfl rc_3 rfl (Nat.le_of_ble_eq_true rfl) dX0_add_41 (fun _ s7 => ?_)
    refine z_iload_n K 0 rfl dX0_add_44 ?_
    exact z_iret K dX0_add_45
  · refine z_iconst K ci_m1 dX0_add_7 ?_
    exact z_iret K dX0_add_8
def f_X0_bury (v1 : Int32) (s : zM) : Option (Unit × zM) :=
  bnd (f_X0_knows v1 s) (fun r2 s1 =>
  if r2 = 0 then
    some ((), s1)
  else
    bnd (f_X0_place v1 (-1 : Int32) s1) (fun _ s3 =>
    if zin v1 16 = true then
      lt (zs s3 5 (v1).toNatClampNeg (vp_nar .boolean (0 : Int32))) (fun s4 =>
      some ((), s4))
    else none))
set_option maxRecDepth 100000 in
set_option maxHeartbeats 4000000 in
theorem t_X0_bury (w : zWd) (d : Nat) (hd : 2 ≤ d) (v1 : Int32) (s : zM) : zMt w yX0_bury cX0_bury 2 none d zφN zφN zrv [.ref (w.2.2.2 + 3), .int v1] s (f_X0_bury v1 s) := by
  refine zMtN_of (own := RX0) rfl (by decide +kernel) (Nat.le_of_ble_eq_true rfl) cd_X0_bury [(0, .ref (w.2.2.2 + 3)), (1, .int v1)] rfl ?_
  rintro a rfl K
  unfold f_X0_bury
  refine z_aload_n K 0 rfl dX0_bury_0 ?_
  refine z_iload_n K 1 rfl dX0_bury_1 ?_
  refine z_cVi (As := [.int v1]) (rest := []) K (t_X0_knows a.1 (d - 1) (by omega) v1 s) mf_X0_knows ml_X0_43 (Nat.le_of_ble_eq_true rfl) (by omega) rfl rc_3 rfl (Nat.le_of_ble_eq_true rfl) dX0_bury_2 (fun r2 s1 => ?_)
  refine z_if_eq K (tgt := 21) dX0_bury_5 (by decide) ?_ ?_
  · exact z_vret K dX0_bury_21
  · refine z_aload_n K 0 rfl dX0_bury_8 ?_
    refine z_iload_n K 1 rfl dX0_bury_9 ?_
    refine z_iconst K ci_m1 dX0_bury_10 ?_
    refine z_cVv (As := [.int v1, .int (-1 : Int32)]) (rest := []) K (t_X0_place a.1 (d - 1) (by omega) v1 (-1 : Int32) s1) mf_X0_place ml_X0_64 (Nat.le_of_ble_eq_true rfl) (by omega) rfl rc_3 rfl (Nat.le_of_ble_eq_true rfl) dX0_bury_11 (fun _ s3 => ?_)
    refine z_aload_n K 0 rfl dX0_bury_14 ?_
    refine z_getr K fd_X0_15 ob_3_1 dX0_bury_15 ?_
    refine z_iload_n K 1 rfl dX0_bury_18 ?_
    refine z_iconst K ci_0 dX0_bury_19 ?_
    refine z_zast K ar_5 dX0_bury_20 ?_
    refine z_ltm (fun s4 => ?_)
    exact z_vret K dX0_bury_21
def f_X0_bequeath (v1 : Int32) (v2 : Int32) (s : zM) : Option (Unit × zM) :=
  bnd (f_X0_knows v1 s) (fun r2 s1 =>
  if r2 = 0 then
    some ((), s1)
  else
    if zin v1 16 = true then
      lt (zs s1 7 (v1).toNatClampNeg v2) (fun s3 =>
      some ((), s3))
    else none)
set_option maxRecDepth 100000 in
set_option maxHeartbeats 4000000 in
theorem t_X0_bequeath (w : zWd) (d : Nat) (hd : 1 ≤ d) (v1 : Int32) (v2 : Int32) (s : zM) : zMt w yX0_bequeath cX0_bequeath 3 none d zφN zφN zrv [.ref (w.2.2.2 + 3), .int v1, .int v2] s (f_X0_bequeath v1 v2 s) := by
  refine zMtN_of (own := RX0) rfl (by decide +kernel) (Nat.le_of_ble_eq_true rfl) cd_X0_bequeath [(0, .ref (w.2.2.2 + 3)), (1, .int v1), (2, .int v2)] rfl ?_
  rintro a rfl K
  unfold f_X0_bequeath
  refine z_aload_n K 0 rfl dX0_bequeath_0 ?_
  refine z_iload_n K 1 rfl dX0_bequeath_1 ?_
  refine z_cVi (As := [.int v1]) (rest := []) K (t_X0_knows a.1 (d - 1) (by omega) v1 s) mf_X0_knows ml_X0_43 (Nat.le_of_ble_eq_true rfl) (by omega) rfl rc_3 rfl (Nat.le_of_ble_eq_true rfl) dX0_bequeath_2 (fun r2 s1 => ?_)
  refine z_if_eq K (tgt := 15) dX0_bequeath_5 (by decide) ?_ ?_
  · exact z_vret K dX0_bequeath_15
  · refine z_aload_n K 0 rfl dX0_bequeath_8 ?_
    refine z_getr K fd_X0_22 ob_3_3 dX0_bequeath_9 ?_
    refine z_iload_n K 1 rfl dX0_bequeath_12 ?_
    refine z_iload_n K 2 rfl dX0_bequeath_13 ?_
    refine z_iast K ar_7 dX0_bequeath_14 ?_
    refine z_ltm (fun s3 => ?_)
    exact z_vret K dX0_bequeath_15
def f_X0_heirOf (v1 : Int32) (s : zM) : Option (Int32 × zM) :=
  bnd (f_X0_knows v1 s) (fun r2 s1 =>
  if r2 = 0 then
    some ((-1 : Int32), s1)
  else
    if zin v1 16 = true then
      some ((zg s1 7 (v1).toNatClampNeg), s1)
    else none)
set_option maxRecDepth 100000 in
set_option maxHeartbeats 4000000 in
theorem t_X0_heirOf (w : zWd) (d : Nat) (hd : 1 ≤ d) (v1 : Int32) (s : zM) : zMt w yX0_heirOf cX0_heirOf 2 (some .int) d zφN zφN zri [.ref (w.2.2.2 + 3), .int v1] s (f_X0_heirOf v1 s) := by
  refine zMtN_of (own := RX0) rfl (by decide +kernel) (Nat.le_of_ble_eq_true rfl) cd_X0_heirOf [(0, .ref (w.2.2.2 + 3)), (1, .int v1)] rfl ?_
  rintro a rfl K
  unfold f_X0_heirOf
  refine z_aload_n K 0 rfl dX0_heirOf_0 ?_
  refine z_iload_n K 1 rfl dX0_heirOf_1 ?_
  refine z_cVi (As := [.int v1]) (rest := []) K (t_X0_knows a.1 (d - 1) (by omega) v1 s) mf_X0_knows ml_X0_43 (Nat.le_of_ble_eq_true rfl) (by omega) rfl rc_3 rfl (Nat.le_of_ble_eq_true rfl) dX0_heirOf_2 (fun r2 s1 => ?_)
  refine z_if_eq K (tgt := 17) dX0_heirOf_5 (by decide) ?_ ?_
  · refine z_iconst K ci_m1 dX0_heirOf_17 ?_
    exact z_iret K dX0_heirOf_18
  · refine z_aload_n K 0 rfl dX0_heirOf_8 ?_
    refine z_getr K fd_X0_22 ob_3_3 dX0_heirOf_9 ?_
    refine z_iload_n K 1 rfl dX0_heirOf_12 ?_
    refine z_iald K ar_7 dX0_heirOf_13 ?_
    refine z_goto K (tgt := 18) dX0_heirOf_14 (by decide) ?_
    exact z_iret K dX0_heirOf_18
def f_X0_like (v1 : Int32) (v2 : Int32) (v3 : Int32) (s : zM) : Option (Unit × zM) :=
  bnd (f_X0_knows v1 s) (fun r2 s1 =>
  if r2 = 0 then
    some ((), s1)
  else
    bnd (f_X0_knows v2 s1) (fun r4 s3 =>
    if r4 = 0 then
      some ((), s3)
    else
      if zin ((v1 * (16 : Int32)) + v2) 256 = true then
        lt (zs s3 8 (((v1 * (16 : Int32)) + v2)).toNatClampNeg v3) (fun s5 =>
        some ((), s5))
      else none))
set_option maxRecDepth 100000 in
set_option maxHeartbeats 4000000 in
theorem t_X0_like (w : zWd) (d : Nat) (hd : 1 ≤ d) (v1 : Int32) (v2 : Int32) (v3 : Int32) (s : zM) : zMt w yX0_like cX0_like 4 none d zφN zφN zrv [.ref (w.2.2.2 + 3), .int v1, .int v2, .int v3] s (f_X0_like v1 v2 v3 s) := by
  refine zMtN_of (own := RX0) rfl (by decide +kernel) (Nat.le_of_ble_eq_true rfl) cd_X0_like [(0, .ref (w.2.2.2 + 3)), (1, .int v1), (2, .int v2), (3, .int v3)] rfl ?_
  rintro a rfl K
  unfold f_X0_like
  refine z_aload_n K 0 rfl dX0_like_0 ?_
  refine z_iload_n K 1 rfl dX0_like_1 ?_
  refine z_cVi (As := [.int v1]) (rest := []) K (t_X0_knows a.1 (d - 1) (by omega) v1 s) mf_X0_knows ml_X0_43 (Nat.le_of_ble_eq_true rfl) (by omega) rfl rc_3 rfl (Nat.le_of_ble_eq_true rfl) dX0_like_2 (fun r2 s1 => ?_)
  refine z_if_eq K (tgt := 28) dX0_like_5 (by decide) ?_ ?_
  · exact z_vret K dX0_like_28
  · refine z_aload_n K 0 rfl dX0_like_8 ?_
    refine z_iload_n K 2 rfl dX0_like_9 ?_
    refine z_cVi (As := [.int v2]) (rest := []) K (t_X0_knows a.1 (d - 1) (by omega) v2 s1) mf_X0_knows ml_X0_43 (Nat.le_of_ble_eq_true rfl) (by omega) rfl rc_3 rfl (Nat.le_of_ble_eq_true rfl) dX0_like_10 (fun r4 s3 => ?_)
    refine z_if_eq K (tgt := 28) dX0_like_13 (by decide) ?_ ?_
    · exact z_vret K dX0_like_28
    · refine z_aload_n K 0 rfl dX0_like_16 ?_
      refine z_getr K fd_X0_25 ob_3_4 dX0_like_17 ?_
      refine z_iload_n K 1 rfl dX0_like_20 ?_
      refine z_bipush K cb_16 dX0_like_21 ?_
      refine z_imul K dX0_like_23 ?_
      refine z_iload_n K 2 rfl dX0_like_24 ?_
      refine z_iadd K dX0_like_25 ?_
      refine z_iload_n K 3 rfl dX0_like_26 ?_
      refine z_iast K ar_8 dX0_like_27 ?_
      refine z_ltm (fun s5 => ?_)
      exact z_vret K dX0_like_28
def f_X0_likingOf (v1 : Int32) (v2 : Int32) (s : zM) : Option (Int32 × zM) :=
  bnd (f_X0_knows v1 s) (fun r2 s1 =>
  if r2 = 0 then
    some ((0 : Int32), s1)
  else
    bnd (f_X0_knows v2 s1) (fun r4 s3 =>
    if r4 = 0 then
      some ((0 : Int32), s3)
    else
      if zin ((v1 * (16 : Int32)) + v2) 256 = true then
        some ((zg s3 8 (((v1 * (16 : Int32)) + v2)).toNatClampNeg), s3)
      else none))
set_option maxRecDepth 100000 in
set_option maxHeartbeats 4000000 in
theorem t_X0_likingOf (w : zWd) (d : Nat) (hd : 1 ≤ d) (v1 : Int32) (v2 : Int32) (s : zM) : zMt w yX0_likingOf cX0_likingOf 3 (some .int) d zφN zφN zri [.ref (w.2.2.2 + 3), .int v1, .int v2] s (f_X0_likingOf v1 v2 s) := by
  refine zMtN_of (own := RX0) rfl (by decide +kernel) (Nat.le_of_ble_eq_true rfl) cd_X0_likingOf [(0, .ref (w.2.2.2 + 3)), (1, .int v1), (2, .int v2)] rfl ?_
  rintro a rfl K
  unfold f_X0_likingOf
  refine z_aload_n K 0 rfl dX0_likingOf_0 ?_
  refine z_iload_n K 1 rfl dX0_likingOf_1 ?_
  refine z_cVi (As := [.int v1]) (rest := []) K (t_X0_knows a.1 (d - 1) (by omega) v1 s) mf_X0_knows ml_X0_43 (Nat.le_of_ble_eq_true rfl) (by omega) rfl rc_3 rfl (Nat.le_of_ble_eq_true rfl) dX0_likingOf_2 (fun r2 s1 => ?_)
  refine z_if_eq K (tgt := 30) dX0_likingOf_5 (by decide) ?_ ?_
  · refine z_iconst K ci_0 dX0_likingOf_30 ?_
    exact z_iret K dX0_likingOf_31
  · refine z_aload_n K 0 rfl dX0_likingOf_8 ?_
    refine z_iload_n K 2 rfl dX0_likingOf_9 ?_
    refine z_cVi (As := [.int v2]) (rest := []) K (t_X0_knows a.1 (d - 1) (by omega) v2 s1) mf_X0_knows ml_X0_43 (Nat.le_of_ble_eq_true rfl) (by omega) rfl rc_3 rfl (Nat.le_of_ble_eq_true rfl) dX0_likingOf_10 (fun r4 s3 => ?_)
    refine z_if_eq K (tgt := 30) dX0_likingOf_13 (by decide) ?_ ?_
    · refine z_iconst K ci_0 dX0_likingOf_30 ?_
      exact z_iret K dX0_likingOf_31
    · refine z_aload_n K 0 rfl dX0_likingOf_16 ?_
      refine z_getr K fd_X0_25 ob_3_4 dX0_likingOf_17 ?_
      refine z_iload_n K 1 rfl dX0_likingOf_20 ?_
      refine z_bipush K cb_16 dX0_likingOf_21 ?_
      refine z_imul K dX0_likingOf_23 ?_
      refine z_iload_n K 2 rfl dX0_likingOf_24 ?_
      refine z_iadd K dX0_likingOf_25 ?_
      refine z_iald K ar_8 dX0_likingOf_26 ?_
      refine z_goto K (tgt := 31) dX0_likingOf_27 (by decide) ?_
      exact z_iret K dX0_likingOf_31
def f_X0_store_L17 (F : Nat) (k41 : zM → Option (Unit × zM)) : Nat → Int32 → zM → Option (Unit × zM)
  | 0, _, _ => none
  | n + 1, v1, s =>
    if v1 < (16 : Int32) then
      if zin v1 16 = true then
        if zin v1 16 = true then
          lt (zs s 10 (v1).toNatClampNeg (vp_nar .boolean (zg s 5 (v1).toNatClampNeg))) (fun s2 =>
          lt (v1 + (1 : Int32)) (fun y3 =>
          f_X0_store_L17 F k41 n y3 s2))
        else none
      else none
    else
      k41 s
set_option maxRecDepth 100000 in
set_option maxHeartbeats 4000000 in
theorem t_X0_store_L17 {a : zA} {d : Nat} (F : Nat) (K : zOK a cX0_store 2 RX0 none d) (hd : 1 ≤ d) {k41 : zM → Option (Unit × zM)} (h41 : ∀ (s : zM), zJ a 2 (zG a zφN zrv) zφN 41 [] [] s (k41 s)) : ∀ (n : Nat) (v1 : Int32) (s : zM), zJ a 2 (zG a zφN zrv) zφN 17 [(0, .ref (a.1.2.2.2 + 3)), (1, .int v1)] [] s (f_X0_store_L17 F k41 n v1 s) := by
  intro n
  induction n with
  | zero => intros; exact z_none
  | succ n ih =>
    intro v1 s
    rw [f_X0_store_L17]
    refine z_iload_n K 1 rfl dX0_store_17 ?_
    refine z_bipush K cb_16 dX0_store_18 ?_
    refine z_icmp_ge K (tgt := 41) dX0_store_20 (by decide) ?_ ?_
    · refine z_sub [] rfl ?_
      exact h41 s
    · refine z_aload_n K 0 rfl dX0_store_23 ?_
      refine z_getr K fd_X0_33 ob_3_6 dX0_store_24 ?_
      refine z_iload_n K 1 rfl dX0_store_27 ?_
      refine z_aload_n K 0 rfl dX0_store_28 ?_
      refine z_getr K fd_X0_15 ob_3_1 dX0_store_29 ?_
      refine z_iload_n K 1 rfl dX0_store_32 ?_
      refine z_zald K ar_5 dX0_store_33 ?_
      refine z_zast K ar_10 dX0_store_34 ?_
      refine z_ltm (fun s2 => ?_)
      refine z_iincN K (j := 1) (lv' := [(0, .ref (a.1.2.2.2 + 3))]) ci_1 rfl dX0_store_35 (Nat.le_of_ble_eq_true rfl) rfl (fun y3 => ?_)
      refine z_goto K (tgt := 17) dX0_store_38 (by decide) ?_
      refine z_sub [1, 0] rfl ?_
      exact ih y3 s2
def f_X0_store (F : Nat) (s : zM) : Option (Unit × zM) :=
  lt (zcp s 6 11 16) (fun s1 =>
  f_X0_store_L17 F (fun s4 =>
    some ((), s4)) F (0 : Int32) s1)
set_option maxRecDepth 100000 in
set_option maxHeartbeats 4000000 in
theorem t_X0_store (w : zWd) (F : Nat) (d : Nat) (hd : 1 ≤ d) (s : zM) : zMt w yX0_store cX0_store 2 none d zφN zφN zrv [.ref (w.2.2.2 + 3)] s (f_X0_store F s) := by
  refine zMtN_of (own := RX0) rfl (by decide +kernel) (Nat.le_of_ble_eq_true rfl) cd_X0_store [(0, .ref (w.2.2.2 + 3))] rfl ?_
  rintro a rfl K
  unfold f_X0_store
  refine z_aload_n K 0 rfl dX0_store_0 ?_
  refine z_getr K fd_X0_19 ob_3_2 dX0_store_1 ?_
  refine z_iconst K ci_0 dX0_store_4 ?_
  refine z_aload_n K 0 rfl dX0_store_5 ?_
  refine z_getr K fd_X0_36 ob_3_7 dX0_store_6 ?_
  refine z_iconst K ci_0 dX0_store_9 ?_
  refine z_bipush K cb_16 dX0_store_10 ?_
  refine z_copy K js_nat js_sta js_ini ml_X0_71 ar_6 ar_11 rfl rfl (by decide) (N := 16) rfl (by decide) (by decide) rfl (by omega) (Nat.le_of_ble_eq_true rfl) dX0_store_12 ?_
  refine z_ltm (fun s1 => ?_)
  refine z_iconst K ci_0 dX0_store_15 ?_
  refine z_istore_n K (lv' := [(1, .int (0 : Int32)), (0, .ref (a.1.2.2.2 + 3))]) dX0_store_16 rfl (Nat.le_of_ble_eq_true rfl) rfl ?_
  refine z_sub [1, 0] rfl ?_
  refine t_X0_store_L17 F K hd (fun s4 => ?_) F (0 : Int32) s1
  exact z_vret K dX0_store_41
def f_X0_restore_L2 (F : Nat) (k22 : zM → Option (Unit × zM)) : Nat → Int32 → zM → Option (Unit × zM)
  | 0, _, _ => none
  | n + 1, v1, s =>
    if v1 < (zg s 3 8) then
      bnd (f_X0_place v1 (-1 : Int32) s) (fun _ s1 =>
      lt (v1 + (1 : Int32)) (fun y2 =>
      f_X0_restore_L2 F k22 n y2 s1))
    else
      k22 s
set_option maxRecDepth 100000 in
set_option maxHeartbeats 4000000 in
theorem t_X0_restore_L2 {a : zA} {d : Nat} (F : Nat) (K : zOK a cX0_restore 2 RX0 none d) (hd : 2 ≤ d) {k22 : zM → Option (Unit × zM)} (h22 : ∀ (s : zM), zJ a 2 (zG a zφN zrv) zφN 22 [(0, .ref (a.1.2.2.2 + 3))] [] s (k22 s)) : ∀ (n : Nat) (v1 : Int32) (s : zM), zJ a 2 (zG a zφN zrv) zφN 2 [(0, .ref (a.1.2.2.2 + 3)), (1, .int v1)] [] s (f_X0_restore_L2 F k22 n v1 s) := by
  intro n
  induction n with
  | zero => intros; exact z_none
  | succ n ih =>
    intro v1 s
    rw [f_X0_restore_L2]
    refine z_iload_n K 1 rfl dX0_restore_2 ?_
    refine z_aload_n K 0 rfl dX0_restore_3 ?_
    refine z_geti K fd_X0_39 ob_3_8 dX0_restore_4 ?_
    refine z_icmp_ge K (tgt := 22) dX0_restore_7 (by decide) ?_ ?_
    · refine z_sub [0] rfl ?_
      exact h22 s
    · refine z_aload_n K 0 rfl dX0_restore_10 ?_
      refine z_iload_n K 1 rfl dX0_restore_11 ?_
      refine z_iconst K ci_m1 dX0_restore_12 ?_
      refine z_cVv (As := [.int v1, .int (-1 : Int32)]) (rest := []) K (t_X0_place a.1 (d - 1) (by omega) v1 (-1 : Int32) s) mf_X0_place ml_X0_64 (Nat.le_of_ble_eq_true rfl) (by omega) rfl rc_3 rfl (Nat.le_of_ble_eq_true rfl) dX0_restore_13 (fun _ s1 => ?_)
      refine z_iincN K (j := 1) (lv' := [(0, .ref (a.1.2.2.2 + 3))]) ci_1 rfl dX0_restore_16 (Nat.le_of_ble_eq_true rfl) rfl (fun y2 => ?_)
      refine z_goto K (tgt := 2) dX0_restore_19 (by decide) ?_
      refine z_sub [1, 0] rfl ?_
      exact ih y2 s1
def f_X0_restore_L24 (F : Nat) (k67 : zM → Option (Unit × zM)) : Nat → Int32 → zM → Option (Unit × zM)
  | 0, _, _ => none
  | n + 1, v1, s =>
    if v1 < (zg s 3 8) then
      if v1 < (16 : Int32) then
        if zin v1 16 = true then
          if zin v1 16 = true then
            lt (zs s 5 (v1).toNatClampNeg (vp_nar .boolean (zg s 10 (v1).toNatClampNeg))) (fun s4 =>
            if zin v1 16 = true then
              bnd (f_X0_place v1 (zg s4 11 (v1).toNatClampNeg) s4) (fun _ s5 =>
              lt (v1 + (1 : Int32)) (fun y6 =>
              f_X0_restore_L24 F k67 n y6 s5))
            else none)
          else none
        else none
      else
        k67 s
    else
      k67 s
set_option maxRecDepth 100000 in
set_option maxHeartbeats 4000000 in
theorem t_X0_restore_L24 {a : zA} {d : Nat} (F : Nat) (K : zOK a cX0_restore 2 RX0 none d) (hd : 2 ≤ d) {k67 : zM → Option (Unit × zM)} (h67 : ∀ (s : zM), zJ a 2 (zG a zφN zrv) zφN 67 [] [] s (k67 s)) : ∀ (n : Nat) (v1 : Int32) (s : zM), zJ a 2 (zG a zφN zrv) zφN 24 [(0, .ref (a.1.2.2.2 + 3)), (1, .int v1)] [] s (f_X0_restore_L24 F k67 n v1 s) := by
  intro n
  induction n with
  | zero => intros; exact z_none
  | succ n ih =>
    intro v1 s
    rw [f_X0_restore_L24]
    refine z_iload_n K 1 rfl dX0_restore_24 ?_
    refine z_aload_n K 0 rfl dX0_restore_25 ?_
    refine z_geti K fd_X0_39 ob_3_8 dX0_restore_26 ?_
    refine z_icmp_ge K (tgt := 67) dX0_restore_29 (by decide) ?_ ?_
    · refine z_sub [] rfl ?_
      exact h67 s
    · refine z_iload_n K 1 rfl dX0_restore_32 ?_
      refine z_bipush K cb_16 dX0_restore_33 ?_
      refine z_icmp_ge K (tgt := 67) dX0_restore_35 (by decide) ?_ ?_
      · refine z_sub [] rfl ?_
        exact h67 s
      · refine z_aload_n K 0 rfl dX0_restore_38 ?_
        refine z_getr K fd_X0_15 ob_3_1 dX0_restore_39 ?_
        refine z_iload_n K 1 rfl dX0_restore_42 ?_
        refine z_aload_n K 0 rfl dX0_restore_43 ?_
        refine z_getr K fd_X0_33 ob_3_6 dX0_restore_44 ?_
        refine z_iload_n K 1 rfl dX0_restore_47 ?_
        refine z_zald K ar_10 dX0_restore_48 ?_
        refine z_zast K ar_5 dX0_restore_49 ?_
        refine z_ltm (fun s4 => ?_)
        refine z_aload_n K 0 rfl dX0_restore_50 ?_
        refine z_iload_n K 1 rfl dX0_restore_51 ?_
        refine z_aload_n K 0 rfl dX0_restore_52 ?_
        refine z_getr K fd_X0_36 ob_3_7 dX0_restore_53 ?_
        refine z_iload_n K 1 rfl dX0_restore_56 ?_
        refine z_iald K ar_11 dX0_restore_57 ?_
        refine z_cVv (As := [.int v1, .int (zg s4 11 (v1).toNatClampNeg)]) (rest := []) K (t_X0_place a.1 (d - 1) (by omega) v1 (zg s4 11 (v1).toNatClampNeg) s4) mf_X0_place ml_X0_64 (Nat.le_of_ble_eq_true rfl) (by omega) rfl rc_3 rfl (Nat.le_of_ble_eq_true rfl) dX0_restore_58 (fun _ s5 => ?_)
        refine z_iincN K (j := 1) (lv' := [(0, .ref (a.1.2.2.2 + 3))]) ci_1 rfl dX0_restore_61 (Nat.le_of_ble_eq_true rfl) rfl (fun y6 => ?_)
        refine z_goto K (tgt := 24) dX0_restore_64 (by decide) ?_
        refine z_sub [1, 0] rfl ?_
        exact ih y6 s5
def f_X0_restore (F : Nat) (s : zM) : Option (Unit × zM) :=
  f_X0_restore_L2 F (fun s3 =>
    f_X0_restore_L24 F (fun s7 =>
      some ((), s7)) F (0 : Int32) s3) F (0 : Int32) s
set_option maxRecDepth 100000 in
set_option maxHeartbeats 4000000 in
theorem t_X0_restore (w : zWd) (F : Nat) (d : Nat) (hd : 2 ≤ d) (s : zM) : zMt w yX0_restore cX0_restore 2 none d zφN zφN zrv [.ref (w.2.2.2 + 3)] s (f_X0_restore F s) := by
  refine zMtN_of (own := RX0) rfl (by decide +kernel) (Nat.le_of_ble_eq_true rfl) cd_X0_restore [(0, .ref (w.2.2.2 + 3))] rfl ?_
  rintro a rfl K
  unfold f_X0_restore
  refine z_iconst K ci_0 dX0_restore_0 ?_
  refine z_istore_n K (lv' := [(1, .int (0 : Int32)), (0, .ref (a.1.2.2.2 + 3))]) dX0_restore_1 rfl (Nat.le_of_ble_eq_true rfl) rfl ?_
  refine z_sub [1, 0] rfl ?_
  refine t_X0_restore_L2 F K hd (fun s3 => ?_) F (0 : Int32) s
  refine z_iconst K ci_0 dX0_restore_22 ?_
  refine z_istore_n K (lv' := [(1, .int (0 : Int32)), (0, .ref (a.1.2.2.2 + 3))]) dX0_restore_23 rfl (Nat.le_of_ble_eq_true rfl) rfl ?_
  refine z_sub [1, 0] rfl ?_
  refine t_X0_restore_L24 F K hd (fun s7 => ?_) F (0 : Int32) s3
  exact z_vret K dX0_restore_67
def f_X3_number (i : Nat) (s : zM) : Option (Int32 × zM) :=
  some ((zg s i 7), s)
set_option maxRecDepth 100000 in
set_option maxHeartbeats 4000000 in
theorem t_X3_number (w : zWd) (d : Nat) (hd : 0 ≤ d) (i : Nat) (hi : zLw i = true) (s : zM) : zMt w yX3_number cX3_number 1 (some .int) d zφN zφN zri [.ref (w.2.2.2 + i)] s (f_X3_number i s) := by
  refine zMtN_of (own := RX3) rfl (by decide +kernel) (Nat.le_of_ble_eq_true rfl) cd_X3_number [(0, .ref (w.2.2.2 + i))] rfl ?_
  rintro a rfl K
  unfold f_X3_number
  refine z_aload_n K 0 rfl dX3_number_0 ?_
  refine z_geti K fd_X3_31 (obL_7 hi) dX3_number_1 ?_
  exact z_iret K dX3_number_4
def f_X3_isFull (i : Nat) (s : zM) : Option (Int32 × zM) :=
  if (zg s i 7) < (14 : Int32) then
    some ((0 : Int32), s)
  else
    some ((1 : Int32), s)
set_option maxRecDepth 100000 in
set_option maxHeartbeats 4000000 in
theorem t_X3_isFull (w : zWd) (d : Nat) (hd : 0 ≤ d) (i : Nat) (hi : zLw i = true) (s : zM) : zMt w yX3_isFull cX3_isFull 1 (some .boolean) d zφN zφN zri [.ref (w.2.2.2 + i)] s (f_X3_isFull i s) := by
  refine zMtN_of (own := RX3) rfl (by decide +kernel) (Nat.le_of_ble_eq_true rfl) cd_X3_isFull [(0, .ref (w.2.2.2 + i))] rfl ?_
  rintro a rfl K
  unfold f_X3_isFull
  refine z_aload_n K 0 rfl dX3_isFull_0 ?_
  refine z_geti K fd_X3_31 (obL_7 hi) dX3_isFull_1 ?_
  refine z_bipush K cb_14 dX3_isFull_4 ?_
  refine z_icmp_lt K (tgt := 13) dX3_isFull_6 (by decide) ?_ ?_
  · refine z_iconst K ci_0 dX3_isFull_13 ?_
    exact z_zret (Or.inl rfl) K dX3_isFull_14
  · refine z_iconst K ci_1 dX3_isFull_9 ?_
    refine z_goto K (tgt := 14) dX3_isFull_10 (by decide) ?_
    exact z_zret (Or.inr rfl) K dX3_isFull_14
def f_X3_clear (i : Nat) (s : zM) : Option (Unit × zM) :=
  lt (zs s i 7 (0 : Int32)) (fun s1 =>
  lt (zs s1 i 8 (0 : Int32)) (fun s2 =>
  some ((), s2)))
set_option maxRecDepth 100000 in
set_option maxHeartbeats 4000000 in
theorem t_X3_clear (w : zWd) (d : Nat) (hd : 0 ≤ d) (i : Nat) (hi : zLw i = true) (s : zM) : zMt w yX3_clear cX3_clear 1 none d zφN zφN zrv [.ref (w.2.2.2 + i)] s (f_X3_clear i s) := by
  refine zMtN_of (own := RX3) rfl (by decide +kernel) (Nat.le_of_ble_eq_true rfl) cd_X3_clear [(0, .ref (w.2.2.2 + i))] rfl ?_
  rintro a rfl K
  unfold f_X3_clear
  refine z_aload_n K 0 rfl dX3_clear_0 ?_
  refine z_iconst K ci_0 dX3_clear_1 ?_
  refine z_puti K fw_X3_31 (obL_7 hi) dX3_clear_2 ?_
  refine z_ltm (fun s1 => ?_)
  refine z_aload_n K 0 rfl dX3_clear_5 ?_
  refine z_iconst K ci_0 dX3_clear_6 ?_
  refine z_puti K fw_X3_35 (obL_8 hi) dX3_clear_7 ?_
  refine z_ltm (fun s2 => ?_)
  exact z_vret K dX3_clear_10
def f_X3_begin (i : Nat) (v1 : Int32) (s : zM) : Option (Unit × zM) :=
  bnd (f_X3_isFull i s) (fun r2 s1 =>
  if r2 = 0 then
    if zin (zg s1 i 7) 14 = true then
      lt (zs s1 (i + 1) ((zg s1 i 7)).toNatClampNeg v1) (fun s3 =>
      if zin (zg s3 i 7) 14 = true then
        lt (zs s3 (i + 2) ((zg s3 i 7)).toNatClampNeg (zg s3 i 8)) (fun s4 =>
        some ((), s4))
      else none)
    else none
  else
    some ((), s1))
set_option maxRecDepth 100000 in
set_option maxHeartbeats 4000000 in
theorem t_X3_begin (w : zWd) (d : Nat) (hd : 1 ≤ d) (i : Nat) (hi : zLw i = true) (v1 : Int32) (s : zM) : zMt w yX3_begin cX3_begin 2 none d zφN zφN zrv [.ref (w.2.2.2 + i), .int v1] s (f_X3_begin i v1 s) := by
  refine zMtN_of (own := RX3) rfl (by decide +kernel) (Nat.le_of_ble_eq_true rfl) cd_X3_begin [(0, .ref (w.2.2.2 + i)), (1, .int v1)] rfl ?_
  rintro a rfl K
  unfold f_X3_begin
  refine z_aload_n K 0 rfl dX3_begin_0 ?_
  refine z_cVi (As := []) (rest := []) K (t_X3_isFull a.1 (d - 1) (by omega) i hi s) mf_X3_isFull ml_X3_38 (Nat.le_of_ble_eq_true rfl) (by omega) rfl (rcL hi) rfl (Nat.le_of_ble_eq_true rfl) dX3_begin_1 (fun r2 s1 => ?_)
  refine z_if_ne K (tgt := 30) dX3_begin_4 (by decide) ?_ ?_
  · exact z_vret K dX3_begin_30
  · refine z_aload_n K 0 rfl dX3_begin_7 ?_
    refine z_getr K fd_X3_9 (obL_0 hi) dX3_begin_8 ?_
    refine z_aload_n K 0 rfl dX3_begin_11 ?_
    refine z_geti K fd_X3_31 (obL_7 hi) dX3_begin_12 ?_
    refine z_iload_n K 1 rfl dX3_begin_15 ?_
    refine z_iast K (arL_1 hi) dX3_begin_16 ?_
    refine z_ltm (fun s3 => ?_)
    refine z_aload_n K 0 rfl dX3_begin_17 ?_
    refine z_getr K fd_X3_13 (obL_1 hi) dX3_begin_18 ?_
    refine z_aload_n K 0 rfl dX3_begin_21 ?_
    refine z_geti K fd_X3_31 (obL_7 hi) dX3_begin_22 ?_
    refine z_aload_n K 0 rfl dX3_begin_25 ?_
    refine z_geti K fd_X3_35 (obL_8 hi) dX3_begin_26 ?_
    refine z_iast K (arL_2 hi) dX3_begin_29 ?_
    refine z_ltm (fun s4 => ?_)
    exact z_vret K dX3_begin_30
def f_X3_beginCondition (i : Nat) (s : zM) : Option (Unit × zM) :=
  bnd (f_X3_isFull i s) (fun r2 s1 =>
  if r2 = 0 then
    if zin (zg s1 i 7) 14 = true then
      lt (zs s1 (i + 3) ((zg s1 i 7)).toNatClampNeg (zg s1 i 8)) (fun s3 =>
      some ((), s3))
    else none
  else
    some ((), s1))
set_option maxRecDepth 100000 in
set_option maxHeartbeats 4000000 in
theorem t_X3_beginCondition (w : zWd) (d : Nat) (hd : 1 ≤ d) (i : Nat) (hi : zLw i = true) (s : zM) : zMt w yX3_beginCondition cX3_beginCondition 1 none d zφN zφN zrv [.ref (w.2.2.2 + i)] s (f_X3_beginCondition i s) := by
  refine zMtN_of (own := RX3) rfl (by decide +kernel) (Nat.le_of_ble_eq_true rfl) cd_X3_beginCondition [(0, .ref (w.2.2.2 + i))] rfl ?_
  rintro a rfl K
  unfold f_X3_beginCondition
  refine z_aload_n K 0 rfl dX3_beginCondition_0 ?_
  refine z_cVi (As := []) (rest := []) K (t_X3_isFull a.1 (d - 1) (by omega) i hi s) mf_X3_isFull ml_X3_38 (Nat.le_of_ble_eq_true rfl) (by omega) rfl (rcL hi) rfl (Nat.le_of_ble_eq_true rfl) dX3_beginCondition_1 (fun r2 s1 => ?_)
  refine z_if_ne K (tgt := 20) dX3_beginCondition_4 (by decide) ?_ ?_
  · exact z_vret K dX3_beginCondition_20
  · refine z_aload_n K 0 rfl dX3_beginCondition_7 ?_
    refine z_getr K fd_X3_16 (obL_2 hi) dX3_beginCondition_8 ?_
    refine z_aload_n K 0 rfl dX3_beginCondition_11 ?_
    refine z_geti K fd_X3_31 (obL_7 hi) dX3_beginCondition_12 ?_
    refine z_aload_n K 0 rfl dX3_beginCondition_15 ?_
    refine z_geti K fd_X3_35 (obL_8 hi) dX3_beginCondition_16 ?_
    refine z_iast K (arL_3 hi) dX3_beginCondition_19 ?_
    refine z_ltm (fun s3 => ?_)
    exact z_vret K dX3_beginCondition_20
def f_X3_end (i : Nat) (s : zM) : Option (Unit × zM) :=
  bnd (f_X3_isFull i s) (fun r2 s1 =>
  if r2 = 0 then
    if zin (zg s1 i 7) 14 = true then
      lt (zs s1 (i + 4) ((zg s1 i 7)).toNatClampNeg (zg s1 i 8)) (fun s3 =>
      lt (zs s3 i 7 ((zg s3 i 7) + (1 : Int32))) (fun s4 =>
      some ((), s4)))
    else none
  else
    some ((), s1))
set_option maxRecDepth 100000 in
set_option maxHeartbeats 4000000 in
theorem t_X3_end (w : zWd) (d : Nat) (hd : 1 ≤ d) (i : Nat) (hi : zLw i = true) (s : zM) : zMt w yX3_end cX3_end 1 none d zφN zφN zrv [.ref (w.2.2.2 + i)] s (f_X3_end i s) := by
  refine zMtN_of (own := RX3) rfl (by decide +kernel) (Nat.le_of_ble_eq_true rfl) cd_X3_end [(0, .ref (w.2.2.2 + i))] rfl ?_
  rintro a rfl K
  unfold f_X3_end
  refine z_aload_n K 0 rfl dX3_end_0 ?_
  refine z_cVi (As := []) (rest := []) K (t_X3_isFull a.1 (d - 1) (by omega) i hi s) mf_X3_isFull ml_X3_38 (Nat.le_of_ble_eq_true rfl) (by omega) rfl (rcL hi) rfl (Nat.le_of_ble_eq_true rfl) dX3_end_1 (fun r2 s1 => ?_)
  refine z_if_ne K (tgt := 30) dX3_end_4 (by decide) ?_ ?_
  · exact z_vret K dX3_end_30
  · refine z_aload_n K 0 rfl dX3_end_7 ?_
    refine z_getr K fd_X3_19 (obL_3 hi) dX3_end_8 ?_
    refine z_aload_n K 0 rfl dX3_end_11 ?_
    refine z_geti K fd_X3_31 (obL_7 hi) dX3_end_12 ?_
    refine z_aload_n K 0 rfl dX3_end_15 ?_
    refine z_geti K fd_X3_35 (obL_8 hi) dX3_end_16 ?_
    refine z_iast K (arL_4 hi) dX3_end_19 ?_
    refine z_ltm (fun s3 => ?_)
    refine z_aload_n K 0 rfl dX3_end_20 ?_
    refine z_dup K rfl dX3_end_21 ?_
    refine z_geti K fd_X3_31 (obL_7 hi) dX3_end_22 ?_
    refine z_iconst K ci_1 dX3_end_25 ?_
    refine z_iadd K dX3_end_26 ?_
    refine z_puti K fw_X3_31 (obL_7 hi) dX3_end_27 ?_
    refine z_ltm (fun s4 => ?_)
    exact z_vret K dX3_end_30
def f_X3_add (i : Nat) (v1 : Int32) (v2 : Int32) (s : zM) : Option (Int32 × zM) :=
  if (zg s i 8) < (200 : Int32) then
    if zin (zg s i 8) 200 = true then
      lt (zs s (i + 5) ((zg s i 8)).toNatClampNeg v1) (fun s1 =>
      if zin (zg s1 i 8) 200 = true then
        lt (zs s1 (i + 6) ((zg s1 i 8)).toNatClampNeg v2) (fun s2 =>
        lt (zs s2 i 8 ((zg s2 i 8) + (1 : Int32))) (fun s3 =>
        some (((zg s3 i 8) - (1 : Int32)), s3)))
      else none)
    else none
  else
    some (((zg s i 8) - (1 : Int32)), s)
set_option maxRecDepth 100000 in
set_option maxHeartbeats 4000000 in
theorem t_X3_add (w : zWd) (d : Nat) (hd : 0 ≤ d) (i : Nat) (hi : zLw i = true) (v1 : Int32) (v2 : Int32) (s : zM) : zMt w yX3_add cX3_add 3 (some .int) d zφN zφN zri [.ref (w.2.2.2 + i), .int v1, .int v2] s (f_X3_add i v1 v2 s) := by
  refine zMtN_of (own := RX3) rfl (by decide +kernel) (Nat.le_of_ble_eq_true rfl) cd_X3_add [(0, .ref (w.2.2.2 + i)), (1, .int v1), (2, .int v2)] rfl ?_
  rintro a rfl K
  unfold f_X3_add
  refine z_aload_n K 0 rfl dX3_add_0 ?_
  refine z_geti K fd_X3_35 (obL_8 hi) dX3_add_1 ?_
  refine z_sipush K cs_200 dX3_add_4 ?_
  refine z_icmp_ge K (tgt := 40) dX3_add_7 (by decide) ?_ ?_
  · refine z_aload_n K 0 rfl dX3_add_40 ?_
    refine z_geti K fd_X3_35 (obL_8 hi) dX3_add_41 ?_
    refine z_iconst K ci_1 dX3_add_44 ?_
    refine z_isub K dX3_add_45 ?_
    exact z_iret K dX3_add_46
  · refine z_aload_n K 0 rfl dX3_add_10 ?_
    refine z_getr K fd_X3_22 (obL_4 hi) dX3_add_11 ?_
    refine z_aload_n K 0 rfl dX3_add_14 ?_
    refine z_geti K fd_X3_35 (obL_8 hi) dX3_add_15 ?_
    refine z_iload_n K 1 rfl dX3_add_18 ?_
    refine z_iast K (arL_5 hi) dX3_add_19 ?_
    refine z_ltm (fun s1 => ?_)
    refine z_aload_n K 0 rfl dX3_add_20 ?_
    refine z_getr K fd_X3_25 (obL_5 hi) dX3_add_21 ?_
    refine z_aload_n K 0 rfl dX3_add_24 ?_
    refine z_geti K fd_X3_35 (obL_8 hi) dX3_add_25 ?_
    refine z_iload_n K 2 rfl dX3_add_28 ?_
    refine z_iast K (arL_6 hi) dX3_add_29 ?_
    refine z_ltm (fun s2 => ?_)
    refine z_aload_n K 0 rfl dX3_add_30 ?_
    refine z_dup K rfl dX3_add_31 ?_
    refine z_geti K fd_X3_35 (obL_8 hi) dX3_add_32 ?_
    refine z_iconst K ci_1 dX3_add_35 ?_
    refine z_iadd K dX3_add_36 ?_
    refine z_puti K fw_X3_35 (obL_8 hi) dX3_add_37 ?_
    refine z_ltm (fun s3 => ?_)
    refine z_aload_n K 0 rfl dX3_add_40 ?_
    refine z_geti K fd_X3_35 (obL_8 hi) dX3_add_41 ?_
    refine z_iconst K ci_1 dX3_add_44 ?_
    refine z_isub K dX3_add_45 ?_
    exact z_iret K dX3_add_46
def f_X3_land (i : Nat) (v1 : Int32) (s : zM) : Option (Unit × zM) :=
  if v1 < 0 then
    some ((), s)
  else
    if v1 < (zg s i 8) then
      if zin v1 200 = true then
        lt (zs s (i + 6) (v1).toNatClampNeg (zg s i 8)) (fun s1 =>
        some ((), s1))
      else none
    else
      some ((), s)
set_option maxRecDepth 100000 in
set_option maxHeartbeats 4000000 in
theorem t_X3_land (w : zWd) (d : Nat) (hd : 0 ≤ d) (i : Nat) (hi : zLw i = true) (v1 : Int32) (s : zM) : zMt w yX3_land cX3_land 2 none d zφN zφN zrv [.ref (w.2.2.2 + i), .int v1] s (f_X3_land i v1 s) := by
  refine zMtN_of (own := RX3) rfl (by decide +kernel) (Nat.le_of_ble_eq_true rfl) cd_X3_land [(0, .ref (w.2.2.2 + i)), (1, .int v1)] rfl ?_
  rintro a rfl K
  unfold f_X3_land
  refine z_iload_n K 1 rfl dX3_land_0 ?_
  refine z_if_lt K (tgt := 22) dX3_land_1 (by decide) ?_ ?_
  · exact z_vret K dX3_land_22
  · refine z_iload_n K 1 rfl dX3_land_4 ?_
    refine z_aload_n K 0 rfl dX3_land_5 ?_
    refine z_geti K fd_X3_35 (obL_8 hi) dX3_land_6 ?_
    refine z_icmp_ge K (tgt := 22) dX3_land_9 (by decide) ?_ ?_
    · exact z_vret K dX3_land_22
    · refine z_aload_n K 0 rfl dX3_land_12 ?_
      refine z_getr K fd_X3_25 (obL_5 hi) dX3_land_13 ?_
      refine z_iload_n K 1 rfl dX3_land_16 ?_
      refine z_aload_n K 0 rfl dX3_land_17 ?_
      refine z_geti K fd_X3_35 (obL_8 hi) dX3_land_18 ?_
      refine z_iast K (arL_6 hi) dX3_land_21 ?_
      refine z_ltm (fun s1 => ?_)
      exact z_vret K dX3_land_22
def f_X3_taken (v0 : Int32) (s : zM) : Option (Int32 × zM) :=
  if v0 = (1 : Int32) then
    some ((0 : Int32), s)
  else
    if v0 = (2 : Int32) then
      some ((0 : Int32), s)
    else
      if v0 = (33 : Int32) then
        some ((1 : Int32), s)
      else
        if v0 = (38 : Int32) then
          some ((1 : Int32), s)
        else
          if v0 = (124 : Int32) then
            some ((1 : Int32), s)
          else
            some ((2 : Int32), s)
set_option maxRecDepth 100000 in
set_option maxHeartbeats 4000000 in
theorem t_X3_taken (w : zWd) (d : Nat) (hd : 0 ≤ d) (v0 : Int32) (s : zM) : zMt w yX3_taken cX3_taken 1 (some .int) d zφN zφN zri [.int v0] s (f_X3_taken v0 s) := by
  refine zMtN_of (own := RX3) rfl (by decide +kernel) (Nat.le_of_ble_eq_true rfl) cd_X3_taken [(0, .int v0)] rfl ?_
  rintro a rfl K
  unfold f_X3_taken
  refine z_iload_n K 0 rfl dX3_taken_0 ?_
  refine z_iconst K ci_1 dX3_taken_1 ?_
  refine z_icmp_eq K (tgt := 10) dX3_taken_2 (by decide) ?_ ?_
  · refine z_iconst K ci_0 dX3_taken_10 ?_
    exact z_iret K dX3_taken_11
  · refine z_iload_n K 0 rfl dX3_taken_5 ?_
    refine z_iconst K ci_2 dX3_taken_6 ?_
    refine z_icmp_ne K (tgt := 12) dX3_taken_7 (by decide) ?_ ?_
    · refine z_iload_n K 0 rfl dX3_taken_12 ?_
      refine z_bipush K cb_33 dX3_taken_13 ?_
      refine z_icmp_eq K (tgt := 30) dX3_taken_15 (by decide) ?_ ?_
      · refine z_iconst K ci_1 dX3_taken_30 ?_
        refine z_goto K (tgt := 35) dX3_taken_31 (by decide) ?_
        exact z_iret K dX3_taken_35
      · refine z_iload_n K 0 rfl dX3_taken_18 ?_
        refine z_bipush K cb_38 dX3_taken_19 ?_
        refine z_icmp_eq K (tgt := 30) dX3_taken_21 (by decide) ?_ ?_
        · refine z_iconst K ci_1 dX3_taken_30 ?_
          refine z_goto K (tgt := 35) dX3_taken_31 (by decide) ?_
          exact z_iret K dX3_taken_35
        · refine z_iload_n K 0 rfl dX3_taken_24 ?_
          refine z_bipush K cb_124 dX3_taken_25 ?_
          refine z_icmp_ne K (tgt := 34) dX3_taken_27 (by decide) ?_ ?_
          · refine z_iconst K ci_2 dX3_taken_34 ?_
            exact z_iret K dX3_taken_35
          · refine z_iconst K ci_1 dX3_taken_30 ?_
            refine z_goto K (tgt := 35) dX3_taken_31 (by decide) ?_
            exact z_iret K dX3_taken_35
    · refine z_iconst K ci_0 dX3_taken_10 ?_
      exact z_iret K dX3_taken_11
def f_X3_combined (v0 : Int32) (v1 : Int32) (v2 : Int32) (s : zM) : Option (Int32 × zM) :=
  if v0 = (37 : Int32) then
    if v2 = 0 then
      some ((0 : Int32), s)
    else
      if v2 = 0 then none else
      some ((v1 - v1 / v2 * v2), s)
  else
    if v0 = (42 : Int32) then
      some ((v1 * v2), s)
    else
      if v0 = (43 : Int32) then
        some ((v1 + v2), s)
      else
        if v0 = (45 : Int32) then
          some ((v1 - v2), s)
        else
          if v0 = (47 : Int32) then
            if v2 = 0 then
              some ((0 : Int32), s)
            else
              if v2 = 0 then none else
              some ((v1 / v2), s)
          else
            if v0 = (60 : Int32) then
              if v1 < v2 then
                some ((1 : Int32), s)
              else
                some ((0 : Int32), s)
            else
              if v0 = (62 : Int32) then
                if v2 < v1 then
                  some ((1 : Int32), s)
                else
                  some ((0 : Int32), s)
              else
                if v1 = v2 then
                  some ((1 : Int32), s)
                else
                  some ((0 : Int32), s)
set_option maxRecDepth 100000 in
set_option maxHeartbeats 4000000 in
theorem t_X3_combined (w : zWd) (d : Nat) (hd : 0 ≤ d) (v0 : Int32) (v1 : Int32) (v2 : Int32) (s : zM) : zMt w yX3_combined cX3_combined 3 (some .int) d zφN zφN zri [.int v0, .int v1, .int v2] s (f_X3_combined v0 v1 v2 s) := by
  refine zMtN_of (own := RX3) rfl (by decide +kernel) (Nat.le_of_ble_eq_true rfl) cd_X3_combined [(0, .int v0), (1, .int v1), (2, .int v2)] rfl ?_
  rintro a rfl K
  unfold f_X3_combined
  refine z_iload_n K 0 rfl dX3_combined_0 ?_
  refine z_ite (fun hs37 => ?_) (fun hs37 => ?_)
  · refine z_lsw K (tgt := 92) dX3_combined_1 (by decide) (off := 91) (by rw [hs37]; decide) (by decide) ?_
    refine z_iload_n K 2 rfl dX3_combined_92 ?_
    refine z_if_ne K (tgt := 100) dX3_combined_93 (by decide) ?_ ?_
    · refine z_iload_n K 1 rfl dX3_combined_100 ?_
      refine z_iload_n K 2 rfl dX3_combined_101 ?_
      refine z_irem K dX3_combined_102 ?_
      exact z_iret K dX3_combined_103
    · refine z_iconst K ci_0 dX3_combined_96 ?_
      refine z_goto K (tgt := 103) dX3_combined_97 (by decide) ?_
      exact z_iret K dX3_combined_103
  · refine z_ite (fun hs42 => ?_) (fun hs42 => ?_)
    · refine z_lsw K (tgt := 76) dX3_combined_1 (by decide) (off := 75) (by rw [hs42]; decide) (by decide) ?_
      refine z_iload_n K 1 rfl dX3_combined_76 ?_
      refine z_iload_n K 2 rfl dX3_combined_77 ?_
      refine z_imul K dX3_combined_78 ?_
      exact z_iret K dX3_combined_79
    · refine z_ite (fun hs43 => ?_) (fun hs43 => ?_)
      · refine z_lsw K (tgt := 68) dX3_combined_1 (by decide) (off := 67) (by rw [hs43]; decide) (by decide) ?_
        refine z_iload_n K 1 rfl dX3_combined_68 ?_
        refine z_iload_n K 2 rfl dX3_combined_69 ?_
        refine z_iadd K dX3_combined_70 ?_
        exact z_iret K dX3_combined_71
      · refine z_ite (fun hs45 => ?_) (fun hs45 => ?_)
        · refine z_lsw K (tgt := 72) dX3_combined_1 (by decide) (off := 71) (by rw [hs45]; decide) (by decide) ?_
          refine z_iload_n K 1 rfl dX3_combined_72 ?_
          refine z_iload_n K 2 rfl dX3_combined_73 ?_
          refine z_isub K dX3_combined_74 ?_
          exact z_iret K dX3_combined_75
        · refine z_ite (fun hs47 => ?_) (fun hs47 => ?_)
          · refine z_lsw K (tgt := 80) dX3_combined_1 (by decide) (off := 79) (by rw [hs47]; decide) (by decide) ?_
            refine z_iload_n K 2 rfl dX3_combined_80 ?_
            refine z_if_ne K (tgt := 88) dX3_combined_81 (by decide) ?_ ?_
            · refine z_iload_n K 1 rfl dX3_combined_88 ?_
              refine z_iload_n K 2 rfl dX3_combined_89 ?_
              refine z_idiv K dX3_combined_90 ?_
              exact z_iret K dX3_combined_91
            · refine z_iconst K ci_0 dX3_combined_84 ?_
              refine z_goto K (tgt := 91) dX3_combined_85 (by decide) ?_
              exact z_iret K dX3_combined_91
          · refine z_ite (fun hs60 => ?_) (fun hs60 => ?_)
            · refine z_lsw K (tgt := 104) dX3_combined_1 (by decide) (off := 103) (by rw [hs60]; decide) (by decide) ?_
              refine z_iload_n K 1 rfl dX3_combined_104 ?_
              refine z_iload_n K 2 rfl dX3_combined_105 ?_
              refine z_icmp_ge K (tgt := 113) dX3_combined_106 (by decide) ?_ ?_
              · refine z_iconst K ci_0 dX3_combined_113 ?_
                exact z_iret K dX3_combined_114
              · refine z_iconst K ci_1 dX3_combined_109 ?_
                refine z_goto K (tgt := 114) dX3_combined_110 (by decide) ?_
                exact z_iret K dX3_combined_114
            · refine z_ite (fun hs62 => ?_) (fun hs62 => ?_)
              · refine z_lsw K (tgt := 115) dX3_combined_1 (by decide) (off := 114) (by rw [hs62]; decide) (by decide) ?_
                refine z_iload_n K 1 rfl dX3_combined_115 ?_
                refine z_iload_n K 2 rfl dX3_combined_116 ?_
                refine z_icmp_le K (tgt := 124) dX3_combined_117 (by decide) ?_ ?_
                · refine z_iconst K ci_0 dX3_combined_124 ?_
                  exact z_iret K dX3_combined_125
                · refine z_iconst K ci_1 dX3_combined_120 ?_
                  refine z_goto K (tgt := 125) dX3_combined_121 (by decide) ?_
                  exact z_iret K dX3_combined_125
              · refine z_lsw K (tgt := 126) dX3_combined_1 (by decide) (off := 125) (by show Op.lookupswitch.offset [(37, 91), (42, 75), (43, 67), (45, 71), (47, 79), (60, 103), (62, 114)] 125 v0.toInt = 125; rw [lv_osw hs37 (a := 37) rfl, lv_osw hs42 (a := 42) rfl, lv_osw hs43 (a := 43) rfl, lv_osw hs45 (a := 45) rfl, lv_osw hs47 (a := 47) rfl, lv_osw hs60 (a := 60) rfl, lv_osw hs62 (a := 62) rfl]; rfl) (by decide) ?_
                refine z_iload_n K 1 rfl dX3_combined_126 ?_
                refine z_iload_n K 2 rfl dX3_combined_127 ?_
                refine z_icmp_ne K (tgt := 135) dX3_combined_128 (by decide) ?_ ?_
                · refine z_iconst K ci_0 dX3_combined_135 ?_
                  exact z_iret K dX3_combined_136
                · refine z_iconst K ci_1 dX3_combined_131 ?_
                  refine z_goto K (tgt := 136) dX3_combined_132 (by decide) ?_
                  exact z_iret K dX3_combined_136
def f_X3_reckon_j209 (F : Nat) (i : Nat) (k9 : Int32 → Int32 → Int32 → zM → Option (Int32 × zM)) (v2 : Int32) (v4 : Int32) (v5 : Int32) (v6 : Int32) (v8 : Int32) (w0 : Int32) (w1 : Int32) (s : zM) : Option (Int32 × zM) :=
  if w1 = w0 then
    lt ((if v5 < v8 then v8 else v5)) (fun y8 =>
    lt (v6 + (1 : Int32)) (fun y9 =>
    k9 v4 y8 y9 s))
  else
    lt (v4 + (-1 : Int32)) (fun y6 =>
    lt (v6 + (1 : Int32)) (fun y7 =>
    k9 y6 v5 y7 s))
set_option maxRecDepth 100000 in
set_option maxHeartbeats 4000000 in
theorem t_X3_reckon_j209 {a : zA} {d : Nat} (F : Nat) (K : zOK a cX3_reckon 9 RX3 (some .int) d) (hd : 1 ≤ d) (i : Nat) (hi : zLw i = true) {k9 : Int32 → Int32 → Int32 → zM → Option (Int32 × zM)} (v2 : Int32) (h9 : ∀ (v4 : Int32) (v5 : Int32) (v6 : Int32) (s : zM), zJ a 9 (zG a zφN zri) zφN 9 [(0, .ref (a.1.2.2.2 + i)), (2, .int v2), (3, .ref (a.1.2.2.2 + 13)), (4, .int v4), (5, .int v5), (6, .int v6)] [] s (k9 v4 v5 v6 s)) (v4 : Int32) (v5 : Int32) (v6 : Int32) (v8 : Int32) (w0 : Int32) (w1 : Int32) (s : zM) : zJ a 9 (zG a zφN zri) zφN 209 [(0, .ref (a.1.2.2.2 + i)), (2, .int v2), (3, .ref (a.1.2.2.2 + 13)), (4, .int v4), (5, .int v5), (6, .int v6), (8, .int v8)] [.int w0, .int w1] s (f_X3_reckon_j209 F i k9 v2 v4 v5 v6 v8 w0 w1 s) := by
  unfold f_X3_reckon_j209
  refine z_icmp_ne K (tgt := 224) dX3_reckon_209 (by decide) ?_ ?_
  · refine z_iincN K (j := 3) (lv' := [(0, .ref (a.1.2.2.2 + i)), (2, .int v2), (3, .ref (a.1.2.2.2 + 13)), (5, .int v5), (6, .int v6), (8, .int v8)]) ci_m1 rfl dX3_reckon_224 (Nat.le_of_ble_eq_true rfl) rfl (fun y6 => ?_)
    refine z_goto K (tgt := 289) dX3_reckon_227 (by decide) ?_
    refine z_iincN K (j := 5) (lv' := [(4, .int y6), (0, .ref (a.1.2.2.2 + i)), (2, .int v2), (3, .ref (a.1.2.2.2 + 13)), (5, .int v5), (8, .int v8)]) ci_1 rfl dX3_reckon_289 (Nat.le_of_ble_eq_true rfl) rfl (fun y7 => ?_)
    refine z_goto K (tgt := 9) dX3_reckon_292 (by decide) ?_
    refine z_sub [2, 3, 4, 1, 5, 0] rfl ?_
    exact h9 y6 v5 y7 s
  · refine z_iload K 4 rfl dX3_reckon_212 ?_
    refine z_iload K 6 rfl dX3_reckon_214 ?_
    refine z_max K jm_max_s jm_ini jm_max_c ml_X3_52 rfl (by omega) (Nat.le_of_ble_eq_true rfl) dX3_reckon_216 ?_
    refine z_topi (fun y8 => ?_)
    refine z_istore K (lv' := [(5, .int y8), (0, .ref (a.1.2.2.2 + i)), (2, .int v2), (3, .ref (a.1.2.2.2 + 13)), (4, .int v4), (6, .int v6), (8, .int v8)]) dX3_reckon_219 (Nat.le_of_ble_eq_true rfl) rfl ?_
    refine z_goto K (tgt := 289) dX3_reckon_221 (by decide) ?_
    refine z_iincN K (j := 5) (lv' := [(5, .int y8), (0, .ref (a.1.2.2.2 + i)), (2, .int v2), (3, .ref (a.1.2.2.2 + 13)), (4, .int v4), (8, .int v8)]) ci_1 rfl dX3_reckon_289 (Nat.le_of_ble_eq_true rfl) rfl (fun y9 => ?_)
    refine z_goto K (tgt := 9) dX3_reckon_292 (by decide) ?_
    refine z_sub [2, 3, 4, 5, 1, 0] rfl ?_
    exact h9 v4 y8 y9 s
def f_X3_reckon_j197 (F : Nat) (i : Nat) (k9 : Int32 → Int32 → Int32 → zM → Option (Int32 × zM)) (v2 : Int32) (v4 : Int32) (v5 : Int32) (v6 : Int32) (v7 : Int32) (v8 : Int32) (w0 : Int32) (s : zM) : Option (Int32 × zM) :=
  if v7 = (124 : Int32) then
    f_X3_reckon_j209 F i k9 v2 v4 v5 v6 v8 (1 : Int32) w0 s
  else
    f_X3_reckon_j209 F i k9 v2 v4 v5 v6 v8 (0 : Int32) w0 s
set_option maxRecDepth 100000 in
set_option maxHeartbeats 4000000 in
theorem t_X3_reckon_j197 {a : zA} {d : Nat} (F : Nat) (K : zOK a cX3_reckon 9 RX3 (some .int) d) (hd : 1 ≤ d) (i : Nat) (hi : zLw i = true) {k9 : Int32 → Int32 → Int32 → zM → Option (Int32 × zM)} (v2 : Int32) (h9 : ∀ (v4 : Int32) (v5 : Int32) (v6 : Int32) (s : zM), zJ a 9 (zG a zφN zri) zφN 9 [(0, .ref (a.1.2.2.2 + i)), (2, .int v2), (3, .ref (a.1.2.2.2 + 13)), (4, .int v4), (5, .int v5), (6, .int v6)] [] s (k9 v4 v5 v6 s)) (v4 : Int32) (v5 : Int32) (v6 : Int32) (v7 : Int32) (v8 : Int32) (w0 : Int32) (s : zM) : zJ a 9 (zG a zφN zri) zφN 197 [(0, .ref (a.1.2.2.2 + i)), (2, .int v2), (3, .ref (a.1.2.2.2 + 13)), (4, .int v4), (5, .int v5), (6, .int v6), (7, .int v7), (8, .int v8)] [.int w0] s (f_X3_reckon_j197 F i k9 v2 v4 v5 v6 v7 v8 w0 s) := by
  unfold f_X3_reckon_j197
  refine z_iload K 6 rfl dX3_reckon_197 ?_
  refine z_bipush K cb_124 dX3_reckon_199 ?_
  refine z_icmp_ne K (tgt := 208) dX3_reckon_201 (by decide) ?_ ?_
  · refine z_iconst K ci_0 dX3_reckon_208 ?_
    refine z_sub [0, 1, 2, 3, 4, 5, 7] rfl ?_
    exact t_X3_reckon_j209 F K hd i hi v2 h9 v4 v5 v6 v8 (0 : Int32) w0 s
  · refine z_iconst K ci_1 dX3_reckon_204 ?_
    refine z_goto K (tgt := 209) dX3_reckon_205 (by decide) ?_
    refine z_sub [0, 1, 2, 3, 4, 5, 7] rfl ?_
    exact t_X3_reckon_j209 F K hd i hi v2 h9 v4 v5 v6 v8 (1 : Int32) w0 s
def f_X3_reckon_j180 (F : Nat) (i : Nat) (k9 : Int32 → Int32 → Int32 → zM → Option (Int32 × zM)) (v2 : Int32) (v4 : Int32) (v5 : Int32) (v6 : Int32) (v7 : Int32) (v8 : Int32) (s : zM) : Option (Int32 × zM) :=
  if zin (v4 - (1 : Int32)) 40 = true then
    if (zg s (i + 7) ((v4 - (1 : Int32))).toNatClampNeg) = 0 then
      f_X3_reckon_j197 F i k9 v2 v4 v5 v6 v7 v8 (0 : Int32) s
    else
      f_X3_reckon_j197 F i k9 v2 v4 v5 v6 v7 v8 (1 : Int32) s
  else none
set_option maxRecDepth 100000 in
set_option maxHeartbeats 4000000 in
theorem t_X3_reckon_j180 {a : zA} {d : Nat} (F : Nat) (K : zOK a cX3_reckon 9 RX3 (some .int) d) (hd : 1 ≤ d) (i : Nat) (hi : zLw i = true) {k9 : Int32 → Int32 → Int32 → zM → Option (Int32 × zM)} (v2 : Int32) (h9 : ∀ (v4 : Int32) (v5 : Int32) (v6 : Int32) (s : zM), zJ a 9 (zG a zφN zri) zφN 9 [(0, .ref (a.1.2.2.2 + i)), (2, .int v2), (3, .ref (a.1.2.2.2 + 13)), (4, .int v4), (5, .int v5), (6, .int v6)] [] s (k9 v4 v5 v6 s)) (v4 : Int32) (v5 : Int32) (v6 : Int32) (v7 : Int32) (v8 : Int32) (s : zM) : zJ a 9 (zG a zφN zri) zφN 180 [(0, .ref (a.1.2.2.2 + i)), (2, .int v2), (3, .ref (a.1.2.2.2 + 13)), (4, .int v4), (5, .int v5), (6, .int v6), (7, .int v7), (8, .int v8)] [] s (f_X3_reckon_j180 F i k9 v2 v4 v5 v6 v7 v8 s) := by
  unfold f_X3_reckon_j180
  refine z_aload_n K 0 rfl dX3_reckon_180 ?_
  refine z_getr K fd_X3_28 (obL_6 hi) dX3_reckon_181 ?_
  refine z_iload K 3 rfl dX3_reckon_184 ?_
  refine z_iconst K ci_1 dX3_reckon_186 ?_
  refine z_isub K dX3_reckon_187 ?_
  refine z_iald K (arL_7 hi) dX3_reckon_188 ?_
  refine z_if_eq K (tgt := 196) dX3_reckon_189 (by decide) ?_ ?_
  · refine z_iconst K ci_0 dX3_reckon_196 ?_
    exact t_X3_reckon_j197 F K hd i hi v2 h9 v4 v5 v6 v7 v8 (0 : Int32) s
  · refine z_iconst K ci_1 dX3_reckon_192 ?_
    refine z_goto K (tgt := 197) dX3_reckon_193 (by decide) ?_
    exact t_X3_reckon_j197 F K hd i hi v2 h9 v4 v5 v6 v7 v8 (1 : Int32) s
def f_X3_reckon_j259 (F : Nat) (i : Nat) (k9 : Int32 → Int32 → Int32 → zM → Option (Int32 × zM)) (v2 : Int32) (v4 : Int32) (v5 : Int32) (v6 : Int32) (v7 : Int32) (s : zM) : Option (Int32 × zM) :=
  if zin (v4 - (1 : Int32)) 40 = true then
    if zin v4 40 = true then
      bnd (f_X3_combined v7 (zg s (i + 7) ((v4 - (1 : Int32))).toNatClampNeg) (zg s (i + 7) (v4).toNatClampNeg) s) (fun r12 s11 =>
      if zin (v4 - (1 : Int32)) 40 = true then
        lt (zs s11 (i + 7) ((v4 - (1 : Int32))).toNatClampNeg r12) (fun s13 =>
        lt (v6 + (1 : Int32)) (fun y14 =>
        k9 v4 v5 y14 s13))
      else none)
    else none
  else none
set_option maxRecDepth 100000 in
set_option maxHeartbeats 4000000 in
theorem t_X3_reckon_j259 {a : zA} {d : Nat} (F : Nat) (K : zOK a cX3_reckon 9 RX3 (some .int) d) (hd : 1 ≤ d) (i : Nat) (hi : zLw i = true) {k9 : Int32 → Int32 → Int32 → zM → Option (Int32 × zM)} (v2 : Int32) (h9 : ∀ (v4 : Int32) (v5 : Int32) (v6 : Int32) (s : zM), zJ a 9 (zG a zφN zri) zφN 9 [(0, .ref (a.1.2.2.2 + i)), (2, .int v2), (3, .ref (a.1.2.2.2 + 13)), (4, .int v4), (5, .int v5), (6, .int v6)] [] s (k9 v4 v5 v6 s)) (v4 : Int32) (v5 : Int32) (v6 : Int32) (v7 : Int32) (s : zM) : zJ a 9 (zG a zφN zri) zφN 259 [(0, .ref (a.1.2.2.2 + i)), (2, .int v2), (3, .ref (a.1.2.2.2 + 13)), (4, .int v4), (5, .int v5), (6, .int v6), (7, .int v7)] [] s (f_X3_reckon_j259 F i k9 v2 v4 v5 v6 v7 s) := by
  unfold f_X3_reckon_j259
  refine z_aload_n K 0 rfl dX3_reckon_259 ?_
  refine z_getr K fd_X3_28 (obL_6 hi) dX3_reckon_260 ?_
  refine z_iload K 3 rfl dX3_reckon_263 ?_
  refine z_iconst K ci_1 dX3_reckon_265 ?_
  refine z_isub K dX3_reckon_266 ?_
  refine z_iload K 6 rfl dX3_reckon_267 ?_
  refine z_aload_n K 0 rfl dX3_reckon_269 ?_
  refine z_getr K fd_X3_28 (obL_6 hi) dX3_reckon_270 ?_
  refine z_iload K 3 rfl dX3_reckon_273 ?_
  refine z_iconst K ci_1 dX3_reckon_275 ?_
  refine z_isub K dX3_reckon_276 ?_
  refine z_iald K (arL_7 hi) dX3_reckon_277 ?_
  refine z_aload_n K 0 rfl dX3_reckon_278 ?_
  refine z_getr K fd_X3_28 (obL_6 hi) dX3_reckon_279 ?_
  refine z_iload K 3 rfl dX3_reckon_282 ?_
  refine z_iald K (arL_7 hi) dX3_reckon_284 ?_
  refine z_cSi (As := [.int v7, .int (zg s (i + 7) ((v4 - (1 : Int32))).toNatClampNeg), .int (zg s (i + 7) (v4).toNatClampNeg)]) (rest := [.int (v4 - (1 : Int32)), .ref (a.1.2.2.2 + (i + 7))]) K (t_X3_combined a.1 (d - 1) (by omega) v7 (zg s (i + 7) ((v4 - (1 : Int32))).toNatClampNeg) (zg s (i + 7) (v4).toNatClampNeg) s) mf_X3_combined ml_X3_59 (Nat.le_of_ble_eq_true rfl) (by omega) rfl rfl (Nat.le_of_ble_eq_true rfl) dX3_reckon_285 (fun r12 s11 => ?_)
  refine z_iast K (arL_7 hi) dX3_reckon_288 ?_
  refine z_ltm (fun s13 => ?_)
  refine z_iincN K (j := 5) (lv' := [(0, .ref (a.1.2.2.2 + i)), (2, .int v2), (3, .ref (a.1.2.2.2 + 13)), (4, .int v4), (5, .int v5), (7, .int v7)]) ci_1 rfl dX3_reckon_289 (Nat.le_of_ble_eq_true rfl) rfl (fun y14 => ?_)
  refine z_goto K (tgt := 9) dX3_reckon_292 (by decide) ?_
  refine z_sub [1, 2, 3, 4, 5, 0] rfl ?_
  exact h9 v4 v5 y14 s13
def f_X3_reckon_L9 (F : Nat) (i : Nat) (k295 : Int32 → zM → Option (Int32 × zM)) (v2 : Int32) : Nat → Int32 → Int32 → Int32 → zM → Option (Int32 × zM)
  | 0, _, _, _, _ => none
  | n + 1, v4, v5, v6, s =>
    if v6 < (200 : Int32) then
      if v5 < 0 then
        k295 v4 s
      else
        if v5 < v2 then
          if v5 < (200 : Int32) then
            if zin v5 200 = true then
              lt ((zg s (i + 5) (v5).toNatClampNeg)) (fun y1 =>
              if zin v5 200 = true then
                lt ((zg s (i + 6) (v5).toNatClampNeg)) (fun y2 =>
                lt (v5 + (1 : Int32)) (fun y3 =>
                bnd (f_X3_taken y1 s) (fun r5 s4 =>
                if v4 < r5 then
                  some ((0 : Int32), s4)
                else
                  if v4 < (40 : Int32) then
                    if y1 = (1 : Int32) then
                      lt (v4 + (1 : Int32)) (fun y24 =>
                      if zin v4 40 = true then
                        lt (zs s4 (i + 7) (v4).toNatClampNeg y2) (fun s25 =>
                        lt (v6 + (1 : Int32)) (fun y26 =>
                        f_X3_reckon_L9 F i k295 v2 n y24 y3 y26 s25))
                      else none)
                    else
                      if y1 = (2 : Int32) then
                        lt (v4 + (1 : Int32)) (fun y17 =>
                        if y2 < 0 then
                          if zin v4 40 = true then
                            lt (zs s4 (i + 7) (v4).toNatClampNeg (0 : Int32)) (fun s18 =>
                            lt (v6 + (1 : Int32)) (fun y19 =>
                            f_X3_reckon_L9 F i k295 v2 n y17 y3 y19 s18))
                          else none
                        else
                          if y2 < (Int32.ofNat 10) then
                            if zin y2 10 = true then
                              if zin v4 40 = true then
                                lt (zs s4 (i + 7) (v4).toNatClampNeg (zg s4 13 (y2).toNatClampNeg)) (fun s22 =>
                                lt (v6 + (1 : Int32)) (fun y23 =>
                                f_X3_reckon_L9 F i k295 v2 n y17 y3 y23 s22))
                              else none
                            else none
                          else
                            if zin v4 40 = true then
                              lt (zs s4 (i + 7) (v4).toNatClampNeg (0 : Int32)) (fun s20 =>
                              lt (v6 + (1 : Int32)) (fun y21 =>
                              f_X3_reckon_L9 F i k295 v2 n y17 y3 y21 s20))
                            else none)
                      else
                        if y1 = (33 : Int32) then
                          if zin (v4 - (1 : Int32)) 40 = true then
                            if zin (v4 - (1 : Int32)) 40 = true then
                              lt (zs s4 (i + 7) ((v4 - (1 : Int32))).toNatClampNeg ((1 : Int32) - (zg s4 (i + 7) ((v4 - (1 : Int32))).toNatClampNeg))) (fun s15 =>
                              lt (v6 + (1 : Int32)) (fun y16 =>
                              f_X3_reckon_L9 F i k295 v2 n v4 y3 y16 s15))
                            else none
                          else none
                        else
                          if y1 = (38 : Int32) then
                            f_X3_reckon_j180 F i (f_X3_reckon_L9 F i k295 v2 n) v2 v4 y3 v6 y1 y2 s4
                          else
                            if y1 = (124 : Int32) then
                              f_X3_reckon_j180 F i (f_X3_reckon_L9 F i k295 v2 n) v2 v4 y3 v6 y1 y2 s4
                            else
                              lt (v4 + (-1 : Int32)) (fun y10 =>
                              if zin y10 40 = true then
                                if (zg s4 (i + 7) (y10).toNatClampNeg) = 0 then
                                  if y1 = (47 : Int32) then
                                    some ((0 : Int32), s4)
                                  else
                                    if y1 = (37 : Int32) then
                                      some ((0 : Int32), s4)
                                    else
                                      f_X3_reckon_j259 F i (f_X3_reckon_L9 F i k295 v2 n) v2 y10 y3 v6 y1 s4
                                else
                                  f_X3_reckon_j259 F i (f_X3_reckon_L9 F i k295 v2 n) v2 y10 y3 v6 y1 s4
                              else none)
                  else
                    some ((0 : Int32), s4))))
              else none)
            else none
          else
            k295 v4 s
        else
          k295 v4 s
    else
      k295 v4 s
set_option maxRecDepth 100000 in
set_option maxHeartbeats 4000000 in
theorem t_X3_reckon_L9 {a : zA} {d : Nat} (F : Nat) (K : zOK a cX3_reckon 9 RX3 (some .int) d) (hd : 1 ≤ d) (i : Nat) (hi : zLw i = true) {k295 : Int32 → zM → Option (Int32 × zM)} (v2 : Int32) (h295 : ∀ (v4 : Int32) (s : zM), zJ a 9 (zG a zφN zri) zφN 295 [(0, .ref (a.1.2.2.2 + i)), (4, .int v4)] [] s (k295 v4 s)) : ∀ (n : Nat) (v4 : Int32) (v5 : Int32) (v6 : Int32) (s : zM), zJ a 9 (zG a zφN zri) zφN 9 [(0, .ref (a.1.2.2.2 + i)), (2, .int v2), (3, .ref (a.1.2.2.2 + 13)), (4, .int v4), (5, .int v5), (6, .int v6)] [] s (f_X3_reckon_L9 F i k295 v2 n v4 v5 v6 s) := by
  intro n
  induction n with
  | zero => intros; exact z_none
  | succ n ih =>
    intro v4 v5 v6 s
    rw [f_X3_reckon_L9]
    refine z_iload K 5 rfl dX3_reckon_9 ?_
    refine z_sipush K cs_200 dX3_reckon_11 ?_
    refine z_icmp_ge K (tgt := 295) dX3_reckon_14 (by decide) ?_ ?_
    · refine z_sub [0, 3] rfl ?_
      exact h295 v4 s
    · refine z_iload K 4 rfl dX3_reckon_17 ?_
      refine z_if_lt K (tgt := 295) dX3_reckon_19 (by decide) ?_ ?_
      · refine z_sub [0, 3] rfl ?_
        exact h295 v4 s
      · refine z_iload K 4 rfl dX3_reckon_22 ?_
        refine z_iload_n K 1 rfl dX3_reckon_24 ?_
        refine z_icmp_ge K (tgt := 295) dX3_reckon_25 (by decide) ?_ ?_
        · refine z_sub [0, 3] rfl ?_
          exact h295 v4 s
        · refine z_iload K 4 rfl dX3_reckon_28 ?_
          refine z_sipush K cs_200 dX3_reckon_30 ?_
          refine z_icmp_ge K (tgt := 295) dX3_reckon_33 (by decide) ?_ ?_
          · refine z_sub [0, 3] rfl ?_
            exact h295 v4 s
          · refine z_aload_n K 0 rfl dX3_reckon_36 ?_
            refine z_getr K fd_X3_22 (obL_4 hi) dX3_reckon_37 ?_
            refine z_iload K 4 rfl dX3_reckon_40 ?_
            refine z_iald K (arL_5 hi) dX3_reckon_42 ?_
            refine z_topi (fun y1 => ?_)
            refine z_istore K (lv' := [(7, .int y1), (0, .ref (a.1.2.2.2 + i)), (2, .int v2), (3, .ref (a.1.2.2.2 + 13)), (4, .int v4), (5, .int v5), (6, .int v6)]) dX3_reckon_43 (Nat.le_of_ble_eq_true rfl) rfl ?_
            refine z_aload_n K 1 rfl dX3_reckon_45 ?_
            refine z_getr K fd_X3_25 (obL_5 hi) dX3_reckon_46 ?_
            refine z_iload K 5 rfl dX3_reckon_49 ?_
            refine z_iald K (arL_6 hi) dX3_reckon_51 ?_
            refine z_topi (fun y2 => ?_)
            refine z_istore K (lv' := [(8, .int y2), (7, .int y1), (0, .ref (a.1.2.2.2 + i)), (2, .int v2), (3, .ref (a.1.2.2.2 + 13)), (4, .int v4), (5, .int v5), (6, .int v6)]) dX3_reckon_52 (Nat.le_of_ble_eq_true rfl) rfl ?_
            refine z_iincN K (j := 6) (lv' := [(8, .int y2), (7, .int y1), (0, .ref (a.1.2.2.2 + i)), (2, .int v2), (3, .ref (a.1.2.2.2 + 13)), (4, .int v4), (6, .int v6)]) ci_1 rfl dX3_reckon_54 (Nat.le_of_ble_eq_true rfl) rfl (fun y3 => ?_)
            refine z_iload K 6 rfl dX3_reckon_57 ?_
            refine z_iload K 2 rfl dX3_reckon_59 ?_
            refine z_cSi (As := [.int y1]) (rest := [.int v4]) K (t_X3_taken a.1 (d - 1) (by omega) y1 s) mf_X3_taken ml_X3_55 (Nat.le_of_ble_eq_true rfl) (by omega) rfl rfl (Nat.le_of_ble_eq_true rfl) dX3_reckon_61 (fun r5 s4 => ?_)
            refine z_icmp_lt K (tgt := 74) dX3_reckon_64 (by decide) ?_ ?_
            · refine z_iconst K ci_0 dX3_reckon_74 ?_
              exact z_iret K dX3_reckon_75
            · refine z_iload K 6 rfl dX3_reckon_67 ?_
              refine z_bipush K cb_40 dX3_reckon_69 ?_
              refine z_icmp_lt K (tgt := 76) dX3_reckon_71 (by decide) ?_ ?_
              · refine z_iload K 2 rfl dX3_reckon_76 ?_
                refine z_iconst K ci_1 dX3_reckon_78 ?_
                refine z_icmp_ne K (tgt := 97) dX3_reckon_79 (by decide) ?_ ?_
                · refine z_iload K 2 rfl dX3_reckon_97 ?_
                  refine z_iconst K ci_2 dX3_reckon_99 ?_
                  refine z_icmp_ne K (tgt := 136) dX3_reckon_100 (by decide) ?_ ?_
                  · refine z_iload K 2 rfl dX3_reckon_136 ?_
                    refine z_bipush K cb_33 dX3_reckon_138 ?_
                    refine z_icmp_ne K (tgt := 166) dX3_reckon_140 (by decide) ?_ ?_
                    · refine z_iload K 2 rfl dX3_reckon_166 ?_
                      refine z_bipush K cb_38 dX3_reckon_168 ?_
                      refine z_icmp_eq K (tgt := 180) dX3_reckon_170 (by decide) ?_ ?_
                      · refine z_sub [3, 4, 5, 6, 0, 7, 2, 1] rfl ?_
                        exact t_X3_reckon_j180 F K hd i hi v2 ih v4 y3 v6 y1 y2 s4
                      · refine z_iload K 2 rfl dX3_reckon_173 ?_
                        refine z_bipush K cb_124 dX3_reckon_175 ?_
                        refine z_icmp_ne K (tgt := 230) dX3_reckon_177 (by decide) ?_ ?_
                        · refine z_iincN K (j := 6) (lv' := [(5, .int y3), (8, .int y2), (7, .int y1), (0, .ref (a.1.2.2.2 + i)), (2, .int v2), (3, .ref (a.1.2.2.2 + 13)), (6, .int v6)]) ci_m1 rfl dX3_reckon_230 (Nat.le_of_ble_eq_true rfl) rfl (fun y10 => ?_)
                          refine z_aload_n K 4 rfl dX3_reckon_233 ?_
                          refine z_getr K fd_X3_28 (obL_6 hi) dX3_reckon_234 ?_
                          refine z_iload K 0 rfl dX3_reckon_237 ?_
                          refine z_iald K (arL_7 hi) dX3_reckon_239 ?_
                          refine z_if_ne K (tgt := 259) dX3_reckon_240 (by decide) ?_ ?_
                          · refine z_sub [4, 5, 6, 0, 1, 7, 3] rfl ?_
                            exact t_X3_reckon_j259 F K hd i hi v2 ih y10 y3 v6 y1 s4
                          · refine z_iload K 3 rfl dX3_reckon_243 ?_
                            refine z_bipush K cb_47 dX3_reckon_245 ?_
                            refine z_icmp_eq K (tgt := 257) dX3_reckon_247 (by decide) ?_ ?_
                            · refine z_iconst K ci_0 dX3_reckon_257 ?_
                              exact z_iret K dX3_reckon_258
                            · refine z_iload K 3 rfl dX3_reckon_250 ?_
                              refine z_bipush K cb_37 dX3_reckon_252 ?_
                              refine z_icmp_ne K (tgt := 259) dX3_reckon_254 (by decide) ?_ ?_
                              · refine z_sub [4, 5, 6, 0, 1, 7, 3] rfl ?_
                                exact t_X3_reckon_j259 F K hd i hi v2 ih y10 y3 v6 y1 s4
                              · refine z_iconst K ci_0 dX3_reckon_257 ?_
                                exact z_iret K dX3_reckon_258
                        · refine z_sub [3, 4, 5, 6, 0, 7, 2, 1] rfl ?_
                          exact t_X3_reckon_j180 F K hd i hi v2 ih v4 y3 v6 y1 y2 s4
                    · refine z_aload_n K 3 rfl dX3_reckon_143 ?_
                      refine z_getr K fd_X3_28 (obL_6 hi) dX3_reckon_144 ?_
                      refine z_iload K 6 rfl dX3_reckon_147 ?_
                      refine z_iconst K ci_1 dX3_reckon_149 ?_
                      refine z_isub K dX3_reckon_150 ?_
                      refine z_iconst K ci_1 dX3_reckon_151 ?_
                      refine z_aload_n K 3 rfl dX3_reckon_152 ?_
                      refine z_getr K fd_X3_28 (obL_6 hi) dX3_reckon_153 ?_
                      refine z_iload K 6 rfl dX3_reckon_156 ?_
                      refine z_iconst K ci_1 dX3_reckon_158 ?_
                      refine z_isub K dX3_reckon_159 ?_
                      refine z_iald K (arL_7 hi) dX3_reckon_160 ?_
                      refine z_isub K dX3_reckon_161 ?_
                      refine z_iast K (arL_7 hi) dX3_reckon_162 ?_
                      refine z_ltm (fun s15 => ?_)
                      refine z_goto K (tgt := 289) dX3_reckon_163 (by decide) ?_
                      refine z_iincN K (j := 7) (lv' := [(5, .int y3), (8, .int y2), (7, .int y1), (0, .ref (a.1.2.2.2 + i)), (2, .int v2), (3, .ref (a.1.2.2.2 + 13)), (4, .int v4)]) ci_1 rfl dX3_reckon_289 (Nat.le_of_ble_eq_true rfl) rfl (fun y16 => ?_)
                      refine z_goto K (tgt := 9) dX3_reckon_292 (by decide) ?_
                      refine z_sub [4, 5, 6, 7, 1, 0] rfl ?_
                      exact ih v4 y3 y16 s15
                  · refine z_aload_n K 3 rfl dX3_reckon_103 ?_
                    refine z_getr K fd_X3_28 (obL_6 hi) dX3_reckon_104 ?_
                    refine z_iload K 6 rfl dX3_reckon_107 ?_
                    refine z_iincN K (j := 6) (lv' := [(5, .int y3), (8, .int y2), (7, .int y1), (0, .ref (a.1.2.2.2 + i)), (2, .int v2), (3, .ref (a.1.2.2.2 + 13)), (6, .int v6)]) ci_1 rfl dX3_reckon_109 (Nat.le_of_ble_eq_true rfl) rfl (fun y17 => ?_)
                    refine z_iload K 2 rfl dX3_reckon_112 ?_
                    refine z_if_lt K (tgt := 131) dX3_reckon_114 (by decide) ?_ ?_
                    · refine z_iconst K ci_0 dX3_reckon_131 ?_
                      refine z_iast K (arL_7 hi) dX3_reckon_132 ?_
                      refine z_ltm (fun s18 => ?_)
                      refine z_goto K (tgt := 289) dX3_reckon_133 (by decide) ?_
                      refine z_iincN K (j := 7) (lv' := [(4, .int y17), (5, .int y3), (8, .int y2), (7, .int y1), (0, .ref (a.1.2.2.2 + i)), (2, .int v2), (3, .ref (a.1.2.2.2 + 13))]) ci_1 rfl dX3_reckon_289 (Nat.le_of_ble_eq_true rfl) rfl (fun y19 => ?_)
                      refine z_goto K (tgt := 9) dX3_reckon_292 (by decide) ?_
                      refine z_sub [5, 6, 7, 1, 2, 0] rfl ?_
                      exact ih y17 y3 y19 s18
                    · refine z_iload K 2 rfl dX3_reckon_117 ?_
                      refine z_aload_n K 6 rfl dX3_reckon_119 ?_
                      refine z_alen K ar_13 rfl dX3_reckon_120 ?_
                      refine z_icmp_ge K (tgt := 131) dX3_reckon_121 (by decide) ?_ ?_
                      · refine z_iconst K ci_0 dX3_reckon_131 ?_
                        refine z_iast K (arL_7 hi) dX3_reckon_132 ?_
                        refine z_ltm (fun s20 => ?_)
                        refine z_goto K (tgt := 289) dX3_reckon_133 (by decide) ?_
                        refine z_iincN K (j := 7) (lv' := [(4, .int y17), (5, .int y3), (8, .int y2), (7, .int y1), (0, .ref (a.1.2.2.2 + i)), (2, .int v2), (3, .ref (a.1.2.2.2 + 13))]) ci_1 rfl dX3_reckon_289 (Nat.le_of_ble_eq_true rfl) rfl (fun y21 => ?_)
                        refine z_goto K (tgt := 9) dX3_reckon_292 (by decide) ?_
                        refine z_sub [5, 6, 7, 1, 2, 0] rfl ?_
                        exact ih y17 y3 y21 s20
                      · refine z_aload_n K 6 rfl dX3_reckon_124 ?_
                        refine z_iload K 2 rfl dX3_reckon_125 ?_
                        refine z_iald K ar_13 dX3_reckon_127 ?_
                        refine z_goto K (tgt := 132) dX3_reckon_128 (by decide) ?_
                        refine z_iast K (arL_7 hi) dX3_reckon_132 ?_
                        refine z_ltm (fun s22 => ?_)
                        refine z_goto K (tgt := 289) dX3_reckon_133 (by decide) ?_
                        refine z_iincN K (j := 7) (lv' := [(4, .int y17), (5, .int y3), (8, .int y2), (7, .int y1), (0, .ref (a.1.2.2.2 + i)), (2, .int v2), (3, .ref (a.1.2.2.2 + 13))]) ci_1 rfl dX3_reckon_289 (Nat.le_of_ble_eq_true rfl) rfl (fun y23 => ?_)
                        refine z_goto K (tgt := 9) dX3_reckon_292 (by decide) ?_
                        refine z_sub [5, 6, 7, 1, 2, 0] rfl ?_
                        exact ih y17 y3 y23 s22
                · refine z_aload_n K 3 rfl dX3_reckon_82 ?_
                  refine z_getr K fd_X3_28 (obL_6 hi) dX3_reckon_83 ?_
                  refine z_iload K 6 rfl dX3_reckon_86 ?_
                  refine z_iincN K (j := 6) (lv' := [(5, .int y3), (8, .int y2), (7, .int y1), (0, .ref (a.1.2.2.2 + i)), (2, .int v2), (3, .ref (a.1.2.2.2 + 13)), (6, .int v6)]) ci_1 rfl dX3_reckon_88 (Nat.le_of_ble_eq_true rfl) rfl (fun y24 => ?_)
                  refine z_iload K 2 rfl dX3_reckon_91 ?_
                  refine z_iast K (arL_7 hi) dX3_reckon_93 ?_
                  refine z_ltm (fun s25 => ?_)
                  refine z_goto K (tgt := 289) dX3_reckon_94 (by decide) ?_
                  refine z_iincN K (j := 7) (lv' := [(4, .int y24), (5, .int y3), (8, .int y2), (7, .int y1), (0, .ref (a.1.2.2.2 + i)), (2, .int v2), (3, .ref (a.1.2.2.2 + 13))]) ci_1 rfl dX3_reckon_289 (Nat.le_of_ble_eq_true rfl) rfl (fun y26 => ?_)
                  refine z_goto K (tgt := 9) dX3_reckon_292 (by decide) ?_
                  refine z_sub [5, 6, 7, 1, 2, 0] rfl ?_
                  exact ih y24 y3 y26 s25
              · refine z_iconst K ci_0 dX3_reckon_74 ?_
                exact z_iret K dX3_reckon_75
def f_X3_reckon_j295 (F : Nat) (i : Nat) (v4 : Int32) (s : zM) : Option (Int32 × zM) :=
  if v4 = (1 : Int32) then
    if zin (0 : Int32) 40 = true then
      some ((zg s (i + 7) ((0 : Int32)).toNatClampNeg), s)
    else none
  else
    some ((0 : Int32), s)
set_option maxRecDepth 100000 in
set_option maxHeartbeats 4000000 in
theorem t_X3_reckon_j295 {a : zA} {d : Nat} (F : Nat) (K : zOK a cX3_reckon 9 RX3 (some .int) d) (hd : 1 ≤ d) (i : Nat) (hi : zLw i = true) (v4 : Int32) (s : zM) : zJ a 9 (zG a zφN zri) zφN 295 [(0, .ref (a.1.2.2.2 + i)), (4, .int v4)] [] s (f_X3_reckon_j295 F i v4 s) := by
  unfold f_X3_reckon_j295
  refine z_iload K 1 rfl dX3_reckon_295 ?_
  refine z_iconst K ci_1 dX3_reckon_297 ?_
  refine z_icmp_ne K (tgt := 310) dX3_reckon_298 (by decide) ?_ ?_
  · refine z_iconst K ci_0 dX3_reckon_310 ?_
    exact z_iret K dX3_reckon_311
  · refine z_aload_n K 0 rfl dX3_reckon_301 ?_
    refine z_getr K fd_X3_28 (obL_6 hi) dX3_reckon_302 ?_
    refine z_iconst K ci_0 dX3_reckon_305 ?_
    refine z_iald K (arL_7 hi) dX3_reckon_306 ?_
    refine z_goto K (tgt := 311) dX3_reckon_307 (by decide) ?_
    exact z_iret K dX3_reckon_311
def f_X3_reckon (F : Nat) (i : Nat) (v1 : Int32) (v2 : Int32) (s : zM) : Option (Int32 × zM) :=
  f_X3_reckon_L9 F i (fun y28 s27 =>
    f_X3_reckon_j295 F i y28 s27) v2 F (0 : Int32) v1 (0 : Int32) s
set_option maxRecDepth 100000 in
set_option maxHeartbeats 4000000 in
theorem t_X3_reckon (w : zWd) (F : Nat) (d : Nat) (hd : 1 ≤ d) (i : Nat) (hi : zLw i = true) (v1 : Int32) (v2 : Int32) (s : zM) : zMt w yX3_reckon cX3_reckon 9 (some .int) d zφN zφN zri [.ref (w.2.2.2 + i), .int v1, .int v2, .ref (w.2.2.2 + 13)] s (f_X3_reckon F i v1 v2 s) := by
  refine zMtN_of (own := RX3) rfl (by decide +kernel) (Nat.le_of_ble_eq_true rfl) cd_X3_reckon [(0, .ref (w.2.2.2 + i)), (1, .int v1), (2, .int v2), (3, .ref (w.2.2.2 + 13))] rfl ?_
  rintro a rfl K
  unfold f_X3_reckon
  refine z_iconst K ci_0 dX3_reckon_0 ?_
  refine z_istore K (lv' := [(4, .int (0 : Int32)), (0, .ref (a.1.2.2.2 + i)), (1, .int v1), (2, .int v2), (3, .ref (a.1.2.2.2 + 13))]) dX3_reckon_1 (Nat.le_of_ble_eq_true rfl) rfl ?_
  refine z_iload_n K 2 rfl dX3_reckon_3 ?_
  refine z_istore K (lv' := [(5, .int v1), (4, .int (0 : Int32)), (0, .ref (a.1.2.2.2 + i)), (1, .int v1), (2, .int v2), (3, .ref (a.1.2.2.2 + 13))]) dX3_reckon_4 (Nat.le_of_ble_eq_true rfl) rfl ?_
  refine z_iconst K ci_0 dX3_reckon_6 ?_
  refine z_istore K (lv' := [(6, .int (0 : Int32)), (5, .int v1), (4, .int (0 : Int32)), (0, .ref (a.1.2.2.2 + i)), (1, .int v1), (2, .int v2), (3, .ref (a.1.2.2.2 + 13))]) dX3_reckon_7 (Nat.le_of_ble_eq_true rfl) rfl ?_
  refine z_sub [3, 5, 6, 2, 1, 0] rfl ?_
  refine t_X3_reckon_L9 F K hd i hi v2 (fun y28 s27 => ?_) F (0 : Int32) v1 (0 : Int32) s
  exact t_X3_reckon_j295 F K hd i hi y28 s27
def f_X3_permits_L4 (F : Nat) (i : Nat) (k59 : Int32 → zM → Option (Int32 × zM)) : Nat → Int32 → Int32 → zM → Option (Int32 × zM)
  | 0, _, _, _ => none
  | n + 1, v2, v3, s =>
    if v3 < (zg s i 7) then
      if v3 < (14 : Int32) then
        if zin v3 14 = true then
          if (zg s (i + 1) (v3).toNatClampNeg) = (112 : Int32) then
            if zin v3 14 = true then
              if zin v3 14 = true then
                bnd (f_X3_reckon F i (zg s (i + 3) (v3).toNatClampNeg) (zg s (i + 4) (v3).toNatClampNeg) s) (fun r3 s2 =>
                if r3 = 0 then
                  lt (v3 + (1 : Int32)) (fun y4 =>
                  f_X3_permits_L4 F i k59 n (1 : Int32) y4 s2)
                else
                  some ((1 : Int32), s2))
              else none
            else none
          else
            lt (v3 + (1 : Int32)) (fun y1 =>
            f_X3_permits_L4 F i k59 n v2 y1 s)
        else none
      else
        k59 v2 s
    else
      k59 v2 s
set_option maxRecDepth 100000 in
set_option maxHeartbeats 4000000 in
theorem t_X3_permits_L4 {a : zA} {d : Nat} (F : Nat) (K : zOK a cX3_permits 4 RX3 (some .boolean) d) (hd : 2 ≤ d) (i : Nat) (hi : zLw i = true) {k59 : Int32 → zM → Option (Int32 × zM)} (h59 : ∀ (v2 : Int32) (s : zM), zJ a 4 (zG a zφN zri) zφN 59 [(2, .int v2)] [] s (k59 v2 s)) : ∀ (n : Nat) (v2 : Int32) (v3 : Int32) (s : zM), zJ a 4 (zG a zφN zri) zφN 4 [(0, .ref (a.1.2.2.2 + i)), (1, .ref (a.1.2.2.2 + 13)), (2, .int v2), (3, .int v3)] [] s (f_X3_permits_L4 F i k59 n v2 v3 s) := by
  intro n
  induction n with
  | zero => intros; exact z_none
  | succ n ih =>
    intro v2 v3 s
    rw [f_X3_permits_L4]
    refine z_iload_n K 3 rfl dX3_permits_4 ?_
    refine z_aload_n K 0 rfl dX3_permits_5 ?_
    refine z_geti K fd_X3_31 (obL_7 hi) dX3_permits_6 ?_
    refine z_icmp_ge K (tgt := 59) dX3_permits_9 (by decide) ?_ ?_
    · refine z_sub [2] rfl ?_
      exact h59 v2 s
    · refine z_iload_n K 3 rfl dX3_permits_12 ?_
      refine z_bipush K cb_14 dX3_permits_13 ?_
      refine z_icmp_ge K (tgt := 59) dX3_permits_15 (by decide) ?_ ?_
      · refine z_sub [2] rfl ?_
        exact h59 v2 s
      · refine z_aload_n K 0 rfl dX3_permits_18 ?_
        refine z_getr K fd_X3_9 (obL_0 hi) dX3_permits_19 ?_
        refine z_iload_n K 3 rfl dX3_permits_22 ?_
        refine z_iald K (arL_1 hi) dX3_permits_23 ?_
        refine z_bipush K cb_112 dX3_permits_24 ?_
        refine z_icmp_ne K (tgt := 53) dX3_permits_26 (by decide) ?_ ?_
        · refine z_iincN K (j := 3) (lv' := [(0, .ref (a.1.2.2.2 + i)), (1, .ref (a.1.2.2.2 + 13)), (2, .int v2)]) ci_1 rfl dX3_permits_53 (Nat.le_of_ble_eq_true rfl) rfl (fun y1 => ?_)
          refine z_goto K (tgt := 4) dX3_permits_56 (by decide) ?_
          refine z_sub [1, 2, 3, 0] rfl ?_
          exact ih v2 y1 s
        · refine z_iconst K ci_1 dX3_permits_29 ?_
          refine z_istore_n K (lv' := [(2, .int (1 : Int32)), (0, .ref (a.1.2.2.2 + i)), (1, .ref (a.1.2.2.2 + 13)), (3, .int v3)]) dX3_permits_30 rfl (Nat.le_of_ble_eq_true rfl) rfl ?_
          refine z_aload_n K 1 rfl dX3_permits_31 ?_
          refine z_aload_n K 1 rfl dX3_permits_32 ?_
          refine z_getr K fd_X3_16 (obL_2 hi) dX3_permits_33 ?_
          refine z_iload_n K 3 rfl dX3_permits_36 ?_
          refine z_iald K (arL_3 hi) dX3_permits_37 ?_
          refine z_aload_n K 1 rfl dX3_permits_38 ?_
          refine z_getr K fd_X3_19 (obL_3 hi) dX3_permits_39 ?_
          refine z_iload_n K 3 rfl dX3_permits_42 ?_
          refine z_iald K (arL_4 hi) dX3_permits_43 ?_
          refine z_aload_n K 2 rfl dX3_permits_44 ?_
          refine z_cVi (As := [.int (zg s (i + 3) (v3).toNatClampNeg), .int (zg s (i + 4) (v3).toNatClampNeg), .ref (a.1.2.2.2 + 13)]) (rest := []) K (t_X3_reckon a.1 F (d - 1) (by omega) i hi (zg s (i + 3) (v3).toNatClampNeg) (zg s (i + 4) (v3).toNatClampNeg) s) mf_X3_reckon ml_X3_42 (Nat.le_of_ble_eq_true rfl) (by omega) rfl (rcL hi) rfl (Nat.le_of_ble_eq_true rfl) dX3_permits_45 (fun r3 s2 => ?_)
          refine z_if_eq K (tgt := 53) dX3_permits_48 (by decide) ?_ ?_
          · refine z_iincN K (j := 3) (lv' := [(2, .int (1 : Int32)), (0, .ref (a.1.2.2.2 + i)), (1, .ref (a.1.2.2.2 + 13))]) ci_1 rfl dX3_permits_53 (Nat.le_of_ble_eq_true rfl) rfl (fun y4 => ?_)
            refine z_goto K (tgt := 4) dX3_permits_56 (by decide) ?_
            refine z_sub [2, 3, 1, 0] rfl ?_
            exact ih (1 : Int32) y4 s2
          · refine z_iconst K ci_1 dX3_permits_51 ?_
            exact z_zret (Or.inr rfl) K dX3_permits_52
def f_X3_permits (F : Nat) (i : Nat) (s : zM) : Option (Int32 × zM) :=
  f_X3_permits_L4 F i (fun y6 s5 =>
    if y6 = 0 then
      some ((1 : Int32), s5)
    else
      some ((0 : Int32), s5)) F (0 : Int32) (0 : Int32) s
set_option maxRecDepth 100000 in
set_option maxHeartbeats 4000000 in
theorem t_X3_permits (w : zWd) (F : Nat) (d : Nat) (hd : 2 ≤ d) (i : Nat) (hi : zLw i = true) (s : zM) : zMt w yX3_permits cX3_permits 4 (some .boolean) d zφN zφN zri [.ref (w.2.2.2 + i), .ref (w.2.2.2 + 13)] s (f_X3_permits F i s) := by
  refine zMtN_of (own := RX3) rfl (by decide +kernel) (Nat.le_of_ble_eq_true rfl) cd_X3_permits [(0, .ref (w.2.2.2 + i)), (1, .ref (w.2.2.2 + 13))] rfl ?_
  rintro a rfl K
  unfold f_X3_permits
  refine z_iconst K ci_0 dX3_permits_0 ?_
  refine z_istore_n K (lv' := [(2, .int (0 : Int32)), (0, .ref (a.1.2.2.2 + i)), (1, .ref (a.1.2.2.2 + 13))]) dX3_permits_1 rfl (Nat.le_of_ble_eq_true rfl) rfl ?_
  refine z_iconst K ci_0 dX3_permits_2 ?_
  refine z_istore_n K (lv' := [(3, .int (0 : Int32)), (2, .int (0 : Int32)), (0, .ref (a.1.2.2.2 + i)), (1, .ref (a.1.2.2.2 + 13))]) dX3_permits_3 rfl (Nat.le_of_ble_eq_true rfl) rfl ?_
  refine z_sub [2, 3, 1, 0] rfl ?_
  refine t_X3_permits_L4 F K hd i hi (fun y6 s5 => ?_) F (0 : Int32) (0 : Int32) s
  refine z_iload_n K 0 rfl dX3_permits_59 ?_
  refine z_if_ne K (tgt := 67) dX3_permits_60 (by decide) ?_ ?_
  · refine z_iconst K ci_0 dX3_permits_67 ?_
    exact z_zret (Or.inl rfl) K dX3_permits_68
  · refine z_iconst K ci_1 dX3_permits_63 ?_
    refine z_goto K (tgt := 68) dX3_permits_64 (by decide) ?_
    exact z_zret (Or.inr rfl) K dX3_permits_68
def f_X3_amount_L3 (F : Nat) (i : Nat) (k87 : zM → Option (Int32 × zM)) (v1 : Int32) (v3 : Int32) (v4 : Int32) : Nat → Int32 → zM → Option (Int32 × zM)
  | 0, _, _ => none
  | n + 1, v5, s =>
    if v5 < (zg s i 7) then
      if v5 < (14 : Int32) then
        if zin v5 14 = true then
          if (zg s (i + 1) (v5).toNatClampNeg) = v1 then
            if zin v5 14 = true then
              if zin v5 14 = true then
                bnd (f_X3_reckon F i (zg s (i + 3) (v5).toNatClampNeg) (zg s (i + 4) (v5).toNatClampNeg) s) (fun r3 s2 =>
                if r3 = 0 then
                  lt (v5 + (1 : Int32)) (fun y4 =>
                  f_X3_amount_L3 F i k87 v1 v3 v4 n y4 s2)
                else
                  if zin v5 14 = true then
                    if zin v5 14 = true then
                      bnd (f_X3_reckon F i (zg s2 (i + 2) (v5).toNatClampNeg) (zg s2 (i + 3) (v5).toNatClampNeg) s2) (fun r6 s5 =>
                      some ((if v3 < (if r6 < v4 then r6 else v4) then (if r6 < v4 then r6 else v4) else v3), s5))
                    else none
                  else none)
              else none
            else none
          else
            lt (v5 + (1 : Int32)) (fun y1 =>
            f_X3_amount_L3 F i k87 v1 v3 v4 n y1 s)
        else none
      else
        k87 s
    else
      k87 s
set_option maxRecDepth 100000 in
set_option maxHeartbeats 4000000 in
theorem t_X3_amount_L3 {a : zA} {d : Nat} (F : Nat) (K : zOK a cX3_amount 6 RX3 (some .int) d) (hd : 2 ≤ d) (i : Nat) (hi : zLw i = true) {k87 : zM → Option (Int32 × zM)} (v1 : Int32) (v3 : Int32) (v4 : Int32) (h87 : ∀ (s : zM), zJ a 6 (zG a zφN zri) zφN 87 [] [] s (k87 s)) : ∀ (n : Nat) (v5 : Int32) (s : zM), zJ a 6 (zG a zφN zri) zφN 3 [(0, .ref (a.1.2.2.2 + i)), (1, .int v1), (2, .ref (a.1.2.2.2 + 13)), (3, .int v3), (4, .int v4), (5, .int v5)] [] s (f_X3_amount_L3 F i k87 v1 v3 v4 n v5 s) := by
  intro n
  induction n with
  | zero => intros; exact z_none
  | succ n ih =>
    intro v5 s
    rw [f_X3_amount_L3]
    refine z_iload K 5 rfl dX3_amount_3 ?_
    refine z_aload_n K 0 rfl dX3_amount_5 ?_
    refine z_geti K fd_X3_31 (obL_7 hi) dX3_amount_6 ?_
    refine z_icmp_ge K (tgt := 87) dX3_amount_9 (by decide) ?_ ?_
    · refine z_sub [] rfl ?_
      exact h87 s
    · refine z_iload K 5 rfl dX3_amount_12 ?_
      refine z_bipush K cb_14 dX3_amount_14 ?_
      refine z_icmp_ge K (tgt := 87) dX3_amount_16 (by decide) ?_ ?_
      · refine z_sub [] rfl ?_
        exact h87 s
      · refine z_aload_n K 0 rfl dX3_amount_19 ?_
        refine z_getr K fd_X3_9 (obL_0 hi) dX3_amount_20 ?_
        refine z_iload K 5 rfl dX3_amount_23 ?_
        refine z_iald K (arL_1 hi) dX3_amount_25 ?_
        refine z_iload_n K 1 rfl dX3_amount_26 ?_
        refine z_icmp_ne K (tgt := 81) dX3_amount_27 (by decide) ?_ ?_
        · refine z_iincN K (j := 5) (lv' := [(0, .ref (a.1.2.2.2 + i)), (1, .int v1), (2, .ref (a.1.2.2.2 + 13)), (3, .int v3), (4, .int v4)]) ci_1 rfl dX3_amount_81 (Nat.le_of_ble_eq_true rfl) rfl (fun y1 => ?_)
          refine z_goto K (tgt := 3) dX3_amount_84 (by decide) ?_
          refine z_sub [1, 2, 3, 4, 5, 0] rfl ?_
          exact ih y1 s
        · refine z_aload_n K 0 rfl dX3_amount_30 ?_
          refine z_aload_n K 0 rfl dX3_amount_31 ?_
          refine z_getr K fd_X3_16 (obL_2 hi) dX3_amount_32 ?_
          refine z_iload K 5 rfl dX3_amount_35 ?_
          refine z_iald K (arL_3 hi) dX3_amount_37 ?_
          refine z_aload_n K 0 rfl dX3_amount_38 ?_
          refine z_getr K fd_X3_19 (obL_3 hi) dX3_amount_39 ?_
          refine z_iload K 5 rfl dX3_amount_42 ?_
          refine z_iald K (arL_4 hi) dX3_amount_44 ?_
          refine z_aload_n K 2 rfl dX3_amount_45 ?_
          refine z_cVi (As := [.int (zg s (i + 3) (v5).toNatClampNeg), .int (zg s (i + 4) (v5).toNatClampNeg), .ref (a.1.2.2.2 + 13)]) (rest := []) K (t_X3_reckon a.1 F (d - 1) (by omega) i hi (zg s (i + 3) (v5).toNatClampNeg) (zg s (i + 4) (v5).toNatClampNeg) s) mf_X3_reckon ml_X3_42 (Nat.le_of_ble_eq_true rfl) (by omega) rfl (rcL hi) rfl (Nat.le_of_ble_eq_true rfl) dX3_amount_46 (fun r3 s2 => ?_)
          refine z_if_eq K (tgt := 81) dX3_amount_49 (by decide) ?_ ?_
          · refine z_iincN K (j := 5) (lv' := [(0, .ref (a.1.2.2.2 + i)), (1, .int v1), (2, .ref (a.1.2.2.2 + 13)), (3, .int v3), (4, .int v4)]) ci_1 rfl dX3_amount_81 (Nat.le_of_ble_eq_true rfl) rfl (fun y4 => ?_)
            refine z_goto K (tgt := 3) dX3_amount_84 (by decide) ?_
            refine z_sub [1, 2, 3, 4, 5, 0] rfl ?_
            exact ih y4 s2
          · refine z_iload_n K 3 rfl dX3_amount_52 ?_
            refine z_iload K 4 rfl dX3_amount_53 ?_
            refine z_aload_n K 0 rfl dX3_amount_55 ?_
            refine z_aload_n K 0 rfl dX3_amount_56 ?_
            refine z_getr K fd_X3_13 (obL_1 hi) dX3_amount_57 ?_
            refine z_iload K 5 rfl dX3_amount_60 ?_
            refine z_iald K (arL_2 hi) dX3_amount_62 ?_
            refine z_aload_n K 0 rfl dX3_amount_63 ?_
            refine z_getr K fd_X3_16 (obL_2 hi) dX3_amount_64 ?_
            refine z_iload K 5 rfl dX3_amount_67 ?_
            refine z_iald K (arL_3 hi) dX3_amount_69 ?_
            refine z_aload_n K 2 rfl dX3_amount_70 ?_
            refine z_cVi (As := [.int (zg s2 (i + 2) (v5).toNatClampNeg), .int (zg s2 (i + 3) (v5).toNatClampNeg), .ref (a.1.2.2.2 + 13)]) (rest := [.int v4, .int v3]) K (t_X3_reckon a.1 F (d - 1) (by omega) i hi (zg s2 (i + 2) (v5).toNatClampNeg) (zg s2 (i + 3) (v5).toNatClampNeg) s2) mf_X3_reckon ml_X3_42 (Nat.le_of_ble_eq_true rfl) (by omega) rfl (rcL hi) rfl (Nat.le_of_ble_eq_true rfl) dX3_amount_71 (fun r6 s5 => ?_)
            refine z_min K jm_min_s jm_ini jm_min_c ml_X3_46 rfl (by omega) (Nat.le_of_ble_eq_true rfl) dX3_amount_74 ?_
            refine z_max K jm_max_s jm_ini jm_max_c ml_X3_52 rfl (by omega) (Nat.le_of_ble_eq_true rfl) dX3_amount_77 ?_
            exact z_iret K dX3_amount_80
def f_X3_amount (F : Nat) (i : Nat) (v1 : Int32) (v3 : Int32) (v4 : Int32) (s : zM) : Option (Int32 × zM) :=
  f_X3_amount_L3 F i (fun s7 =>
    some ((0 : Int32), s7)) v1 v3 v4 F (0 : Int32) s
set_option maxRecDepth 100000 in
set_option maxHeartbeats 4000000 in
theorem t_X3_amount (w : zWd) (F : Nat) (d : Nat) (hd : 2 ≤ d) (i : Nat) (hi : zLw i = true) (v1 : Int32) (v3 : Int32) (v4 : Int32) (s : zM) : zMt w yX3_amount cX3_amount 6 (some .int) d zφN zφN zri [.ref (w.2.2.2 + i), .int v1, .ref (w.2.2.2 + 13), .int v3, .int v4] s (f_X3_amount F i v1 v3 v4 s) := by
  refine zMtN_of (own := RX3) rfl (by decide +kernel) (Nat.le_of_ble_eq_true rfl) cd_X3_amount [(0, .ref (w.2.2.2 + i)), (1, .int v1), (2, .ref (w.2.2.2 + 13)), (3, .int v3), (4, .int v4)] rfl ?_
  rintro a rfl K
  unfold f_X3_amount
  refine z_iconst K ci_0 dX3_amount_0 ?_
  refine z_istore K (lv' := [(5, .int (0 : Int32)), (0, .ref (a.1.2.2.2 + i)), (1, .int v1), (2, .ref (a.1.2.2.2 + 13)), (3, .int v3), (4, .int v4)]) dX3_amount_1 (Nat.le_of_ble_eq_true rfl) rfl ?_
  refine z_sub [1, 2, 3, 4, 5, 0] rfl ?_
  refine t_X3_amount_L3 F K hd i hi v1 v3 v4 (fun s7 => ?_) F (0 : Int32) s
  refine z_iconst K ci_0 dX3_amount_87 ?_
  exact z_iret K dX3_amount_88
