def f_X8_isSeat (v0 : Int32) (s : zM) : Option (Int32 × zM) :=
  if v0 < 0 then
    some ((0 : Int32), s)
  else
    if v0 < (40 : Int32) then
      some ((1 : Int32), s)
    else
      some ((0 : Int32), s)
set_option maxRecDepth 100000 in
set_option maxHeartbeats 4000000 in
theorem t_X8_isSeat (w : zWd) (d : Nat) (hd : 0 ≤ d) (v0 : Int32) (s : zM) : zMt w yX8_isSeat cX8_isSeat 1 (some .boolean) d zφN zφN zri [.int v0] s (f_X8_isSeat v0 s) := by
  refine zMtN_of (own := RX8) rfl (by decide +kernel) (Nat.le_of_ble_eq_true rfl) cd_X8_isSeat [(0, .int v0)] rfl ?_
  rintro a rfl K
  unfold f_X8_isSeat
  refine z_iload_n K 0 rfl dX8_isSeat_0 ?_
  refine z_if_lt K (tgt := 14) dX8_isSeat_1 (by decide) ?_ ?_
  · refine z_iconst K ci_0 dX8_isSeat_14 ?_
    exact z_zret (Or.inl rfl) K dX8_isSeat_15
  · refine z_iload_n K 0 rfl dX8_isSeat_4 ?_
    refine z_bipush K cb_40 dX8_isSeat_5 ?_
    refine z_icmp_ge K (tgt := 14) dX8_isSeat_7 (by decide) ?_ ?_
    · refine z_iconst K ci_0 dX8_isSeat_14 ?_
      exact z_zret (Or.inl rfl) K dX8_isSeat_15
    · refine z_iconst K ci_1 dX8_isSeat_10 ?_
      refine z_goto K (tgt := 15) dX8_isSeat_11 (by decide) ?_
      exact z_zret (Or.inr rfl) K dX8_isSeat_15
def f_X2_at (v1 : Int32) (s : zM) : Option (Int32 × zM) :=
  bnd (f_X8_isSeat v1 s) (fun r2 s1 =>
  if r2 = 0 then
    some ((-1 : Int32), s1)
  else
    if zin v1 40 = true then
      some ((zg s1 52 (v1).toNatClampNeg), s1)
    else none)
set_option maxRecDepth 100000 in
set_option maxHeartbeats 4000000 in
theorem t_X2_at (w : zWd) (d : Nat) (hd : 1 ≤ d) (v1 : Int32) (s : zM) : zMt w yX2_at cX2_at 2 (some .int) d zφN zφN zri [.ref (w.2.2.2 + 51), .int v1] s (f_X2_at v1 s) := by
  refine zMtN_of (own := RX2) rfl (by decide +kernel) (Nat.le_of_ble_eq_true rfl) cd_X2_at [(0, .ref (w.2.2.2 + 51)), (1, .int v1)] rfl ?_
  rintro a rfl K
  unfold f_X2_at
  refine z_iload_n K 1 rfl dX2_at_0 ?_
  refine z_cSi (As := [.int v1]) (rest := []) K (t_X8_isSeat a.1 (d - 1) (by omega) v1 s) mf_X8_isSeat ml_X2_38 (Nat.le_of_ble_eq_true rfl) (by omega) rfl rfl (Nat.le_of_ble_eq_true rfl) dX2_at_1 (fun r2 s1 => ?_)
  refine z_if_eq K (tgt := 16) dX2_at_4 (by decide) ?_ ?_
  · refine z_iconst K ci_m1 dX2_at_16 ?_
    exact z_iret K dX2_at_17
  · refine z_aload_n K 0 rfl dX2_at_7 ?_
    refine z_getr K fd_X2_11 ob_51_0 dX2_at_8 ?_
    refine z_iload_n K 1 rfl dX2_at_11 ?_
    refine z_iald K ar_52 dX2_at_12 ?_
    refine z_goto K (tgt := 17) dX2_at_13 (by decide) ?_
    exact z_iret K dX2_at_17
def f_X2_lay (v1 : Int32) (v2 : Int32) (s : zM) : Option (Unit × zM) :=
  bnd (f_X8_isSeat v1 s) (fun r2 s1 =>
  if r2 = 0 then
    some ((), s1)
  else
    if zin v1 40 = true then
      lt (zs s1 52 (v1).toNatClampNeg v2) (fun s3 =>
      some ((), s3))
    else none)
set_option maxRecDepth 100000 in
set_option maxHeartbeats 4000000 in
theorem t_X2_lay (w : zWd) (d : Nat) (hd : 1 ≤ d) (v1 : Int32) (v2 : Int32) (s : zM) : zMt w yX2_lay cX2_lay 3 none d zφN zφN zrv [.ref (w.2.2.2 + 51), .int v1, .int v2] s (f_X2_lay v1 v2 s) := by
  refine zMtN_of (own := RX2) rfl (by decide +kernel) (Nat.le_of_ble_eq_true rfl) cd_X2_lay [(0, .ref (w.2.2.2 + 51)), (1, .int v1), (2, .int v2)] rfl ?_
  rintro a rfl K
  unfold f_X2_lay
  refine z_iload_n K 1 rfl dX2_lay_0 ?_
  refine z_cSi (As := [.int v1]) (rest := []) K (t_X8_isSeat a.1 (d - 1) (by omega) v1 s) mf_X8_isSeat ml_X2_38 (Nat.le_of_ble_eq_true rfl) (by omega) rfl rfl (Nat.le_of_ble_eq_true rfl) dX2_lay_1 (fun r2 s1 => ?_)
  refine z_if_eq K (tgt := 14) dX2_lay_4 (by decide) ?_ ?_
  · exact z_vret K dX2_lay_14
  · refine z_aload_n K 0 rfl dX2_lay_7 ?_
    refine z_getr K fd_X2_11 ob_51_0 dX2_lay_8 ?_
    refine z_iload_n K 1 rfl dX2_lay_11 ?_
    refine z_iload_n K 2 rfl dX2_lay_12 ?_
    refine z_iast K ar_52 dX2_lay_13 ?_
    refine z_ltm (fun s3 => ?_)
    exact z_vret K dX2_lay_14
def f_X2_move (v1 : Int32) (v2 : Int32) (v3 : Int32) (s : zM) : Option (Int32 × zM) :=
  bnd (f_X8_isSeat v1 s) (fun r2 s1 =>
  if r2 = 0 then
    some ((0 : Int32), s1)
  else
    bnd (f_X8_isSeat v2 s1) (fun r4 s3 =>
    if r4 = 0 then
      some ((0 : Int32), s3)
    else
      if zin v1 40 = true then
        if (zg s3 52 (v1).toNatClampNeg) < v3 then
          some ((0 : Int32), s3)
        else
          if zin v2 40 = true then
            if (99 : Int32) < ((zg s3 52 (v2).toNatClampNeg) + v3) then
              some ((0 : Int32), s3)
            else
              if zin v1 40 = true then
                if zin v1 40 = true then
                  lt (zs s3 52 (v1).toNatClampNeg ((zg s3 52 (v1).toNatClampNeg) - v3)) (fun s5 =>
                  if zin v2 40 = true then
                    if zin v2 40 = true then
                      lt (zs s5 52 (v2).toNatClampNeg ((zg s5 52 (v2).toNatClampNeg) + v3)) (fun s6 =>
                      some ((1 : Int32), s6))
                    else none
                  else none)
                else none
              else none
          else none
      else none))
set_option maxRecDepth 100000 in
set_option maxHeartbeats 4000000 in
theorem t_X2_move (w : zWd) (d : Nat) (hd : 1 ≤ d) (v1 : Int32) (v2 : Int32) (v3 : Int32) (s : zM) : zMt w yX2_move cX2_move 4 (some .boolean) d zφN zφN zri [.ref (w.2.2.2 + 51), .int v1, .int v2, .int v3] s (f_X2_move v1 v2 v3 s) := by
  refine zMtN_of (own := RX2) rfl (by decide +kernel) (Nat.le_of_ble_eq_true rfl) cd_X2_move [(0, .ref (w.2.2.2 + 51)), (1, .int v1), (2, .int v2), (3, .int v3)] rfl ?_
  rintro a rfl K
  unfold f_X2_move
  refine z_iload_n K 1 rfl dX2_move_0 ?_
  refine z_cSi (As := [.int v1]) (rest := []) K (t_X8_isSeat a.1 (d - 1) (by omega) v1 s) mf_X8_isSeat ml_X2_38 (Nat.le_of_ble_eq_true rfl) (by omega) rfl rfl (Nat.le_of_ble_eq_true rfl) dX2_move_1 (fun r2 s1 => ?_)
  refine z_if_eq K (tgt := 37) dX2_move_4 (by decide) ?_ ?_
  · refine z_iconst K ci_0 dX2_move_37 ?_
    exact z_zret (Or.inl rfl) K dX2_move_38
  · refine z_iload_n K 2 rfl dX2_move_7 ?_
    refine z_cSi (As := [.int v2]) (rest := []) K (t_X8_isSeat a.1 (d - 1) (by omega) v2 s1) mf_X8_isSeat ml_X2_38 (Nat.le_of_ble_eq_true rfl) (by omega) rfl rfl (Nat.le_of_ble_eq_true rfl) dX2_move_8 (fun r4 s3 => ?_)
    refine z_if_eq K (tgt := 37) dX2_move_11 (by decide) ?_ ?_
    · refine z_iconst K ci_0 dX2_move_37 ?_
      exact z_zret (Or.inl rfl) K dX2_move_38
    · refine z_iload_n K 3 rfl dX2_move_14 ?_
      refine z_aload_n K 0 rfl dX2_move_15 ?_
      refine z_getr K fd_X2_11 ob_51_0 dX2_move_16 ?_
      refine z_iload_n K 1 rfl dX2_move_19 ?_
      refine z_iald K ar_52 dX2_move_20 ?_
      refine z_icmp_gt K (tgt := 37) dX2_move_21 (by decide) ?_ ?_
      · refine z_iconst K ci_0 dX2_move_37 ?_
        exact z_zret (Or.inl rfl) K dX2_move_38
      · refine z_aload_n K 0 rfl dX2_move_24 ?_
        refine z_getr K fd_X2_11 ob_51_0 dX2_move_25 ?_
        refine z_iload_n K 2 rfl dX2_move_28 ?_
        refine z_iald K ar_52 dX2_move_29 ?_
        refine z_iload_n K 3 rfl dX2_move_30 ?_
        refine z_iadd K dX2_move_31 ?_
        refine z_bipush K cb_99 dX2_move_32 ?_
        refine z_icmp_le K (tgt := 39) dX2_move_34 (by decide) ?_ ?_
        · refine z_aload_n K 0 rfl dX2_move_39 ?_
          refine z_getr K fd_X2_11 ob_51_0 dX2_move_40 ?_
          refine z_iload_n K 1 rfl dX2_move_43 ?_
          refine z_dup2 K rfl rfl dX2_move_44 ?_
          refine z_iald K ar_52 dX2_move_45 ?_
          refine z_iload_n K 3 rfl dX2_move_46 ?_
          refine z_isub K dX2_move_47 ?_
          refine z_iast K ar_52 dX2_move_48 ?_
          refine z_ltm (fun s5 => ?_)
          refine z_aload_n K 0 rfl dX2_move_49 ?_
          refine z_getr K fd_X2_11 ob_51_0 dX2_move_50 ?_
          refine z_iload_n K 2 rfl dX2_move_53 ?_
          refine z_dup2 K rfl rfl dX2_move_54 ?_
          refine z_iald K ar_52 dX2_move_55 ?_
          refine z_iload_n K 3 rfl dX2_move_56 ?_
          refine z_iadd K dX2_move_57 ?_
          refine z_iast K ar_52 dX2_move_58 ?_
          refine z_ltm (fun s6 => ?_)
          refine z_iconst K ci_1 dX2_move_59 ?_
          exact z_zret (Or.inr rfl) K dX2_move_60
        · refine z_iconst K ci_0 dX2_move_37 ?_
          exact z_zret (Or.inl rfl) K dX2_move_38
def f_X2_counts (s : zM) : Option (Int32 × zM) :=
  some ((zg s 51 8), s)
set_option maxRecDepth 100000 in
set_option maxHeartbeats 4000000 in
theorem t_X2_counts (w : zWd) (d : Nat) (hd : 0 ≤ d) (s : zM) : zMt w yX2_counts cX2_counts 1 (some .int) d zφN zφN zri [.ref (w.2.2.2 + 51)] s (f_X2_counts s) := by
  refine zMtN_of (own := RX2) rfl (by decide +kernel) (Nat.le_of_ble_eq_true rfl) cd_X2_counts [(0, .ref (w.2.2.2 + 51))] rfl ?_
  rintro a rfl K
  unfold f_X2_counts
  refine z_aload_n K 0 rfl dX2_counts_0 ?_
  refine z_geti K fd_X2_42 ob_51_8 dX2_counts_1 ?_
  exact z_iret K dX2_counts_4
def f_X2_hasCount (v1 : Int32) (s : zM) : Option (Int32 × zM) :=
  if v1 < 0 then
    some ((0 : Int32), s)
  else
    if v1 < (zg s 51 8) then
      if v1 < (20 : Int32) then
        some ((1 : Int32), s)
      else
        some ((0 : Int32), s)
    else
      some ((0 : Int32), s)
set_option maxRecDepth 100000 in
set_option maxHeartbeats 4000000 in
theorem t_X2_hasCount (w : zWd) (d : Nat) (hd : 0 ≤ d) (v1 : Int32) (s : zM) : zMt w yX2_hasCount cX2_hasCount 2 (some .boolean) d zφN zφN zri [.ref (w.2.2.2 + 51), .int v1] s (f_X2_hasCount v1 s) := by
  refine zMtN_of (own := RX2) rfl (by decide +kernel) (Nat.le_of_ble_eq_true rfl) cd_X2_hasCount [(0, .ref (w.2.2.2 + 51)), (1, .int v1)] rfl ?_
  rintro a rfl K
  unfold f_X2_hasCount
  refine z_iload_n K 1 rfl dX2_hasCount_0 ?_
  refine z_if_lt K (tgt := 22) dX2_hasCount_1 (by decide) ?_ ?_
  · refine z_iconst K ci_0 dX2_hasCount_22 ?_
    exact z_zret (Or.inl rfl) K dX2_hasCount_23
  · refine z_iload_n K 1 rfl dX2_hasCount_4 ?_
    refine z_aload_n K 0 rfl dX2_hasCount_5 ?_
    refine z_geti K fd_X2_42 ob_51_8 dX2_hasCount_6 ?_
    refine z_icmp_ge K (tgt := 22) dX2_hasCount_9 (by decide) ?_ ?_
    · refine z_iconst K ci_0 dX2_hasCount_22 ?_
      exact z_zret (Or.inl rfl) K dX2_hasCount_23
    · refine z_iload_n K 1 rfl dX2_hasCount_12 ?_
      refine z_bipush K cb_20 dX2_hasCount_13 ?_
      refine z_icmp_ge K (tgt := 22) dX2_hasCount_15 (by decide) ?_ ?_
      · refine z_iconst K ci_0 dX2_hasCount_22 ?_
        exact z_zret (Or.inl rfl) K dX2_hasCount_23
      · refine z_iconst K ci_1 dX2_hasCount_18 ?_
        refine z_goto K (tgt := 23) dX2_hasCount_19 (by decide) ?_
        exact z_zret (Or.inr rfl) K dX2_hasCount_23
def f_X2_addCount (v1 : Int32) (v2 : Int32) (v3 : Int32) (v4 : Int32) (s : zM) : Option (Int32 × zM) :=
  if (zg s 51 8) < (20 : Int32) then
    if zin (zg s 51 8) 20 = true then
      lt (zs s 54 ((zg s 51 8)).toNatClampNeg v1) (fun s1 =>
      if zin (zg s1 51 8) 20 = true then
        lt (zs s1 55 ((zg s1 51 8)).toNatClampNeg v2) (fun s2 =>
        if zin (zg s2 51 8) 20 = true then
          lt (zs s2 56 ((zg s2 51 8)).toNatClampNeg v3) (fun s3 =>
          if zin (zg s3 51 8) 20 = true then
            lt (zs s3 57 ((zg s3 51 8)).toNatClampNeg v4) (fun s4 =>
            lt (zs s4 51 8 ((zg s4 51 8) + (1 : Int32))) (fun s5 =>
            some ((zg s5 51 8), s5)))
          else none)
        else none)
      else none)
    else none
  else
    some ((-1 : Int32), s)
set_option maxRecDepth 100000 in
set_option maxHeartbeats 4000000 in
theorem t_X2_addCount (w : zWd) (d : Nat) (hd : 0 ≤ d) (v1 : Int32) (v2 : Int32) (v3 : Int32) (v4 : Int32) (s : zM) : zMt w yX2_addCount cX2_addCount 5 (some .int) d zφN zφN zri [.ref (w.2.2.2 + 51), .int v1, .int v2, .int v3, .int v4] s (f_X2_addCount v1 v2 v3 v4 s) := by
  refine zMtN_of (own := RX2) rfl (by decide +kernel) (Nat.le_of_ble_eq_true rfl) cd_X2_addCount [(0, .ref (w.2.2.2 + 51)), (1, .int v1), (2, .int v2), (3, .int v3), (4, .int v4)] rfl ?_
  rintro a rfl K
  unfold f_X2_addCount
  refine z_aload_n K 0 rfl dX2_addCount_0 ?_
  refine z_geti K fd_X2_42 ob_51_8 dX2_addCount_1 ?_
  refine z_bipush K cb_20 dX2_addCount_4 ?_
  refine z_icmp_lt K (tgt := 11) dX2_addCount_6 (by decide) ?_ ?_
  · refine z_aload_n K 0 rfl dX2_addCount_11 ?_
    refine z_getr K fd_X2_20 ob_51_2 dX2_addCount_12 ?_
    refine z_aload_n K 0 rfl dX2_addCount_15 ?_
    refine z_geti K fd_X2_42 ob_51_8 dX2_addCount_16 ?_
    refine z_iload_n K 1 rfl dX2_addCount_19 ?_
    refine z_iast K ar_54 dX2_addCount_20 ?_
    refine z_ltm (fun s1 => ?_)
    refine z_aload_n K 0 rfl dX2_addCount_21 ?_
    refine z_getr K fd_X2_23 ob_51_3 dX2_addCount_22 ?_
    refine z_aload_n K 0 rfl dX2_addCount_25 ?_
    refine z_geti K fd_X2_42 ob_51_8 dX2_addCount_26 ?_
    refine z_iload_n K 2 rfl dX2_addCount_29 ?_
    refine z_iast K ar_55 dX2_addCount_30 ?_
    refine z_ltm (fun s2 => ?_)
    refine z_aload_n K 0 rfl dX2_addCount_31 ?_
    refine z_getr K fd_X2_26 ob_51_4 dX2_addCount_32 ?_
    refine z_aload_n K 0 rfl dX2_addCount_35 ?_
    refine z_geti K fd_X2_42 ob_51_8 dX2_addCount_36 ?_
    refine z_iload_n K 3 rfl dX2_addCount_39 ?_
    refine z_iast K ar_56 dX2_addCount_40 ?_
    refine z_ltm (fun s3 => ?_)
    refine z_aload_n K 0 rfl dX2_addCount_41 ?_
    refine z_getr K fd_X2_29 ob_51_5 dX2_addCount_42 ?_
    refine z_aload_n K 0 rfl dX2_addCount_45 ?_
    refine z_geti K fd_X2_42 ob_51_8 dX2_addCount_46 ?_
    refine z_iload K 4 rfl dX2_addCount_49 ?_
    refine z_iast K ar_57 dX2_addCount_51 ?_
    refine z_ltm (fun s4 => ?_)
    refine z_aload_n K 0 rfl dX2_addCount_52 ?_
    refine z_dup K rfl dX2_addCount_53 ?_
    refine z_geti K fd_X2_42 ob_51_8 dX2_addCount_54 ?_
    refine z_iconst K ci_1 dX2_addCount_57 ?_
    refine z_iadd K dX2_addCount_58 ?_
    refine z_puti K fw_X2_42 ob_51_8 dX2_addCount_59 ?_
    refine z_ltm (fun s5 => ?_)
    refine z_aload_n K 0 rfl dX2_addCount_62 ?_
    refine z_geti K fd_X2_42 ob_51_8 dX2_addCount_63 ?_
    exact z_iret K dX2_addCount_66
  · refine z_iconst K ci_m1 dX2_addCount_9 ?_
    exact z_iret K dX2_addCount_10
def f_X2_between_L6 (F : Nat) (k37 : Int32 → zM → Option (Int32 × zM)) (v1 : Int32) (v3 : Int32) : Nat → Int32 → Int32 → zM → Option (Int32 × zM)
  | 0, _, _, _ => none
  | n + 1, v4, v5, s =>
    if v3 < v5 then
      k37 v4 s
    else
      bnd (f_X2_at (((2 : Int32) * v5) + v1) s) (fun r2 s1 =>
      lt ((v4 + (if (0 : Int32) < r2 then r2 else (0 : Int32)))) (fun y3 =>
      lt (v5 + (1 : Int32)) (fun y4 =>
      f_X2_between_L6 F k37 v1 v3 n y3 y4 s1)))
set_option maxRecDepth 100000 in
set_option maxHeartbeats 4000000 in
theorem t_X2_between_L6 {a : zA} {d : Nat} (F : Nat) (K : zOK a cX2_between 6 RX2 (some .int) d) (hd : 2 ≤ d) {k37 : Int32 → zM → Option (Int32 × zM)} (v1 : Int32) (v3 : Int32) (h37 : ∀ (v4 : Int32) (s : zM), zJ a 6 (zG a zφN zri) zφN 37 [(4, .int v4)] [] s (k37 v4 s)) : ∀ (n : Nat) (v4 : Int32) (v5 : Int32) (s : zM), zJ a 6 (zG a zφN zri) zφN 6 [(0, .ref (a.1.2.2.2 + 51)), (1, .int v1), (3, .int v3), (4, .int v4), (5, .int v5)] [] s (f_X2_between_L6 F k37 v1 v3 n v4 v5 s) := by
  intro n
  induction n with
  | zero => intros; exact z_none
  | succ n ih =>
    intro v4 v5 s
    rw [f_X2_between_L6]
    refine z_iload K 4 rfl dX2_between_6 ?_
    refine z_iload_n K 2 rfl dX2_between_8 ?_
    refine z_icmp_gt K (tgt := 37) dX2_between_9 (by decide) ?_ ?_
    · refine z_sub [3] rfl ?_
      exact h37 v4 s
    · refine z_iload K 3 rfl dX2_between_12 ?_
      refine z_iconst K ci_0 dX2_between_14 ?_
      refine z_aload_n K 0 rfl dX2_between_15 ?_
      refine z_iconst K ci_2 dX2_between_16 ?_
      refine z_iload K 4 rfl dX2_between_17 ?_
      refine z_imul K dX2_between_19 ?_
      refine z_iload_n K 1 rfl dX2_between_20 ?_
      refine z_iadd K dX2_between_21 ?_
      refine z_cVi (As := [.int (((2 : Int32) * v5) + v1)]) (rest := [.int (0 : Int32), .int v4]) K (t_X2_at a.1 (d - 1) (by omega) (((2 : Int32) * v5) + v1) s) mf_X2_at ml_X2_53 (Nat.le_of_ble_eq_true rfl) (by omega) rfl rc_51 rfl (Nat.le_of_ble_eq_true rfl) dX2_between_22 (fun r2 s1 => ?_)
      refine z_max K jm_max_s jm_ini jm_max_c ml_X2_57 rfl (by omega) (Nat.le_of_ble_eq_true rfl) dX2_between_25 ?_
      refine z_iadd K dX2_between_28 ?_
      refine z_topi (fun y3 => ?_)
      refine z_istore K (lv' := [(4, .int y3), (0, .ref (a.1.2.2.2 + 51)), (1, .int v1), (3, .int v3), (5, .int v5)]) dX2_between_29 (Nat.le_of_ble_eq_true rfl) rfl ?_
      refine z_iincN K (j := 4) (lv' := [(4, .int y3), (0, .ref (a.1.2.2.2 + 51)), (1, .int v1), (3, .int v3)]) ci_1 rfl dX2_between_31 (Nat.le_of_ble_eq_true rfl) rfl (fun y4 => ?_)
      refine z_goto K (tgt := 6) dX2_between_34 (by decide) ?_
      refine z_sub [2, 3, 4, 1, 0] rfl ?_
      exact ih y3 y4 s1
def f_X2_between (F : Nat) (v1 : Int32) (v2 : Int32) (v3 : Int32) (s : zM) : Option (Int32 × zM) :=
  f_X2_between_L6 F (fun y6 s5 =>
    some (y6, s5)) v1 v3 F (0 : Int32) v2 s
set_option maxRecDepth 100000 in
set_option maxHeartbeats 4000000 in
theorem t_X2_between (w : zWd) (F : Nat) (d : Nat) (hd : 2 ≤ d) (v1 : Int32) (v2 : Int32) (v3 : Int32) (s : zM) : zMt w yX2_between cX2_between 6 (some .int) d zφN zφN zri [.ref (w.2.2.2 + 51), .int v1, .int v2, .int v3] s (f_X2_between F v1 v2 v3 s) := by
  refine zMtN_of (own := RX2) rfl (by decide +kernel) (Nat.le_of_ble_eq_true rfl) cd_X2_between [(0, .ref (w.2.2.2 + 51)), (1, .int v1), (2, .int v2), (3, .int v3)] rfl ?_
  rintro a rfl K
  unfold f_X2_between
  refine z_iconst K ci_0 dX2_between_0 ?_
  refine z_istore K (lv' := [(4, .int (0 : Int32)), (0, .ref (a.1.2.2.2 + 51)), (1, .int v1), (2, .int v2), (3, .int v3)]) dX2_between_1 (Nat.le_of_ble_eq_true rfl) rfl ?_
  refine z_iload_n K 3 rfl dX2_between_3 ?_
  refine z_istore K (lv' := [(5, .int v2), (4, .int (0 : Int32)), (0, .ref (a.1.2.2.2 + 51)), (1, .int v1), (2, .int v2), (3, .int v3)]) dX2_between_4 (Nat.le_of_ble_eq_true rfl) rfl ?_
  refine z_sub [2, 3, 5, 1, 0] rfl ?_
  refine t_X2_between_L6 F K hd v1 v3 (fun y6 s5 => ?_) F (0 : Int32) v2 s
  refine z_iload K 0 rfl dX2_between_37 ?_
  exact z_iret K dX2_between_39
def f_X2_moreThanSaid (F : Nat) (v1 : Int32) (s : zM) : Option (Int32 × zM) :=
  bnd (f_X2_hasCount v1 s) (fun r2 s1 =>
  if r2 = 0 then
    some ((0 : Int32), s1)
  else
    if zin v1 20 = true then
      if zin v1 20 = true then
        if zin v1 20 = true then
          bnd (f_X2_between F (zg s1 54 (v1).toNatClampNeg) (zg s1 55 (v1).toNatClampNeg) (zg s1 56 (v1).toNatClampNeg) s1) (fun r4 s3 =>
          if zin v1 20 = true then
            some ((r4 - (zg s3 57 (v1).toNatClampNeg)), s3)
          else none)
        else none
      else none
    else none)
set_option maxRecDepth 100000 in
set_option maxHeartbeats 4000000 in
theorem t_X2_moreThanSaid (w : zWd) (F : Nat) (d : Nat) (hd : 3 ≤ d) (v1 : Int32) (s : zM) : zMt w yX2_moreThanSaid cX2_moreThanSaid 2 (some .int) d zφN zφN zri [.ref (w.2.2.2 + 51), .int v1] s (f_X2_moreThanSaid F v1 s) := by
  refine zMtN_of (own := RX2) rfl (by decide +kernel) (Nat.le_of_ble_eq_true rfl) cd_X2_moreThanSaid [(0, .ref (w.2.2.2 + 51)), (1, .int v1)] rfl ?_
  rintro a rfl K
  unfold f_X2_moreThanSaid
  refine z_aload_n K 0 rfl dX2_moreThanSaid_0 ?_
  refine z_iload_n K 1 rfl dX2_moreThanSaid_1 ?_
  refine z_cVi (As := [.int v1]) (rest := []) K (t_X2_hasCount a.1 (d - 1) (by omega) v1 s) mf_X2_hasCount ml_X2_46 (Nat.le_of_ble_eq_true rfl) (by omega) rfl rc_51 rfl (Nat.le_of_ble_eq_true rfl) dX2_moreThanSaid_2 (fun r2 s1 => ?_)
  refine z_if_eq K (tgt := 40) dX2_moreThanSaid_5 (by decide) ?_ ?_
  · refine z_iconst K ci_0 dX2_moreThanSaid_40 ?_
    exact z_iret K dX2_moreThanSaid_41
  · refine z_aload_n K 0 rfl dX2_moreThanSaid_8 ?_
    refine z_aload_n K 0 rfl dX2_moreThanSaid_9 ?_
    refine z_getr K fd_X2_20 ob_51_2 dX2_moreThanSaid_10 ?_
    refine z_iload_n K 1 rfl dX2_moreThanSaid_13 ?_
    refine z_iald K ar_54 dX2_moreThanSaid_14 ?_
    refine z_aload_n K 0 rfl dX2_moreThanSaid_15 ?_
    refine z_getr K fd_X2_23 ob_51_3 dX2_moreThanSaid_16 ?_
    refine z_iload_n K 1 rfl dX2_moreThanSaid_19 ?_
    refine z_iald K ar_55 dX2_moreThanSaid_20 ?_
    refine z_aload_n K 0 rfl dX2_moreThanSaid_21 ?_
    refine z_getr K fd_X2_26 ob_51_4 dX2_moreThanSaid_22 ?_
    refine z_iload_n K 1 rfl dX2_moreThanSaid_25 ?_
    refine z_iald K ar_56 dX2_moreThanSaid_26 ?_
    refine z_cVi (As := [.int (zg s1 54 (v1).toNatClampNeg), .int (zg s1 55 (v1).toNatClampNeg), .int (zg s1 56 (v1).toNatClampNeg)]) (rest := []) K (t_X2_between a.1 F (d - 1) (by omega) (zg s1 54 (v1).toNatClampNeg) (zg s1 55 (v1).toNatClampNeg) (zg s1 56 (v1).toNatClampNeg) s1) mf_X2_between ml_X2_49 (Nat.le_of_ble_eq_true rfl) (by omega) rfl rc_51 rfl (Nat.le_of_ble_eq_true rfl) dX2_moreThanSaid_27 (fun r4 s3 => ?_)
    refine z_aload_n K 0 rfl dX2_moreThanSaid_30 ?_
    refine z_getr K fd_X2_29 ob_51_5 dX2_moreThanSaid_31 ?_
    refine z_iload_n K 1 rfl dX2_moreThanSaid_34 ?_
    refine z_iald K ar_57 dX2_moreThanSaid_35 ?_
    refine z_isub K dX2_moreThanSaid_36 ?_
    refine z_goto K (tgt := 41) dX2_moreThanSaid_37 (by decide) ?_
    exact z_iret K dX2_moreThanSaid_41
def f_X2_relate_L72 (F : Nat) (k122 : zM → Option (Int32 × zM)) (v1 : Int32) (v4 : Int32) (v5 : Int32) : Nat → Int32 → zM → Option (Int32 × zM)
  | 0, _, _ => none
  | n + 1, v6, s =>
    if v6 < (42 : Int32) then
      if zin v6 42 = true then
        if (zg s 58 (v6).toNatClampNeg) = v5 then
          if zin v1 42 = true then
            if zin v6 42 = true then
              lt (zs s 58 (v6).toNatClampNeg (zg s 58 (v1).toNatClampNeg)) (fun s4 =>
              if zin v6 42 = true then
                if zin v6 42 = true then
                  lt (zs s4 59 (v6).toNatClampNeg ((zg s4 59 (v6).toNatClampNeg) + v4)) (fun s5 =>
                  lt (v6 + (1 : Int32)) (fun y6 =>
                  f_X2_relate_L72 F k122 v1 v4 v5 n y6 s5))
                else none
              else none)
            else none
          else none
        else
          lt (v6 + (1 : Int32)) (fun y3 =>
          f_X2_relate_L72 F k122 v1 v4 v5 n y3 s)
      else none
    else
      k122 s
set_option maxRecDepth 100000 in
set_option maxHeartbeats 4000000 in
theorem t_X2_relate_L72 {a : zA} {d : Nat} (F : Nat) (K : zOK a cX2_relate 7 RX2 (some .boolean) d) (hd : 0 ≤ d) {k122 : zM → Option (Int32 × zM)} (v1 : Int32) (v4 : Int32) (v5 : Int32) (h122 : ∀ (s : zM), zJ a 7 (zG a zφN zri) zφN 122 [] [] s (k122 s)) : ∀ (n : Nat) (v6 : Int32) (s : zM), zJ a 7 (zG a zφN zri) zφN 72 [(0, .ref (a.1.2.2.2 + 51)), (1, .int v1), (4, .int v4), (5, .int v5), (6, .int v6)] [] s (f_X2_relate_L72 F k122 v1 v4 v5 n v6 s) := by
  intro n
  induction n with
  | zero => intros; exact z_none
  | succ n ih =>
    intro v6 s
    rw [f_X2_relate_L72]
    refine z_iload K 4 rfl dX2_relate_72 ?_
    refine z_bipush K cb_42 dX2_relate_74 ?_
    refine z_icmp_ge K (tgt := 122) dX2_relate_76 (by decide) ?_ ?_
    · refine z_sub [] rfl ?_
      exact h122 s
    · refine z_aload_n K 0 rfl dX2_relate_79 ?_
      refine z_getr K fd_X2_32 ob_51_6 dX2_relate_80 ?_
      refine z_iload K 4 rfl dX2_relate_83 ?_
      refine z_iald K ar_58 dX2_relate_85 ?_
      refine z_iload K 3 rfl dX2_relate_86 ?_
      refine z_icmp_ne K (tgt := 116) dX2_relate_88 (by decide) ?_ ?_
      · refine z_iincN K (j := 4) (lv' := [(0, .ref (a.1.2.2.2 + 51)), (1, .int v1), (4, .int v4), (5, .int v5)]) ci_1 rfl dX2_relate_116 (Nat.le_of_ble_eq_true rfl) rfl (fun y3 => ?_)
        refine z_goto K (tgt := 72) dX2_relate_119 (by decide) ?_
        refine z_sub [1, 2, 3, 4, 0] rfl ?_
        exact ih y3 s
      · refine z_aload_n K 0 rfl dX2_relate_91 ?_
        refine z_getr K fd_X2_32 ob_51_6 dX2_relate_92 ?_
        refine z_iload K 4 rfl dX2_relate_95 ?_
        refine z_aload_n K 0 rfl dX2_relate_97 ?_
        refine z_getr K fd_X2_32 ob_51_6 dX2_relate_98 ?_
        refine z_iload_n K 1 rfl dX2_relate_101 ?_
        refine z_iald K ar_58 dX2_relate_102 ?_
        refine z_iast K ar_58 dX2_relate_103 ?_
        refine z_ltm (fun s4 => ?_)
        refine z_aload_n K 0 rfl dX2_relate_104 ?_
        refine z_getr K fd_X2_35 ob_51_7 dX2_relate_105 ?_
        refine z_iload K 4 rfl dX2_relate_108 ?_
        refine z_dup2 K rfl rfl dX2_relate_110 ?_
        refine z_iald K ar_59 dX2_relate_111 ?_
        refine z_iload K 2 rfl dX2_relate_112 ?_
        refine z_iadd K dX2_relate_114 ?_
        refine z_iast K ar_59 dX2_relate_115 ?_
        refine z_ltm (fun s5 => ?_)
        refine z_iincN K (j := 4) (lv' := [(0, .ref (a.1.2.2.2 + 51)), (1, .int v1), (4, .int v4), (5, .int v5)]) ci_1 rfl dX2_relate_116 (Nat.le_of_ble_eq_true rfl) rfl (fun y6 => ?_)
        refine z_goto K (tgt := 72) dX2_relate_119 (by decide) ?_
        refine z_sub [1, 2, 3, 4, 0] rfl ?_
        exact ih y6 s5
def f_X2_relate (F : Nat) (v1 : Int32) (v2 : Int32) (v3 : Int32) (s : zM) : Option (Int32 × zM) :=
  if v1 < 0 then
    some ((1 : Int32), s)
  else
    if v2 < 0 then
      some ((1 : Int32), s)
    else
      if v1 < (42 : Int32) then
        if v2 < (42 : Int32) then
          if zin v1 42 = true then
            if zin v2 42 = true then
              lt ((((zg s 59 (v1).toNatClampNeg) + v3) - (zg s 59 (v2).toNatClampNeg))) (fun y1 =>
              if zin v2 42 = true then
                lt ((zg s 58 (v2).toNatClampNeg)) (fun y2 =>
                if zin v1 42 = true then
                  if y2 = (zg s 58 (v1).toNatClampNeg) then
                    if y1 = 0 then
                      some ((1 : Int32), s)
                    else
                      some ((0 : Int32), s)
                  else
                    f_X2_relate_L72 F (fun s7 =>
                      some ((1 : Int32), s7)) v1 y1 y2 F (0 : Int32) s
                else none)
              else none)
            else none
          else none
        else
          some ((1 : Int32), s)
      else
        some ((1 : Int32), s)
set_option maxRecDepth 100000 in
set_option maxHeartbeats 4000000 in
theorem t_X2_relate (w : zWd) (F : Nat) (d : Nat) (hd : 0 ≤ d) (v1 : Int32) (v2 : Int32) (v3 : Int32) (s : zM) : zMt w yX2_relate cX2_relate 7 (some .boolean) d zφN zφN zri [.ref (w.2.2.2 + 51), .int v1, .int v2, .int v3] s (f_X2_relate F v1 v2 v3 s) := by
  refine zMtN_of (own := RX2) rfl (by decide +kernel) (Nat.le_of_ble_eq_true rfl) cd_X2_relate [(0, .ref (w.2.2.2 + 51)), (1, .int v1), (2, .int v2), (3, .int v3)] rfl ?_
  rintro a rfl K
  unfold f_X2_relate
  refine z_iload_n K 1 rfl dX2_relate_0 ?_
  refine z_if_lt K (tgt := 20) dX2_relate_1 (by decide) ?_ ?_
  · refine z_iconst K ci_1 dX2_relate_20 ?_
    exact z_zret (Or.inr rfl) K dX2_relate_21
  · refine z_iload_n K 2 rfl dX2_relate_4 ?_
    refine z_if_lt K (tgt := 20) dX2_relate_5 (by decide) ?_ ?_
    · refine z_iconst K ci_1 dX2_relate_20 ?_
      exact z_zret (Or.inr rfl) K dX2_relate_21
    · refine z_iload_n K 1 rfl dX2_relate_8 ?_
      refine z_bipush K cb_42 dX2_relate_9 ?_
      refine z_icmp_ge K (tgt := 20) dX2_relate_11 (by decide) ?_ ?_
      · refine z_iconst K ci_1 dX2_relate_20 ?_
        exact z_zret (Or.inr rfl) K dX2_relate_21
      · refine z_iload_n K 2 rfl dX2_relate_14 ?_
        refine z_bipush K cb_42 dX2_relate_15 ?_
        refine z_icmp_lt K (tgt := 22) dX2_relate_17 (by decide) ?_ ?_
        · refine z_aload_n K 0 rfl dX2_relate_22 ?_
          refine z_getr K fd_X2_35 ob_51_7 dX2_relate_23 ?_
          refine z_iload_n K 1 rfl dX2_relate_26 ?_
          refine z_iald K ar_59 dX2_relate_27 ?_
          refine z_iload_n K 3 rfl dX2_relate_28 ?_
          refine z_iadd K dX2_relate_29 ?_
          refine z_aload_n K 0 rfl dX2_relate_30 ?_
          refine z_getr K fd_X2_35 ob_51_7 dX2_relate_31 ?_
          refine z_iload_n K 2 rfl dX2_relate_34 ?_
          refine z_iald K ar_59 dX2_relate_35 ?_
          refine z_isub K dX2_relate_36 ?_
          refine z_topi (fun y1 => ?_)
          refine z_istore K (lv' := [(4, .int y1), (0, .ref (a.1.2.2.2 + 51)), (1, .int v1), (2, .int v2), (3, .int v3)]) dX2_relate_37 (Nat.le_of_ble_eq_true rfl) rfl ?_
          refine z_aload_n K 1 rfl dX2_relate_39 ?_
          refine z_getr K fd_X2_32 ob_51_6 dX2_relate_40 ?_
          refine z_iload_n K 3 rfl dX2_relate_43 ?_
          refine z_iald K ar_58 dX2_relate_44 ?_
          refine z_topi (fun y2 => ?_)
          refine z_istore K (lv' := [(5, .int y2), (4, .int y1), (0, .ref (a.1.2.2.2 + 51)), (1, .int v1), (2, .int v2), (3, .int v3)]) dX2_relate_45 (Nat.le_of_ble_eq_true rfl) rfl ?_
          refine z_iload K 0 rfl dX2_relate_47 ?_
          refine z_aload_n K 2 rfl dX2_relate_49 ?_
          refine z_getr K fd_X2_32 ob_51_6 dX2_relate_50 ?_
          refine z_iload_n K 3 rfl dX2_relate_53 ?_
          refine z_iald K ar_58 dX2_relate_54 ?_
          refine z_icmp_ne K (tgt := 69) dX2_relate_55 (by decide) ?_ ?_
          · refine z_iconst K ci_0 dX2_relate_69 ?_
            refine z_istore K (lv' := [(6, .int (0 : Int32)), (5, .int y2), (4, .int y1), (0, .ref (a.1.2.2.2 + 51)), (1, .int v1), (2, .int v2), (3, .int v3)]) dX2_relate_70 (Nat.le_of_ble_eq_true rfl) rfl ?_
            refine z_sub [3, 4, 2, 1, 0] rfl ?_
            refine t_X2_relate_L72 F K hd v1 y1 y2 (fun s7 => ?_) F (0 : Int32) s
            refine z_iconst K ci_1 dX2_relate_122 ?_
            exact z_zret (Or.inr rfl) K dX2_relate_123
          · refine z_iload K 1 rfl dX2_relate_58 ?_
            refine z_if_ne K (tgt := 67) dX2_relate_60 (by decide) ?_ ?_
            · refine z_iconst K ci_0 dX2_relate_67 ?_
              exact z_zret (Or.inl rfl) K dX2_relate_68
            · refine z_iconst K ci_1 dX2_relate_63 ?_
              refine z_goto K (tgt := 68) dX2_relate_64 (by decide) ?_
              exact z_zret (Or.inr rfl) K dX2_relate_68
        · refine z_iconst K ci_1 dX2_relate_20 ?_
          exact z_zret (Or.inr rfl) K dX2_relate_21
def f_X2_firstWrong_L2 (F : Nat) (k28 : zM → Option (Int32 × zM)) : Nat → Int32 → zM → Option (Int32 × zM)
  | 0, _, _ => none
  | n + 1, v1, s =>
    if v1 < (42 : Int32) then
      if zin v1 42 = true then
        lt (zs s 58 (v1).toNatClampNeg v1) (fun s1 =>
        if zin v1 42 = true then
          lt (zs s1 59 (v1).toNatClampNeg (0 : Int32)) (fun s2 =>
          lt (v1 + (1 : Int32)) (fun y3 =>
          f_X2_firstWrong_L2 F k28 n y3 s2))
        else none)
      else none
    else
      k28 s
set_option maxRecDepth 100000 in
set_option maxHeartbeats 4000000 in
theorem t_X2_firstWrong_L2 {a : zA} {d : Nat} (F : Nat) (K : zOK a cX2_firstWrong 3 RX2 (some .int) d) (hd : 3 ≤ d) {k28 : zM → Option (Int32 × zM)} (h28 : ∀ (s : zM), zJ a 3 (zG a zφN zri) zφN 28 [(0, .ref (a.1.2.2.2 + 51))] [] s (k28 s)) : ∀ (n : Nat) (v1 : Int32) (s : zM), zJ a 3 (zG a zφN zri) zφN 2 [(0, .ref (a.1.2.2.2 + 51)), (1, .int v1)] [] s (f_X2_firstWrong_L2 F k28 n v1 s) := by
  intro n
  induction n with
  | zero => intros; exact z_none
  | succ n ih =>
    intro v1 s
    rw [f_X2_firstWrong_L2]
    refine z_iload_n K 1 rfl dX2_firstWrong_2 ?_
    refine z_bipush K cb_42 dX2_firstWrong_3 ?_
    refine z_icmp_ge K (tgt := 28) dX2_firstWrong_5 (by decide) ?_ ?_
    · refine z_sub [0] rfl ?_
      exact h28 s
    · refine z_aload_n K 0 rfl dX2_firstWrong_8 ?_
      refine z_getr K fd_X2_32 ob_51_6 dX2_firstWrong_9 ?_
      refine z_iload_n K 1 rfl dX2_firstWrong_12 ?_
      refine z_iload_n K 1 rfl dX2_firstWrong_13 ?_
      refine z_iast K ar_58 dX2_firstWrong_14 ?_
      refine z_ltm (fun s1 => ?_)
      refine z_aload_n K 0 rfl dX2_firstWrong_15 ?_
      refine z_getr K fd_X2_35 ob_51_7 dX2_firstWrong_16 ?_
      refine z_iload_n K 1 rfl dX2_firstWrong_19 ?_
      refine z_iconst K ci_0 dX2_firstWrong_20 ?_
      refine z_iast K ar_59 dX2_firstWrong_21 ?_
      refine z_ltm (fun s2 => ?_)
      refine z_iincN K (j := 1) (lv' := [(0, .ref (a.1.2.2.2 + 51))]) ci_1 rfl dX2_firstWrong_22 (Nat.le_of_ble_eq_true rfl) rfl (fun y3 => ?_)
      refine z_goto K (tgt := 2) dX2_firstWrong_25 (by decide) ?_
      refine z_sub [1, 0] rfl ?_
      exact ih y3 s2
def f_X2_firstWrong_L30 (F : Nat) (k65 : zM → Option (Int32 × zM)) : Nat → Int32 → zM → Option (Int32 × zM)
  | 0, _, _ => none
  | n + 1, v1, s =>
    if v1 < (2 : Int32) then
      bnd (f_X2_between F v1 (0 : Int32) (19 : Int32) s) (fun r6 s5 =>
      bnd (f_X2_relate F (v1 * (21 : Int32)) ((v1 * (21 : Int32)) + (20 : Int32)) r6 s5) (fun r8 s7 =>
      lt (v1 + (1 : Int32)) (fun y9 =>
      f_X2_firstWrong_L30 F k65 n y9 s7)))
    else
      k65 s
set_option maxRecDepth 100000 in
set_option maxHeartbeats 4000000 in
theorem t_X2_firstWrong_L30 {a : zA} {d : Nat} (F : Nat) (K : zOK a cX2_firstWrong 3 RX2 (some .int) d) (hd : 3 ≤ d) {k65 : zM → Option (Int32 × zM)} (h65 : ∀ (s : zM), zJ a 3 (zG a zφN zri) zφN 65 [(0, .ref (a.1.2.2.2 + 51))] [] s (k65 s)) : ∀ (n : Nat) (v1 : Int32) (s : zM), zJ a 3 (zG a zφN zri) zφN 30 [(0, .ref (a.1.2.2.2 + 51)), (1, .int v1)] [] s (f_X2_firstWrong_L30 F k65 n v1 s) := by
  intro n
  induction n with
  | zero => intros; exact z_none
  | succ n ih =>
    intro v1 s
    rw [f_X2_firstWrong_L30]
    refine z_iload_n K 1 rfl dX2_firstWrong_30 ?_
    refine z_iconst K ci_2 dX2_firstWrong_31 ?_
    refine z_icmp_ge K (tgt := 65) dX2_firstWrong_32 (by decide) ?_ ?_
    · refine z_sub [0] rfl ?_
      exact h65 s
    · refine z_aload_n K 0 rfl dX2_firstWrong_35 ?_
      refine z_iload_n K 1 rfl dX2_firstWrong_36 ?_
      refine z_bipush K cb_21 dX2_firstWrong_37 ?_
      refine z_imul K dX2_firstWrong_39 ?_
      refine z_iload_n K 1 rfl dX2_firstWrong_40 ?_
      refine z_bipush K cb_21 dX2_firstWrong_41 ?_
      refine z_imul K dX2_firstWrong_43 ?_
      refine z_bipush K cb_20 dX2_firstWrong_44 ?_
      refine z_iadd K dX2_firstWrong_46 ?_
      refine z_aload_n K 0 rfl dX2_firstWrong_47 ?_
      refine z_iload_n K 1 rfl dX2_firstWrong_48 ?_
      refine z_iconst K ci_0 dX2_firstWrong_49 ?_
      refine z_bipush K cb_19 dX2_firstWrong_50 ?_
      refine z_cVi (As := [.int v1, .int (0 : Int32), .int (19 : Int32)]) (rest := [.int ((v1 * (21 : Int32)) + (20 : Int32)), .int (v1 * (21 : Int32)), .ref (a.1.2.2.2 + 51)]) K (t_X2_between a.1 F (d - 1) (by omega) v1 (0 : Int32) (19 : Int32) s) mf_X2_between ml_X2_49 (Nat.le_of_ble_eq_true rfl) (by omega) rfl rc_51 rfl (Nat.le_of_ble_eq_true rfl) dX2_firstWrong_52 (fun r6 s5 => ?_)
      refine z_cVi (As := [.int (v1 * (21 : Int32)), .int ((v1 * (21 : Int32)) + (20 : Int32)), .int r6]) (rest := []) K (t_X2_relate a.1 F (d - 1) (by omega) (v1 * (21 : Int32)) ((v1 * (21 : Int32)) + (20 : Int32)) r6 s5) mf_X2_relate ml_X2_63 (Nat.le_of_ble_eq_true rfl) (by omega) rfl rc_51 rfl (Nat.le_of_ble_eq_true rfl) dX2_firstWrong_55 (fun r8 s7 => ?_)
      refine z_pop K rfl dX2_firstWrong_58 ?_
      refine z_iincN K (j := 1) (lv' := [(0, .ref (a.1.2.2.2 + 51))]) ci_1 rfl dX2_firstWrong_59 (Nat.le_of_ble_eq_true rfl) rfl (fun y9 => ?_)
      refine z_goto K (tgt := 30) dX2_firstWrong_62 (by decide) ?_
      refine z_sub [1, 0] rfl ?_
      exact ih y9 s7
def f_X2_firstWrong_L67 (F : Nat) (k130 : zM → Option (Int32 × zM)) : Nat → Int32 → zM → Option (Int32 × zM)
  | 0, _, _ => none
  | n + 1, v1, s =>
    if v1 < (zg s 51 8) then
      if v1 < (20 : Int32) then
        if zin v1 20 = true then
          lt (((zg s 54 (v1).toNatClampNeg) * (21 : Int32))) (fun y11 =>
          if zin v1 20 = true then
            if zin v1 20 = true then
              if zin v1 20 = true then
                bnd (f_X2_relate F (y11 + (zg s 55 (v1).toNatClampNeg)) ((y11 + (zg s 56 (v1).toNatClampNeg)) + (1 : Int32)) (zg s 57 (v1).toNatClampNeg) s) (fun r13 s12 =>
                if r13 = 0 then
                  some (v1, s12)
                else
                  lt (v1 + (1 : Int32)) (fun y14 =>
                  f_X2_firstWrong_L67 F k130 n y14 s12))
              else none
            else none
          else none)
        else none
      else
        k130 s
    else
      k130 s
set_option maxRecDepth 100000 in
set_option maxHeartbeats 4000000 in
theorem t_X2_firstWrong_L67 {a : zA} {d : Nat} (F : Nat) (K : zOK a cX2_firstWrong 3 RX2 (some .int) d) (hd : 3 ≤ d) {k130 : zM → Option (Int32 × zM)} (h130 : ∀ (s : zM), zJ a 3 (zG a zφN zri) zφN 130 [] [] s (k130 s)) : ∀ (n : Nat) (v1 : Int32) (s : zM), zJ a 3 (zG a zφN zri) zφN 67 [(0, .ref (a.1.2.2.2 + 51)), (1, .int v1)] [] s (f_X2_firstWrong_L67 F k130 n v1 s) := by
  intro n
  induction n with
  | zero => intros; exact z_none
  | succ n ih =>
    intro v1 s
    rw [f_X2_firstWrong_L67]
    refine z_iload_n K 1 rfl dX2_firstWrong_67 ?_
    refine z_aload_n K 0 rfl dX2_firstWrong_68 ?_
    refine z_geti K fd_X2_42 ob_51_8 dX2_firstWrong_69 ?_
    refine z_icmp_ge K (tgt := 130) dX2_firstWrong_72 (by decide) ?_ ?_
    · refine z_sub [] rfl ?_
      exact h130 s
    · refine z_iload_n K 1 rfl dX2_firstWrong_75 ?_
      refine z_bipush K cb_20 dX2_firstWrong_76 ?_
      refine z_icmp_ge K (tgt := 130) dX2_firstWrong_78 (by decide) ?_ ?_
      · refine z_sub [] rfl ?_
        exact h130 s
      · refine z_aload_n K 0 rfl dX2_firstWrong_81 ?_
        refine z_getr K fd_X2_20 ob_51_2 dX2_firstWrong_82 ?_
        refine z_iload_n K 1 rfl dX2_firstWrong_85 ?_
        refine z_iald K ar_54 dX2_firstWrong_86 ?_
        refine z_bipush K cb_21 dX2_firstWrong_87 ?_
        refine z_imul K dX2_firstWrong_89 ?_
        refine z_topi (fun y11 => ?_)
        refine z_istore_n K (lv' := [(2, .int y11), (0, .ref (a.1.2.2.2 + 51)), (1, .int v1)]) dX2_firstWrong_90 rfl (Nat.le_of_ble_eq_true rfl) rfl ?_
        refine z_aload_n K 1 rfl dX2_firstWrong_91 ?_
        refine z_iload_n K 0 rfl dX2_firstWrong_92 ?_
        refine z_aload_n K 1 rfl dX2_firstWrong_93 ?_
        refine z_getr K fd_X2_23 ob_51_3 dX2_firstWrong_94 ?_
        refine z_iload_n K 2 rfl dX2_firstWrong_97 ?_
        refine z_iald K ar_55 dX2_firstWrong_98 ?_
        refine z_iadd K dX2_firstWrong_99 ?_
        refine z_iload_n K 0 rfl dX2_firstWrong_100 ?_
        refine z_aload_n K 1 rfl dX2_firstWrong_101 ?_
        refine z_getr K fd_X2_26 ob_51_4 dX2_firstWrong_102 ?_
        refine z_iload_n K 2 rfl dX2_firstWrong_105 ?_
        refine z_iald K ar_56 dX2_firstWrong_106 ?_
        refine z_iadd K dX2_firstWrong_107 ?_
        refine z_iconst K ci_1 dX2_firstWrong_108 ?_
        refine z_iadd K dX2_firstWrong_109 ?_
        refine z_aload_n K 1 rfl dX2_firstWrong_110 ?_
        refine z_getr K fd_X2_29 ob_51_5 dX2_firstWrong_111 ?_
        refine z_iload_n K 2 rfl dX2_firstWrong_114 ?_
        refine z_iald K ar_57 dX2_firstWrong_115 ?_
        refine z_cVi (As := [.int (y11 + (zg s 55 (v1).toNatClampNeg)), .int ((y11 + (zg s 56 (v1).toNatClampNeg)) + (1 : Int32)), .int (zg s 57 (v1).toNatClampNeg)]) (rest := []) K (t_X2_relate a.1 F (d - 1) (by omega) (y11 + (zg s 55 (v1).toNatClampNeg)) ((y11 + (zg s 56 (v1).toNatClampNeg)) + (1 : Int32)) (zg s 57 (v1).toNatClampNeg) s) mf_X2_relate ml_X2_63 (Nat.le_of_ble_eq_true rfl) (by omega) rfl rc_51 rfl (Nat.le_of_ble_eq_true rfl) dX2_firstWrong_116 (fun r13 s12 => ?_)
        refine z_if_ne K (tgt := 124) dX2_firstWrong_119 (by decide) ?_ ?_
        · refine z_iincN K (j := 2) (lv' := [(2, .int y11), (0, .ref (a.1.2.2.2 + 51))]) ci_1 rfl dX2_firstWrong_124 (Nat.le_of_ble_eq_true rfl) rfl (fun y14 => ?_)
          refine z_goto K (tgt := 67) dX2_firstWrong_127 (by decide) ?_
          refine z_sub [2, 0] rfl ?_
          exact ih y14 s12
        · refine z_iload_n K 2 rfl dX2_firstWrong_122 ?_
          exact z_iret K dX2_firstWrong_123
def f_X2_firstWrong (F : Nat) (s : zM) : Option (Int32 × zM) :=
  f_X2_firstWrong_L2 F (fun s4 =>
    f_X2_firstWrong_L30 F (fun s10 =>
      f_X2_firstWrong_L67 F (fun s15 =>
        some ((-1 : Int32), s15)) F (0 : Int32) s10) F (0 : Int32) s4) F (0 : Int32) s
set_option maxRecDepth 100000 in
set_option maxHeartbeats 4000000 in
theorem t_X2_firstWrong (w : zWd) (F : Nat) (d : Nat) (hd : 3 ≤ d) (s : zM) : zMt w yX2_firstWrong cX2_firstWrong 3 (some .int) d zφN zφN zri [.ref (w.2.2.2 + 51)] s (f_X2_firstWrong F s) := by
  refine zMtN_of (own := RX2) rfl (by decide +kernel) (Nat.le_of_ble_eq_true rfl) cd_X2_firstWrong [(0, .ref (w.2.2.2 + 51))] rfl ?_
  rintro a rfl K
  unfold f_X2_firstWrong
  refine z_iconst K ci_0 dX2_firstWrong_0 ?_
  refine z_istore_n K (lv' := [(1, .int (0 : Int32)), (0, .ref (a.1.2.2.2 + 51))]) dX2_firstWrong_1 rfl (Nat.le_of_ble_eq_true rfl) rfl ?_
  refine z_sub [1, 0] rfl ?_
  refine t_X2_firstWrong_L2 F K hd (fun s4 => ?_) F (0 : Int32) s
  refine z_iconst K ci_0 dX2_firstWrong_28 ?_
  refine z_istore_n K (lv' := [(1, .int (0 : Int32)), (0, .ref (a.1.2.2.2 + 51))]) dX2_firstWrong_29 rfl (Nat.le_of_ble_eq_true rfl) rfl ?_
  refine z_sub [1, 0] rfl ?_
  refine t_X2_firstWrong_L30 F K hd (fun s10 => ?_) F (0 : Int32) s4
  refine z_iconst K ci_0 dX2_firstWrong_65 ?_
  refine z_istore_n K (lv' := [(1, .int (0 : Int32)), (0, .ref (a.1.2.2.2 + 51))]) dX2_firstWrong_66 rfl (Nat.le_of_ble_eq_true rfl) rfl ?_
  refine z_sub [1, 0] rfl ?_
  refine t_X2_firstWrong_L67 F K hd (fun s15 => ?_) F (0 : Int32) s10
  refine z_iconst K ci_m1 dX2_firstWrong_130 ?_
  exact z_iret K dX2_firstWrong_131
def f_X2_store (s : zM) : Option (Unit × zM) :=
  lt (zcp s 52 53 40) (fun s1 =>
  some ((), s1))
set_option maxRecDepth 100000 in
set_option maxHeartbeats 4000000 in
theorem t_X2_store (w : zWd) (d : Nat) (hd : 1 ≤ d) (s : zM) : zMt w yX2_store cX2_store 1 none d zφN zφN zrv [.ref (w.2.2.2 + 51)] s (f_X2_store s) := by
  refine zMtN_of (own := RX2) rfl (by decide +kernel) (Nat.le_of_ble_eq_true rfl) cd_X2_store [(0, .ref (w.2.2.2 + 51))] rfl ?_
  rintro a rfl K
  unfold f_X2_store
  refine z_aload_n K 0 rfl dX2_store_0 ?_
  refine z_getr K fd_X2_11 ob_51_0 dX2_store_1 ?_
  refine z_iconst K ci_0 dX2_store_4 ?_
  refine z_aload_n K 0 rfl dX2_store_5 ?_
  refine z_getr K fd_X2_17 ob_51_1 dX2_store_6 ?_
  refine z_iconst K ci_0 dX2_store_9 ?_
  refine z_bipush K cb_40 dX2_store_10 ?_
  refine z_copy K js_nat js_sta js_ini ml_X2_67 ar_52 ar_53 rfl rfl (by decide) (N := 40) rfl (by decide) (by decide) rfl (by omega) (Nat.le_of_ble_eq_true rfl) dX2_store_12 ?_
  refine z_ltm (fun s1 => ?_)
  exact z_vret K dX2_store_15
def f_X2_restore (s : zM) : Option (Unit × zM) :=
  lt (zcp s 53 52 40) (fun s1 =>
  some ((), s1))
set_option maxRecDepth 100000 in
set_option maxHeartbeats 4000000 in
theorem t_X2_restore (w : zWd) (d : Nat) (hd : 1 ≤ d) (s : zM) : zMt w yX2_restore cX2_restore 1 none d zφN zφN zrv [.ref (w.2.2.2 + 51)] s (f_X2_restore s) := by
  refine zMtN_of (own := RX2) rfl (by decide +kernel) (Nat.le_of_ble_eq_true rfl) cd_X2_restore [(0, .ref (w.2.2.2 + 51))] rfl ?_
  rintro a rfl K
  unfold f_X2_restore
  refine z_aload_n K 0 rfl dX2_restore_0 ?_
  refine z_getr K fd_X2_17 ob_51_1 dX2_restore_1 ?_
  refine z_iconst K ci_0 dX2_restore_4 ?_
  refine z_aload_n K 0 rfl dX2_restore_5 ?_
  refine z_getr K fd_X2_11 ob_51_0 dX2_restore_6 ?_
  refine z_iconst K ci_0 dX2_restore_9 ?_
  refine z_bipush K cb_40 dX2_restore_10 ?_
  refine z_copy K js_nat js_sta js_ini ml_X2_67 ar_53 ar_52 rfl rfl (by decide) (N := 40) rfl (by decide) (by decide) rfl (by omega) (Nat.le_of_ble_eq_true rfl) dX2_restore_12 ?_
  refine z_ltm (fun s1 => ?_)
  exact z_vret K dX2_restore_15
def f_X7_isHandful (v0 : Int32) (s : zM) : Option (Int32 × zM) :=
  if v0 < (1 : Int32) then
    some ((0 : Int32), s)
  else
    if (99 : Int32) < v0 then
      some ((0 : Int32), s)
    else
      some ((1 : Int32), s)
set_option maxRecDepth 100000 in
set_option maxHeartbeats 4000000 in
theorem t_X7_isHandful (w : zWd) (d : Nat) (hd : 0 ≤ d) (v0 : Int32) (s : zM) : zMt w yX7_isHandful cX7_isHandful 1 (some .boolean) d zφN zφN zri [.int v0] s (f_X7_isHandful v0 s) := by
  refine zMtN_of (own := RX7) rfl (by decide +kernel) (Nat.le_of_ble_eq_true rfl) cd_X7_isHandful [(0, .int v0)] rfl ?_
  rintro a rfl K
  unfold f_X7_isHandful
  refine z_iload_n K 0 rfl dX7_isHandful_0 ?_
  refine z_iconst K ci_1 dX7_isHandful_1 ?_
  refine z_icmp_lt K (tgt := 15) dX7_isHandful_2 (by decide) ?_ ?_
  · refine z_iconst K ci_0 dX7_isHandful_15 ?_
    exact z_zret (Or.inl rfl) K dX7_isHandful_16
  · refine z_iload_n K 0 rfl dX7_isHandful_5 ?_
    refine z_bipush K cb_99 dX7_isHandful_6 ?_
    refine z_icmp_gt K (tgt := 15) dX7_isHandful_8 (by decide) ?_ ?_
    · refine z_iconst K ci_0 dX7_isHandful_15 ?_
      exact z_zret (Or.inl rfl) K dX7_isHandful_16
    · refine z_iconst K ci_1 dX7_isHandful_11 ?_
      refine z_goto K (tgt := 16) dX7_isHandful_12 (by decide) ?_
      exact z_zret (Or.inr rfl) K dX7_isHandful_16
def f_X7_isGuest (v0 : Int32) (s : zM) : Option (Int32 × zM) :=
  if v0 < 0 then
    some ((0 : Int32), s)
  else
    if v0 < (16 : Int32) then
      some ((1 : Int32), s)
    else
      some ((0 : Int32), s)
set_option maxRecDepth 100000 in
set_option maxHeartbeats 4000000 in
theorem t_X7_isGuest (w : zWd) (d : Nat) (hd : 0 ≤ d) (v0 : Int32) (s : zM) : zMt w yX7_isGuest cX7_isGuest 1 (some .boolean) d zφN zφN zri [.int v0] s (f_X7_isGuest v0 s) := by
  refine zMtN_of (own := RX7) rfl (by decide +kernel) (Nat.le_of_ble_eq_true rfl) cd_X7_isGuest [(0, .int v0)] rfl ?_
  rintro a rfl K
  unfold f_X7_isGuest
  refine z_iload_n K 0 rfl dX7_isGuest_0 ?_
  refine z_if_lt K (tgt := 14) dX7_isGuest_1 (by decide) ?_ ?_
  · refine z_iconst K ci_0 dX7_isGuest_14 ?_
    exact z_zret (Or.inl rfl) K dX7_isGuest_15
  · refine z_iload_n K 0 rfl dX7_isGuest_4 ?_
    refine z_bipush K cb_16 dX7_isGuest_5 ?_
    refine z_icmp_ge K (tgt := 14) dX7_isGuest_7 (by decide) ?_ ?_
    · refine z_iconst K ci_0 dX7_isGuest_14 ?_
      exact z_zret (Or.inl rfl) K dX7_isGuest_15
    · refine z_iconst K ci_1 dX7_isGuest_10 ?_
      refine z_goto K (tgt := 15) dX7_isGuest_11 (by decide) ?_
      exact z_zret (Or.inr rfl) K dX7_isGuest_15
def f_X7_had (v1 : Int32) (s : zM) : Option (Int32 × zM) :=
  bnd (f_X7_isGuest v1 s) (fun r2 s1 =>
  if r2 = 0 then
    some ((0 : Int32), s1)
  else
    if zin v1 16 = true then
      some ((zg s1 61 (v1).toNatClampNeg), s1)
    else none)
set_option maxRecDepth 100000 in
set_option maxHeartbeats 4000000 in
theorem t_X7_had (w : zWd) (d : Nat) (hd : 1 ≤ d) (v1 : Int32) (s : zM) : zMt w yX7_had cX7_had 2 (some .int) d zφN zφN zri [.ref (w.2.2.2 + 60), .int v1] s (f_X7_had v1 s) := by
  refine zMtN_of (own := RX7) rfl (by decide +kernel) (Nat.le_of_ble_eq_true rfl) cd_X7_had [(0, .ref (w.2.2.2 + 60)), (1, .int v1)] rfl ?_
  rintro a rfl K
  unfold f_X7_had
  refine z_iload_n K 1 rfl dX7_had_0 ?_
  refine z_cSi (As := [.int v1]) (rest := []) K (t_X7_isGuest a.1 (d - 1) (by omega) v1 s) mf_X7_isGuest ml_X7_38 (Nat.le_of_ble_eq_true rfl) (by omega) rfl rfl (Nat.le_of_ble_eq_true rfl) dX7_had_1 (fun r2 s1 => ?_)
  refine z_if_eq K (tgt := 16) dX7_had_4 (by decide) ?_ ?_
  · refine z_iconst K ci_0 dX7_had_16 ?_
    exact z_iret K dX7_had_17
  · refine z_aload_n K 0 rfl dX7_had_7 ?_
    refine z_getr K fd_X7_11 ob_60_0 dX7_had_8 ?_
    refine z_iload_n K 1 rfl dX7_had_11 ?_
    refine z_iald K ar_61 dX7_had_12 ?_
    refine z_goto K (tgt := 17) dX7_had_13 (by decide) ?_
    exact z_iret K dX7_had_17
def f_X7_hasRoom (v1 : Int32) (v2 : Int32) (s : zM) : Option (Int32 × zM) :=
  bnd (f_X7_had v1 s) (fun r2 s1 =>
  if (9999 : Int32) < (r2 + v2) then
    some ((0 : Int32), s1)
  else
    some ((1 : Int32), s1))
set_option maxRecDepth 100000 in
set_option maxHeartbeats 4000000 in
theorem t_X7_hasRoom (w : zWd) (d : Nat) (hd : 2 ≤ d) (v1 : Int32) (v2 : Int32) (s : zM) : zMt w yX7_hasRoom cX7_hasRoom 3 (some .boolean) d zφN zφN zri [.ref (w.2.2.2 + 60), .int v1, .int v2] s (f_X7_hasRoom v1 v2 s) := by
  refine zMtN_of (own := RX7) rfl (by decide +kernel) (Nat.le_of_ble_eq_true rfl) cd_X7_hasRoom [(0, .ref (w.2.2.2 + 60)), (1, .int v1), (2, .int v2)] rfl ?_
  rintro a rfl K
  unfold f_X7_hasRoom
  refine z_aload_n K 0 rfl dX7_hasRoom_0 ?_
  refine z_iload_n K 1 rfl dX7_hasRoom_1 ?_
  refine z_cVi (As := [.int v1]) (rest := []) K (t_X7_had a.1 (d - 1) (by omega) v1 s) mf_X7_had ml_X7_42 (Nat.le_of_ble_eq_true rfl) (by omega) rfl rc_60 rfl (Nat.le_of_ble_eq_true rfl) dX7_hasRoom_2 (fun r2 s1 => ?_)
  refine z_iload_n K 2 rfl dX7_hasRoom_5 ?_
  refine z_iadd K dX7_hasRoom_6 ?_
  refine z_sipush K cs_9999 dX7_hasRoom_7 ?_
  refine z_icmp_gt K (tgt := 17) dX7_hasRoom_10 (by decide) ?_ ?_
  · refine z_iconst K ci_0 dX7_hasRoom_17 ?_
    exact z_zret (Or.inl rfl) K dX7_hasRoom_18
  · refine z_iconst K ci_1 dX7_hasRoom_13 ?_
    refine z_goto K (tgt := 18) dX7_hasRoom_14 (by decide) ?_
    exact z_zret (Or.inr rfl) K dX7_hasRoom_18
def f_X7_handed (v1 : Int32) (v2 : Int32) (s : zM) : Option (Int32 × zM) :=
  bnd (f_X7_isGuest v1 s) (fun r2 s1 =>
  if r2 = 0 then
    some ((0 : Int32), s1)
  else
    bnd (f_X7_isGuest v2 s1) (fun r4 s3 =>
    if r4 = 0 then
      some ((0 : Int32), s3)
    else
      if zin ((v1 * (16 : Int32)) + v2) 256 = true then
        some ((zg s3 64 (((v1 * (16 : Int32)) + v2)).toNatClampNeg), s3)
      else none))
set_option maxRecDepth 100000 in
set_option maxHeartbeats 4000000 in
theorem t_X7_handed (w : zWd) (d : Nat) (hd : 1 ≤ d) (v1 : Int32) (v2 : Int32) (s : zM) : zMt w yX7_handed cX7_handed 3 (some .int) d zφN zφN zri [.ref (w.2.2.2 + 60), .int v1, .int v2] s (f_X7_handed v1 v2 s) := by
  refine zMtN_of (own := RX7) rfl (by decide +kernel) (Nat.le_of_ble_eq_true rfl) cd_X7_handed [(0, .ref (w.2.2.2 + 60)), (1, .int v1), (2, .int v2)] rfl ?_
  rintro a rfl K
  unfold f_X7_handed
  refine z_iload_n K 1 rfl dX7_handed_0 ?_
  refine z_cSi (As := [.int v1]) (rest := []) K (t_X7_isGuest a.1 (d - 1) (by omega) v1 s) mf_X7_isGuest ml_X7_38 (Nat.le_of_ble_eq_true rfl) (by omega) rfl rfl (Nat.le_of_ble_eq_true rfl) dX7_handed_1 (fun r2 s1 => ?_)
  refine z_if_eq K (tgt := 28) dX7_handed_4 (by decide) ?_ ?_
  · refine z_iconst K ci_0 dX7_handed_28 ?_
    exact z_iret K dX7_handed_29
  · refine z_iload_n K 2 rfl dX7_handed_7 ?_
    refine z_cSi (As := [.int v2]) (rest := []) K (t_X7_isGuest a.1 (d - 1) (by omega) v2 s1) mf_X7_isGuest ml_X7_38 (Nat.le_of_ble_eq_true rfl) (by omega) rfl rfl (Nat.le_of_ble_eq_true rfl) dX7_handed_8 (fun r4 s3 => ?_)
    refine z_if_eq K (tgt := 28) dX7_handed_11 (by decide) ?_ ?_
    · refine z_iconst K ci_0 dX7_handed_28 ?_
      exact z_iret K dX7_handed_29
    · refine z_aload_n K 0 rfl dX7_handed_14 ?_
      refine z_getr K fd_X7_23 ob_60_3 dX7_handed_15 ?_
      refine z_iload_n K 1 rfl dX7_handed_18 ?_
      refine z_bipush K cb_16 dX7_handed_19 ?_
      refine z_imul K dX7_handed_21 ?_
      refine z_iload_n K 2 rfl dX7_handed_22 ?_
      refine z_iadd K dX7_handed_23 ?_
      refine z_iald K ar_64 dX7_handed_24 ?_
      refine z_goto K (tgt := 29) dX7_handed_25 (by decide) ?_
      exact z_iret K dX7_handed_29
def f_X7_serve (v1 : Int32) (v2 : Int32) (s : zM) : Option (Unit × zM) :=
  bnd (f_X7_isGuest v1 s) (fun r2 s1 =>
  if r2 = 0 then
    some ((), s1)
  else
    if zin v1 16 = true then
      if zin v1 16 = true then
        lt (zs s1 61 (v1).toNatClampNeg ((zg s1 61 (v1).toNatClampNeg) + v2)) (fun s3 =>
        if zin v1 16 = true then
          if zin v1 16 = true then
            lt (zs s3 63 (v1).toNatClampNeg ((zg s3 63 (v1).toNatClampNeg) + v2)) (fun s4 =>
            some ((), s4))
          else none
        else none)
      else none
    else none)
set_option maxRecDepth 100000 in
set_option maxHeartbeats 4000000 in
theorem t_X7_serve (w : zWd) (d : Nat) (hd : 1 ≤ d) (v1 : Int32) (v2 : Int32) (s : zM) : zMt w yX7_serve cX7_serve 3 none d zφN zφN zrv [.ref (w.2.2.2 + 60), .int v1, .int v2] s (f_X7_serve v1 v2 s) := by
  refine zMtN_of (own := RX7) rfl (by decide +kernel) (Nat.le_of_ble_eq_true rfl) cd_X7_serve [(0, .ref (w.2.2.2 + 60)), (1, .int v1), (2, .int v2)] rfl ?_
  rintro a rfl K
  unfold f_X7_serve
  refine z_iload_n K 1 rfl dX7_serve_0 ?_
  refine z_cSi (As := [.int v1]) (rest := []) K (t_X7_isGuest a.1 (d - 1) (by omega) v1 s) mf_X7_isGuest ml_X7_38 (Nat.le_of_ble_eq_true rfl) (by omega) rfl rfl (Nat.le_of_ble_eq_true rfl) dX7_serve_1 (fun r2 s1 => ?_)
  refine z_if_eq K (tgt := 27) dX7_serve_4 (by decide) ?_ ?_
  · exact z_vret K dX7_serve_27
  · refine z_aload_n K 0 rfl dX7_serve_7 ?_
    refine z_getr K fd_X7_11 ob_60_0 dX7_serve_8 ?_
    refine z_iload_n K 1 rfl dX7_serve_11 ?_
    refine z_dup2 K rfl rfl dX7_serve_12 ?_
    refine z_iald K ar_61 dX7_serve_13 ?_
    refine z_iload_n K 2 rfl dX7_serve_14 ?_
    refine z_iadd K dX7_serve_15 ?_
    refine z_iast K ar_61 dX7_serve_16 ?_
    refine z_ltm (fun s3 => ?_)
    refine z_aload_n K 0 rfl dX7_serve_17 ?_
    refine z_getr K fd_X7_20 ob_60_2 dX7_serve_18 ?_
    refine z_iload_n K 1 rfl dX7_serve_21 ?_
    refine z_dup2 K rfl rfl dX7_serve_22 ?_
    refine z_iald K ar_63 dX7_serve_23 ?_
    refine z_iload_n K 2 rfl dX7_serve_24 ?_
    refine z_iadd K dX7_serve_25 ?_
    refine z_iast K ar_63 dX7_serve_26 ?_
    refine z_ltm (fun s4 => ?_)
    exact z_vret K dX7_serve_27
def f_X7_eat (v1 : Int32) (v2 : Int32) (s : zM) : Option (Unit × zM) :=
  bnd (f_X7_isGuest v1 s) (fun r2 s1 =>
  if r2 = 0 then
    some ((), s1)
  else
    if zin v1 16 = true then
      if zin v1 16 = true then
        lt (zs s1 61 (v1).toNatClampNeg ((zg s1 61 (v1).toNatClampNeg) - v2)) (fun s3 =>
        if zin v1 16 = true then
          if zin v1 16 = true then
            lt (zs s3 62 (v1).toNatClampNeg ((zg s3 62 (v1).toNatClampNeg) + v2)) (fun s4 =>
            some ((), s4))
          else none
        else none)
      else none
    else none)
set_option maxRecDepth 100000 in
set_option maxHeartbeats 4000000 in
theorem t_X7_eat (w : zWd) (d : Nat) (hd : 1 ≤ d) (v1 : Int32) (v2 : Int32) (s : zM) : zMt w yX7_eat cX7_eat 3 none d zφN zφN zrv [.ref (w.2.2.2 + 60), .int v1, .int v2] s (f_X7_eat v1 v2 s) := by
  refine zMtN_of (own := RX7) rfl (by decide +kernel) (Nat.le_of_ble_eq_true rfl) cd_X7_eat [(0, .ref (w.2.2.2 + 60)), (1, .int v1), (2, .int v2)] rfl ?_
  rintro a rfl K
  unfold f_X7_eat
  refine z_iload_n K 1 rfl dX7_eat_0 ?_
  refine z_cSi (As := [.int v1]) (rest := []) K (t_X7_isGuest a.1 (d - 1) (by omega) v1 s) mf_X7_isGuest ml_X7_38 (Nat.le_of_ble_eq_true rfl) (by omega) rfl rfl (Nat.le_of_ble_eq_true rfl) dX7_eat_1 (fun r2 s1 => ?_)
  refine z_if_eq K (tgt := 27) dX7_eat_4 (by decide) ?_ ?_
  · exact z_vret K dX7_eat_27
  · refine z_aload_n K 0 rfl dX7_eat_7 ?_
    refine z_getr K fd_X7_11 ob_60_0 dX7_eat_8 ?_
    refine z_iload_n K 1 rfl dX7_eat_11 ?_
    refine z_dup2 K rfl rfl dX7_eat_12 ?_
    refine z_iald K ar_61 dX7_eat_13 ?_
    refine z_iload_n K 2 rfl dX7_eat_14 ?_
    refine z_isub K dX7_eat_15 ?_
    refine z_iast K ar_61 dX7_eat_16 ?_
    refine z_ltm (fun s3 => ?_)
    refine z_aload_n K 0 rfl dX7_eat_17 ?_
    refine z_getr K fd_X7_17 ob_60_1 dX7_eat_18 ?_
    refine z_iload_n K 1 rfl dX7_eat_21 ?_
    refine z_dup2 K rfl rfl dX7_eat_22 ?_
    refine z_iald K ar_62 dX7_eat_23 ?_
    refine z_iload_n K 2 rfl dX7_eat_24 ?_
    refine z_iadd K dX7_eat_25 ?_
    refine z_iast K ar_62 dX7_eat_26 ?_
    refine z_ltm (fun s4 => ?_)
    exact z_vret K dX7_eat_27
def f_X7_hand (v1 : Int32) (v2 : Int32) (v3 : Int32) (s : zM) : Option (Unit × zM) :=
  bnd (f_X7_isGuest v1 s) (fun r2 s1 =>
  if r2 = 0 then
    some ((), s1)
  else
    bnd (f_X7_isGuest v2 s1) (fun r4 s3 =>
    if r4 = 0 then
      some ((), s3)
    else
      if zin v1 16 = true then
        if zin v1 16 = true then
          lt (zs s3 61 (v1).toNatClampNeg ((zg s3 61 (v1).toNatClampNeg) - v3)) (fun s5 =>
          if zin v2 16 = true then
            if zin v2 16 = true then
              lt (zs s5 61 (v2).toNatClampNeg ((zg s5 61 (v2).toNatClampNeg) + v3)) (fun s6 =>
              if zin ((v1 * (16 : Int32)) + v2) 256 = true then
                if zin ((v1 * (16 : Int32)) + v2) 256 = true then
                  lt (zs s6 64 (((v1 * (16 : Int32)) + v2)).toNatClampNeg ((zg s6 64 (((v1 * (16 : Int32)) + v2)).toNatClampNeg) + v3)) (fun s7 =>
                  some ((), s7))
                else none
              else none)
            else none
          else none)
        else none
      else none))
set_option maxRecDepth 100000 in
set_option maxHeartbeats 4000000 in
theorem t_X7_hand (w : zWd) (d : Nat) (hd : 1 ≤ d) (v1 : Int32) (v2 : Int32) (v3 : Int32) (s : zM) : zMt w yX7_hand cX7_hand 4 none d zφN zφN zrv [.ref (w.2.2.2 + 60), .int v1, .int v2, .int v3] s (f_X7_hand v1 v2 v3 s) := by
  refine zMtN_of (own := RX7) rfl (by decide +kernel) (Nat.le_of_ble_eq_true rfl) cd_X7_hand [(0, .ref (w.2.2.2 + 60)), (1, .int v1), (2, .int v2), (3, .int v3)] rfl ?_
  rintro a rfl K
  unfold f_X7_hand
  refine z_iload_n K 1 rfl dX7_hand_0 ?_
  refine z_cSi (As := [.int v1]) (rest := []) K (t_X7_isGuest a.1 (d - 1) (by omega) v1 s) mf_X7_isGuest ml_X7_38 (Nat.le_of_ble_eq_true rfl) (by omega) rfl rfl (Nat.le_of_ble_eq_true rfl) dX7_hand_1 (fun r2 s1 => ?_)
  refine z_if_eq K (tgt := 49) dX7_hand_4 (by decide) ?_ ?_
  · exact z_vret K dX7_hand_49
  · refine z_iload_n K 2 rfl dX7_hand_7 ?_
    refine z_cSi (As := [.int v2]) (rest := []) K (t_X7_isGuest a.1 (d - 1) (by omega) v2 s1) mf_X7_isGuest ml_X7_38 (Nat.le_of_ble_eq_true rfl) (by omega) rfl rfl (Nat.le_of_ble_eq_true rfl) dX7_hand_8 (fun r4 s3 => ?_)
    refine z_if_eq K (tgt := 49) dX7_hand_11 (by decide) ?_ ?_
    · exact z_vret K dX7_hand_49
    · refine z_aload_n K 0 rfl dX7_hand_14 ?_
      refine z_getr K fd_X7_11 ob_60_0 dX7_hand_15 ?_
      refine z_iload_n K 1 rfl dX7_hand_18 ?_
      refine z_dup2 K rfl rfl dX7_hand_19 ?_
      refine z_iald K ar_61 dX7_hand_20 ?_
      refine z_iload_n K 3 rfl dX7_hand_21 ?_
      refine z_isub K dX7_hand_22 ?_
      refine z_iast K ar_61 dX7_hand_23 ?_
      refine z_ltm (fun s5 => ?_)
      refine z_aload_n K 0 rfl dX7_hand_24 ?_
      refine z_getr K fd_X7_11 ob_60_0 dX7_hand_25 ?_
      refine z_iload_n K 2 rfl dX7_hand_28 ?_
      refine z_dup2 K rfl rfl dX7_hand_29 ?_
      refine z_iald K ar_61 dX7_hand_30 ?_
      refine z_iload_n K 3 rfl dX7_hand_31 ?_
      refine z_iadd K dX7_hand_32 ?_
      refine z_iast K ar_61 dX7_hand_33 ?_
      refine z_ltm (fun s6 => ?_)
      refine z_aload_n K 0 rfl dX7_hand_34 ?_
      refine z_getr K fd_X7_23 ob_60_3 dX7_hand_35 ?_
      refine z_iload_n K 1 rfl dX7_hand_38 ?_
      refine z_bipush K cb_16 dX7_hand_39 ?_
      refine z_imul K dX7_hand_41 ?_
      refine z_iload_n K 2 rfl dX7_hand_42 ?_
      refine z_iadd K dX7_hand_43 ?_
      refine z_dup2 K rfl rfl dX7_hand_44 ?_
      refine z_iald K ar_64 dX7_hand_45 ?_
      refine z_iload_n K 3 rfl dX7_hand_46 ?_
      refine z_iadd K dX7_hand_47 ?_
      refine z_iast K ar_64 dX7_hand_48 ?_
      refine z_ltm (fun s7 => ?_)
      exact z_vret K dX7_hand_49
def f_X7_told_L60 (F : Nat) (k98 : Int32 → zM → Option (Int32 × zM)) (v1 : Int32) (v2 : Int32) : Nat → Int32 → Int32 → zM → Option (Int32 × zM)
  | 0, _, _, _ => none
  | n + 1, v3, v4, s =>
    if v4 < (16 : Int32) then
      if v2 = (3 : Int32) then
        bnd (f_X7_handed v4 v1 s) (fun r8 s7 =>
        lt ((v3 + r8)) (fun y9 =>
        lt (v4 + (1 : Int32)) (fun y10 =>
        f_X7_told_L60 F k98 v1 v2 n y9 y10 s7)))
      else
        bnd (f_X7_handed v1 v4 s) (fun r4 s3 =>
        lt ((v3 + r4)) (fun y5 =>
        lt (v4 + (1 : Int32)) (fun y6 =>
        f_X7_told_L60 F k98 v1 v2 n y5 y6 s3)))
    else
      k98 v3 s
set_option maxRecDepth 100000 in
set_option maxHeartbeats 4000000 in
theorem t_X7_told_L60 {a : zA} {d : Nat} (F : Nat) (K : zOK a cX7_told 5 RX7 (some .int) d) (hd : 2 ≤ d) {k98 : Int32 → zM → Option (Int32 × zM)} (v1 : Int32) (v2 : Int32) (h98 : ∀ (v3 : Int32) (s : zM), zJ a 5 (zG a zφN zri) zφN 98 [(3, .int v3)] [] s (k98 v3 s)) : ∀ (n : Nat) (v3 : Int32) (v4 : Int32) (s : zM), zJ a 5 (zG a zφN zri) zφN 60 [(0, .ref (a.1.2.2.2 + 60)), (1, .int v1), (2, .int v2), (3, .int v3), (4, .int v4)] [] s (f_X7_told_L60 F k98 v1 v2 n v3 v4 s) := by
  intro n
  induction n with
  | zero => intros; exact z_none
  | succ n ih =>
    intro v3 v4 s
    rw [f_X7_told_L60]
    refine z_iload K 4 rfl dX7_told_60 ?_
    refine z_bipush K cb_16 dX7_told_62 ?_
    refine z_icmp_ge K (tgt := 98) dX7_told_64 (by decide) ?_ ?_
    · refine z_sub [3] rfl ?_
      exact h98 v3 s
    · refine z_iload_n K 3 rfl dX7_told_67 ?_
      refine z_iload_n K 2 rfl dX7_told_68 ?_
      refine z_iconst K ci_3 dX7_told_69 ?_
      refine z_icmp_ne K (tgt := 83) dX7_told_70 (by decide) ?_ ?_
      · refine z_aload_n K 0 rfl dX7_told_83 ?_
        refine z_iload_n K 1 rfl dX7_told_84 ?_
        refine z_iload K 4 rfl dX7_told_85 ?_
        refine z_cVi (As := [.int v1, .int v4]) (rest := [.int v3]) K (t_X7_handed a.1 (d - 1) (by omega) v1 v4 s) mf_X7_handed ml_X7_46 (Nat.le_of_ble_eq_true rfl) (by omega) rfl rc_60 rfl (Nat.le_of_ble_eq_true rfl) dX7_told_87 (fun r4 s3 => ?_)
        refine z_iadd K dX7_told_90 ?_
        refine z_topi (fun y5 => ?_)
        refine z_istore_n K (lv' := [(3, .int y5), (0, .ref (a.1.2.2.2 + 60)), (1, .int v1), (2, .int v2), (4, .int v4)]) dX7_told_91 rfl (Nat.le_of_ble_eq_true rfl) rfl ?_
        refine z_iincN K (j := 4) (lv' := [(3, .int y5), (0, .ref (a.1.2.2.2 + 60)), (1, .int v1), (2, .int v2)]) ci_1 rfl dX7_told_92 (Nat.le_of_ble_eq_true rfl) rfl (fun y6 => ?_)
        refine z_goto K (tgt := 60) dX7_told_95 (by decide) ?_
        refine z_sub [2, 3, 4, 1, 0] rfl ?_
        exact ih y5 y6 s3
      · refine z_aload_n K 0 rfl dX7_told_73 ?_
        refine z_iload K 4 rfl dX7_told_74 ?_
        refine z_iload_n K 1 rfl dX7_told_76 ?_
        refine z_cVi (As := [.int v4, .int v1]) (rest := [.int v3]) K (t_X7_handed a.1 (d - 1) (by omega) v4 v1 s) mf_X7_handed ml_X7_46 (Nat.le_of_ble_eq_true rfl) (by omega) rfl rc_60 rfl (Nat.le_of_ble_eq_true rfl) dX7_told_77 (fun r8 s7 => ?_)
        refine z_goto K (tgt := 90) dX7_told_80 (by decide) ?_
        refine z_iadd K dX7_told_90 ?_
        refine z_topi (fun y9 => ?_)
        refine z_istore_n K (lv' := [(3, .int y9), (0, .ref (a.1.2.2.2 + 60)), (1, .int v1), (2, .int v2), (4, .int v4)]) dX7_told_91 rfl (Nat.le_of_ble_eq_true rfl) rfl ?_
        refine z_iincN K (j := 4) (lv' := [(3, .int y9), (0, .ref (a.1.2.2.2 + 60)), (1, .int v1), (2, .int v2)]) ci_1 rfl dX7_told_92 (Nat.le_of_ble_eq_true rfl) rfl (fun y10 => ?_)
        refine z_goto K (tgt := 60) dX7_told_95 (by decide) ?_
        refine z_sub [2, 3, 4, 1, 0] rfl ?_
        exact ih y9 y10 s7
def f_X7_told (F : Nat) (v1 : Int32) (v2 : Int32) (s : zM) : Option (Int32 × zM) :=
  bnd (f_X7_isGuest v1 s) (fun r2 s1 =>
  if r2 = 0 then
    some ((-1 : Int32), s1)
  else
    if v2 < 0 then
      some ((-1 : Int32), s1)
    else
      if (4 : Int32) < v2 then
        some ((-1 : Int32), s1)
      else
        if v2 = 0 then
          if zin v1 16 = true then
            some ((zg s1 61 (v1).toNatClampNeg), s1)
          else none
        else
          if (2 : Int32) < v2 then
            f_X7_told_L60 F (fun y12 s11 =>
              some (y12, s11)) v1 v2 F (0 : Int32) (0 : Int32) s1
          else
            if v2 = (1 : Int32) then
              if zin v1 16 = true then
                some ((zg s1 62 (v1).toNatClampNeg), s1)
              else none
            else
              if zin v1 16 = true then
                some ((zg s1 63 (v1).toNatClampNeg), s1)
              else none)
set_option maxRecDepth 100000 in
set_option maxHeartbeats 4000000 in
theorem t_X7_told (w : zWd) (F : Nat) (d : Nat) (hd : 2 ≤ d) (v1 : Int32) (v2 : Int32) (s : zM) : zMt w yX7_told cX7_told 5 (some .int) d zφN zφN zri [.ref (w.2.2.2 + 60), .int v1, .int v2] s (f_X7_told F v1 v2 s) := by
  refine zMtN_of (own := RX7) rfl (by decide +kernel) (Nat.le_of_ble_eq_true rfl) cd_X7_told [(0, .ref (w.2.2.2 + 60)), (1, .int v1), (2, .int v2)] rfl ?_
  rintro a rfl K
  unfold f_X7_told
  refine z_iload_n K 1 rfl dX7_told_0 ?_
  refine z_cSi (As := [.int v1]) (rest := []) K (t_X7_isGuest a.1 (d - 1) (by omega) v1 s) mf_X7_isGuest ml_X7_38 (Nat.le_of_ble_eq_true rfl) (by omega) rfl rfl (Nat.le_of_ble_eq_true rfl) dX7_told_1 (fun r2 s1 => ?_)
  refine z_if_eq K (tgt := 16) dX7_told_4 (by decide) ?_ ?_
  · refine z_iconst K ci_m1 dX7_told_16 ?_
    exact z_iret K dX7_told_17
  · refine z_iload_n K 2 rfl dX7_told_7 ?_
    refine z_if_lt K (tgt := 16) dX7_told_8 (by decide) ?_ ?_
    · refine z_iconst K ci_m1 dX7_told_16 ?_
      exact z_iret K dX7_told_17
    · refine z_iload_n K 2 rfl dX7_told_11 ?_
      refine z_iconst K ci_4 dX7_told_12 ?_
      refine z_icmp_le K (tgt := 18) dX7_told_13 (by decide) ?_ ?_
      · refine z_iload_n K 2 rfl dX7_told_18 ?_
        refine z_if_ne K (tgt := 29) dX7_told_19 (by decide) ?_ ?_
        · refine z_iload_n K 2 rfl dX7_told_29 ?_
          refine z_iconst K ci_2 dX7_told_30 ?_
          refine z_icmp_gt K (tgt := 55) dX7_told_31 (by decide) ?_ ?_
          · refine z_iconst K ci_0 dX7_told_55 ?_
            refine z_istore_n K (lv' := [(3, .int (0 : Int32)), (0, .ref (a.1.2.2.2 + 60)), (1, .int v1), (2, .int v2)]) dX7_told_56 rfl (Nat.le_of_ble_eq_true rfl) rfl ?_
            refine z_iconst K ci_0 dX7_told_57 ?_
            refine z_istore K (lv' := [(4, .int (0 : Int32)), (3, .int (0 : Int32)), (0, .ref (a.1.2.2.2 + 60)), (1, .int v1), (2, .int v2)]) dX7_told_58 (Nat.le_of_ble_eq_true rfl) rfl ?_
            refine z_sub [2, 3, 4, 1, 0] rfl ?_
            refine t_X7_told_L60 F K hd v1 v2 (fun y12 s11 => ?_) F (0 : Int32) (0 : Int32) s1
            refine z_iload_n K 0 rfl dX7_told_98 ?_
            exact z_iret K dX7_told_99
          · refine z_iload_n K 2 rfl dX7_told_34 ?_
            refine z_iconst K ci_1 dX7_told_35 ?_
            refine z_icmp_ne K (tgt := 48) dX7_told_36 (by decide) ?_ ?_
            · refine z_aload_n K 0 rfl dX7_told_48 ?_
              refine z_getr K fd_X7_20 ob_60_2 dX7_told_49 ?_
              refine z_iload_n K 1 rfl dX7_told_52 ?_
              refine z_iald K ar_63 dX7_told_53 ?_
              exact z_iret K dX7_told_54
            · refine z_aload_n K 0 rfl dX7_told_39 ?_
              refine z_getr K fd_X7_17 ob_60_1 dX7_told_40 ?_
              refine z_iload_n K 1 rfl dX7_told_43 ?_
              refine z_iald K ar_62 dX7_told_44 ?_
              refine z_goto K (tgt := 54) dX7_told_45 (by decide) ?_
              exact z_iret K dX7_told_54
        · refine z_aload_n K 0 rfl dX7_told_22 ?_
          refine z_getr K fd_X7_11 ob_60_0 dX7_told_23 ?_
          refine z_iload_n K 1 rfl dX7_told_26 ?_
          refine z_iald K ar_61 dX7_told_27 ?_
          exact z_iret K dX7_told_28
      · refine z_iconst K ci_m1 dX7_told_16 ?_
        exact z_iret K dX7_told_17
def f_X7_store (s : zM) : Option (Unit × zM) :=
  lt (zcp s 61 65 16) (fun s1 =>
  lt (zcp s1 62 66 16) (fun s2 =>
  lt (zcp s2 63 67 16) (fun s3 =>
  lt (zcp s3 64 68 256) (fun s4 =>
  some ((), s4)))))
set_option maxRecDepth 100000 in
set_option maxHeartbeats 4000000 in
theorem t_X7_store (w : zWd) (d : Nat) (hd : 1 ≤ d) (s : zM) : zMt w yX7_store cX7_store 1 none d zφN zφN zrv [.ref (w.2.2.2 + 60)] s (f_X7_store s) := by
  refine zMtN_of (own := RX7) rfl (by decide +kernel) (Nat.le_of_ble_eq_true rfl) cd_X7_store [(0, .ref (w.2.2.2 + 60))] rfl ?_
  rintro a rfl K
  unfold f_X7_store
  refine z_aload_n K 0 rfl dX7_store_0 ?_
  refine z_getr K fd_X7_11 ob_60_0 dX7_store_1 ?_
  refine z_iconst K ci_0 dX7_store_4 ?_
  refine z_aload_n K 0 rfl dX7_store_5 ?_
  refine z_getr K fd_X7_26 ob_60_4 dX7_store_6 ?_
  refine z_iconst K ci_0 dX7_store_9 ?_
  refine z_bipush K cb_16 dX7_store_10 ?_
  refine z_copy K js_nat js_sta js_ini ml_X7_49 ar_61 ar_65 rfl rfl (by decide) (N := 16) rfl (by decide) (by decide) rfl (by omega) (Nat.le_of_ble_eq_true rfl) dX7_store_12 ?_
  refine z_ltm (fun s1 => ?_)
  refine z_aload_n K 0 rfl dX7_store_15 ?_
  refine z_getr K fd_X7_17 ob_60_1 dX7_store_16 ?_
  refine z_iconst K ci_0 dX7_store_19 ?_
  refine z_aload_n K 0 rfl dX7_store_20 ?_
  refine z_getr K fd_X7_29 ob_60_5 dX7_store_21 ?_
  refine z_iconst K ci_0 dX7_store_24 ?_
  refine z_bipush K cb_16 dX7_store_25 ?_
  refine z_copy K js_nat js_sta js_ini ml_X7_49 ar_62 ar_66 rfl rfl (by decide) (N := 16) rfl (by decide) (by decide) rfl (by omega) (Nat.le_of_ble_eq_true rfl) dX7_store_27 ?_
  refine z_ltm (fun s2 => ?_)
  refine z_aload_n K 0 rfl dX7_store_30 ?_
  refine z_getr K fd_X7_20 ob_60_2 dX7_store_31 ?_
  refine z_iconst K ci_0 dX7_store_34 ?_
  refine z_aload_n K 0 rfl dX7_store_35 ?_
  refine z_getr K fd_X7_32 ob_60_6 dX7_store_36 ?_
  refine z_iconst K ci_0 dX7_store_39 ?_
  refine z_bipush K cb_16 dX7_store_40 ?_
  refine z_copy K js_nat js_sta js_ini ml_X7_49 ar_63 ar_67 rfl rfl (by decide) (N := 16) rfl (by decide) (by decide) rfl (by omega) (Nat.le_of_ble_eq_true rfl) dX7_store_42 ?_
  refine z_ltm (fun s3 => ?_)
  refine z_aload_n K 0 rfl dX7_store_45 ?_
  refine z_getr K fd_X7_23 ob_60_3 dX7_store_46 ?_
  refine z_iconst K ci_0 dX7_store_49 ?_
  refine z_aload_n K 0 rfl dX7_store_50 ?_
  refine z_getr K fd_X7_35 ob_60_7 dX7_store_51 ?_
  refine z_iconst K ci_0 dX7_store_54 ?_
  refine z_sipush K cs_256 dX7_store_55 ?_
  refine z_copy K js_nat js_sta js_ini ml_X7_49 ar_64 ar_68 rfl rfl (by decide) (N := 256) rfl (by decide) (by decide) rfl (by omega) (Nat.le_of_ble_eq_true rfl) dX7_store_58 ?_
  refine z_ltm (fun s4 => ?_)
  exact z_vret K dX7_store_61
def f_X7_restore (s : zM) : Option (Unit × zM) :=
  lt (zcp s 65 61 16) (fun s1 =>
  lt (zcp s1 66 62 16) (fun s2 =>
  lt (zcp s2 67 63 16) (fun s3 =>
  lt (zcp s3 68 64 256) (fun s4 =>
  some ((), s4)))))
set_option maxRecDepth 100000 in
set_option maxHeartbeats 4000000 in
theorem t_X7_restore (w : zWd) (d : Nat) (hd : 1 ≤ d) (s : zM) : zMt w yX7_restore cX7_restore 1 none d zφN zφN zrv [.ref (w.2.2.2 + 60)] s (f_X7_restore s) := by
  refine zMtN_of (own := RX7) rfl (by decide +kernel) (Nat.le_of_ble_eq_true rfl) cd_X7_restore [(0, .ref (w.2.2.2 + 60))] rfl ?_
  rintro a rfl K
  unfold f_X7_restore
  refine z_aload_n K 0 rfl dX7_restore_0 ?_
  refine z_getr K fd_X7_26 ob_60_4 dX7_restore_1 ?_
  refine z_iconst K ci_0 dX7_restore_4 ?_
  refine z_aload_n K 0 rfl dX7_restore_5 ?_
  refine z_getr K fd_X7_11 ob_60_0 dX7_restore_6 ?_
  refine z_iconst K ci_0 dX7_restore_9 ?_
  refine z_bipush K cb_16 dX7_restore_10 ?_
  refine z_copy K js_nat js_sta js_ini ml_X7_49 ar_65 ar_61 rfl rfl (by decide) (N := 16) rfl (by decide) (by decide) rfl (by omega) (Nat.le_of_ble_eq_true rfl) dX7_restore_12 ?_
  refine z_ltm (fun s1 => ?_)
  refine z_aload_n K 0 rfl dX7_restore_15 ?_
  refine z_getr K fd_X7_29 ob_60_5 dX7_restore_16 ?_
  refine z_iconst K ci_0 dX7_restore_19 ?_
  refine z_aload_n K 0 rfl dX7_restore_20 ?_
  refine z_getr K fd_X7_17 ob_60_1 dX7_restore_21 ?_
  refine z_iconst K ci_0 dX7_restore_24 ?_
  refine z_bipush K cb_16 dX7_restore_25 ?_
  refine z_copy K js_nat js_sta js_ini ml_X7_49 ar_66 ar_62 rfl rfl (by decide) (N := 16) rfl (by decide) (by decide) rfl (by omega) (Nat.le_of_ble_eq_true rfl) dX7_restore_27 ?_
  refine z_ltm (fun s2 => ?_)
  refine z_aload_n K 0 rfl dX7_restore_30 ?_
  refine z_getr K fd_X7_32 ob_60_6 dX7_restore_31 ?_
  refine z_iconst K ci_0 dX7_restore_34 ?_
  refine z_aload_n K 0 rfl dX7_restore_35 ?_
  refine z_getr K fd_X7_20 ob_60_2 dX7_restore_36 ?_
  refine z_iconst K ci_0 dX7_restore_39 ?_
  refine z_bipush K cb_16 dX7_restore_40 ?_
  refine z_copy K js_nat js_sta js_ini ml_X7_49 ar_67 ar_63 rfl rfl (by decide) (N := 16) rfl (by decide) (by decide) rfl (by omega) (Nat.le_of_ble_eq_true rfl) dX7_restore_42 ?_
  refine z_ltm (fun s3 => ?_)
  refine z_aload_n K 0 rfl dX7_restore_45 ?_
  refine z_getr K fd_X7_35 ob_60_7 dX7_restore_46 ?_
  refine z_iconst K ci_0 dX7_restore_49 ?_
  refine z_aload_n K 0 rfl dX7_restore_50 ?_
  refine z_getr K fd_X7_23 ob_60_3 dX7_restore_51 ?_
  refine z_iconst K ci_0 dX7_restore_54 ?_
  refine z_sipush K cs_256 dX7_restore_55 ?_
  refine z_copy K js_nat js_sta js_ini ml_X7_49 ar_68 ar_64 rfl rfl (by decide) (N := 256) rfl (by decide) (by decide) rfl (by omega) (Nat.le_of_ble_eq_true rfl) dX7_restore_58 ?_
  refine z_ltm (fun s4 => ?_)
  exact z_vret K dX7_restore_61
def f_X8_isPlace (v0 : Int32) (s : zM) : Option (Int32 × zM) :=
  if v0 < 0 then
    some ((0 : Int32), s)
  else
    if v0 < (20 : Int32) then
      some ((1 : Int32), s)
    else
      some ((0 : Int32), s)
set_option maxRecDepth 100000 in
set_option maxHeartbeats 4000000 in
theorem t_X8_isPlace (w : zWd) (d : Nat) (hd : 0 ≤ d) (v0 : Int32) (s : zM) : zMt w yX8_isPlace cX8_isPlace 1 (some .boolean) d zφN zφN zri [.int v0] s (f_X8_isPlace v0 s) := by
  refine zMtN_of (own := RX8) rfl (by decide +kernel) (Nat.le_of_ble_eq_true rfl) cd_X8_isPlace [(0, .int v0)] rfl ?_
  rintro a rfl K
  unfold f_X8_isPlace
  refine z_iload_n K 0 rfl dX8_isPlace_0 ?_
  refine z_if_lt K (tgt := 14) dX8_isPlace_1 (by decide) ?_ ?_
  · refine z_iconst K ci_0 dX8_isPlace_14 ?_
    exact z_zret (Or.inl rfl) K dX8_isPlace_15
  · refine z_iload_n K 0 rfl dX8_isPlace_4 ?_
    refine z_bipush K cb_20 dX8_isPlace_5 ?_
    refine z_icmp_ge K (tgt := 14) dX8_isPlace_7 (by decide) ?_ ?_
    · refine z_iconst K ci_0 dX8_isPlace_14 ?_
      exact z_zret (Or.inl rfl) K dX8_isPlace_15
    · refine z_iconst K ci_1 dX8_isPlace_10 ?_
      refine z_goto K (tgt := 15) dX8_isPlace_11 (by decide) ?_
      exact z_zret (Or.inr rfl) K dX8_isPlace_15
def f_X8_isRow (v0 : Int32) (v1 : Int32) (s : zM) : Option (Int32 × zM) :=
  bnd (f_X8_isPlace v0 s) (fun r2 s1 =>
  if r2 = 0 then
    some ((0 : Int32), s1)
  else
    bnd (f_X8_isPlace v1 s1) (fun r4 s3 =>
    if r4 = 0 then
      some ((0 : Int32), s3)
    else
      if v1 < v0 then
        some ((0 : Int32), s3)
      else
        some ((1 : Int32), s3)))
set_option maxRecDepth 100000 in
set_option maxHeartbeats 4000000 in
theorem t_X8_isRow (w : zWd) (d : Nat) (hd : 1 ≤ d) (v0 : Int32) (v1 : Int32) (s : zM) : zMt w yX8_isRow cX8_isRow 2 (some .boolean) d zφN zφN zri [.int v0, .int v1] s (f_X8_isRow v0 v1 s) := by
  refine zMtN_of (own := RX8) rfl (by decide +kernel) (Nat.le_of_ble_eq_true rfl) cd_X8_isRow [(0, .int v0), (1, .int v1)] rfl ?_
  rintro a rfl K
  unfold f_X8_isRow
  refine z_iload_n K 0 rfl dX8_isRow_0 ?_
  refine z_cSi (As := [.int v0]) (rest := []) K (t_X8_isPlace a.1 (d - 1) (by omega) v0 s) mf_X8_isPlace ml_X8_11 (Nat.le_of_ble_eq_true rfl) (by omega) rfl rfl (Nat.le_of_ble_eq_true rfl) dX8_isRow_1 (fun r2 s1 => ?_)
  refine z_if_eq K (tgt := 23) dX8_isRow_4 (by decide) ?_ ?_
  · refine z_iconst K ci_0 dX8_isRow_23 ?_
    exact z_zret (Or.inl rfl) K dX8_isRow_24
  · refine z_iload_n K 1 rfl dX8_isRow_7 ?_
    refine z_cSi (As := [.int v1]) (rest := []) K (t_X8_isPlace a.1 (d - 1) (by omega) v1 s1) mf_X8_isPlace ml_X8_11 (Nat.le_of_ble_eq_true rfl) (by omega) rfl rfl (Nat.le_of_ble_eq_true rfl) dX8_isRow_8 (fun r4 s3 => ?_)
    refine z_if_eq K (tgt := 23) dX8_isRow_11 (by decide) ?_ ?_
    · refine z_iconst K ci_0 dX8_isRow_23 ?_
      exact z_zret (Or.inl rfl) K dX8_isRow_24
    · refine z_iload_n K 0 rfl dX8_isRow_14 ?_
      refine z_iload_n K 1 rfl dX8_isRow_15 ?_
      refine z_icmp_gt K (tgt := 23) dX8_isRow_16 (by decide) ?_ ?_
      · refine z_iconst K ci_0 dX8_isRow_23 ?_
        exact z_zret (Or.inl rfl) K dX8_isRow_24
      · refine z_iconst K ci_1 dX8_isRow_19 ?_
        refine z_goto K (tgt := 24) dX8_isRow_20 (by decide) ?_
        exact z_zret (Or.inr rfl) K dX8_isRow_24
def f_X8_apart (v0 : Int32) (v1 : Int32) (s : zM) : Option (Int32 × zM) :=
  some ((if 0 ≤ ((v0 >>> ((1 : Int32) &&& 31)) - (v1 >>> ((1 : Int32) &&& 31))) then ((v0 >>> ((1 : Int32) &&& 31)) - (v1 >>> ((1 : Int32) &&& 31))) else 0 - ((v0 >>> ((1 : Int32) &&& 31)) - (v1 >>> ((1 : Int32) &&& 31)))), s)
set_option maxRecDepth 100000 in
set_option maxHeartbeats 4000000 in
theorem t_X8_apart (w : zWd) (d : Nat) (hd : 1 ≤ d) (v0 : Int32) (v1 : Int32) (s : zM) : zMt w yX8_apart cX8_apart 2 (some .int) d zφN zφN zri [.int v0, .int v1] s (f_X8_apart v0 v1 s) := by
  refine zMtN_of (own := RX8) rfl (by decide +kernel) (Nat.le_of_ble_eq_true rfl) cd_X8_apart [(0, .int v0), (1, .int v1)] rfl ?_
  rintro a rfl K
  unfold f_X8_apart
  refine z_iload_n K 0 rfl dX8_apart_0 ?_
  refine z_iconst K ci_1 dX8_apart_1 ?_
  refine z_ishr K dX8_apart_2 ?_
  refine z_iload_n K 1 rfl dX8_apart_3 ?_
  refine z_iconst K ci_1 dX8_apart_4 ?_
  refine z_ishr K dX8_apart_5 ?_
  refine z_isub K dX8_apart_6 ?_
  refine z_abs K jm_abs_s jm_ini jm_abs_c ml_X8_15 rfl (by omega) (Nat.le_of_ble_eq_true rfl) dX8_apart_7 ?_
  exact z_iret K dX8_apart_10
def f_X8_areNext (v0 : Int32) (v1 : Int32) (s : zM) : Option (Int32 × zM) :=
  bnd (f_X8_apart v0 v1 s) (fun r2 s1 =>
  if (r2 + ((v0 ^^^ v1) &&& (1 : Int32))) = (1 : Int32) then
    some ((1 : Int32), s1)
  else
    some ((0 : Int32), s1))
set_option maxRecDepth 100000 in
set_option maxHeartbeats 4000000 in
theorem t_X8_areNext (w : zWd) (d : Nat) (hd : 2 ≤ d) (v0 : Int32) (v1 : Int32) (s : zM) : zMt w yX8_areNext cX8_areNext 2 (some .boolean) d zφN zφN zri [.int v0, .int v1] s (f_X8_areNext v0 v1 s) := by
  refine zMtN_of (own := RX8) rfl (by decide +kernel) (Nat.le_of_ble_eq_true rfl) cd_X8_areNext [(0, .int v0), (1, .int v1)] rfl ?_
  rintro a rfl K
  unfold f_X8_areNext
  refine z_iload_n K 0 rfl dX8_areNext_0 ?_
  refine z_iload_n K 1 rfl dX8_areNext_1 ?_
  refine z_cSi (As := [.int v0, .int v1]) (rest := []) K (t_X8_apart a.1 (d - 1) (by omega) v0 v1 s) mf_X8_apart ml_X8_21 (Nat.le_of_ble_eq_true rfl) (by omega) rfl rfl (Nat.le_of_ble_eq_true rfl) dX8_areNext_2 (fun r2 s1 => ?_)
  refine z_iload_n K 0 rfl dX8_areNext_5 ?_
  refine z_iload_n K 1 rfl dX8_areNext_6 ?_
  refine z_ixor K dX8_areNext_7 ?_
  refine z_iconst K ci_1 dX8_areNext_8 ?_
  refine z_iand K dX8_areNext_9 ?_
  refine z_iadd K dX8_areNext_10 ?_
  refine z_iconst K ci_1 dX8_areNext_11 ?_
  refine z_icmp_ne K (tgt := 19) dX8_areNext_12 (by decide) ?_ ?_
  · refine z_iconst K ci_0 dX8_areNext_19 ?_
    exact z_zret (Or.inl rfl) K dX8_areNext_20
  · refine z_iconst K ci_1 dX8_areNext_15 ?_
    refine z_goto K (tgt := 20) dX8_areNext_16 (by decide) ?_
    exact z_zret (Or.inr rfl) K dX8_areNext_20
def f_X8_beside (v0 : Int32) (v1 : Int32) (s : zM) : Option (Int32 × zM) :=
  bnd (f_X8_isSeat v0 s) (fun r2 s1 =>
  if r2 = 0 then
    some ((-1 : Int32), s1)
  else
    if v1 = 0 then
      lt ((v0 - (2 : Int32))) (fun y9 =>
      bnd (f_X8_isSeat y9 s1) (fun r11 s10 =>
      if r11 = 0 then
        some ((-1 : Int32), s10)
      else
        some (y9, s10)))
    else
      if v1 = (1 : Int32) then
        lt ((v0 + (2 : Int32))) (fun y6 =>
        bnd (f_X8_isSeat y6 s1) (fun r8 s7 =>
        if r8 = 0 then
          some ((-1 : Int32), s7)
        else
          some (y6, s7)))
      else
        lt ((v0 ^^^ (1 : Int32))) (fun y3 =>
        bnd (f_X8_isSeat y3 s1) (fun r5 s4 =>
        if r5 = 0 then
          some ((-1 : Int32), s4)
        else
          some (y3, s4))))
set_option maxRecDepth 100000 in
set_option maxHeartbeats 4000000 in
theorem t_X8_beside (w : zWd) (d : Nat) (hd : 1 ≤ d) (v0 : Int32) (v1 : Int32) (s : zM) : zMt w yX8_beside cX8_beside 3 (some .int) d zφN zφN zri [.int v0, .int v1] s (f_X8_beside v0 v1 s) := by
  refine zMtN_of (own := RX8) rfl (by decide +kernel) (Nat.le_of_ble_eq_true rfl) cd_X8_beside [(0, .int v0), (1, .int v1)] rfl ?_
  rintro a rfl K
  unfold f_X8_beside
  refine z_iload_n K 0 rfl dX8_beside_0 ?_
  refine z_cSi (As := [.int v0]) (rest := []) K (t_X8_isSeat a.1 (d - 1) (by omega) v0 s) mf_X8_isSeat ml_X8_25 (Nat.le_of_ble_eq_true rfl) (by omega) rfl rfl (Nat.le_of_ble_eq_true rfl) dX8_beside_1 (fun r2 s1 => ?_)
  refine z_if_ne K (tgt := 9) dX8_beside_4 (by decide) ?_ ?_
  · refine z_iload_n K 1 rfl dX8_beside_9 ?_
    refine z_if_ne K (tgt := 19) dX8_beside_10 (by decide) ?_ ?_
    · refine z_iload_n K 1 rfl dX8_beside_19 ?_
      refine z_iconst K ci_1 dX8_beside_20 ?_
      refine z_icmp_ne K (tgt := 30) dX8_beside_21 (by decide) ?_ ?_
      · refine z_iload_n K 0 rfl dX8_beside_30 ?_
        refine z_iconst K ci_1 dX8_beside_31 ?_
        refine z_ixor K dX8_beside_32 ?_
        refine z_topi (fun y3 => ?_)
        refine z_istore_n K (lv' := [(2, .int y3), (0, .int v0), (1, .int v1)]) dX8_beside_33 rfl (Nat.le_of_ble_eq_true rfl) rfl ?_
        refine z_iload_n K 0 rfl dX8_beside_34 ?_
        refine z_cSi (As := [.int y3]) (rest := []) K (t_X8_isSeat a.1 (d - 1) (by omega) y3 s1) mf_X8_isSeat ml_X8_25 (Nat.le_of_ble_eq_true rfl) (by omega) rfl rfl (Nat.le_of_ble_eq_true rfl) dX8_beside_35 (fun r5 s4 => ?_)
        refine z_if_eq K (tgt := 45) dX8_beside_38 (by decide) ?_ ?_
        · refine z_iconst K ci_m1 dX8_beside_45 ?_
          exact z_iret K dX8_beside_46
        · refine z_iload_n K 0 rfl dX8_beside_41 ?_
          refine z_goto K (tgt := 46) dX8_beside_42 (by decide) ?_
          exact z_iret K dX8_beside_46
      · refine z_iload_n K 0 rfl dX8_beside_24 ?_
        refine z_iconst K ci_2 dX8_beside_25 ?_
        refine z_iadd K dX8_beside_26 ?_
        refine z_goto K (tgt := 33) dX8_beside_27 (by decide) ?_
        refine z_topi (fun y6 => ?_)
        refine z_istore_n K (lv' := [(2, .int y6), (0, .int v0), (1, .int v1)]) dX8_beside_33 rfl (Nat.le_of_ble_eq_true rfl) rfl ?_
        refine z_iload_n K 0 rfl dX8_beside_34 ?_
        refine z_cSi (As := [.int y6]) (rest := []) K (t_X8_isSeat a.1 (d - 1) (by omega) y6 s1) mf_X8_isSeat ml_X8_25 (Nat.le_of_ble_eq_true rfl) (by omega) rfl rfl (Nat.le_of_ble_eq_true rfl) dX8_beside_35 (fun r8 s7 => ?_)
        refine z_if_eq K (tgt := 45) dX8_beside_38 (by decide) ?_ ?_
        · refine z_iconst K ci_m1 dX8_beside_45 ?_
          exact z_iret K dX8_beside_46
        · refine z_iload_n K 0 rfl dX8_beside_41 ?_
          refine z_goto K (tgt := 46) dX8_beside_42 (by decide) ?_
          exact z_iret K dX8_beside_46
    · refine z_iload_n K 0 rfl dX8_beside_13 ?_
      refine z_iconst K ci_2 dX8_beside_14 ?_
      refine z_isub K dX8_beside_15 ?_
      refine z_goto K (tgt := 33) dX8_beside_16 (by decide) ?_
      refine z_topi (fun y9 => ?_)
      refine z_istore_n K (lv' := [(2, .int y9), (0, .int v0), (1, .int v1)]) dX8_beside_33 rfl (Nat.le_of_ble_eq_true rfl) rfl ?_
      refine z_iload_n K 0 rfl dX8_beside_34 ?_
      refine z_cSi (As := [.int y9]) (rest := []) K (t_X8_isSeat a.1 (d - 1) (by omega) y9 s1) mf_X8_isSeat ml_X8_25 (Nat.le_of_ble_eq_true rfl) (by omega) rfl rfl (Nat.le_of_ble_eq_true rfl) dX8_beside_35 (fun r11 s10 => ?_)
      refine z_if_eq K (tgt := 45) dX8_beside_38 (by decide) ?_ ?_
      · refine z_iconst K ci_m1 dX8_beside_45 ?_
        exact z_iret K dX8_beside_46
      · refine z_iload_n K 0 rfl dX8_beside_41 ?_
        refine z_goto K (tgt := 46) dX8_beside_42 (by decide) ?_
        exact z_iret K dX8_beside_46
  · refine z_iconst K ci_m1 dX8_beside_7 ?_
    exact z_iret K dX8_beside_8
def f_X10_length (s : zM) : Option (Int32 × zM) :=
  some ((zg s 1 1), s)
set_option maxRecDepth 100000 in
set_option maxHeartbeats 4000000 in
theorem t_X10_length (w : zWd) (d : Nat) (hd : 0 ≤ d) (s : zM) : zMt w yX10_length cX10_length 1 (some .int) d zφN zφN zri [.ref (w.2.2.2 + 1)] s (f_X10_length s) := by
  refine zMtN_of (own := RX10) rfl (by decide +kernel) (Nat.le_of_ble_eq_true rfl) cd_X10_length [(0, .ref (w.2.2.2 + 1))] rfl ?_
  rintro a rfl K
  unfold f_X10_length
  refine z_aload_n K 0 rfl dX10_length_0 ?_
  refine z_geti K fd_X10_15 ob_1_1 dX10_length_1 ?_
  exact z_iret K dX10_length_4
def f_X10_hasRoom (s : zM) : Option (Int32 × zM) :=
  if (220 : Int32) < ((zg s 1 1) + (20 : Int32)) then
    some ((0 : Int32), s)
  else
    some ((1 : Int32), s)
set_option maxRecDepth 100000 in
set_option maxHeartbeats 4000000 in
theorem t_X10_hasRoom (w : zWd) (d : Nat) (hd : 0 ≤ d) (s : zM) : zMt w yX10_hasRoom cX10_hasRoom 1 (some .boolean) d zφN zφN zri [.ref (w.2.2.2 + 1)] s (f_X10_hasRoom s) := by
  refine zMtN_of (own := RX10) rfl (by decide +kernel) (Nat.le_of_ble_eq_true rfl) cd_X10_hasRoom [(0, .ref (w.2.2.2 + 1))] rfl ?_
  rintro a rfl K
  unfold f_X10_hasRoom
  refine z_aload_n K 0 rfl dX10_hasRoom_0 ?_
  refine z_geti K fd_X10_15 ob_1_1 dX10_hasRoom_1 ?_
  refine z_bipush K cb_20 dX10_hasRoom_4 ?_
  refine z_iadd K dX10_hasRoom_6 ?_
  refine z_sipush K cs_220 dX10_hasRoom_7 ?_
  refine z_icmp_gt K (tgt := 17) dX10_hasRoom_10 (by decide) ?_ ?_
  · refine z_iconst K ci_0 dX10_hasRoom_17 ?_
    exact z_zret (Or.inl rfl) K dX10_hasRoom_18
  · refine z_iconst K ci_1 dX10_hasRoom_13 ?_
    refine z_goto K (tgt := 18) dX10_hasRoom_14 (by decide) ?_
    exact z_zret (Or.inr rfl) K dX10_hasRoom_18
def f_X10_add_L3 (F : Nat) (k49 : zM → Option (Unit × zM)) (v1 : Int32) : Nat → Int32 → zM → Option (Unit × zM)
  | 0, _, _ => none
  | n + 1, v2, s =>
    if v2 < 0 then
      k49 s
    else
      if (zg s 1 1) < (220 : Int32) then
        if zin (zg s 1 1) 220 = true then
          lt (zs s 2 ((zg s 1 1)).toNatClampNeg ((v1 >>> (v2 &&& 31)) &&& (255 : Int32))) (fun s1 =>
          lt (zs s1 1 1 ((zg s1 1 1) + (1 : Int32))) (fun s2 =>
          lt (v2 + (-8 : Int32)) (fun y3 =>
          f_X10_add_L3 F k49 v1 n y3 s2)))
        else none
      else
        k49 s
set_option maxRecDepth 100000 in
set_option maxHeartbeats 4000000 in
theorem t_X10_add_L3 {a : zA} {d : Nat} (F : Nat) (K : zOK a cX10_add 3 RX10 none d) (hd : 0 ≤ d) {k49 : zM → Option (Unit × zM)} (v1 : Int32) (h49 : ∀ (s : zM), zJ a 3 (zG a zφN zrv) zφN 49 [] [] s (k49 s)) : ∀ (n : Nat) (v2 : Int32) (s : zM), zJ a 3 (zG a zφN zrv) zφN 3 [(0, .ref (a.1.2.2.2 + 1)), (1, .int v1), (2, .int v2)] [] s (f_X10_add_L3 F k49 v1 n v2 s) := by
  intro n
  induction n with
  | zero => intros; exact z_none
  | succ n ih =>
    intro v2 s
    rw [f_X10_add_L3]
    refine z_iload_n K 2 rfl dX10_add_3 ?_
    refine z_if_lt K (tgt := 49) dX10_add_4 (by decide) ?_ ?_
    · refine z_sub [] rfl ?_
      exact h49 s
    · refine z_aload_n K 0 rfl dX10_add_7 ?_
      refine z_geti K fd_X10_15 ob_1_1 dX10_add_8 ?_
      refine z_sipush K cs_220 dX10_add_11 ?_
      refine z_icmp_ge K (tgt := 49) dX10_add_14 (by decide) ?_ ?_
      · refine z_sub [] rfl ?_
        exact h49 s
      · refine z_aload_n K 0 rfl dX10_add_17 ?_
        refine z_getr K fd_X10_11 ob_1_0 dX10_add_18 ?_
        refine z_aload_n K 0 rfl dX10_add_21 ?_
        refine z_geti K fd_X10_15 ob_1_1 dX10_add_22 ?_
        refine z_iload_n K 1 rfl dX10_add_25 ?_
        refine z_iload_n K 2 rfl dX10_add_26 ?_
        refine z_ishr K dX10_add_27 ?_
        refine z_sipush K cs_255 dX10_add_28 ?_
        refine z_iand K dX10_add_31 ?_
        refine z_iast K ar_2 dX10_add_32 ?_
        refine z_ltm (fun s1 => ?_)
        refine z_aload_n K 0 rfl dX10_add_33 ?_
        refine z_dup K rfl dX10_add_34 ?_
        refine z_geti K fd_X10_15 ob_1_1 dX10_add_35 ?_
        refine z_iconst K ci_1 dX10_add_38 ?_
        refine z_iadd K dX10_add_39 ?_
        refine z_puti K fw_X10_15 ob_1_1 dX10_add_40 ?_
        refine z_ltm (fun s2 => ?_)
        refine z_iincN K (j := 2) (lv' := [(0, .ref (a.1.2.2.2 + 1)), (1, .int v1)]) ci_m8 rfl dX10_add_43 (Nat.le_of_ble_eq_true rfl) rfl (fun y3 => ?_)
        refine z_goto K (tgt := 3) dX10_add_46 (by decide) ?_
        refine z_sub [1, 2, 0] rfl ?_
        exact ih y3 s2
def f_X10_add (F : Nat) (v1 : Int32) (s : zM) : Option (Unit × zM) :=
  f_X10_add_L3 F (fun s4 =>
    some ((), s4)) v1 F (24 : Int32) s
set_option maxRecDepth 100000 in
set_option maxHeartbeats 4000000 in
theorem t_X10_add (w : zWd) (F : Nat) (d : Nat) (hd : 0 ≤ d) (v1 : Int32) (s : zM) : zMt w yX10_add cX10_add 3 none d zφN zφN zrv [.ref (w.2.2.2 + 1), .int v1] s (f_X10_add F v1 s) := by
  refine zMtN_of (own := RX10) rfl (by decide +kernel) (Nat.le_of_ble_eq_true rfl) cd_X10_add [(0, .ref (w.2.2.2 + 1)), (1, .int v1)] rfl ?_
  rintro a rfl K
  unfold f_X10_add
  refine z_bipush K cb_24 dX10_add_0 ?_
  refine z_istore_n K (lv' := [(2, .int (24 : Int32)), (0, .ref (a.1.2.2.2 + 1)), (1, .int v1)]) dX10_add_2 rfl (Nat.le_of_ble_eq_true rfl) rfl ?_
  refine z_sub [1, 2, 0] rfl ?_
  refine t_X10_add_L3 F K hd v1 (fun s4 => ?_) F (24 : Int32) s
  exact z_vret K dX10_add_49
def f_X10_byteAt (v1 : Int32) (s : zM) : Option (Int32 × zM) :=
  if v1 < 0 then
    some ((-1 : Int32), s)
  else
    if v1 < (zg s 1 1) then
      if zin v1 220 = true then
        some ((zg s 2 (v1).toNatClampNeg), s)
      else none
    else
      some ((-1 : Int32), s)
set_option maxRecDepth 100000 in
set_option maxHeartbeats 4000000 in
theorem t_X10_byteAt (w : zWd) (d : Nat) (hd : 0 ≤ d) (v1 : Int32) (s : zM) : zMt w yX10_byteAt cX10_byteAt 2 (some .int) d zφN zφN zri [.ref (w.2.2.2 + 1), .int v1] s (f_X10_byteAt v1 s) := by
  refine zMtN_of (own := RX10) rfl (by decide +kernel) (Nat.le_of_ble_eq_true rfl) cd_X10_byteAt [(0, .ref (w.2.2.2 + 1)), (1, .int v1)] rfl ?_
  rintro a rfl K
  unfold f_X10_byteAt
  refine z_iload_n K 1 rfl dX10_byteAt_0 ?_
  refine z_if_lt K (tgt := 21) dX10_byteAt_1 (by decide) ?_ ?_
  · refine z_iconst K ci_m1 dX10_byteAt_21 ?_
    exact z_iret K dX10_byteAt_22
  · refine z_iload_n K 1 rfl dX10_byteAt_4 ?_
    refine z_aload_n K 0 rfl dX10_byteAt_5 ?_
    refine z_geti K fd_X10_15 ob_1_1 dX10_byteAt_6 ?_
    refine z_icmp_ge K (tgt := 21) dX10_byteAt_9 (by decide) ?_ ?_
    · refine z_iconst K ci_m1 dX10_byteAt_21 ?_
      exact z_iret K dX10_byteAt_22
    · refine z_aload_n K 0 rfl dX10_byteAt_12 ?_
      refine z_getr K fd_X10_11 ob_1_0 dX10_byteAt_13 ?_
      refine z_iload_n K 1 rfl dX10_byteAt_16 ?_
      refine z_iald K ar_2 dX10_byteAt_17 ?_
      refine z_goto K (tgt := 22) dX10_byteAt_18 (by decide) ?_
      exact z_iret K dX10_byteAt_22
def f_X10_numberAt_L4 (F : Nat) (k32 : Int32 → zM → Option (Int32 × zM)) (v1 : Int32) : Nat → Int32 → Int32 → zM → Option (Int32 × zM)
  | 0, _, _, _ => none
  | n + 1, v2, v3, s =>
    if v3 < (4 : Int32) then
      bnd (f_X10_byteAt (v1 + v3) s) (fun r2 s1 =>
      lt (((v2 <<< ((8 : Int32) &&& 31)) ||| (r2 &&& (255 : Int32)))) (fun y3 =>
      lt (v3 + (1 : Int32)) (fun y4 =>
      f_X10_numberAt_L4 F k32 v1 n y3 y4 s1)))
    else
      k32 v2 s
set_option maxRecDepth 100000 in
set_option maxHeartbeats 4000000 in
theorem t_X10_numberAt_L4 {a : zA} {d : Nat} (F : Nat) (K : zOK a cX10_numberAt 4 RX10 (some .int) d) (hd : 1 ≤ d) {k32 : Int32 → zM → Option (Int32 × zM)} (v1 : Int32) (h32 : ∀ (v2 : Int32) (s : zM), zJ a 4 (zG a zφN zri) zφN 32 [(2, .int v2)] [] s (k32 v2 s)) : ∀ (n : Nat) (v2 : Int32) (v3 : Int32) (s : zM), zJ a 4 (zG a zφN zri) zφN 4 [(0, .ref (a.1.2.2.2 + 1)), (1, .int v1), (2, .int v2), (3, .int v3)] [] s (f_X10_numberAt_L4 F k32 v1 n v2 v3 s) := by
  intro n
  induction n with
  | zero => intros; exact z_none
  | succ n ih =>
    intro v2 v3 s
    rw [f_X10_numberAt_L4]
    refine z_iload_n K 3 rfl dX10_numberAt_4 ?_
    refine z_iconst K ci_4 dX10_numberAt_5 ?_
    refine z_icmp_ge K (tgt := 32) dX10_numberAt_6 (by decide) ?_ ?_
    · refine z_sub [2] rfl ?_
      exact h32 v2 s
    · refine z_iload_n K 2 rfl dX10_numberAt_9 ?_
      refine z_bipush K cb_8 dX10_numberAt_10 ?_
      refine z_ishl K dX10_numberAt_12 ?_
      refine z_aload_n K 0 rfl dX10_numberAt_13 ?_
      refine z_iload_n K 1 rfl dX10_numberAt_14 ?_
      refine z_iload_n K 3 rfl dX10_numberAt_15 ?_
      refine z_iadd K dX10_numberAt_16 ?_
      refine z_cVi (As := [.int (v1 + v3)]) (rest := [.int (v2 <<< ((8 : Int32) &&& 31))]) K (t_X10_byteAt a.1 (d - 1) (by omega) (v1 + v3) s) mf_X10_byteAt ml_X10_19 (Nat.le_of_ble_eq_true rfl) (by omega) rfl rc_1 rfl (Nat.le_of_ble_eq_true rfl) dX10_numberAt_17 (fun r2 s1 => ?_)
      refine z_sipush K cs_255 dX10_numberAt_20 ?_
      refine z_iand K dX10_numberAt_23 ?_
      refine z_ior K dX10_numberAt_24 ?_
      refine z_topi (fun y3 => ?_)
      refine z_istore_n K (lv' := [(2, .int y3), (0, .ref (a.1.2.2.2 + 1)), (1, .int v1), (3, .int v3)]) dX10_numberAt_25 rfl (Nat.le_of_ble_eq_true rfl) rfl ?_
      refine z_iincN K (j := 3) (lv' := [(2, .int y3), (0, .ref (a.1.2.2.2 + 1)), (1, .int v1)]) ci_1 rfl dX10_numberAt_26 (Nat.le_of_ble_eq_true rfl) rfl (fun y4 => ?_)
      refine z_goto K (tgt := 4) dX10_numberAt_29 (by decide) ?_
      refine z_sub [2, 3, 1, 0] rfl ?_
      exact ih y3 y4 s1
def f_X10_numberAt (F : Nat) (v1 : Int32) (s : zM) : Option (Int32 × zM) :=
  f_X10_numberAt_L4 F (fun y6 s5 =>
    some (y6, s5)) v1 F (0 : Int32) (0 : Int32) s
set_option maxRecDepth 100000 in
set_option maxHeartbeats 4000000 in
theorem t_X10_numberAt (w : zWd) (F : Nat) (d : Nat) (hd : 1 ≤ d) (v1 : Int32) (s : zM) : zMt w yX10_numberAt cX10_numberAt 4 (some .int) d zφN zφN zri [.ref (w.2.2.2 + 1), .int v1] s (f_X10_numberAt F v1 s) := by
  refine zMtN_of (own := RX10) rfl (by decide +kernel) (Nat.le_of_ble_eq_true rfl) cd_X10_numberAt [(0, .ref (w.2.2.2 + 1)), (1, .int v1)] rfl ?_
  rintro a rfl K
  unfold f_X10_numberAt
  refine z_iconst K ci_0 dX10_numberAt_0 ?_
  refine z_istore_n K (lv' := [(2, .int (0 : Int32)), (0, .ref (a.1.2.2.2 + 1)), (1, .int v1)]) dX10_numberAt_1 rfl (Nat.le_of_ble_eq_true rfl) rfl ?_
  refine z_iconst K ci_0 dX10_numberAt_2 ?_
  refine z_istore_n K (lv' := [(3, .int (0 : Int32)), (2, .int (0 : Int32)), (0, .ref (a.1.2.2.2 + 1)), (1, .int v1)]) dX10_numberAt_3 rfl (Nat.le_of_ble_eq_true rfl) rfl ?_
  refine z_sub [2, 3, 1, 0] rfl ?_
  refine t_X10_numberAt_L4 F K hd v1 (fun y6 s5 => ?_) F (0 : Int32) (0 : Int32) s
  refine z_iload_n K 0 rfl dX10_numberAt_32 ?_
  exact z_iret K dX10_numberAt_33
def f_X10_clear (s : zM) : Option (Unit × zM) :=
  lt (zs s 1 1 (0 : Int32)) (fun s1 =>
  some ((), s1))
set_option maxRecDepth 100000 in
set_option maxHeartbeats 4000000 in
theorem t_X10_clear (w : zWd) (d : Nat) (hd : 0 ≤ d) (s : zM) : zMt w yX10_clear cX10_clear 1 none d zφN zφN zrv [.ref (w.2.2.2 + 1)] s (f_X10_clear s) := by
  refine zMtN_of (own := RX10) rfl (by decide +kernel) (Nat.le_of_ble_eq_true rfl) cd_X10_clear [(0, .ref (w.2.2.2 + 1))] rfl ?_
  rintro a rfl K
  unfold f_X10_clear
  refine z_aload_n K 0 rfl dX10_clear_0 ?_
  refine z_iconst K ci_0 dX10_clear_1 ?_
  refine z_puti K fw_X10_15 ob_1_1 dX10_clear_2 ?_
  refine z_ltm (fun s1 => ?_)
  exact z_vret K dX10_clear_5
