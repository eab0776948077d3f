def f_X1_letterPlace (v0 : Int32) (s : zM) : Option (Int32 × zM) :=
  if v0 = (97 : Int32) then
    some ((2 : Int32), s)
  else
    if v0 = (98 : Int32) then
      some ((3 : Int32), s)
    else
      if v0 = (99 : Int32) then
        some ((-1 : Int32), s)
      else
        if v0 = (100 : Int32) then
          some ((8 : Int32), s)
        else
          if v0 = (101 : Int32) then
            some ((-1 : Int32), s)
          else
            if v0 = (102 : Int32) then
              some ((0 : Int32), s)
            else
              if v0 = (103 : Int32) then
                some ((1 : Int32), s)
              else
                if v0 = (104 : Int32) then
                  some ((-1 : Int32), s)
                else
                  if v0 = (105 : Int32) then
                    some ((-1 : Int32), s)
                  else
                    if v0 = (106 : Int32) then
                      some ((-1 : Int32), s)
                    else
                      if v0 = (107 : Int32) then
                        some ((-1 : Int32), s)
                      else
                        if v0 = (108 : Int32) then
                          some ((6 : Int32), s)
                        else
                          if v0 = (109 : Int32) then
                            some ((7 : Int32), s)
                          else
                            if v0 = (110 : Int32) then
                              some ((-1 : Int32), s)
                            else
                              if v0 = (111 : Int32) then
                                some ((9 : Int32), s)
                              else
                                if v0 = (112 : Int32) then
                                  some ((-1 : Int32), s)
                                else
                                  if v0 = (113 : Int32) then
                                    some ((-1 : Int32), s)
                                  else
                                    if v0 = (114 : Int32) then
                                      some ((-1 : Int32), s)
                                    else
                                      if v0 = (115 : Int32) then
                                        some ((4 : Int32), s)
                                      else
                                        if v0 = (116 : Int32) then
                                          some ((5 : Int32), s)
                                        else
                                          some ((-1 : Int32), s)
set_option maxRecDepth 100000 in
set_option maxHeartbeats 4000000 in
theorem t_X1_letterPlace (w : zWd) (d : Nat) (hd : 0 ≤ d) (v0 : Int32) (s : zM) : zMt w yX1_letterPlace cX1_letterPlace 1 (some .int) d zφN zφN zri [.int v0] s (f_X1_letterPlace v0 s) := by
  refine zMtN_of (own := RX1) rfl (by decide +kernel) (Nat.le_of_ble_eq_true rfl) cd_X1_letterPlace [(0, .int v0)] rfl ?_
  rintro a rfl K
  unfold f_X1_letterPlace
  refine z_iload_n K 0 rfl dX1_letterPlace_0 ?_
  refine z_ite (fun hs97 => ?_) (fun hs97 => ?_)
  · refine z_tswIn K (tgt := 100) (off := 99) dX1_letterPlace_1 (by rw [hs97]; decide) (by rw [hs97]; decide) (by rw [hs97]; rfl) (by decide) ?_
    refine z_iconst K ci_2 dX1_letterPlace_100 ?_
    exact z_iret K dX1_letterPlace_101
  · refine z_ite (fun hs98 => ?_) (fun hs98 => ?_)
    · refine z_tswIn K (tgt := 102) (off := 101) dX1_letterPlace_1 (by rw [hs98]; decide) (by rw [hs98]; decide) (by rw [hs98]; rfl) (by decide) ?_
      refine z_iconst K ci_3 dX1_letterPlace_102 ?_
      exact z_iret K dX1_letterPlace_103
    · refine z_ite (fun hs99 => ?_) (fun hs99 => ?_)
      · refine z_tswIn K (tgt := 120) (off := 119) dX1_letterPlace_1 (by rw [hs99]; decide) (by rw [hs99]; decide) (by rw [hs99]; rfl) (by decide) ?_
        refine z_iconst K ci_m1 dX1_letterPlace_120 ?_
        exact z_iret K dX1_letterPlace_121
      · refine z_ite (fun hs100 => ?_) (fun hs100 => ?_)
        · refine z_tswIn K (tgt := 114) (off := 113) dX1_letterPlace_1 (by rw [hs100]; decide) (by rw [hs100]; decide) (by rw [hs100]; rfl) (by decide) ?_
          refine z_bipush K cb_8 dX1_letterPlace_114 ?_
          exact z_iret K dX1_letterPlace_116
        · refine z_ite (fun hs101 => ?_) (fun hs101 => ?_)
          · refine z_tswIn K (tgt := 120) (off := 119) dX1_letterPlace_1 (by rw [hs101]; decide) (by rw [hs101]; decide) (by rw [hs101]; rfl) (by decide) ?_
            refine z_iconst K ci_m1 dX1_letterPlace_120 ?_
            exact z_iret K dX1_letterPlace_121
          · refine z_ite (fun hs102 => ?_) (fun hs102 => ?_)
            · refine z_tswIn K (tgt := 96) (off := 95) dX1_letterPlace_1 (by rw [hs102]; decide) (by rw [hs102]; decide) (by rw [hs102]; rfl) (by decide) ?_
              refine z_iconst K ci_0 dX1_letterPlace_96 ?_
              exact z_iret K dX1_letterPlace_97
            · refine z_ite (fun hs103 => ?_) (fun hs103 => ?_)
              · refine z_tswIn K (tgt := 98) (off := 97) dX1_letterPlace_1 (by rw [hs103]; decide) (by rw [hs103]; decide) (by rw [hs103]; rfl) (by decide) ?_
                refine z_iconst K ci_1 dX1_letterPlace_98 ?_
                exact z_iret K dX1_letterPlace_99
              · refine z_ite (fun hs104 => ?_) (fun hs104 => ?_)
                · refine z_tswIn K (tgt := 120) (off := 119) dX1_letterPlace_1 (by rw [hs104]; decide) (by rw [hs104]; decide) (by rw [hs104]; rfl) (by decide) ?_
                  refine z_iconst K ci_m1 dX1_letterPlace_120 ?_
                  exact z_iret K dX1_letterPlace_121
                · refine z_ite (fun hs105 => ?_) (fun hs105 => ?_)
                  · refine z_tswIn K (tgt := 120) (off := 119) dX1_letterPlace_1 (by rw [hs105]; decide) (by rw [hs105]; decide) (by rw [hs105]; rfl) (by decide) ?_
                    refine z_iconst K ci_m1 dX1_letterPlace_120 ?_
                    exact z_iret K dX1_letterPlace_121
                  · refine z_ite (fun hs106 => ?_) (fun hs106 => ?_)
                    · refine z_tswIn K (tgt := 120) (off := 119) dX1_letterPlace_1 (by rw [hs106]; decide) (by rw [hs106]; decide) (by rw [hs106]; rfl) (by decide) ?_
                      refine z_iconst K ci_m1 dX1_letterPlace_120 ?_
                      exact z_iret K dX1_letterPlace_121
                    · refine z_ite (fun hs107 => ?_) (fun hs107 => ?_)
                      · refine z_tswIn K (tgt := 120) (off := 119) dX1_letterPlace_1 (by rw [hs107]; decide) (by rw [hs107]; decide) (by rw [hs107]; rfl) (by decide) ?_
                        refine z_iconst K ci_m1 dX1_letterPlace_120 ?_
                        exact z_iret K dX1_letterPlace_121
                      · refine z_ite (fun hs108 => ?_) (fun hs108 => ?_)
                        · refine z_tswIn K (tgt := 108) (off := 107) dX1_letterPlace_1 (by rw [hs108]; decide) (by rw [hs108]; decide) (by rw [hs108]; rfl) (by decide) ?_
                          refine z_bipush K cb_6 dX1_letterPlace_108 ?_
                          exact z_iret K dX1_letterPlace_110
                        · refine z_ite (fun hs109 => ?_) (fun hs109 => ?_)
                          · refine z_tswIn K (tgt := 111) (off := 110) dX1_letterPlace_1 (by rw [hs109]; decide) (by rw [hs109]; decide) (by rw [hs109]; rfl) (by decide) ?_
                            refine z_bipush K cb_7 dX1_letterPlace_111 ?_
                            exact z_iret K dX1_letterPlace_113
                          · refine z_ite (fun hs110 => ?_) (fun hs110 => ?_)
                            · refine z_tswIn K (tgt := 120) (off := 119) dX1_letterPlace_1 (by rw [hs110]; decide) (by rw [hs110]; decide) (by rw [hs110]; rfl) (by decide) ?_
                              refine z_iconst K ci_m1 dX1_letterPlace_120 ?_
                              exact z_iret K dX1_letterPlace_121
                            · refine z_ite (fun hs111 => ?_) (fun hs111 => ?_)
                              · refine z_tswIn K (tgt := 117) (off := 116) dX1_letterPlace_1 (by rw [hs111]; decide) (by rw [hs111]; decide) (by rw [hs111]; rfl) (by decide) ?_
                                refine z_bipush K cb_9 dX1_letterPlace_117 ?_
                                exact z_iret K dX1_letterPlace_119
                              · refine z_ite (fun hs112 => ?_) (fun hs112 => ?_)
                                · refine z_tswIn K (tgt := 120) (off := 119) dX1_letterPlace_1 (by rw [hs112]; decide) (by rw [hs112]; decide) (by rw [hs112]; rfl) (by decide) ?_
                                  refine z_iconst K ci_m1 dX1_letterPlace_120 ?_
                                  exact z_iret K dX1_letterPlace_121
                                · refine z_ite (fun hs113 => ?_) (fun hs113 => ?_)
                                  · refine z_tswIn K (tgt := 120) (off := 119) dX1_letterPlace_1 (by rw [hs113]; decide) (by rw [hs113]; decide) (by rw [hs113]; rfl) (by decide) ?_
                                    refine z_iconst K ci_m1 dX1_letterPlace_120 ?_
                                    exact z_iret K dX1_letterPlace_121
                                  · refine z_ite (fun hs114 => ?_) (fun hs114 => ?_)
                                    · refine z_tswIn K (tgt := 120) (off := 119) dX1_letterPlace_1 (by rw [hs114]; decide) (by rw [hs114]; decide) (by rw [hs114]; rfl) (by decide) ?_
                                      refine z_iconst K ci_m1 dX1_letterPlace_120 ?_
                                      exact z_iret K dX1_letterPlace_121
                                    · refine z_ite (fun hs115 => ?_) (fun hs115 => ?_)
                                      · refine z_tswIn K (tgt := 104) (off := 103) dX1_letterPlace_1 (by rw [hs115]; decide) (by rw [hs115]; decide) (by rw [hs115]; rfl) (by decide) ?_
                                        refine z_iconst K ci_4 dX1_letterPlace_104 ?_
                                        exact z_iret K dX1_letterPlace_105
                                      · refine z_ite (fun hs116 => ?_) (fun hs116 => ?_)
                                        · refine z_tswIn K (tgt := 106) (off := 105) dX1_letterPlace_1 (by rw [hs116]; decide) (by rw [hs116]; decide) (by rw [hs116]; rfl) (by decide) ?_
                                          refine z_iconst K ci_5 dX1_letterPlace_106 ?_
                                          exact z_iret K dX1_letterPlace_107
                                        · have hsw : v0.toInt < 97 ∨ 116 < v0.toInt := by
                                            have q97 := lv_neT hs97 (a := 97) rfl
                                            have q98 := lv_neT hs98 (a := 98) rfl
                                            have q99 := lv_neT hs99 (a := 99) rfl
                                            have q100 := lv_neT hs100 (a := 100) rfl
                                            have q101 := lv_neT hs101 (a := 101) rfl
                                            have q102 := lv_neT hs102 (a := 102) rfl
                                            have q103 := lv_neT hs103 (a := 103) rfl
                                            have q104 := lv_neT hs104 (a := 104) rfl
                                            have q105 := lv_neT hs105 (a := 105) rfl
                                            have q106 := lv_neT hs106 (a := 106) rfl
                                            have q107 := lv_neT hs107 (a := 107) rfl
                                            have q108 := lv_neT hs108 (a := 108) rfl
                                            have q109 := lv_neT hs109 (a := 109) rfl
                                            have q110 := lv_neT hs110 (a := 110) rfl
                                            have q111 := lv_neT hs111 (a := 111) rfl
                                            have q112 := lv_neT hs112 (a := 112) rfl
                                            have q113 := lv_neT hs113 (a := 113) rfl
                                            have q114 := lv_neT hs114 (a := 114) rfl
                                            have q115 := lv_neT hs115 (a := 115) rfl
                                            have q116 := lv_neT hs116 (a := 116) rfl
                                            omega
                                          refine z_tswOut K (tgt := 120) dX1_letterPlace_1 hsw (by decide) ?_
                                          refine z_iconst K ci_m1 dX1_letterPlace_120 ?_
                                          exact z_iret K dX1_letterPlace_121
def f_X1_inForce (s : zM) : Option (Nat × zM) :=
  if zLw (zg s 12 4).toNatClampNeg = true then
    some (((zg s 12 4).toNatClampNeg), s)
  else none
set_option maxRecDepth 100000 in
set_option maxHeartbeats 4000000 in
theorem t_X1_inForce (w : zWd) (d : Nat) (hd : 0 ≤ d) (s : zM) : zMt w yX1_inForce cX1_inForce 1 (some (.object "BorderTable$Law")) d zφN zφN (zrr w.2.2.2) [.ref (w.2.2.2 + 12)] s (f_X1_inForce s) := by
  refine zMtN_of (own := RX1) rfl (by decide +kernel) (Nat.le_of_ble_eq_true rfl) cd_X1_inForce [(0, .ref (w.2.2.2 + 12))] rfl ?_
  rintro a rfl K
  unfold f_X1_inForce
  refine z_aload_n K 0 rfl dX1_inForce_0 ?_
  refine z_getm K fd_X1_29 ob_12_4 dX1_inForce_1 ?_
  refine z_ite (fun hl1 => ?_) (fun _ => z_none)
  exact z_aret K dX1_inForce_4
def f_X1_forget (s : zM) : Option (Unit × zM) :=
  lt (zs s 12 5 ((zg s 12 5) + (1 : Int32))) (fun s1 =>
  some ((), s1))
set_option maxRecDepth 100000 in
set_option maxHeartbeats 4000000 in
theorem t_X1_forget (w : zWd) (d : Nat) (hd : 0 ≤ d) (s : zM) : zMt w yX1_forget cX1_forget 1 none d zφN zφN zrv [.ref (w.2.2.2 + 12)] s (f_X1_forget s) := by
  refine zMtN_of (own := RX1) rfl (by decide +kernel) (Nat.le_of_ble_eq_true rfl) cd_X1_forget [(0, .ref (w.2.2.2 + 12))] rfl ?_
  rintro a rfl K
  unfold f_X1_forget
  refine z_aload_n K 0 rfl dX1_forget_0 ?_
  refine z_dup K rfl dX1_forget_1 ?_
  refine z_geti K fd_X1_33 ob_12_5 dX1_forget_2 ?_
  refine z_iconst K ci_1 dX1_forget_5 ?_
  refine z_iadd K dX1_forget_6 ?_
  refine z_puti K fw_X1_33 ob_12_5 dX1_forget_7 ?_
  refine z_ltm (fun s1 => ?_)
  exact z_vret K dX1_forget_10
def f_X1_take (j : Nat) (s : zM) : Option (Unit × zM) :=
  lt (zs s 12 4 (nI j)) (fun s1 =>
  bnd (f_X1_forget s1) (fun _ s2 =>
  some ((), s2)))
set_option maxRecDepth 100000 in
set_option maxHeartbeats 4000000 in
theorem t_X1_take (w : zWd) (d : Nat) (hd : 1 ≤ d) (j : Nat) (hj : zLw j = true) (s : zM) : zMt w yX1_take cX1_take 2 none d zφN zφN zrv [.ref (w.2.2.2 + 12), .ref (w.2.2.2 + j)] s (f_X1_take j s) := by
  refine zMtN_of (own := RX1) rfl (by decide +kernel) (Nat.le_of_ble_eq_true rfl) cd_X1_take [(0, .ref (w.2.2.2 + 12)), (1, .ref (w.2.2.2 + j))] rfl ?_
  rintro a rfl K
  unfold f_X1_take
  refine z_aload_n K 0 rfl dX1_take_0 ?_
  refine z_aload_n K 1 rfl dX1_take_1 ?_
  refine z_putm K (zLw_lt hj) fw_X1_29 ob_12_4 dX1_take_2 ?_
  refine z_ltm (fun s1 => ?_)
  refine z_aload_n K 0 rfl dX1_take_5 ?_
  refine z_cVv (As := []) (rest := []) K (t_X1_forget a.1 (d - 1) (by omega) s1) mf_X1_forget ml_X1_41 (Nat.le_of_ble_eq_true rfl) (by omega) rfl rc_12 rfl (Nat.le_of_ble_eq_true rfl) dX1_take_6 (fun _ s2 => ?_)
  exact z_vret K dX1_take_9
def f_X1_spell (v1 : Int32) (v2 : Int32) (v3 : Int32) (v4 : Int32) (s : zM) : Option (Unit × zM) :=
  if zin (0 : Int32) 10 = true then
    lt (zs s 13 ((0 : Int32)).toNatClampNeg v1) (fun s1 =>
    if zin (1 : Int32) 10 = true then
      lt (zs s1 13 ((1 : Int32)).toNatClampNeg v3) (fun s2 =>
      bnd (f_X0_landOf v1 s2) (fun r4 s3 =>
      if zin (2 : Int32) 10 = true then
        lt (zs s3 13 ((2 : Int32)).toNatClampNeg r4) (fun s5 =>
        bnd (f_X0_landOf v3 s5) (fun r7 s6 =>
        if zin (3 : Int32) 10 = true then
          lt (zs s6 13 ((3 : Int32)).toNatClampNeg r7) (fun s8 =>
          if zin (4 : Int32) 10 = true then
            lt (zs s8 13 ((4 : Int32)).toNatClampNeg v2) (fun s9 =>
            if zin (5 : Int32) 10 = true then
              lt (zs s9 13 ((5 : Int32)).toNatClampNeg v4) (fun s10 =>
              bnd (f_X0_likingOf v1 v3 s10) (fun r12 s11 =>
              if zin (6 : Int32) 10 = true then
                lt (zs s11 13 ((6 : Int32)).toNatClampNeg r12) (fun s13 =>
                bnd (f_X0_likingOf v3 v1 s13) (fun r15 s14 =>
                if zin (7 : Int32) 10 = true then
                  lt (zs s14 13 ((7 : Int32)).toNatClampNeg r15) (fun s16 =>
                  bnd (f_X8_apart v2 v4 s16) (fun r18 s17 =>
                  if zin (8 : Int32) 10 = true then
                    lt (zs s17 13 ((8 : Int32)).toNatClampNeg r18) (fun s19 =>
                    if zin (9 : Int32) 10 = true then
                      lt (zs s19 13 ((9 : Int32)).toNatClampNeg ((v2 ^^^ v4) &&& (1 : Int32))) (fun s20 =>
                      some ((), s20))
                    else none)
                  else none))
                else none))
              else none))
            else none)
          else none)
        else none))
      else none))
    else none)
  else none
set_option maxRecDepth 100000 in
set_option maxHeartbeats 4000000 in
theorem t_X1_spell (w : zWd) (d : Nat) (hd : 2 ≤ d) (v1 : Int32) (v2 : Int32) (v3 : Int32) (v4 : Int32) (s : zM) : zMt w yX1_spell cX1_spell 5 none d zφN zφN zrv [.ref (w.2.2.2 + 12), .int v1, .int v2, .int v3, .int v4] s (f_X1_spell v1 v2 v3 v4 s) := by
  refine zMtN_of (own := RX1) rfl (by decide +kernel) (Nat.le_of_ble_eq_true rfl) cd_X1_spell [(0, .ref (w.2.2.2 + 12)), (1, .int v1), (2, .int v2), (3, .int v3), (4, .int v4)] rfl ?_
  rintro a rfl K
  unfold f_X1_spell
  refine z_aload_n K 0 rfl dX1_spell_0 ?_
  refine z_getr K fd_X1_13 ob_12_1 dX1_spell_1 ?_
  refine z_iconst K ci_0 dX1_spell_4 ?_
  refine z_iload_n K 1 rfl dX1_spell_5 ?_
  refine z_iast K ar_13 dX1_spell_6 ?_
  refine z_ltm (fun s1 => ?_)
  refine z_aload_n K 0 rfl dX1_spell_7 ?_
  refine z_getr K fd_X1_13 ob_12_1 dX1_spell_8 ?_
  refine z_iconst K ci_1 dX1_spell_11 ?_
  refine z_iload_n K 3 rfl dX1_spell_12 ?_
  refine z_iast K ar_13 dX1_spell_13 ?_
  refine z_ltm (fun s2 => ?_)
  refine z_aload_n K 0 rfl dX1_spell_14 ?_
  refine z_getr K fd_X1_13 ob_12_1 dX1_spell_15 ?_
  refine z_iconst K ci_2 dX1_spell_18 ?_
  refine z_aload_n K 0 rfl dX1_spell_19 ?_
  refine z_getr K fd_X1_37 ob_12_0 dX1_spell_20 ?_
  refine z_iload_n K 1 rfl dX1_spell_23 ?_
  refine z_cVi (As := [.int v1]) (rest := [.int (2 : Int32), .ref (a.1.2.2.2 + 13)]) K (t_X0_landOf a.1 (d - 1) (by omega) v1 s2) mf_X0_landOf ml_X1_76 (Nat.le_of_ble_eq_true rfl) (by omega) rfl rc_3 rfl (Nat.le_of_ble_eq_true rfl) dX1_spell_24 (fun r4 s3 => ?_)
  refine z_iast K ar_13 dX1_spell_27 ?_
  refine z_ltm (fun s5 => ?_)
  refine z_aload_n K 0 rfl dX1_spell_28 ?_
  refine z_getr K fd_X1_13 ob_12_1 dX1_spell_29 ?_
  refine z_iconst K ci_3 dX1_spell_32 ?_
  refine z_aload_n K 0 rfl dX1_spell_33 ?_
  refine z_getr K fd_X1_37 ob_12_0 dX1_spell_34 ?_
  refine z_iload_n K 3 rfl dX1_spell_37 ?_
  refine z_cVi (As := [.int v3]) (rest := [.int (3 : Int32), .ref (a.1.2.2.2 + 13)]) K (t_X0_landOf a.1 (d - 1) (by omega) v3 s5) mf_X0_landOf ml_X1_76 (Nat.le_of_ble_eq_true rfl) (by omega) rfl rc_3 rfl (Nat.le_of_ble_eq_true rfl) dX1_spell_38 (fun r7 s6 => ?_)
  refine z_iast K ar_13 dX1_spell_41 ?_
  refine z_ltm (fun s8 => ?_)
  refine z_aload_n K 0 rfl dX1_spell_42 ?_
  refine z_getr K fd_X1_13 ob_12_1 dX1_spell_43 ?_
  refine z_iconst K ci_4 dX1_spell_46 ?_
  refine z_iload_n K 2 rfl dX1_spell_47 ?_
  refine z_iast K ar_13 dX1_spell_48 ?_
  refine z_ltm (fun s9 => ?_)
  refine z_aload_n K 0 rfl dX1_spell_49 ?_
  refine z_getr K fd_X1_13 ob_12_1 dX1_spell_50 ?_
  refine z_iconst K ci_5 dX1_spell_53 ?_
  refine z_iload K 4 rfl dX1_spell_54 ?_
  refine z_iast K ar_13 dX1_spell_56 ?_
  refine z_ltm (fun s10 => ?_)
  refine z_aload_n K 0 rfl dX1_spell_57 ?_
  refine z_getr K fd_X1_13 ob_12_1 dX1_spell_58 ?_
  refine z_bipush K cb_6 dX1_spell_61 ?_
  refine z_aload_n K 0 rfl dX1_spell_63 ?_
  refine z_getr K fd_X1_37 ob_12_0 dX1_spell_64 ?_
  refine z_iload_n K 1 rfl dX1_spell_67 ?_
  refine z_iload_n K 3 rfl dX1_spell_68 ?_
  refine z_cVi (As := [.int v1, .int v3]) (rest := [.int (6 : Int32), .ref (a.1.2.2.2 + 13)]) K (t_X0_likingOf a.1 (d - 1) (by omega) v1 v3 s10) mf_X0_likingOf ml_X1_79 (Nat.le_of_ble_eq_true rfl) (by omega) rfl rc_3 rfl (Nat.le_of_ble_eq_true rfl) dX1_spell_69 (fun r12 s11 => ?_)
  refine z_iast K ar_13 dX1_spell_72 ?_
  refine z_ltm (fun s13 => ?_)
  refine z_aload_n K 0 rfl dX1_spell_73 ?_
  refine z_getr K fd_X1_13 ob_12_1 dX1_spell_74 ?_
  refine z_bipush K cb_7 dX1_spell_77 ?_
  refine z_aload_n K 0 rfl dX1_spell_79 ?_
  refine z_getr K fd_X1_37 ob_12_0 dX1_spell_80 ?_
  refine z_iload_n K 3 rfl dX1_spell_83 ?_
  refine z_iload_n K 1 rfl dX1_spell_84 ?_
  refine z_cVi (As := [.int v3, .int v1]) (rest := [.int (7 : Int32), .ref (a.1.2.2.2 + 13)]) K (t_X0_likingOf a.1 (d - 1) (by omega) v3 v1 s13) mf_X0_likingOf ml_X1_79 (Nat.le_of_ble_eq_true rfl) (by omega) rfl rc_3 rfl (Nat.le_of_ble_eq_true rfl) dX1_spell_85 (fun r15 s14 => ?_)
  refine z_iast K ar_13 dX1_spell_88 ?_
  refine z_ltm (fun s16 => ?_)
  refine z_aload_n K 0 rfl dX1_spell_89 ?_
  refine z_getr K fd_X1_13 ob_12_1 dX1_spell_90 ?_
  refine z_bipush K cb_8 dX1_spell_93 ?_
  refine z_iload_n K 2 rfl dX1_spell_95 ?_
  refine z_iload K 4 rfl dX1_spell_96 ?_
  refine z_cSi (As := [.int v2, .int v4]) (rest := [.int (8 : Int32), .ref (a.1.2.2.2 + 13)]) K (t_X8_apart a.1 (d - 1) (by omega) v2 v4 s16) mf_X8_apart ml_X1_69 (Nat.le_of_ble_eq_true rfl) (by omega) rfl rfl (Nat.le_of_ble_eq_true rfl) dX1_spell_98 (fun r18 s17 => ?_)
  refine z_iast K ar_13 dX1_spell_101 ?_
  refine z_ltm (fun s19 => ?_)
  refine z_aload_n K 0 rfl dX1_spell_102 ?_
  refine z_getr K fd_X1_13 ob_12_1 dX1_spell_103 ?_
  refine z_bipush K cb_9 dX1_spell_106 ?_
  refine z_iload_n K 2 rfl dX1_spell_108 ?_
  refine z_iload K 4 rfl dX1_spell_109 ?_
  refine z_ixor K dX1_spell_111 ?_
  refine z_iconst K ci_1 dX1_spell_112 ?_
  refine z_iand K dX1_spell_113 ?_
  refine z_iast K ar_13 dX1_spell_114 ?_
  refine z_ltm (fun s20 => ?_)
  exact z_vret K dX1_spell_115
def f_X1_allows (F : Nat) (v1 : Int32) (v2 : Int32) (s : zM) : Option (Int32 × zM) :=
  bnd (f_X0_seatOf v1 s) (fun r2 s1 =>
  bnd (f_X0_seatOf v2 s1) (fun r4 s3 =>
  bnd (f_X1_spell v1 r2 v2 r4 s3) (fun _ s5 =>
  if zLw (zg s5 12 4).toNatClampNeg = true then
    bnd (f_X3_permits F ((zg s5 12 4).toNatClampNeg) s5) (fun r8 s7 =>
    if r8 = 0 then some (0, s7) else if r8 = 1 then some (1, s7) else none)
  else none)))
set_option maxRecDepth 100000 in
set_option maxHeartbeats 4000000 in
theorem t_X1_allows (w : zWd) (F : Nat) (d : Nat) (hd : 3 ≤ d) (v1 : Int32) (v2 : Int32) (s : zM) : zMt w yX1_allows cX1_allows 3 (some .boolean) d zφN zφN zri [.ref (w.2.2.2 + 12), .int v1, .int v2] s (f_X1_allows F v1 v2 s) := by
  refine zMtN_of (own := RX1) rfl (by decide +kernel) (Nat.le_of_ble_eq_true rfl) cd_X1_allows [(0, .ref (w.2.2.2 + 12)), (1, .int v1), (2, .int v2)] rfl ?_
  rintro a rfl K
  unfold f_X1_allows
  refine z_aload_n K 0 rfl dX1_allows_0 ?_
  refine z_iload_n K 1 rfl dX1_allows_1 ?_
  refine z_aload_n K 0 rfl dX1_allows_2 ?_
  refine z_getr K fd_X1_37 ob_12_0 dX1_allows_3 ?_
  refine z_iload_n K 1 rfl dX1_allows_6 ?_
  refine z_cVi (As := [.int v1]) (rest := [.int v1, .ref (a.1.2.2.2 + 12)]) K (t_X0_seatOf a.1 (d - 1) (by omega) v1 s) mf_X0_seatOf ml_X1_44 (Nat.le_of_ble_eq_true rfl) (by omega) rfl rc_3 rfl (Nat.le_of_ble_eq_true rfl) dX1_allows_7 (fun r2 s1 => ?_)
  refine z_iload_n K 2 rfl dX1_allows_10 ?_
  refine z_aload_n K 0 rfl dX1_allows_11 ?_
  refine z_getr K fd_X1_37 ob_12_0 dX1_allows_12 ?_
  refine z_iload_n K 2 rfl dX1_allows_15 ?_
  refine z_cVi (As := [.int v2]) (rest := [.int v2, .int r2, .int v1, .ref (a.1.2.2.2 + 12)]) K (t_X0_seatOf a.1 (d - 1) (by omega) v2 s1) mf_X0_seatOf ml_X1_44 (Nat.le_of_ble_eq_true rfl) (by omega) rfl rc_3 rfl (Nat.le_of_ble_eq_true rfl) dX1_allows_16 (fun r4 s3 => ?_)
  refine z_cVv (As := [.int v1, .int r2, .int v2, .int r4]) (rest := []) K (t_X1_spell a.1 (d - 1) (by omega) v1 r2 v2 r4 s3) mf_X1_spell ml_X1_48 (Nat.le_of_ble_eq_true rfl) (by omega) rfl rc_12 rfl (Nat.le_of_ble_eq_true rfl) dX1_allows_19 (fun _ s5 => ?_)
  refine z_aload_n K 0 rfl dX1_allows_22 ?_
  refine z_getm K fd_X1_29 ob_12_4 dX1_allows_23 ?_
  refine z_ite (fun hl6 => ?_) (fun _ => z_none)
  refine z_aload_n K 0 rfl dX1_allows_26 ?_
  refine z_getr K fd_X1_13 ob_12_1 dX1_allows_27 ?_
  refine z_cVi (As := [.ref (a.1.2.2.2 + 13)]) (rest := []) K (t_X3_permits a.1 F (d - 1) (by omega) ((zg s5 12 4).toNatClampNeg) hl6 s5) mf_X3_permits ml_X1_52 (Nat.le_of_ble_eq_true rfl) (by omega) rfl (rcL hl6) rfl (Nat.le_of_ble_eq_true rfl) dX1_allows_30 (fun r8 s7 => ?_)
  exact z_zretc K dX1_allows_33
def f_X1_seen (F : Nat) (v1 : Int32) (v2 : Int32) (s : zM) : Option (Int32 × zM) :=
  bnd (f_X0_seatOf v1 s) (fun r2 s1 =>
  bnd (f_X0_seatOf v2 s1) (fun r4 s3 =>
  bnd (f_X1_spell v1 r2 v2 r4 s3) (fun _ s5 =>
  if zLw (zg s5 12 4).toNatClampNeg = true then
    bnd (f_X3_amount F ((zg s5 12 4).toNatClampNeg) (118 : Int32) (0 : Int32) (1000 : Int32) s5) (fun r8 s7 =>
    some (r8, s7))
  else none)))
set_option maxRecDepth 100000 in
set_option maxHeartbeats 4000000 in
theorem t_X1_seen (w : zWd) (F : Nat) (d : Nat) (hd : 3 ≤ d) (v1 : Int32) (v2 : Int32) (s : zM) : zMt w yX1_seen cX1_seen 3 (some .int) d zφN zφN zri [.ref (w.2.2.2 + 12), .int v1, .int v2] s (f_X1_seen F v1 v2 s) := by
  refine zMtN_of (own := RX1) rfl (by decide +kernel) (Nat.le_of_ble_eq_true rfl) cd_X1_seen [(0, .ref (w.2.2.2 + 12)), (1, .int v1), (2, .int v2)] rfl ?_
  rintro a rfl K
  unfold f_X1_seen
  refine z_aload_n K 0 rfl dX1_seen_0 ?_
  refine z_iload_n K 1 rfl dX1_seen_1 ?_
  refine z_aload_n K 0 rfl dX1_seen_2 ?_
  refine z_getr K fd_X1_37 ob_12_0 dX1_seen_3 ?_
  refine z_iload_n K 1 rfl dX1_seen_6 ?_
  refine z_cVi (As := [.int v1]) (rest := [.int v1, .ref (a.1.2.2.2 + 12)]) K (t_X0_seatOf a.1 (d - 1) (by omega) v1 s) mf_X0_seatOf ml_X1_44 (Nat.le_of_ble_eq_true rfl) (by omega) rfl rc_3 rfl (Nat.le_of_ble_eq_true rfl) dX1_seen_7 (fun r2 s1 => ?_)
  refine z_iload_n K 2 rfl dX1_seen_10 ?_
  refine z_aload_n K 0 rfl dX1_seen_11 ?_
  refine z_getr K fd_X1_37 ob_12_0 dX1_seen_12 ?_
  refine z_iload_n K 2 rfl dX1_seen_15 ?_
  refine z_cVi (As := [.int v2]) (rest := [.int v2, .int r2, .int v1, .ref (a.1.2.2.2 + 12)]) K (t_X0_seatOf a.1 (d - 1) (by omega) v2 s1) mf_X0_seatOf ml_X1_44 (Nat.le_of_ble_eq_true rfl) (by omega) rfl rc_3 rfl (Nat.le_of_ble_eq_true rfl) dX1_seen_16 (fun r4 s3 => ?_)
  refine z_cVv (As := [.int v1, .int r2, .int v2, .int r4]) (rest := []) K (t_X1_spell a.1 (d - 1) (by omega) v1 r2 v2 r4 s3) mf_X1_spell ml_X1_48 (Nat.le_of_ble_eq_true rfl) (by omega) rfl rc_12 rfl (Nat.le_of_ble_eq_true rfl) dX1_seen_19 (fun _ s5 => ?_)
  refine z_aload_n K 0 rfl dX1_seen_22 ?_
  refine z_getm K fd_X1_29 ob_12_4 dX1_seen_23 ?_
  refine z_ite (fun hl6 => ?_) (fun _ => z_none)
  refine z_bipush K cb_118 dX1_seen_26 ?_
  refine z_aload_n K 0 rfl dX1_seen_28 ?_
  refine z_getr K fd_X1_13 ob_12_1 dX1_seen_29 ?_
  refine z_iconst K ci_0 dX1_seen_32 ?_
  refine z_sipush K cs_1000 dX1_seen_33 ?_
  refine z_cVi (As := [.int (118 : Int32), .ref (a.1.2.2.2 + 13), .int (0 : Int32), .int (1000 : Int32)]) (rest := []) K (t_X3_amount a.1 F (d - 1) (by omega) ((zg s5 12 4).toNatClampNeg) hl6 (118 : Int32) (0 : Int32) (1000 : Int32) s5) mf_X3_amount ml_X1_56 (Nat.le_of_ble_eq_true rfl) (by omega) rfl (rcL hl6) rfl (Nat.le_of_ble_eq_true rfl) dX1_seen_36 (fun r8 s7 => ?_)
  exact z_iret K dX1_seen_39
def f_X1_harm (F : Nat) (v1 : Int32) (v2 : Int32) (s : zM) : Option (Int32 × zM) :=
  lt ((if v2 < v1 then v2 else v1)) (fun y1 =>
  lt ((if v1 < v2 then v2 else v1)) (fun y2 =>
  bnd (f_X0_seatOf y1 s) (fun r4 s3 =>
  bnd (f_X0_seatOf y2 s3) (fun r6 s5 =>
  bnd (f_X1_spell y1 r4 y2 r6 s5) (fun _ s7 =>
  if zLw (zg s7 12 4).toNatClampNeg = true then
    bnd (f_X3_amount F ((zg s7 12 4).toNatClampNeg) (104 : Int32) (0 : Int32) (99 : Int32) s7) (fun r10 s9 =>
    some (r10, s9))
  else none)))))
set_option maxRecDepth 100000 in
set_option maxHeartbeats 4000000 in
theorem t_X1_harm (w : zWd) (F : Nat) (d : Nat) (hd : 3 ≤ d) (v1 : Int32) (v2 : Int32) (s : zM) : zMt w yX1_harm cX1_harm 5 (some .int) d zφN zφN zri [.ref (w.2.2.2 + 12), .int v1, .int v2] s (f_X1_harm F v1 v2 s) := by
  refine zMtN_of (own := RX1) rfl (by decide +kernel) (Nat.le_of_ble_eq_true rfl) cd_X1_harm [(0, .ref (w.2.2.2 + 12)), (1, .int v1), (2, .int v2)] rfl ?_
  rintro a rfl K
  unfold f_X1_harm
  refine z_iload_n K 1 rfl dX1_harm_0 ?_
  refine z_iload_n K 2 rfl dX1_harm_1 ?_
  refine z_min K jm_min_s jm_ini jm_min_c ml_X1_60 rfl (by omega) (Nat.le_of_ble_eq_true rfl) dX1_harm_2 ?_
  refine z_topi (fun y1 => ?_)
  refine z_istore_n K (lv' := [(3, .int y1), (0, .ref (a.1.2.2.2 + 12)), (1, .int v1), (2, .int v2)]) dX1_harm_5 rfl (Nat.le_of_ble_eq_true rfl) rfl ?_
  refine z_iload_n K 2 rfl dX1_harm_6 ?_
  refine z_iload_n K 3 rfl dX1_harm_7 ?_
  refine z_max K jm_max_s jm_ini jm_max_c ml_X1_66 rfl (by omega) (Nat.le_of_ble_eq_true rfl) dX1_harm_8 ?_
  refine z_topi (fun y2 => ?_)
  refine z_istore K (lv' := [(4, .int y2), (3, .int y1), (0, .ref (a.1.2.2.2 + 12)), (1, .int v1), (2, .int v2)]) dX1_harm_11 (Nat.le_of_ble_eq_true rfl) rfl ?_
  refine z_aload_n K 2 rfl dX1_harm_13 ?_
  refine z_iload_n K 1 rfl dX1_harm_14 ?_
  refine z_aload_n K 2 rfl dX1_harm_15 ?_
  refine z_getr K fd_X1_37 ob_12_0 dX1_harm_16 ?_
  refine z_iload_n K 1 rfl dX1_harm_19 ?_
  refine z_cVi (As := [.int y1]) (rest := [.int y1, .ref (a.1.2.2.2 + 12)]) K (t_X0_seatOf a.1 (d - 1) (by omega) y1 s) mf_X0_seatOf ml_X1_44 (Nat.le_of_ble_eq_true rfl) (by omega) rfl rc_3 rfl (Nat.le_of_ble_eq_true rfl) dX1_harm_20 (fun r4 s3 => ?_)
  refine z_iload K 0 rfl dX1_harm_23 ?_
  refine z_aload_n K 2 rfl dX1_harm_25 ?_
  refine z_getr K fd_X1_37 ob_12_0 dX1_harm_26 ?_
  refine z_iload K 0 rfl dX1_harm_29 ?_
  refine z_cVi (As := [.int y2]) (rest := [.int y2, .int r4, .int y1, .ref (a.1.2.2.2 + 12)]) K (t_X0_seatOf a.1 (d - 1) (by omega) y2 s3) mf_X0_seatOf ml_X1_44 (Nat.le_of_ble_eq_true rfl) (by omega) rfl rc_3 rfl (Nat.le_of_ble_eq_true rfl) dX1_harm_31 (fun r6 s5 => ?_)
  refine z_cVv (As := [.int y1, .int r4, .int y2, .int r6]) (rest := []) K (t_X1_spell a.1 (d - 1) (by omega) y1 r4 y2 r6 s5) mf_X1_spell ml_X1_48 (Nat.le_of_ble_eq_true rfl) (by omega) rfl rc_12 rfl (Nat.le_of_ble_eq_true rfl) dX1_harm_34 (fun _ s7 => ?_)
  refine z_aload_n K 2 rfl dX1_harm_37 ?_
  refine z_getm K fd_X1_29 ob_12_4 dX1_harm_38 ?_
  refine z_ite (fun hl8 => ?_) (fun _ => z_none)
  refine z_bipush K cb_104 dX1_harm_41 ?_
  refine z_aload_n K 2 rfl dX1_harm_43 ?_
  refine z_getr K fd_X1_13 ob_12_1 dX1_harm_44 ?_
  refine z_iconst K ci_0 dX1_harm_47 ?_
  refine z_bipush K cb_99 dX1_harm_48 ?_
  refine z_cVi (As := [.int (104 : Int32), .ref (a.1.2.2.2 + 13), .int (0 : Int32), .int (99 : Int32)]) (rest := []) K (t_X3_amount a.1 F (d - 1) (by omega) ((zg s7 12 4).toNatClampNeg) hl8 (104 : Int32) (0 : Int32) (99 : Int32) s7) mf_X3_amount ml_X1_56 (Nat.le_of_ble_eq_true rfl) (by omega) rfl (rcL hl8) rfl (Nat.le_of_ble_eq_true rfl) dX1_harm_50 (fun r10 s9 => ?_)
  exact z_iret K dX1_harm_53
def f_X1_quarrel_j57 (F : Nat) (v5 : Int32) (v6 : Int32) (v7 : Int32) (w0 : Int32) (s : zM) : Option (Int32 × zM) :=
  lt ((((2 : Int32) * (((w0 >>> ((1 : Int32) &&& 31)) - (v7 >>> ((1 : Int32) &&& 31))) + (2 : Int32))) + (w0 &&& (1 : Int32)))) (fun y5 =>
  lt ((((((v5 * ((31 : Int32) - v5)) / (2 : Int32)) + v6) - v5) - (1 : Int32))) (fun y6 =>
  lt (((((y6 * (40 : Int32)) + v7) * (10 : Int32)) + y5)) (fun y7 =>
  if y7 < 0 then
    some ((0 : Int32), s)
  else
    if y7 < (Int32.ofNat 48000) then
      if zin y7 48000 = true then
        if ((zg s 14 (y7).toNatClampNeg) >>> ((8 : Int32) &&& 31)) = (zg s 12 5) then
          if zin y7 48000 = true then
            some (((zg s 14 (y7).toNatClampNeg) &&& (255 : Int32)), s)
          else none
        else
          bnd (f_X1_spell v5 v7 v6 w0 s) (fun _ s8 =>
          if zLw (zg s8 12 4).toNatClampNeg = true then
            bnd (f_X3_amount F ((zg s8 12 4).toNatClampNeg) (104 : Int32) (0 : Int32) (99 : Int32) s8) (fun r11 s10 =>
            if zin y7 48000 = true then
              lt (zs s10 14 (y7).toNatClampNeg (((zg s8 12 5) <<< ((8 : Int32) &&& 31)) + r11)) (fun s12 =>
              if zin y7 48000 = true then
                some (((zg s12 14 (y7).toNatClampNeg) &&& (255 : Int32)), s12)
              else none)
            else none)
          else none)
      else none
    else
      some ((0 : Int32), s))))
set_option maxRecDepth 100000 in
set_option maxHeartbeats 4000000 in
theorem t_X1_quarrel_j57 {a : zA} {d : Nat} (F : Nat) (K : zOK a cX1_quarrel 12 RX1 (some .int) d) (hd : 3 ≤ d) (v5 : Int32) (v6 : Int32) (v7 : Int32) (w0 : Int32) (s : zM) : zJ a 12 (zG a zφN zri) zφN 57 [(0, .ref (a.1.2.2.2 + 12)), (5, .int v5), (6, .int v6), (7, .int v7)] [.int w0] s (f_X1_quarrel_j57 F v5 v6 v7 w0 s) := by
  unfold f_X1_quarrel_j57
  refine z_istore K (lv' := [(8, .int w0), (0, .ref (a.1.2.2.2 + 12)), (5, .int v5), (6, .int v6), (7, .int v7)]) dX1_quarrel_57 (Nat.le_of_ble_eq_true rfl) rfl ?_
  refine z_iconst K ci_2 dX1_quarrel_59 ?_
  refine z_iload K 0 rfl dX1_quarrel_60 ?_
  refine z_iconst K ci_1 dX1_quarrel_62 ?_
  refine z_ishr K dX1_quarrel_63 ?_
  refine z_iload K 4 rfl dX1_quarrel_64 ?_
  refine z_iconst K ci_1 dX1_quarrel_66 ?_
  refine z_ishr K dX1_quarrel_67 ?_
  refine z_isub K dX1_quarrel_68 ?_
  refine z_iconst K ci_2 dX1_quarrel_69 ?_
  refine z_iadd K dX1_quarrel_70 ?_
  refine z_imul K dX1_quarrel_71 ?_
  refine z_iload K 0 rfl dX1_quarrel_72 ?_
  refine z_iconst K ci_1 dX1_quarrel_74 ?_
  refine z_iand K dX1_quarrel_75 ?_
  refine z_iadd K dX1_quarrel_76 ?_
  refine z_topi (fun y5 => ?_)
  refine z_istore K (lv' := [(9, .int y5), (8, .int w0), (0, .ref (a.1.2.2.2 + 12)), (5, .int v5), (6, .int v6), (7, .int v7)]) dX1_quarrel_77 (Nat.le_of_ble_eq_true rfl) rfl ?_
  refine z_iload K 3 rfl dX1_quarrel_79 ?_
  refine z_bipush K cb_31 dX1_quarrel_81 ?_
  refine z_iload K 3 rfl dX1_quarrel_83 ?_
  refine z_isub K dX1_quarrel_85 ?_
  refine z_imul K dX1_quarrel_86 ?_
  refine z_iconst K ci_2 dX1_quarrel_87 ?_
  refine z_idivc K (by decide) dX1_quarrel_88 ?_
  refine z_iload K 4 rfl dX1_quarrel_89 ?_
  refine z_iadd K dX1_quarrel_91 ?_
  refine z_iload K 3 rfl dX1_quarrel_92 ?_
  refine z_isub K dX1_quarrel_94 ?_
  refine z_iconst K ci_1 dX1_quarrel_95 ?_
  refine z_isub K dX1_quarrel_96 ?_
  refine z_topi (fun y6 => ?_)
  refine z_istore K (lv' := [(10, .int y6), (9, .int y5), (8, .int w0), (0, .ref (a.1.2.2.2 + 12)), (5, .int v5), (6, .int v6), (7, .int v7)]) dX1_quarrel_97 (Nat.le_of_ble_eq_true rfl) rfl ?_
  refine z_iload K 0 rfl dX1_quarrel_99 ?_
  refine z_bipush K cb_40 dX1_quarrel_101 ?_
  refine z_imul K dX1_quarrel_103 ?_
  refine z_iload K 6 rfl dX1_quarrel_104 ?_
  refine z_iadd K dX1_quarrel_106 ?_
  refine z_bipush K cb_10 dX1_quarrel_107 ?_
  refine z_imul K dX1_quarrel_109 ?_
  refine z_iload K 1 rfl dX1_quarrel_110 ?_
  refine z_iadd K dX1_quarrel_112 ?_
  refine z_topi (fun y7 => ?_)
  refine z_istore K (lv' := [(11, .int y7), (10, .int y6), (9, .int y5), (8, .int w0), (0, .ref (a.1.2.2.2 + 12)), (5, .int v5), (6, .int v6), (7, .int v7)]) dX1_quarrel_113 (Nat.le_of_ble_eq_true rfl) rfl ?_
  refine z_iload K 0 rfl dX1_quarrel_115 ?_
  refine z_if_lt K (tgt := 130) dX1_quarrel_117 (by decide) ?_ ?_
  · refine z_iconst K ci_0 dX1_quarrel_130 ?_
    exact z_iret K dX1_quarrel_131
  · refine z_iload K 0 rfl dX1_quarrel_120 ?_
    refine z_aload_n K 4 rfl dX1_quarrel_122 ?_
    refine z_getr K fd_X1_20 ob_12_2 dX1_quarrel_123 ?_
    refine z_alen K ar_14 rfl dX1_quarrel_126 ?_
    refine z_icmp_lt K (tgt := 132) dX1_quarrel_127 (by decide) ?_ ?_
    · refine z_aload_n K 4 rfl dX1_quarrel_132 ?_
      refine z_getr K fd_X1_20 ob_12_2 dX1_quarrel_133 ?_
      refine z_iload K 0 rfl dX1_quarrel_136 ?_
      refine z_iald K ar_14 dX1_quarrel_138 ?_
      refine z_bipush K cb_8 dX1_quarrel_139 ?_
      refine z_ishr K dX1_quarrel_141 ?_
      refine z_aload_n K 4 rfl dX1_quarrel_142 ?_
      refine z_geti K fd_X1_33 ob_12_5 dX1_quarrel_143 ?_
      refine z_icmp_eq K (tgt := 192) dX1_quarrel_146 (by decide) ?_ ?_
      · refine z_aload_n K 4 rfl dX1_quarrel_192 ?_
        refine z_getr K fd_X1_20 ob_12_2 dX1_quarrel_193 ?_
        refine z_iload K 0 rfl dX1_quarrel_196 ?_
        refine z_iald K ar_14 dX1_quarrel_198 ?_
        refine z_sipush K cs_255 dX1_quarrel_199 ?_
        refine z_iand K dX1_quarrel_202 ?_
        exact z_iret K dX1_quarrel_203
      · refine z_aload_n K 4 rfl dX1_quarrel_149 ?_
        refine z_iload K 5 rfl dX1_quarrel_150 ?_
        refine z_iload K 7 rfl dX1_quarrel_152 ?_
        refine z_iload K 6 rfl dX1_quarrel_154 ?_
        refine z_iload K 3 rfl dX1_quarrel_156 ?_
        refine z_cVv (As := [.int v5, .int v7, .int v6, .int w0]) (rest := []) K (t_X1_spell a.1 (d - 1) (by omega) v5 v7 v6 w0 s) mf_X1_spell ml_X1_48 (Nat.le_of_ble_eq_true rfl) (by omega) rfl rc_12 rfl (Nat.le_of_ble_eq_true rfl) dX1_quarrel_158 (fun _ s8 => ?_)
        refine z_aload_n K 4 rfl dX1_quarrel_161 ?_
        refine z_getr K fd_X1_20 ob_12_2 dX1_quarrel_162 ?_
        refine z_iload K 0 rfl dX1_quarrel_165 ?_
        refine z_aload_n K 4 rfl dX1_quarrel_167 ?_
        refine z_geti K fd_X1_33 ob_12_5 dX1_quarrel_168 ?_
        refine z_bipush K cb_8 dX1_quarrel_171 ?_
        refine z_ishl K dX1_quarrel_173 ?_
        refine z_aload_n K 4 rfl dX1_quarrel_174 ?_
        refine z_getm K fd_X1_29 ob_12_4 dX1_quarrel_175 ?_
        refine z_ite (fun hl9 => ?_) (fun _ => z_none)
        refine z_bipush K cb_104 dX1_quarrel_178 ?_
        refine z_aload_n K 4 rfl dX1_quarrel_180 ?_
        refine z_getr K fd_X1_13 ob_12_1 dX1_quarrel_181 ?_
        refine z_iconst K ci_0 dX1_quarrel_184 ?_
        refine z_bipush K cb_99 dX1_quarrel_185 ?_
        refine z_cVi (As := [.int (104 : Int32), .ref (a.1.2.2.2 + 13), .int (0 : Int32), .int (99 : Int32)]) (rest := [.int ((zg s8 12 5) <<< ((8 : Int32) &&& 31)), .int y7, .ref (a.1.2.2.2 + 14)]) K (t_X3_amount a.1 F (d - 1) (by omega) ((zg s8 12 4).toNatClampNeg) hl9 (104 : Int32) (0 : Int32) (99 : Int32) s8) mf_X3_amount ml_X1_56 (Nat.le_of_ble_eq_true rfl) (by omega) rfl (rcL hl9) rfl (Nat.le_of_ble_eq_true rfl) dX1_quarrel_187 (fun r11 s10 => ?_)
        refine z_iadd K dX1_quarrel_190 ?_
        refine z_iast K ar_14 dX1_quarrel_191 ?_
        refine z_ltm (fun s12 => ?_)
        refine z_aload_n K 4 rfl dX1_quarrel_192 ?_
        refine z_getr K fd_X1_20 ob_12_2 dX1_quarrel_193 ?_
        refine z_iload K 0 rfl dX1_quarrel_196 ?_
        refine z_iald K ar_14 dX1_quarrel_198 ?_
        refine z_sipush K cs_255 dX1_quarrel_199 ?_
        refine z_iand K dX1_quarrel_202 ?_
        exact z_iret K dX1_quarrel_203
    · refine z_iconst K ci_0 dX1_quarrel_130 ?_
      exact z_iret K dX1_quarrel_131
def f_X1_quarrel_j43 (F : Nat) (v1 : Int32) (v2 : Int32) (v4 : Int32) (v5 : Int32) (v6 : Int32) (w0 : Int32) (s : zM) : Option (Int32 × zM) :=
  if v5 = v1 then
    f_X1_quarrel_j57 F v5 v6 w0 v4 s
  else
    f_X1_quarrel_j57 F v5 v6 w0 v2 s
set_option maxRecDepth 100000 in
set_option maxHeartbeats 4000000 in
theorem t_X1_quarrel_j43 {a : zA} {d : Nat} (F : Nat) (K : zOK a cX1_quarrel 12 RX1 (some .int) d) (hd : 3 ≤ d) (v1 : Int32) (v2 : Int32) (v4 : Int32) (v5 : Int32) (v6 : Int32) (w0 : Int32) (s : zM) : zJ a 12 (zG a zφN zri) zφN 43 [(0, .ref (a.1.2.2.2 + 12)), (1, .int v1), (2, .int v2), (4, .int v4), (5, .int v5), (6, .int v6)] [.int w0] s (f_X1_quarrel_j43 F v1 v2 v4 v5 v6 w0 s) := by
  unfold f_X1_quarrel_j43
  refine z_istore K (lv' := [(7, .int w0), (0, .ref (a.1.2.2.2 + 12)), (1, .int v1), (2, .int v2), (4, .int v4), (5, .int v5), (6, .int v6)]) dX1_quarrel_43 (Nat.le_of_ble_eq_true rfl) rfl ?_
  refine z_iload K 5 rfl dX1_quarrel_45 ?_
  refine z_iload_n K 2 rfl dX1_quarrel_47 ?_
  refine z_icmp_ne K (tgt := 56) dX1_quarrel_48 (by decide) ?_ ?_
  · refine z_iload_n K 3 rfl dX1_quarrel_56 ?_
    refine z_sub [1, 5, 6, 0] rfl ?_
    exact t_X1_quarrel_j57 F K hd v5 v6 w0 v2 s
  · refine z_iload K 4 rfl dX1_quarrel_51 ?_
    refine z_goto K (tgt := 57) dX1_quarrel_53 (by decide) ?_
    refine z_sub [1, 5, 6, 0] rfl ?_
    exact t_X1_quarrel_j57 F K hd v5 v6 w0 v4 s
def f_X1_quarrel (F : Nat) (v1 : Int32) (v2 : Int32) (v3 : Int32) (v4 : Int32) (s : zM) : Option (Int32 × zM) :=
  if v1 = v3 then
    some ((0 : Int32), s)
  else
    bnd (f_X8_apart v2 v4 s) (fun r2 s1 =>
    if (2 : Int32) < r2 then
      some ((0 : Int32), s1)
    else
      lt ((if v3 < v1 then v3 else v1)) (fun y3 =>
      lt ((if v1 < v3 then v3 else v1)) (fun y4 =>
      if y3 = v1 then
        f_X1_quarrel_j43 F v1 v2 v4 y3 y4 v2 s1
      else
        f_X1_quarrel_j43 F v1 v2 v4 y3 y4 v4 s1)))
set_option maxRecDepth 100000 in
set_option maxHeartbeats 4000000 in
theorem t_X1_quarrel (w : zWd) (F : Nat) (d : Nat) (hd : 3 ≤ d) (v1 : Int32) (v2 : Int32) (v3 : Int32) (v4 : Int32) (s : zM) : zMt w yX1_quarrel cX1_quarrel 12 (some .int) d zφN zφN zri [.ref (w.2.2.2 + 12), .int v1, .int v2, .int v3, .int v4] s (f_X1_quarrel F v1 v2 v3 v4 s) := by
  refine zMtN_of (own := RX1) rfl (by decide +kernel) (Nat.le_of_ble_eq_true rfl) cd_X1_quarrel [(0, .ref (w.2.2.2 + 12)), (1, .int v1), (2, .int v2), (3, .int v3), (4, .int v4)] rfl ?_
  rintro a rfl K
  unfold f_X1_quarrel
  refine z_iload_n K 1 rfl dX1_quarrel_0 ?_
  refine z_iload_n K 3 rfl dX1_quarrel_1 ?_
  refine z_icmp_eq K (tgt := 15) dX1_quarrel_2 (by decide) ?_ ?_
  · refine z_iconst K ci_0 dX1_quarrel_15 ?_
    exact z_iret K dX1_quarrel_16
  · refine z_iload_n K 2 rfl dX1_quarrel_5 ?_
    refine z_iload K 4 rfl dX1_quarrel_6 ?_
    refine z_cSi (As := [.int v2, .int v4]) (rest := []) K (t_X8_apart a.1 (d - 1) (by omega) v2 v4 s) mf_X8_apart ml_X1_69 (Nat.le_of_ble_eq_true rfl) (by omega) rfl rfl (Nat.le_of_ble_eq_true rfl) dX1_quarrel_8 (fun r2 s1 => ?_)
    refine z_iconst K ci_2 dX1_quarrel_11 ?_
    refine z_icmp_le K (tgt := 17) dX1_quarrel_12 (by decide) ?_ ?_
    · refine z_iload_n K 1 rfl dX1_quarrel_17 ?_
      refine z_iload_n K 3 rfl dX1_quarrel_18 ?_
      refine z_min K jm_min_s jm_ini jm_min_c ml_X1_60 rfl (by omega) (Nat.le_of_ble_eq_true rfl) dX1_quarrel_19 ?_
      refine z_topi (fun y3 => ?_)
      refine z_istore K (lv' := [(5, .int y3), (0, .ref (a.1.2.2.2 + 12)), (1, .int v1), (2, .int v2), (3, .int v3), (4, .int v4)]) dX1_quarrel_22 (Nat.le_of_ble_eq_true rfl) rfl ?_
      refine z_iload_n K 2 rfl dX1_quarrel_24 ?_
      refine z_iload_n K 4 rfl dX1_quarrel_25 ?_
      refine z_max K jm_max_s jm_ini jm_max_c ml_X1_66 rfl (by omega) (Nat.le_of_ble_eq_true rfl) dX1_quarrel_26 ?_
      refine z_topi (fun y4 => ?_)
      refine z_istore K (lv' := [(6, .int y4), (5, .int y3), (0, .ref (a.1.2.2.2 + 12)), (1, .int v1), (2, .int v2), (3, .int v3), (4, .int v4)]) dX1_quarrel_29 (Nat.le_of_ble_eq_true rfl) rfl ?_
      refine z_iload K 1 rfl dX1_quarrel_31 ?_
      refine z_iload_n K 3 rfl dX1_quarrel_33 ?_
      refine z_icmp_ne K (tgt := 41) dX1_quarrel_34 (by decide) ?_ ?_
      · refine z_iload K 6 rfl dX1_quarrel_41 ?_
        refine z_sub [2, 3, 4, 6, 1, 0] rfl ?_
        exact t_X1_quarrel_j43 F K hd v1 v2 v4 y3 y4 v4 s1
      · refine z_iload_n K 4 rfl dX1_quarrel_37 ?_
        refine z_goto K (tgt := 43) dX1_quarrel_38 (by decide) ?_
        refine z_sub [2, 3, 4, 6, 1, 0] rfl ?_
        exact t_X1_quarrel_j43 F K hd v1 v2 v4 y3 y4 v2 s1
    · refine z_iconst K ci_0 dX1_quarrel_15 ?_
      exact z_iret K dX1_quarrel_16
def f_X1_spellAlone_L2 (F : Nat) (k21 : zM → Option (Unit × zM)) (v1 : Int32) (v2 : Int32) : Nat → Int32 → zM → Option (Unit × zM)
  | 0, _, _ => none
  | n + 1, v3, s =>
    if v3 < (10 : Int32) then
      if zin v3 10 = true then
        lt (zs s 13 (v3).toNatClampNeg (0 : Int32)) (fun s1 =>
        lt (v3 + (1 : Int32)) (fun y2 =>
        f_X1_spellAlone_L2 F k21 v1 v2 n y2 s1))
      else none
    else
      k21 s
set_option maxRecDepth 100000 in
set_option maxHeartbeats 4000000 in
theorem t_X1_spellAlone_L2 {a : zA} {d : Nat} (F : Nat) (K : zOK a cX1_spellAlone 4 RX1 none d) (hd : 2 ≤ d) {k21 : zM → Option (Unit × zM)} (v1 : Int32) (v2 : Int32) (h21 : ∀ (s : zM), zJ a 4 (zG a zφN zrv) zφN 21 [(0, .ref (a.1.2.2.2 + 12)), (1, .int v1), (2, .int v2)] [] s (k21 s)) : ∀ (n : Nat) (v3 : Int32) (s : zM), zJ a 4 (zG a zφN zrv) zφN 2 [(0, .ref (a.1.2.2.2 + 12)), (1, .int v1), (2, .int v2), (3, .int v3)] [] s (f_X1_spellAlone_L2 F k21 v1 v2 n v3 s) := by
  intro n
  induction n with
  | zero => intros; exact z_none
  | succ n ih =>
    intro v3 s
    rw [f_X1_spellAlone_L2]
    refine z_iload_n K 3 rfl dX1_spellAlone_2 ?_
    refine z_bipush K cb_10 dX1_spellAlone_3 ?_
    refine z_icmp_ge K (tgt := 21) dX1_spellAlone_5 (by decide) ?_ ?_
    · refine z_sub [0, 1, 2] rfl ?_
      exact h21 s
    · refine z_aload_n K 0 rfl dX1_spellAlone_8 ?_
      refine z_getr K fd_X1_13 ob_12_1 dX1_spellAlone_9 ?_
      refine z_iload_n K 3 rfl dX1_spellAlone_12 ?_
      refine z_iconst K ci_0 dX1_spellAlone_13 ?_
      refine z_iast K ar_13 dX1_spellAlone_14 ?_
      refine z_ltm (fun s1 => ?_)
      refine z_iincN K (j := 3) (lv' := [(0, .ref (a.1.2.2.2 + 12)), (1, .int v1), (2, .int v2)]) ci_1 rfl dX1_spellAlone_15 (Nat.le_of_ble_eq_true rfl) rfl (fun y2 => ?_)
      refine z_goto K (tgt := 2) dX1_spellAlone_18 (by decide) ?_
      refine z_sub [1, 2, 3, 0] rfl ?_
      exact ih y2 s1
def f_X1_spellAlone (F : Nat) (v1 : Int32) (v2 : Int32) (s : zM) : Option (Unit × zM) :=
  f_X1_spellAlone_L2 F (fun s3 =>
    if zin (0 : Int32) 10 = true then
      lt (zs s3 13 ((0 : Int32)).toNatClampNeg v1) (fun s4 =>
      bnd (f_X0_landOf v1 s4) (fun r6 s5 =>
      if zin (2 : Int32) 10 = true then
        lt (zs s5 13 ((2 : Int32)).toNatClampNeg r6) (fun s7 =>
        if zin (4 : Int32) 10 = true then
          lt (zs s7 13 ((4 : Int32)).toNatClampNeg v2) (fun s8 =>
          some ((), s8))
        else none)
      else none))
    else none) v1 v2 F (0 : Int32) s
set_option maxRecDepth 100000 in
set_option maxHeartbeats 4000000 in
theorem t_X1_spellAlone (w : zWd) (F : Nat) (d : Nat) (hd : 2 ≤ d) (v1 : Int32) (v2 : Int32) (s : zM) : zMt w yX1_spellAlone cX1_spellAlone 4 none d zφN zφN zrv [.ref (w.2.2.2 + 12), .int v1, .int v2] s (f_X1_spellAlone F v1 v2 s) := by
  refine zMtN_of (own := RX1) rfl (by decide +kernel) (Nat.le_of_ble_eq_true rfl) cd_X1_spellAlone [(0, .ref (w.2.2.2 + 12)), (1, .int v1), (2, .int v2)] rfl ?_
  rintro a rfl K
  unfold f_X1_spellAlone
  refine z_iconst K ci_0 dX1_spellAlone_0 ?_
  refine z_istore_n K (lv' := [(3, .int (0 : Int32)), (0, .ref (a.1.2.2.2 + 12)), (1, .int v1), (2, .int v2)]) dX1_spellAlone_1 rfl (Nat.le_of_ble_eq_true rfl) rfl ?_
  refine z_sub [1, 2, 3, 0] rfl ?_
  refine t_X1_spellAlone_L2 F K hd v1 v2 (fun s3 => ?_) F (0 : Int32) s
  refine z_aload_n K 0 rfl dX1_spellAlone_21 ?_
  refine z_getr K fd_X1_13 ob_12_1 dX1_spellAlone_22 ?_
  refine z_iconst K ci_0 dX1_spellAlone_25 ?_
  refine z_iload_n K 1 rfl dX1_spellAlone_26 ?_
  refine z_iast K ar_13 dX1_spellAlone_27 ?_
  refine z_ltm (fun s4 => ?_)
  refine z_aload_n K 0 rfl dX1_spellAlone_28 ?_
  refine z_getr K fd_X1_13 ob_12_1 dX1_spellAlone_29 ?_
  refine z_iconst K ci_2 dX1_spellAlone_32 ?_
  refine z_aload_n K 0 rfl dX1_spellAlone_33 ?_
  refine z_getr K fd_X1_37 ob_12_0 dX1_spellAlone_34 ?_
  refine z_iload_n K 1 rfl dX1_spellAlone_37 ?_
  refine z_cVi (As := [.int v1]) (rest := [.int (2 : Int32), .ref (a.1.2.2.2 + 13)]) K (t_X0_landOf a.1 (d - 1) (by omega) v1 s4) mf_X0_landOf ml_X1_76 (Nat.le_of_ble_eq_true rfl) (by omega) rfl rc_3 rfl (Nat.le_of_ble_eq_true rfl) dX1_spellAlone_38 (fun r6 s5 => ?_)
  refine z_iast K ar_13 dX1_spellAlone_41 ?_
  refine z_ltm (fun s7 => ?_)
  refine z_aload_n K 0 rfl dX1_spellAlone_42 ?_
  refine z_getr K fd_X1_13 ob_12_1 dX1_spellAlone_43 ?_
  refine z_iconst K ci_4 dX1_spellAlone_46 ?_
  refine z_iload_n K 2 rfl dX1_spellAlone_47 ?_
  refine z_iast K ar_13 dX1_spellAlone_48 ?_
  refine z_ltm (fun s8 => ?_)
  exact z_vret K dX1_spellAlone_49
def f_X1_value (F : Nat) (v1 : Int32) (v2 : Int32) (s : zM) : Option (Int32 × zM) :=
  lt (((v1 * (40 : Int32)) + v2)) (fun y1 =>
  if y1 < 0 then
    some ((0 : Int32), s)
  else
    if y1 < (Int32.ofNat 640) then
      if zin y1 640 = true then
        if ((zg s 15 (y1).toNatClampNeg) >>> ((8 : Int32) &&& 31)) = (zg s 12 5) then
          if zin y1 640 = true then
            some ((((zg s 15 (y1).toNatClampNeg) &&& (255 : Int32)) - (99 : Int32)), s)
          else none
        else
          bnd (f_X1_spellAlone F v1 v2 s) (fun _ s2 =>
          if zLw (zg s2 12 4).toNatClampNeg = true then
            bnd (f_X3_amount F ((zg s2 12 4).toNatClampNeg) (119 : Int32) (-99 : Int32) (99 : Int32) s2) (fun r5 s4 =>
            if zin y1 640 = true then
              lt (zs s4 15 (y1).toNatClampNeg ((((zg s2 12 5) <<< ((8 : Int32) &&& 31)) + r5) + (99 : Int32))) (fun s6 =>
              if zin y1 640 = true then
                some ((((zg s6 15 (y1).toNatClampNeg) &&& (255 : Int32)) - (99 : Int32)), s6)
              else none)
            else none)
          else none)
      else none
    else
      some ((0 : Int32), s))
set_option maxRecDepth 100000 in
set_option maxHeartbeats 4000000 in
theorem t_X1_value (w : zWd) (F : Nat) (d : Nat) (hd : 3 ≤ d) (v1 : Int32) (v2 : Int32) (s : zM) : zMt w yX1_value cX1_value 4 (some .int) d zφN zφN zri [.ref (w.2.2.2 + 12), .int v1, .int v2] s (f_X1_value F v1 v2 s) := by
  refine zMtN_of (own := RX1) rfl (by decide +kernel) (Nat.le_of_ble_eq_true rfl) cd_X1_value [(0, .ref (w.2.2.2 + 12)), (1, .int v1), (2, .int v2)] rfl ?_
  rintro a rfl K
  unfold f_X1_value
  refine z_iload_n K 1 rfl dX1_value_0 ?_
  refine z_bipush K cb_40 dX1_value_1 ?_
  refine z_imul K dX1_value_3 ?_
  refine z_iload_n K 2 rfl dX1_value_4 ?_
  refine z_iadd K dX1_value_5 ?_
  refine z_topi (fun y1 => ?_)
  refine z_istore_n K (lv' := [(3, .int y1), (0, .ref (a.1.2.2.2 + 12)), (1, .int v1), (2, .int v2)]) dX1_value_6 rfl (Nat.le_of_ble_eq_true rfl) rfl ?_
  refine z_iload_n K 0 rfl dX1_value_7 ?_
  refine z_if_lt K (tgt := 20) dX1_value_8 (by decide) ?_ ?_
  · refine z_iconst K ci_0 dX1_value_20 ?_
    exact z_iret K dX1_value_21
  · refine z_iload_n K 0 rfl dX1_value_11 ?_
    refine z_aload_n K 1 rfl dX1_value_12 ?_
    refine z_getr K fd_X1_23 ob_12_3 dX1_value_13 ?_
    refine z_alen K ar_15 rfl dX1_value_16 ?_
    refine z_icmp_lt K (tgt := 22) dX1_value_17 (by decide) ?_ ?_
    · refine z_aload_n K 1 rfl dX1_value_22 ?_
      refine z_getr K fd_X1_23 ob_12_3 dX1_value_23 ?_
      refine z_iload_n K 0 rfl dX1_value_26 ?_
      refine z_iald K ar_15 dX1_value_27 ?_
      refine z_bipush K cb_8 dX1_value_28 ?_
      refine z_ishr K dX1_value_30 ?_
      refine z_aload_n K 1 rfl dX1_value_31 ?_
      refine z_geti K fd_X1_33 ob_12_5 dX1_value_32 ?_
      refine z_icmp_eq K (tgt := 78) dX1_value_35 (by decide) ?_ ?_
      · refine z_aload_n K 1 rfl dX1_value_78 ?_
        refine z_getr K fd_X1_23 ob_12_3 dX1_value_79 ?_
        refine z_iload_n K 0 rfl dX1_value_82 ?_
        refine z_iald K ar_15 dX1_value_83 ?_
        refine z_sipush K cs_255 dX1_value_84 ?_
        refine z_iand K dX1_value_87 ?_
        refine z_bipush K cb_99 dX1_value_88 ?_
        refine z_isub K dX1_value_90 ?_
        exact z_iret K dX1_value_91
      · refine z_aload_n K 1 rfl dX1_value_38 ?_
        refine z_iload_n K 2 rfl dX1_value_39 ?_
        refine z_iload_n K 3 rfl dX1_value_40 ?_
        refine z_cVv (As := [.int v1, .int v2]) (rest := []) K (t_X1_spellAlone a.1 F (d - 1) (by omega) v1 v2 s) mf_X1_spellAlone ml_X1_72 (Nat.le_of_ble_eq_true rfl) (by omega) rfl rc_12 rfl (Nat.le_of_ble_eq_true rfl) dX1_value_41 (fun _ s2 => ?_)
        refine z_aload_n K 1 rfl dX1_value_44 ?_
        refine z_getr K fd_X1_23 ob_12_3 dX1_value_45 ?_
        refine z_iload_n K 0 rfl dX1_value_48 ?_
        refine z_aload_n K 1 rfl dX1_value_49 ?_
        refine z_geti K fd_X1_33 ob_12_5 dX1_value_50 ?_
        refine z_bipush K cb_8 dX1_value_53 ?_
        refine z_ishl K dX1_value_55 ?_
        refine z_aload_n K 1 rfl dX1_value_56 ?_
        refine z_getm K fd_X1_29 ob_12_4 dX1_value_57 ?_
        refine z_ite (fun hl3 => ?_) (fun _ => z_none)
        refine z_bipush K cb_119 dX1_value_60 ?_
        refine z_aload_n K 1 rfl dX1_value_62 ?_
        refine z_getr K fd_X1_13 ob_12_1 dX1_value_63 ?_
        refine z_bipush K cb_m99 dX1_value_66 ?_
        refine z_bipush K cb_99 dX1_value_68 ?_
        refine z_cVi (As := [.int (119 : Int32), .ref (a.1.2.2.2 + 13), .int (-99 : Int32), .int (99 : Int32)]) (rest := [.int ((zg s2 12 5) <<< ((8 : Int32) &&& 31)), .int y1, .ref (a.1.2.2.2 + 15)]) K (t_X3_amount a.1 F (d - 1) (by omega) ((zg s2 12 4).toNatClampNeg) hl3 (119 : Int32) (-99 : Int32) (99 : Int32) s2) mf_X3_amount ml_X1_56 (Nat.le_of_ble_eq_true rfl) (by omega) rfl (rcL hl3) rfl (Nat.le_of_ble_eq_true rfl) dX1_value_70 (fun r5 s4 => ?_)
        refine z_iadd K dX1_value_73 ?_
        refine z_bipush K cb_99 dX1_value_74 ?_
        refine z_iadd K dX1_value_76 ?_
        refine z_iast K ar_15 dX1_value_77 ?_
        refine z_ltm (fun s6 => ?_)
        refine z_aload_n K 1 rfl dX1_value_78 ?_
        refine z_getr K fd_X1_23 ob_12_3 dX1_value_79 ?_
        refine z_iload_n K 0 rfl dX1_value_82 ?_
        refine z_iald K ar_15 dX1_value_83 ?_
        refine z_sipush K cs_255 dX1_value_84 ?_
        refine z_iand K dX1_value_87 ?_
        refine z_bipush K cb_99 dX1_value_88 ?_
        refine z_isub K dX1_value_90 ?_
        exact z_iret K dX1_value_91
    · refine z_iconst K ci_0 dX1_value_20 ?_
      exact z_iret K dX1_value_21
def f_X4_handOut (j : Nat) (s : zM) : Option (Nat × zM) :=
  if zLw (zg s 24 1).toNatClampNeg = true then
    lt (zs s 24 1 (nI j)) (fun s2 =>
    some (((zg s 24 1).toNatClampNeg), s2))
  else none
set_option maxRecDepth 100000 in
set_option maxHeartbeats 4000000 in
theorem t_X4_handOut (w : zWd) (d : Nat) (hd : 0 ≤ d) (j : Nat) (hj : zLw j = true) (s : zM) : zMt w yX4_handOut cX4_handOut 3 (some (.object "BorderTable$Law")) d zφN zφN (zrr w.2.2.2) [.ref (w.2.2.2 + 24), .ref (w.2.2.2 + j)] s (f_X4_handOut j s) := by
  refine zMtN_of (own := RX4) rfl (by decide +kernel) (Nat.le_of_ble_eq_true rfl) cd_X4_handOut [(0, .ref (w.2.2.2 + 24)), (1, .ref (w.2.2.2 + j))] rfl ?_
  rintro a rfl K
  unfold f_X4_handOut
  refine z_aload_n K 0 rfl dX4_handOut_0 ?_
  refine z_getm K fd_X4_12 ob_24_1 dX4_handOut_1 ?_
  refine z_ite (fun hl1 => ?_) (fun _ => z_none)
  refine z_astore_n K (lv' := [(2, .ref (a.1.2.2.2 + ((zg s 24 1).toNatClampNeg))), (0, .ref (a.1.2.2.2 + 24)), (1, .ref (a.1.2.2.2 + j))]) dX4_handOut_4 rfl (Nat.le_of_ble_eq_true rfl) rfl ?_
  refine z_aload_n K 1 rfl dX4_handOut_5 ?_
  refine z_aload_n K 2 rfl dX4_handOut_6 ?_
  refine z_putm K (zLw_lt hj) fw_X4_12 ob_24_1 dX4_handOut_7 ?_
  refine z_ltm (fun s2 => ?_)
  refine z_aload_n K 0 rfl dX4_handOut_10 ?_
  exact z_aret K dX4_handOut_11
def f_X4_peek (s : zM) : Option (Int32 × zM) :=
  if (zg s 24 2) < (zg s 24 3) then
    bnd (f_X10_byteAt (zg s 24 2) s) (fun r2 s1 =>
    some (r2, s1))
  else
    some ((-1 : Int32), s)
set_option maxRecDepth 100000 in
set_option maxHeartbeats 4000000 in
theorem t_X4_peek (w : zWd) (d : Nat) (hd : 1 ≤ d) (s : zM) : zMt w yX4_peek cX4_peek 1 (some .int) d zφN zφN zri [.ref (w.2.2.2 + 24)] s (f_X4_peek s) := by
  refine zMtN_of (own := RX4) rfl (by decide +kernel) (Nat.le_of_ble_eq_true rfl) cd_X4_peek [(0, .ref (w.2.2.2 + 24))] rfl ?_
  rintro a rfl K
  unfold f_X4_peek
  refine z_aload_n K 0 rfl dX4_peek_0 ?_
  refine z_geti K fd_X4_22 ob_24_2 dX4_peek_1 ?_
  refine z_aload_n K 0 rfl dX4_peek_4 ?_
  refine z_geti K fd_X4_26 ob_24_3 dX4_peek_5 ?_
  refine z_icmp_ge K (tgt := 25) dX4_peek_8 (by decide) ?_ ?_
  · refine z_iconst K ci_m1 dX4_peek_25 ?_
    exact z_iret K dX4_peek_26
  · refine z_aload_n K 0 rfl dX4_peek_11 ?_
    refine z_getr K fd_X4_18 ob_24_0 dX4_peek_12 ?_
    refine z_aload_n K 0 rfl dX4_peek_15 ?_
    refine z_geti K fd_X4_22 ob_24_2 dX4_peek_16 ?_
    refine z_cVi (As := [.int (zg s 24 2)]) (rest := []) K (t_X10_byteAt a.1 (d - 1) (by omega) (zg s 24 2) s) mf_X10_byteAt ml_X4_112 (Nat.le_of_ble_eq_true rfl) (by omega) rfl rc_1 rfl (Nat.le_of_ble_eq_true rfl) dX4_peek_19 (fun r2 s1 => ?_)
    refine z_goto K (tgt := 26) dX4_peek_22 (by decide) ?_
    exact z_iret K dX4_peek_26
def f_X4_fail (v1 : Int32) (s : zM) : Option (Int32 × zM) :=
  lt (zs s 24 4 (((-1000 : Int32) * v1) - (zg s 24 2))) (fun s1 =>
  some ((0 : Int32), s1))
set_option maxRecDepth 100000 in
set_option maxHeartbeats 4000000 in
theorem t_X4_fail (w : zWd) (d : Nat) (hd : 0 ≤ d) (v1 : Int32) (s : zM) : zMt w yX4_fail cX4_fail 2 (some .boolean) d zφN zφN zri [.ref (w.2.2.2 + 24), .int v1] s (f_X4_fail v1 s) := by
  refine zMtN_of (own := RX4) rfl (by decide +kernel) (Nat.le_of_ble_eq_true rfl) cd_X4_fail [(0, .ref (w.2.2.2 + 24)), (1, .int v1)] rfl ?_
  rintro a rfl K
  unfold f_X4_fail
  refine z_aload_n K 0 rfl dX4_fail_0 ?_
  refine z_sipush K cs_m1000 dX4_fail_1 ?_
  refine z_iload_n K 1 rfl dX4_fail_4 ?_
  refine z_imul K dX4_fail_5 ?_
  refine z_aload_n K 0 rfl dX4_fail_6 ?_
  refine z_geti K fd_X4_22 ob_24_2 dX4_fail_7 ?_
  refine z_isub K dX4_fail_10 ?_
  refine z_puti K fw_X4_29 ob_24_4 dX4_fail_11 ?_
  refine z_ltm (fun s1 => ?_)
  refine z_iconst K ci_0 dX4_fail_14 ?_
  exact z_zret (Or.inl rfl) K dX4_fail_15
def f_X4_isPlus (v0 : Int32) (s : zM) : Option (Int32 × zM) :=
  if v0 = (43 : Int32) then
    some ((1 : Int32), s)
  else
    if v0 = (45 : Int32) then
      some ((1 : Int32), s)
    else
      some ((0 : Int32), s)
set_option maxRecDepth 100000 in
set_option maxHeartbeats 4000000 in
theorem t_X4_isPlus (w : zWd) (d : Nat) (hd : 0 ≤ d) (v0 : Int32) (s : zM) : zMt w yX4_isPlus cX4_isPlus 1 (some .boolean) d zφN zφN zri [.int v0] s (f_X4_isPlus v0 s) := by
  refine zMtN_of (own := RX4) rfl (by decide +kernel) (Nat.le_of_ble_eq_true rfl) cd_X4_isPlus [(0, .int v0)] rfl ?_
  rintro a rfl K
  unfold f_X4_isPlus
  refine z_iload_n K 0 rfl dX4_isPlus_0 ?_
  refine z_bipush K cb_43 dX4_isPlus_1 ?_
  refine z_icmp_eq K (tgt := 12) dX4_isPlus_3 (by decide) ?_ ?_
  · refine z_iconst K ci_1 dX4_isPlus_12 ?_
    refine z_goto K (tgt := 17) dX4_isPlus_13 (by decide) ?_
    exact z_zret (Or.inr rfl) K dX4_isPlus_17
  · refine z_iload_n K 0 rfl dX4_isPlus_6 ?_
    refine z_bipush K cb_45 dX4_isPlus_7 ?_
    refine z_icmp_ne K (tgt := 16) dX4_isPlus_9 (by decide) ?_ ?_
    · refine z_iconst K ci_0 dX4_isPlus_16 ?_
      exact z_zret (Or.inl rfl) K dX4_isPlus_17
    · refine z_iconst K ci_1 dX4_isPlus_12 ?_
      refine z_goto K (tgt := 17) dX4_isPlus_13 (by decide) ?_
      exact z_zret (Or.inr rfl) K dX4_isPlus_17
def f_X4_isTimes (v0 : Int32) (s : zM) : Option (Int32 × zM) :=
  if v0 = (42 : Int32) then
    some ((1 : Int32), s)
  else
    if v0 = (47 : Int32) then
      some ((1 : Int32), s)
    else
      if v0 = (37 : Int32) then
        some ((1 : Int32), s)
      else
        some ((0 : Int32), s)
set_option maxRecDepth 100000 in
set_option maxHeartbeats 4000000 in
theorem t_X4_isTimes (w : zWd) (d : Nat) (hd : 0 ≤ d) (v0 : Int32) (s : zM) : zMt w yX4_isTimes cX4_isTimes 1 (some .boolean) d zφN zφN zri [.int v0] s (f_X4_isTimes v0 s) := by
  refine zMtN_of (own := RX4) rfl (by decide +kernel) (Nat.le_of_ble_eq_true rfl) cd_X4_isTimes [(0, .int v0)] rfl ?_
  rintro a rfl K
  unfold f_X4_isTimes
  refine z_iload_n K 0 rfl dX4_isTimes_0 ?_
  refine z_bipush K cb_42 dX4_isTimes_1 ?_
  refine z_icmp_eq K (tgt := 18) dX4_isTimes_3 (by decide) ?_ ?_
  · refine z_iconst K ci_1 dX4_isTimes_18 ?_
    refine z_goto K (tgt := 23) dX4_isTimes_19 (by decide) ?_
    exact z_zret (Or.inr rfl) K dX4_isTimes_23
  · refine z_iload_n K 0 rfl dX4_isTimes_6 ?_
    refine z_bipush K cb_47 dX4_isTimes_7 ?_
    refine z_icmp_eq K (tgt := 18) dX4_isTimes_9 (by decide) ?_ ?_
    · refine z_iconst K ci_1 dX4_isTimes_18 ?_
      refine z_goto K (tgt := 23) dX4_isTimes_19 (by decide) ?_
      exact z_zret (Or.inr rfl) K dX4_isTimes_23
    · refine z_iload_n K 0 rfl dX4_isTimes_12 ?_
      refine z_bipush K cb_37 dX4_isTimes_13 ?_
      refine z_icmp_ne K (tgt := 22) dX4_isTimes_15 (by decide) ?_ ?_
      · refine z_iconst K ci_0 dX4_isTimes_22 ?_
        exact z_zret (Or.inl rfl) K dX4_isTimes_23
      · refine z_iconst K ci_1 dX4_isTimes_18 ?_
        refine z_goto K (tgt := 23) dX4_isTimes_19 (by decide) ?_
        exact z_zret (Or.inr rfl) K dX4_isTimes_23
def f_X4_isDigit (v0 : Int32) (s : zM) : Option (Int32 × zM) :=
  if v0 < (48 : Int32) then
    some ((0 : Int32), s)
  else
    if (57 : Int32) < v0 then
      some ((0 : Int32), s)
    else
      some ((1 : Int32), s)
set_option maxRecDepth 100000 in
set_option maxHeartbeats 4000000 in
theorem t_X4_isDigit (w : zWd) (d : Nat) (hd : 0 ≤ d) (v0 : Int32) (s : zM) : zMt w yX4_isDigit cX4_isDigit 1 (some .boolean) d zφN zφN zri [.int v0] s (f_X4_isDigit v0 s) := by
  refine zMtN_of (own := RX4) rfl (by decide +kernel) (Nat.le_of_ble_eq_true rfl) cd_X4_isDigit [(0, .int v0)] rfl ?_
  rintro a rfl K
  unfold f_X4_isDigit
  refine z_iload_n K 0 rfl dX4_isDigit_0 ?_
  refine z_bipush K cb_48 dX4_isDigit_1 ?_
  refine z_icmp_lt K (tgt := 16) dX4_isDigit_3 (by decide) ?_ ?_
  · refine z_iconst K ci_0 dX4_isDigit_16 ?_
    exact z_zret (Or.inl rfl) K dX4_isDigit_17
  · refine z_iload_n K 0 rfl dX4_isDigit_6 ?_
    refine z_bipush K cb_57 dX4_isDigit_7 ?_
    refine z_icmp_gt K (tgt := 16) dX4_isDigit_9 (by decide) ?_ ?_
    · refine z_iconst K ci_0 dX4_isDigit_16 ?_
      exact z_zret (Or.inl rfl) K dX4_isDigit_17
    · refine z_iconst K ci_1 dX4_isDigit_12 ?_
      refine z_goto K (tgt := 17) dX4_isDigit_13 (by decide) ?_
      exact z_zret (Or.inr rfl) K dX4_isDigit_17
def f_X4_readNumber_L4 (F : Nat) (k48 : Int32 → zM → Option (Int32 × zM)) : Nat → Int32 → Int32 → zM → Option (Int32 × zM)
  | 0, _, _, _ => none
  | n + 1, v1, v2, s =>
    if v2 < (5 : Int32) then
      bnd (f_X4_peek s) (fun r2 s1 =>
      bnd (f_X4_isDigit r2 s1) (fun r4 s3 =>
      if r4 = 0 then
        k48 v1 s3
      else
        bnd (f_X4_peek s3) (fun r6 s5 =>
        lt (((((10 : Int32) * v1) + r6) - (48 : Int32))) (fun y7 =>
        lt (zs s5 24 2 ((zg s5 24 2) + (1 : Int32))) (fun s8 =>
        lt (v2 + (1 : Int32)) (fun y9 =>
        f_X4_readNumber_L4 F k48 n y7 y9 s8))))))
    else
      k48 v1 s
set_option maxRecDepth 100000 in
set_option maxHeartbeats 4000000 in
theorem t_X4_readNumber_L4 {a : zA} {d : Nat} (F : Nat) (K : zOK a cX4_readNumber 3 RX4 (some .boolean) d) (hd : 2 ≤ d) {k48 : Int32 → zM → Option (Int32 × zM)} (h48 : ∀ (v1 : Int32) (s : zM), zJ a 3 (zG a zφN zri) zφN 48 [(0, .ref (a.1.2.2.2 + 24)), (1, .int v1)] [] s (k48 v1 s)) : ∀ (n : Nat) (v1 : Int32) (v2 : Int32) (s : zM), zJ a 3 (zG a zφN zri) zφN 4 [(0, .ref (a.1.2.2.2 + 24)), (1, .int v1), (2, .int v2)] [] s (f_X4_readNumber_L4 F k48 n v1 v2 s) := by
  intro n
  induction n with
  | zero => intros; exact z_none
  | succ n ih =>
    intro v1 v2 s
    rw [f_X4_readNumber_L4]
    refine z_iload_n K 2 rfl dX4_readNumber_4 ?_
    refine z_iconst K ci_5 dX4_readNumber_5 ?_
    refine z_icmp_ge K (tgt := 48) dX4_readNumber_6 (by decide) ?_ ?_
    · refine z_sub [0, 1] rfl ?_
      exact h48 v1 s
    · refine z_aload_n K 0 rfl dX4_readNumber_9 ?_
      refine z_cVi (As := []) (rest := []) K (t_X4_peek a.1 (d - 1) (by omega) s) mf_X4_peek ml_X4_47 (Nat.le_of_ble_eq_true rfl) (by omega) rfl rc_24 rfl (Nat.le_of_ble_eq_true rfl) dX4_readNumber_10 (fun r2 s1 => ?_)
      refine z_cSi (As := [.int r2]) (rest := []) K (t_X4_isDigit a.1 (d - 1) (by omega) r2 s1) mf_X4_isDigit ml_X4_100 (Nat.le_of_ble_eq_true rfl) (by omega) rfl rfl (Nat.le_of_ble_eq_true rfl) dX4_readNumber_13 (fun r4 s3 => ?_)
      refine z_if_eq K (tgt := 48) dX4_readNumber_16 (by decide) ?_ ?_
      · refine z_sub [0, 1] rfl ?_
        exact h48 v1 s3
      · refine z_bipush K cb_10 dX4_readNumber_19 ?_
        refine z_iload_n K 1 rfl dX4_readNumber_21 ?_
        refine z_imul K dX4_readNumber_22 ?_
        refine z_aload_n K 0 rfl dX4_readNumber_23 ?_
        refine z_cVi (As := []) (rest := [.int ((10 : Int32) * v1)]) K (t_X4_peek a.1 (d - 1) (by omega) s3) mf_X4_peek ml_X4_47 (Nat.le_of_ble_eq_true rfl) (by omega) rfl rc_24 rfl (Nat.le_of_ble_eq_true rfl) dX4_readNumber_24 (fun r6 s5 => ?_)
        refine z_iadd K dX4_readNumber_27 ?_
        refine z_bipush K cb_48 dX4_readNumber_28 ?_
        refine z_isub K dX4_readNumber_30 ?_
        refine z_topi (fun y7 => ?_)
        refine z_istore_n K (lv' := [(1, .int y7), (0, .ref (a.1.2.2.2 + 24)), (2, .int v2)]) dX4_readNumber_31 rfl (Nat.le_of_ble_eq_true rfl) rfl ?_
        refine z_aload_n K 1 rfl dX4_readNumber_32 ?_
        refine z_dup K rfl dX4_readNumber_33 ?_
        refine z_geti K fd_X4_22 ob_24_2 dX4_readNumber_34 ?_
        refine z_iconst K ci_1 dX4_readNumber_37 ?_
        refine z_iadd K dX4_readNumber_38 ?_
        refine z_puti K fw_X4_22 ob_24_2 dX4_readNumber_39 ?_
        refine z_ltm (fun s8 => ?_)
        refine z_iincN K (j := 2) (lv' := [(1, .int y7), (0, .ref (a.1.2.2.2 + 24))]) ci_1 rfl dX4_readNumber_42 (Nat.le_of_ble_eq_true rfl) rfl (fun y9 => ?_)
        refine z_goto K (tgt := 4) dX4_readNumber_45 (by decide) ?_
        refine z_sub [2, 1, 0] rfl ?_
        exact ih y7 y9 s8
def f_X4_readNumber_j48 (F : Nat) (v1 : Int32) (s : zM) : Option (Int32 × zM) :=
  bnd (f_X4_peek s) (fun r13 s12 =>
  bnd (f_X4_isDigit r13 s12) (fun r15 s14 =>
  if r15 = 0 then
    if zLw (zg s14 24 1).toNatClampNeg = true then
      bnd (f_X3_add ((zg s14 24 1).toNatClampNeg) (1 : Int32) v1 s14) (fun r18 s17 =>
      some ((1 : Int32), s17))
    else none
  else
    bnd (f_X4_fail (2 : Int32) s14) (fun r20 s19 =>
    if r20 = 0 then some (0, s19) else if r20 = 1 then some (1, s19) else none)))
set_option maxRecDepth 100000 in
set_option maxHeartbeats 4000000 in
theorem t_X4_readNumber_j48 {a : zA} {d : Nat} (F : Nat) (K : zOK a cX4_readNumber 3 RX4 (some .boolean) d) (hd : 2 ≤ d) (v1 : Int32) (s : zM) : zJ a 3 (zG a zφN zri) zφN 48 [(0, .ref (a.1.2.2.2 + 24)), (1, .int v1)] [] s (f_X4_readNumber_j48 F v1 s) := by
  unfold f_X4_readNumber_j48
  refine z_aload_n K 0 rfl dX4_readNumber_48 ?_
  refine z_cVi (As := []) (rest := []) K (t_X4_peek a.1 (d - 1) (by omega) s) mf_X4_peek ml_X4_47 (Nat.le_of_ble_eq_true rfl) (by omega) rfl rc_24 rfl (Nat.le_of_ble_eq_true rfl) dX4_readNumber_49 (fun r13 s12 => ?_)
  refine z_cSi (As := [.int r13]) (rest := []) K (t_X4_isDigit a.1 (d - 1) (by omega) r13 s12) mf_X4_isDigit ml_X4_100 (Nat.le_of_ble_eq_true rfl) (by omega) rfl rfl (Nat.le_of_ble_eq_true rfl) dX4_readNumber_52 (fun r15 s14 => ?_)
  refine z_if_eq K (tgt := 64) dX4_readNumber_55 (by decide) ?_ ?_
  · refine z_aload_n K 0 rfl dX4_readNumber_64 ?_
    refine z_getm K fd_X4_12 ob_24_1 dX4_readNumber_65 ?_
    refine z_ite (fun hl16 => ?_) (fun _ => z_none)
    refine z_iconst K ci_1 dX4_readNumber_68 ?_
    refine z_iload_n K 1 rfl dX4_readNumber_69 ?_
    refine z_cVi (As := [.int (1 : Int32), .int v1]) (rest := []) K (t_X3_add a.1 (d - 1) (by omega) ((zg s14 24 1).toNatClampNeg) hl16 (1 : Int32) v1 s14) mf_X3_add ml_X4_74 (Nat.le_of_ble_eq_true rfl) (by omega) rfl (rcL hl16) rfl (Nat.le_of_ble_eq_true rfl) dX4_readNumber_70 (fun r18 s17 => ?_)
    refine z_pop K rfl dX4_readNumber_73 ?_
    refine z_iconst K ci_1 dX4_readNumber_74 ?_
    exact z_zret (Or.inr rfl) K dX4_readNumber_75
  · refine z_aload_n K 0 rfl dX4_readNumber_58 ?_
    refine z_iconst K ci_2 dX4_readNumber_59 ?_
    refine z_cVi (As := [.int (2 : Int32)]) (rest := []) K (t_X4_fail a.1 (d - 1) (by omega) (2 : Int32) s14) mf_X4_fail ml_X4_50 (Nat.le_of_ble_eq_true rfl) (by omega) rfl rc_24 rfl (Nat.le_of_ble_eq_true rfl) dX4_readNumber_60 (fun r20 s19 => ?_)
    exact z_zretc K dX4_readNumber_63
def f_X4_readNumber (F : Nat) (s : zM) : Option (Int32 × zM) :=
  f_X4_readNumber_L4 F (fun y11 s10 =>
    f_X4_readNumber_j48 F y11 s10) F (0 : Int32) (0 : Int32) s
set_option maxRecDepth 100000 in
set_option maxHeartbeats 4000000 in
theorem t_X4_readNumber (w : zWd) (F : Nat) (d : Nat) (hd : 2 ≤ d) (s : zM) : zMt w yX4_readNumber cX4_readNumber 3 (some .boolean) d zφN zφN zri [.ref (w.2.2.2 + 24)] s (f_X4_readNumber F s) := by
  refine zMtN_of (own := RX4) rfl (by decide +kernel) (Nat.le_of_ble_eq_true rfl) cd_X4_readNumber [(0, .ref (w.2.2.2 + 24))] rfl ?_
  rintro a rfl K
  unfold f_X4_readNumber
  refine z_iconst K ci_0 dX4_readNumber_0 ?_
  refine z_istore_n K (lv' := [(1, .int (0 : Int32)), (0, .ref (a.1.2.2.2 + 24))]) dX4_readNumber_1 rfl (Nat.le_of_ble_eq_true rfl) rfl ?_
  refine z_iconst K ci_0 dX4_readNumber_2 ?_
  refine z_istore_n K (lv' := [(2, .int (0 : Int32)), (1, .int (0 : Int32)), (0, .ref (a.1.2.2.2 + 24))]) dX4_readNumber_3 rfl (Nat.le_of_ble_eq_true rfl) rfl ?_
  refine z_sub [2, 1, 0] rfl ?_
  refine t_X4_readNumber_L4 F K hd (fun y11 s10 => ?_) F (0 : Int32) (0 : Int32) s
  exact t_X4_readNumber_j48 F K hd y11 s10
def f_X4_accept (v1 : Int32) (s : zM) : Option (Int32 × zM) :=
  bnd (f_X4_peek s) (fun r2 s1 =>
  if r2 = v1 then
    lt (zs s1 24 2 ((zg s1 24 2) + (1 : Int32))) (fun s3 =>
    some ((1 : Int32), s3))
  else
    bnd (f_X4_fail (1 : Int32) s1) (fun r5 s4 =>
    if r5 = 0 then some (0, s4) else if r5 = 1 then some (1, s4) else none))
set_option maxRecDepth 100000 in
set_option maxHeartbeats 4000000 in
theorem t_X4_accept (w : zWd) (d : Nat) (hd : 2 ≤ d) (v1 : Int32) (s : zM) : zMt w yX4_accept cX4_accept 2 (some .boolean) d zφN zφN zri [.ref (w.2.2.2 + 24), .int v1] s (f_X4_accept v1 s) := by
  refine zMtN_of (own := RX4) rfl (by decide +kernel) (Nat.le_of_ble_eq_true rfl) cd_X4_accept [(0, .ref (w.2.2.2 + 24)), (1, .int v1)] rfl ?_
  rintro a rfl K
  unfold f_X4_accept
  refine z_aload_n K 0 rfl dX4_accept_0 ?_
  refine z_cVi (As := []) (rest := []) K (t_X4_peek a.1 (d - 1) (by omega) s) mf_X4_peek ml_X4_47 (Nat.le_of_ble_eq_true rfl) (by omega) rfl rc_24 rfl (Nat.le_of_ble_eq_true rfl) dX4_accept_1 (fun r2 s1 => ?_)
  refine z_iload_n K 1 rfl dX4_accept_4 ?_
  refine z_icmp_eq K (tgt := 14) dX4_accept_5 (by decide) ?_ ?_
  · refine z_aload_n K 0 rfl dX4_accept_14 ?_
    refine z_dup K rfl dX4_accept_15 ?_
    refine z_geti K fd_X4_22 ob_24_2 dX4_accept_16 ?_
    refine z_iconst K ci_1 dX4_accept_19 ?_
    refine z_iadd K dX4_accept_20 ?_
    refine z_puti K fw_X4_22 ob_24_2 dX4_accept_21 ?_
    refine z_ltm (fun s3 => ?_)
    refine z_iconst K ci_1 dX4_accept_24 ?_
    exact z_zret (Or.inr rfl) K dX4_accept_25
  · refine z_aload_n K 0 rfl dX4_accept_8 ?_
    refine z_iconst K ci_1 dX4_accept_9 ?_
    refine z_cVi (As := [.int (1 : Int32)]) (rest := []) K (t_X4_fail a.1 (d - 1) (by omega) (1 : Int32) s1) mf_X4_fail ml_X4_50 (Nat.le_of_ble_eq_true rfl) (by omega) rfl rc_24 rfl (Nat.le_of_ble_eq_true rfl) dX4_accept_10 (fun r5 s4 => ?_)
    exact z_zretc K dX4_accept_13
def b_X4_readInner (rec : Nat → Int32 → zM → Option (Int32 × zM)) (v1 : Int32) (v2 : Int32) (s : zM) : Option (Int32 × zM) :=
  if v2 < (6 : Int32) then
    lt (zs s 24 2 ((zg s 24 2) + (1 : Int32))) (fun s1 =>
    if v1 = (40 : Int32) then
      bnd (rec 0 (v2 + (1 : Int32)) s1) (fun r8 s7 =>
      if r8 = 0 then
        some ((0 : Int32), s7)
      else
        bnd (f_X4_accept (41 : Int32) s7) (fun r10 s9 =>
        if r10 = 0 then
          some ((0 : Int32), s9)
        else
          some ((1 : Int32), s9)))
    else
      bnd (rec 2 (v2 + (1 : Int32)) s1) (fun r3 s2 =>
      if zLw (zg s2 24 1).toNatClampNeg = true then
        bnd (f_X3_add ((zg s2 24 1).toNatClampNeg) (33 : Int32) (0 : Int32) s2) (fun r6 s5 =>
        if r3 = 0 then some (0, s5) else if r3 = 1 then some (1, s5) else none)
      else none))
  else
    bnd (f_X4_fail (5 : Int32) s) (fun r12 s11 =>
    if r12 = 0 then some (0, s11) else if r12 = 1 then some (1, s11) else none)
set_option maxRecDepth 100000 in
set_option maxHeartbeats 4000000 in
theorem tb_X4_readInner {a : zA} (rec : Nat → Int32 → zM → Option (Int32 × zM)) {d : Nat} (K : zOK a cX4_readInner 4 RX4 (some .boolean) d) (hd : 3 ≤ d) (hrec0 : ∀ (e : Nat), d ≤ e + 1 → ∀ (v1 : Int32) (s : zM), zMt a.1 yX4_readCondition cX4_readCondition 5 (some .boolean) e zφN zφN zri [.ref (a.1.2.2.2 + 24), .int v1] s (rec 0 v1 s)) (hrec1 : ∀ (e : Nat), d ≤ e + 1 → ∀ (v1 : Int32) (s : zM), zMt a.1 yX4_readPart cX4_readPart 5 (some .boolean) e zφN zφN zri [.ref (a.1.2.2.2 + 24), .int v1] s (rec 1 v1 s)) (hrec2 : ∀ (e : Nat), d ≤ e + 1 → ∀ (v1 : Int32) (s : zM), zMt a.1 yX4_readPiece cX4_readPiece 5 (some .boolean) e zφN zφN zri [.ref (a.1.2.2.2 + 24), .int v1] s (rec 2 v1 s)) (hrec3 : ∀ (e : Nat), d ≤ e + 1 → ∀ (v1 : Int32) (s : zM), zMt a.1 yX4_readSum cX4_readSum 5 (some .boolean) e zφN zφN zri [.ref (a.1.2.2.2 + 24), .int v1] s (rec 3 v1 s)) (hrec4 : ∀ (e : Nat), d ≤ e + 1 → ∀ (v1 : Int32) (s : zM), zMt a.1 yX4_readTerm cX4_readTerm 5 (some .boolean) e zφN zφN zri [.ref (a.1.2.2.2 + 24), .int v1] s (rec 4 v1 s)) (hrec5 : ∀ (e : Nat), d ≤ e + 1 → ∀ (v1 : Int32) (s : zM), zMt a.1 yX4_readFactor cX4_readFactor 4 (some .boolean) e zφN zφN zri [.ref (a.1.2.2.2 + 24), .int v1] s (rec 5 v1 s)) (v1 : Int32) (v2 : Int32) (s : zM) : zJ a 4 (zG a zφN zri) zφN 0 [(0, .ref (a.1.2.2.2 + 24)), (1, .int v1), (2, .int v2)] [] s (b_X4_readInner rec v1 v2 s) := by
  unfold b_X4_readInner
  refine z_iload_n K 2 rfl dX4_readInner_0 ?_
  refine z_bipush K cb_6 dX4_readInner_1 ?_
  refine z_icmp_lt K (tgt := 12) dX4_readInner_3 (by decide) ?_ ?_
  · refine z_aload_n K 0 rfl dX4_readInner_12 ?_
    refine z_dup K rfl dX4_readInner_13 ?_
    refine z_geti K fd_X4_22 ob_24_2 dX4_readInner_14 ?_
    refine z_iconst K ci_1 dX4_readInner_17 ?_
    refine z_iadd K dX4_readInner_18 ?_
    refine z_puti K fw_X4_22 ob_24_2 dX4_readInner_19 ?_
    refine z_ltm (fun s1 => ?_)
    refine z_iload_n K 1 rfl dX4_readInner_22 ?_
    refine z_bipush K cb_40 dX4_readInner_23 ?_
    refine z_icmp_ne K (tgt := 53) dX4_readInner_25 (by decide) ?_ ?_
    · refine z_aload_n K 0 rfl dX4_readInner_53 ?_
      refine z_iload_n K 2 rfl dX4_readInner_54 ?_
      refine z_iconst K ci_1 dX4_readInner_55 ?_
      refine z_iadd K dX4_readInner_56 ?_
      refine z_cVi (As := [.int (v2 + (1 : Int32))]) (rest := []) K (hrec2 (d - 1) (by omega) (v2 + (1 : Int32)) s1) mf_X4_readPiece ml_X4_81 (Nat.le_of_ble_eq_true rfl) (by omega) rfl rc_24 rfl (Nat.le_of_ble_eq_true rfl) dX4_readInner_57 (fun r3 s2 => ?_)
      refine z_istore_n K (lv' := [(3, .int r3), (0, .ref (a.1.2.2.2 + 24)), (1, .int v1), (2, .int v2)]) dX4_readInner_60 rfl (Nat.le_of_ble_eq_true rfl) rfl ?_
      refine z_aload_n K 1 rfl dX4_readInner_61 ?_
      refine z_getm K fd_X4_12 ob_24_1 dX4_readInner_62 ?_
      refine z_ite (fun hl4 => ?_) (fun _ => z_none)
      refine z_bipush K cb_33 dX4_readInner_65 ?_
      refine z_iconst K ci_0 dX4_readInner_67 ?_
      refine z_cVi (As := [.int (33 : Int32), .int (0 : Int32)]) (rest := []) K (t_X3_add a.1 (d - 1) (by omega) ((zg s2 24 1).toNatClampNeg) hl4 (33 : Int32) (0 : Int32) s2) mf_X3_add ml_X4_74 (Nat.le_of_ble_eq_true rfl) (by omega) rfl (rcL hl4) rfl (Nat.le_of_ble_eq_true rfl) dX4_readInner_68 (fun r6 s5 => ?_)
      refine z_pop K rfl dX4_readInner_71 ?_
      refine z_iload_n K 0 rfl dX4_readInner_72 ?_
      exact z_zretc K dX4_readInner_73
    · refine z_aload_n K 0 rfl dX4_readInner_28 ?_
      refine z_iload_n K 2 rfl dX4_readInner_29 ?_
      refine z_iconst K ci_1 dX4_readInner_30 ?_
      refine z_iadd K dX4_readInner_31 ?_
      refine z_cVi (As := [.int (v2 + (1 : Int32))]) (rest := []) K (hrec0 (d - 1) (by omega) (v2 + (1 : Int32)) s1) mf_X4_readCondition ml_X4_66 (Nat.le_of_ble_eq_true rfl) (by omega) rfl rc_24 rfl (Nat.le_of_ble_eq_true rfl) dX4_readInner_32 (fun r8 s7 => ?_)
      refine z_if_eq K (tgt := 51) dX4_readInner_35 (by decide) ?_ ?_
      · refine z_iconst K ci_0 dX4_readInner_51 ?_
        exact z_zret (Or.inl rfl) K dX4_readInner_52
      · refine z_aload_n K 0 rfl dX4_readInner_38 ?_
        refine z_bipush K cb_41 dX4_readInner_39 ?_
        refine z_cVi (As := [.int (41 : Int32)]) (rest := []) K (t_X4_accept a.1 (d - 1) (by omega) (41 : Int32) s7) mf_X4_accept ml_X4_39 (Nat.le_of_ble_eq_true rfl) (by omega) rfl rc_24 rfl (Nat.le_of_ble_eq_true rfl) dX4_readInner_41 (fun r10 s9 => ?_)
        refine z_if_eq K (tgt := 51) dX4_readInner_44 (by decide) ?_ ?_
        · refine z_iconst K ci_0 dX4_readInner_51 ?_
          exact z_zret (Or.inl rfl) K dX4_readInner_52
        · refine z_iconst K ci_1 dX4_readInner_47 ?_
          refine z_goto K (tgt := 52) dX4_readInner_48 (by decide) ?_
          exact z_zret (Or.inr rfl) K dX4_readInner_52
  · refine z_aload_n K 0 rfl dX4_readInner_6 ?_
    refine z_iconst K ci_5 dX4_readInner_7 ?_
    refine z_cVi (As := [.int (5 : Int32)]) (rest := []) K (t_X4_fail a.1 (d - 1) (by omega) (5 : Int32) s) mf_X4_fail ml_X4_50 (Nat.le_of_ble_eq_true rfl) (by omega) rfl rc_24 rfl (Nat.le_of_ble_eq_true rfl) dX4_readInner_8 (fun r12 s11 => ?_)
    exact z_zretc K dX4_readInner_11
set_option maxRecDepth 100000 in
set_option maxHeartbeats 4000000 in
theorem ts_X4_readInner (w : zWd) (rec : Nat → Int32 → zM → Option (Int32 × zM)) (d : Nat) (hd : 3 ≤ d) (hrec0 : ∀ (e : Nat), d ≤ e + 1 → ∀ (v1 : Int32) (s : zM), zMt w yX4_readCondition cX4_readCondition 5 (some .boolean) e zφN zφN zri [.ref (w.2.2.2 + 24), .int v1] s (rec 0 v1 s)) (hrec1 : ∀ (e : Nat), d ≤ e + 1 → ∀ (v1 : Int32) (s : zM), zMt w yX4_readPart cX4_readPart 5 (some .boolean) e zφN zφN zri [.ref (w.2.2.2 + 24), .int v1] s (rec 1 v1 s)) (hrec2 : ∀ (e : Nat), d ≤ e + 1 → ∀ (v1 : Int32) (s : zM), zMt w yX4_readPiece cX4_readPiece 5 (some .boolean) e zφN zφN zri [.ref (w.2.2.2 + 24), .int v1] s (rec 2 v1 s)) (hrec3 : ∀ (e : Nat), d ≤ e + 1 → ∀ (v1 : Int32) (s : zM), zMt w yX4_readSum cX4_readSum 5 (some .boolean) e zφN zφN zri [.ref (w.2.2.2 + 24), .int v1] s (rec 3 v1 s)) (hrec4 : ∀ (e : Nat), d ≤ e + 1 → ∀ (v1 : Int32) (s : zM), zMt w yX4_readTerm cX4_readTerm 5 (some .boolean) e zφN zφN zri [.ref (w.2.2.2 + 24), .int v1] s (rec 4 v1 s)) (hrec5 : ∀ (e : Nat), d ≤ e + 1 → ∀ (v1 : Int32) (s : zM), zMt w yX4_readFactor cX4_readFactor 4 (some .boolean) e zφN zφN zri [.ref (w.2.2.2 + 24), .int v1] s (rec 5 v1 s)) (v1 : Int32) (v2 : Int32) (s : zM) : zMt w yX4_readInner cX4_readInner 4 (some .boolean) d zφN zφN zri [.ref (w.2.2.2 + 24), .int v1, .int v2] s (b_X4_readInner rec v1 v2 s) := by
  refine zMtN_of (own := RX4) rfl (by decide +kernel) (Nat.le_of_ble_eq_true rfl) cd_X4_readInner [(0, .ref (w.2.2.2 + 24)), (1, .int v1), (2, .int v2)] rfl ?_
  rintro a rfl K
  exact tb_X4_readInner rec K hd hrec0 hrec1 hrec2 hrec3 hrec4 hrec5 v1 v2 s
def f_X4_readCondition_L8 (F : Nat) (rec : Nat → Int32 → zM → Option (Int32 × zM)) (k71 : Int32 → zM → Option (Int32 × zM)) (v1 : Int32) : Nat → Int32 → Int32 → zM → Option (Int32 × zM)
  | 0, _, _, _ => none
  | n + 1, v2, v3, s =>
    if v3 < (200 : Int32) then
      if v2 = 0 then
        k71 v2 s
      else
        bnd (f_X4_peek s) (fun r4 s3 =>
        if r4 = (124 : Int32) then
          lt (zs s3 24 2 ((zg s3 24 2) + (1 : Int32))) (fun s5 =>
          if zLw (zg s5 24 1).toNatClampNeg = true then
            bnd (f_X3_add ((zg s5 24 1).toNatClampNeg) (124 : Int32) (0 : Int32) s5) (fun r8 s7 =>
            bnd (rec 1 v1 s7) (fun r10 s9 =>
            if zLw (zg s9 24 1).toNatClampNeg = true then
              bnd (f_X3_land ((zg s9 24 1).toNatClampNeg) r8 s9) (fun _ s12 =>
              lt (v3 + (1 : Int32)) (fun y13 =>
              f_X4_readCondition_L8 F rec k71 v1 n r10 y13 s12))
            else none))
          else none)
        else
          k71 v2 s3)
    else
      k71 v2 s
set_option maxRecDepth 100000 in
set_option maxHeartbeats 4000000 in
theorem t_X4_readCondition_L8 {a : zA} {d : Nat} (F : Nat) (rec : Nat → Int32 → zM → Option (Int32 × zM)) (K : zOK a cX4_readCondition 5 RX4 (some .boolean) d) (hd : 2 ≤ d) (hrec0 : ∀ (e : Nat), d ≤ e + 2 → ∀ (v1 : Int32) (s : zM), zMt a.1 yX4_readCondition cX4_readCondition 5 (some .boolean) e zφN zφN zri [.ref (a.1.2.2.2 + 24), .int v1] s (rec 0 v1 s)) (hrec1 : ∀ (e : Nat), d ≤ e + 2 → ∀ (v1 : Int32) (s : zM), zMt a.1 yX4_readPart cX4_readPart 5 (some .boolean) e zφN zφN zri [.ref (a.1.2.2.2 + 24), .int v1] s (rec 1 v1 s)) (hrec2 : ∀ (e : Nat), d ≤ e + 2 → ∀ (v1 : Int32) (s : zM), zMt a.1 yX4_readPiece cX4_readPiece 5 (some .boolean) e zφN zφN zri [.ref (a.1.2.2.2 + 24), .int v1] s (rec 2 v1 s)) (hrec3 : ∀ (e : Nat), d ≤ e + 2 → ∀ (v1 : Int32) (s : zM), zMt a.1 yX4_readSum cX4_readSum 5 (some .boolean) e zφN zφN zri [.ref (a.1.2.2.2 + 24), .int v1] s (rec 3 v1 s)) (hrec4 : ∀ (e : Nat), d ≤ e + 2 → ∀ (v1 : Int32) (s : zM), zMt a.1 yX4_readTerm cX4_readTerm 5 (some .boolean) e zφN zφN zri [.ref (a.1.2.2.2 + 24), .int v1] s (rec 4 v1 s)) (hrec5 : ∀ (e : Nat), d ≤ e + 2 → ∀ (v1 : Int32) (s : zM), zMt a.1 yX4_readFactor cX4_readFactor 4 (some .boolean) e zφN zφN zri [.ref (a.1.2.2.2 + 24), .int v1] s (rec 5 v1 s)) {k71 : Int32 → zM → Option (Int32 × zM)} (v1 : Int32) (h71 : ∀ (v2 : Int32) (s : zM), zJ a 5 (zG a zφN zri) zφN 71 [(2, .int v2)] [] s (k71 v2 s)) : ∀ (n : Nat) (v2 : Int32) (v3 : Int32) (s : zM), zJ a 5 (zG a zφN zri) zφN 8 [(0, .ref (a.1.2.2.2 + 24)), (1, .int v1), (2, .int v2), (3, .int v3)] [] s (f_X4_readCondition_L8 F rec k71 v1 n v2 v3 s) := by
  intro n
  induction n with
  | zero => intros; exact z_none
  | succ n ih =>
    intro v2 v3 s
    rw [f_X4_readCondition_L8]
    refine z_iload_n K 3 rfl dX4_readCondition_8 ?_
    refine z_sipush K cs_200 dX4_readCondition_9 ?_
    refine z_icmp_ge K (tgt := 71) dX4_readCondition_12 (by decide) ?_ ?_
    · refine z_sub [2] rfl ?_
      exact h71 v2 s
    · refine z_iload_n K 2 rfl dX4_readCondition_15 ?_
      refine z_if_eq K (tgt := 71) dX4_readCondition_16 (by decide) ?_ ?_
      · refine z_sub [2] rfl ?_
        exact h71 v2 s
      · refine z_aload_n K 0 rfl dX4_readCondition_19 ?_
        refine z_cVi (As := []) (rest := []) K (t_X4_peek a.1 (d - 1) (by omega) s) mf_X4_peek ml_X4_47 (Nat.le_of_ble_eq_true rfl) (by omega) rfl rc_24 rfl (Nat.le_of_ble_eq_true rfl) dX4_readCondition_20 (fun r4 s3 => ?_)
        refine z_bipush K cb_124 dX4_readCondition_23 ?_
        refine z_icmp_ne K (tgt := 71) dX4_readCondition_25 (by decide) ?_ ?_
        · refine z_sub [2] rfl ?_
          exact h71 v2 s3
        · refine z_aload_n K 0 rfl dX4_readCondition_28 ?_
          refine z_dup K rfl dX4_readCondition_29 ?_
          refine z_geti K fd_X4_22 ob_24_2 dX4_readCondition_30 ?_
          refine z_iconst K ci_1 dX4_readCondition_33 ?_
          refine z_iadd K dX4_readCondition_34 ?_
          refine z_puti K fw_X4_22 ob_24_2 dX4_readCondition_35 ?_
          refine z_ltm (fun s5 => ?_)
          refine z_aload_n K 0 rfl dX4_readCondition_38 ?_
          refine z_getm K fd_X4_12 ob_24_1 dX4_readCondition_39 ?_
          refine z_ite (fun hl6 => ?_) (fun _ => z_none)
          refine z_bipush K cb_124 dX4_readCondition_42 ?_
          refine z_iconst K ci_0 dX4_readCondition_44 ?_
          refine z_cVi (As := [.int (124 : Int32), .int (0 : Int32)]) (rest := []) K (t_X3_add a.1 (d - 1) (by omega) ((zg s5 24 1).toNatClampNeg) hl6 (124 : Int32) (0 : Int32) s5) mf_X3_add ml_X4_74 (Nat.le_of_ble_eq_true rfl) (by omega) rfl (rcL hl6) rfl (Nat.le_of_ble_eq_true rfl) dX4_readCondition_45 (fun r8 s7 => ?_)
          refine z_istore K (lv' := [(4, .int r8), (0, .ref (a.1.2.2.2 + 24)), (1, .int v1), (2, .int v2), (3, .int v3)]) dX4_readCondition_48 (Nat.le_of_ble_eq_true rfl) rfl ?_
          refine z_aload_n K 1 rfl dX4_readCondition_50 ?_
          refine z_iload_n K 2 rfl dX4_readCondition_51 ?_
          refine z_cVi (As := [.int v1]) (rest := []) K (hrec1 (d - 1) (by omega) v1 s7) mf_X4_readPart ml_X4_71 (Nat.le_of_ble_eq_true rfl) (by omega) rfl rc_24 rfl (Nat.le_of_ble_eq_true rfl) dX4_readCondition_52 (fun r10 s9 => ?_)
          refine z_istore_n K (lv' := [(2, .int r10), (4, .int r8), (0, .ref (a.1.2.2.2 + 24)), (1, .int v1), (3, .int v3)]) dX4_readCondition_55 rfl (Nat.le_of_ble_eq_true rfl) rfl ?_
          refine z_aload_n K 2 rfl dX4_readCondition_56 ?_
          refine z_getm K fd_X4_12 ob_24_1 dX4_readCondition_57 ?_
          refine z_ite (fun hl11 => ?_) (fun _ => z_none)
          refine z_iload K 1 rfl dX4_readCondition_60 ?_
          refine z_cVv (As := [.int r8]) (rest := []) K (t_X3_land a.1 (d - 1) (by omega) ((zg s9 24 1).toNatClampNeg) hl11 r8 s9) mf_X3_land ml_X4_78 (Nat.le_of_ble_eq_true rfl) (by omega) rfl (rcL hl11) rfl (Nat.le_of_ble_eq_true rfl) dX4_readCondition_62 (fun _ s12 => ?_)
          refine z_iincN K (j := 4) (lv' := [(2, .int r10), (4, .int r8), (0, .ref (a.1.2.2.2 + 24)), (1, .int v1)]) ci_1 rfl dX4_readCondition_65 (Nat.le_of_ble_eq_true rfl) rfl (fun y13 => ?_)
          refine z_goto K (tgt := 8) dX4_readCondition_68 (by decide) ?_
          refine z_sub [3, 4, 1, 0] rfl ?_
          exact ih r10 y13 s12
def b_X4_readCondition (F : Nat) (rec : Nat → Int32 → zM → Option (Int32 × zM)) (v1 : Int32) (s : zM) : Option (Int32 × zM) :=
  bnd (rec 1 v1 s) (fun r2 s1 =>
  f_X4_readCondition_L8 F rec (fun y15 s14 =>
    if y15 = 0 then some (0, s14) else if y15 = 1 then some (1, s14) else none) v1 F r2 (0 : Int32) s1)
set_option maxRecDepth 100000 in
set_option maxHeartbeats 4000000 in
theorem tb_X4_readCondition {a : zA} (F : Nat) (rec : Nat → Int32 → zM → Option (Int32 × zM)) {d : Nat} (K : zOK a cX4_readCondition 5 RX4 (some .boolean) d) (hd : 2 ≤ d) (hrec0 : ∀ (e : Nat), d ≤ e + 2 → ∀ (v1 : Int32) (s : zM), zMt a.1 yX4_readCondition cX4_readCondition 5 (some .boolean) e zφN zφN zri [.ref (a.1.2.2.2 + 24), .int v1] s (rec 0 v1 s)) (hrec1 : ∀ (e : Nat), d ≤ e + 2 → ∀ (v1 : Int32) (s : zM), zMt a.1 yX4_readPart cX4_readPart 5 (some .boolean) e zφN zφN zri [.ref (a.1.2.2.2 + 24), .int v1] s (rec 1 v1 s)) (hrec2 : ∀ (e : Nat), d ≤ e + 2 → ∀ (v1 : Int32) (s : zM), zMt a.1 yX4_readPiece cX4_readPiece 5 (some .boolean) e zφN zφN zri [.ref (a.1.2.2.2 + 24), .int v1] s (rec 2 v1 s)) (hrec3 : ∀ (e : Nat), d ≤ e + 2 → ∀ (v1 : Int32) (s : zM), zMt a.1 yX4_readSum cX4_readSum 5 (some .boolean) e zφN zφN zri [.ref (a.1.2.2.2 + 24), .int v1] s (rec 3 v1 s)) (hrec4 : ∀ (e : Nat), d ≤ e + 2 → ∀ (v1 : Int32) (s : zM), zMt a.1 yX4_readTerm cX4_readTerm 5 (some .boolean) e zφN zφN zri [.ref (a.1.2.2.2 + 24), .int v1] s (rec 4 v1 s)) (hrec5 : ∀ (e : Nat), d ≤ e + 2 → ∀ (v1 : Int32) (s : zM), zMt a.1 yX4_readFactor cX4_readFactor 4 (some .boolean) e zφN zφN zri [.ref (a.1.2.2.2 + 24), .int v1] s (rec 5 v1 s)) (v1 : Int32) (s : zM) : zJ a 5 (zG a zφN zri) zφN 0 [(0, .ref (a.1.2.2.2 + 24)), (1, .int v1)] [] s (b_X4_readCondition F rec v1 s) := by
  unfold b_X4_readCondition
  refine z_aload_n K 0 rfl dX4_readCondition_0 ?_
  refine z_iload_n K 1 rfl dX4_readCondition_1 ?_
  refine z_cVi (As := [.int v1]) (rest := []) K (hrec1 (d - 1) (by omega) v1 s) mf_X4_readPart ml_X4_71 (Nat.le_of_ble_eq_true rfl) (by omega) rfl rc_24 rfl (Nat.le_of_ble_eq_true rfl) dX4_readCondition_2 (fun r2 s1 => ?_)
  refine z_istore_n K (lv' := [(2, .int r2), (0, .ref (a.1.2.2.2 + 24)), (1, .int v1)]) dX4_readCondition_5 rfl (Nat.le_of_ble_eq_true rfl) rfl ?_
  refine z_iconst K ci_0 dX4_readCondition_6 ?_
  refine z_istore_n K (lv' := [(3, .int (0 : Int32)), (2, .int r2), (0, .ref (a.1.2.2.2 + 24)), (1, .int v1)]) dX4_readCondition_7 rfl (Nat.le_of_ble_eq_true rfl) rfl ?_
  refine z_sub [2, 3, 1, 0] rfl ?_
  refine t_X4_readCondition_L8 F rec K hd hrec0 hrec1 hrec2 hrec3 hrec4 hrec5 v1 (fun y15 s14 => ?_) F r2 (0 : Int32) s1
  refine z_iload_n K 0 rfl dX4_readCondition_71 ?_
  exact z_zretc K dX4_readCondition_72
def f_X4_readPart_L8 (F : Nat) (rec : Nat → Int32 → zM → Option (Int32 × zM)) (k71 : Int32 → zM → Option (Int32 × zM)) (v1 : Int32) : Nat → Int32 → Int32 → zM → Option (Int32 × zM)
  | 0, _, _, _ => none
  | n + 1, v2, v3, s =>
    if v3 < (200 : Int32) then
      if v2 = 0 then
        k71 v2 s
      else
        bnd (f_X4_peek s) (fun r4 s3 =>
        if r4 = (38 : Int32) then
          lt (zs s3 24 2 ((zg s3 24 2) + (1 : Int32))) (fun s5 =>
          if zLw (zg s5 24 1).toNatClampNeg = true then
            bnd (f_X3_add ((zg s5 24 1).toNatClampNeg) (38 : Int32) (0 : Int32) s5) (fun r8 s7 =>
            bnd (rec 2 v1 s7) (fun r10 s9 =>
            if zLw (zg s9 24 1).toNatClampNeg = true then
              bnd (f_X3_land ((zg s9 24 1).toNatClampNeg) r8 s9) (fun _ s12 =>
              lt (v3 + (1 : Int32)) (fun y13 =>
              f_X4_readPart_L8 F rec k71 v1 n r10 y13 s12))
            else none))
          else none)
        else
          k71 v2 s3)
    else
      k71 v2 s
set_option maxRecDepth 100000 in
set_option maxHeartbeats 4000000 in
theorem t_X4_readPart_L8 {a : zA} {d : Nat} (F : Nat) (rec : Nat → Int32 → zM → Option (Int32 × zM)) (K : zOK a cX4_readPart 5 RX4 (some .boolean) d) (hd : 2 ≤ d) (hrec0 : ∀ (e : Nat), d ≤ e + 2 → ∀ (v1 : Int32) (s : zM), zMt a.1 yX4_readCondition cX4_readCondition 5 (some .boolean) e zφN zφN zri [.ref (a.1.2.2.2 + 24), .int v1] s (rec 0 v1 s)) (hrec1 : ∀ (e : Nat), d ≤ e + 2 → ∀ (v1 : Int32) (s : zM), zMt a.1 yX4_readPart cX4_readPart 5 (some .boolean) e zφN zφN zri [.ref (a.1.2.2.2 + 24), .int v1] s (rec 1 v1 s)) (hrec2 : ∀ (e : Nat), d ≤ e + 2 → ∀ (v1 : Int32) (s : zM), zMt a.1 yX4_readPiece cX4_readPiece 5 (some .boolean) e zφN zφN zri [.ref (a.1.2.2.2 + 24), .int v1] s (rec 2 v1 s)) (hrec3 : ∀ (e : Nat), d ≤ e + 2 → ∀ (v1 : Int32) (s : zM), zMt a.1 yX4_readSum cX4_readSum 5 (some .boolean) e zφN zφN zri [.ref (a.1.2.2.2 + 24), .int v1] s (rec 3 v1 s)) (hrec4 : ∀ (e : Nat), d ≤ e + 2 → ∀ (v1 : Int32) (s : zM), zMt a.1 yX4_readTerm cX4_readTerm 5 (some .boolean) e zφN zφN zri [.ref (a.1.2.2.2 + 24), .int v1] s (rec 4 v1 s)) (hrec5 : ∀ (e : Nat), d ≤ e + 2 → ∀ (v1 : Int32) (s : zM), zMt a.1 yX4_readFactor cX4_readFactor 4 (some .boolean) e zφN zφN zri [.ref (a.1.2.2.2 + 24), .int v1] s (rec 5 v1 s)) {k71 : Int32 → zM → Option (Int32 × zM)} (v1 : Int32) (h71 : ∀ (v2 : Int32) (s : zM), zJ a 5 (zG a zφN zri) zφN 71 [(2, .int v2)] [] s (k71 v2 s)) : ∀ (n : Nat) (v2 : Int32) (v3 : Int32) (s : zM), zJ a 5 (zG a zφN zri) zφN 8 [(0, .ref (a.1.2.2.2 + 24)), (1, .int v1), (2, .int v2), (3, .int v3)] [] s (f_X4_readPart_L8 F rec k71 v1 n v2 v3 s) := by
  intro n
  induction n with
  | zero => intros; exact z_none
  | succ n ih =>
    intro v2 v3 s
    rw [f_X4_readPart_L8]
    refine z_iload_n K 3 rfl dX4_readPart_8 ?_
    refine z_sipush K cs_200 dX4_readPart_9 ?_
    refine z_icmp_ge K (tgt := 71) dX4_readPart_12 (by decide) ?_ ?_
    · refine z_sub [2] rfl ?_
      exact h71 v2 s
    · refine z_iload_n K 2 rfl dX4_readPart_15 ?_
      refine z_if_eq K (tgt := 71) dX4_readPart_16 (by decide) ?_ ?_
      · refine z_sub [2] rfl ?_
        exact h71 v2 s
      · refine z_aload_n K 0 rfl dX4_readPart_19 ?_
        refine z_cVi (As := []) (rest := []) K (t_X4_peek a.1 (d - 1) (by omega) s) mf_X4_peek ml_X4_47 (Nat.le_of_ble_eq_true rfl) (by omega) rfl rc_24 rfl (Nat.le_of_ble_eq_true rfl) dX4_readPart_20 (fun r4 s3 => ?_)
        refine z_bipush K cb_38 dX4_readPart_23 ?_
        refine z_icmp_ne K (tgt := 71) dX4_readPart_25 (by decide) ?_ ?_
        · refine z_sub [2] rfl ?_
          exact h71 v2 s3
        · refine z_aload_n K 0 rfl dX4_readPart_28 ?_
          refine z_dup K rfl dX4_readPart_29 ?_
          refine z_geti K fd_X4_22 ob_24_2 dX4_readPart_30 ?_
          refine z_iconst K ci_1 dX4_readPart_33 ?_
          refine z_iadd K dX4_readPart_34 ?_
          refine z_puti K fw_X4_22 ob_24_2 dX4_readPart_35 ?_
          refine z_ltm (fun s5 => ?_)
          refine z_aload_n K 0 rfl dX4_readPart_38 ?_
          refine z_getm K fd_X4_12 ob_24_1 dX4_readPart_39 ?_
          refine z_ite (fun hl6 => ?_) (fun _ => z_none)
          refine z_bipush K cb_38 dX4_readPart_42 ?_
          refine z_iconst K ci_0 dX4_readPart_44 ?_
          refine z_cVi (As := [.int (38 : Int32), .int (0 : Int32)]) (rest := []) K (t_X3_add a.1 (d - 1) (by omega) ((zg s5 24 1).toNatClampNeg) hl6 (38 : Int32) (0 : Int32) s5) mf_X3_add ml_X4_74 (Nat.le_of_ble_eq_true rfl) (by omega) rfl (rcL hl6) rfl (Nat.le_of_ble_eq_true rfl) dX4_readPart_45 (fun r8 s7 => ?_)
          refine z_istore K (lv' := [(4, .int r8), (0, .ref (a.1.2.2.2 + 24)), (1, .int v1), (2, .int v2), (3, .int v3)]) dX4_readPart_48 (Nat.le_of_ble_eq_true rfl) rfl ?_
          refine z_aload_n K 1 rfl dX4_readPart_50 ?_
          refine z_iload_n K 2 rfl dX4_readPart_51 ?_
          refine z_cVi (As := [.int v1]) (rest := []) K (hrec2 (d - 1) (by omega) v1 s7) mf_X4_readPiece ml_X4_81 (Nat.le_of_ble_eq_true rfl) (by omega) rfl rc_24 rfl (Nat.le_of_ble_eq_true rfl) dX4_readPart_52 (fun r10 s9 => ?_)
          refine z_istore_n K (lv' := [(2, .int r10), (4, .int r8), (0, .ref (a.1.2.2.2 + 24)), (1, .int v1), (3, .int v3)]) dX4_readPart_55 rfl (Nat.le_of_ble_eq_true rfl) rfl ?_
          refine z_aload_n K 2 rfl dX4_readPart_56 ?_
          refine z_getm K fd_X4_12 ob_24_1 dX4_readPart_57 ?_
          refine z_ite (fun hl11 => ?_) (fun _ => z_none)
          refine z_iload K 1 rfl dX4_readPart_60 ?_
          refine z_cVv (As := [.int r8]) (rest := []) K (t_X3_land a.1 (d - 1) (by omega) ((zg s9 24 1).toNatClampNeg) hl11 r8 s9) mf_X3_land ml_X4_78 (Nat.le_of_ble_eq_true rfl) (by omega) rfl (rcL hl11) rfl (Nat.le_of_ble_eq_true rfl) dX4_readPart_62 (fun _ s12 => ?_)
          refine z_iincN K (j := 4) (lv' := [(2, .int r10), (4, .int r8), (0, .ref (a.1.2.2.2 + 24)), (1, .int v1)]) ci_1 rfl dX4_readPart_65 (Nat.le_of_ble_eq_true rfl) rfl (fun y13 => ?_)
          refine z_goto K (tgt := 8) dX4_readPart_68 (by decide) ?_
          refine z_sub [3, 4, 1, 0] rfl ?_
          exact ih r10 y13 s12
def b_X4_readPart (F : Nat) (rec : Nat → Int32 → zM → Option (Int32 × zM)) (v1 : Int32) (s : zM) : Option (Int32 × zM) :=
  bnd (rec 2 v1 s) (fun r2 s1 =>
  f_X4_readPart_L8 F rec (fun y15 s14 =>
    if y15 = 0 then some (0, s14) else if y15 = 1 then some (1, s14) else none) v1 F r2 (0 : Int32) s1)
set_option maxRecDepth 100000 in
set_option maxHeartbeats 4000000 in
theorem tb_X4_readPart {a : zA} (F : Nat) (rec : Nat → Int32 → zM → Option (Int32 × zM)) {d : Nat} (K : zOK a cX4_readPart 5 RX4 (some .boolean) d) (hd : 2 ≤ d) (hrec0 : ∀ (e : Nat), d ≤ e + 2 → ∀ (v1 : Int32) (s : zM), zMt a.1 yX4_readCondition cX4_readCondition 5 (some .boolean) e zφN zφN zri [.ref (a.1.2.2.2 + 24), .int v1] s (rec 0 v1 s)) (hrec1 : ∀ (e : Nat), d ≤ e + 2 → ∀ (v1 : Int32) (s : zM), zMt a.1 yX4_readPart cX4_readPart 5 (some .boolean) e zφN zφN zri [.ref (a.1.2.2.2 + 24), .int v1] s (rec 1 v1 s)) (hrec2 : ∀ (e : Nat), d ≤ e + 2 → ∀ (v1 : Int32) (s : zM), zMt a.1 yX4_readPiece cX4_readPiece 5 (some .boolean) e zφN zφN zri [.ref (a.1.2.2.2 + 24), .int v1] s (rec 2 v1 s)) (hrec3 : ∀ (e : Nat), d ≤ e + 2 → ∀ (v1 : Int32) (s : zM), zMt a.1 yX4_readSum cX4_readSum 5 (some .boolean) e zφN zφN zri [.ref (a.1.2.2.2 + 24), .int v1] s (rec 3 v1 s)) (hrec4 : ∀ (e : Nat), d ≤ e + 2 → ∀ (v1 : Int32) (s : zM), zMt a.1 yX4_readTerm cX4_readTerm 5 (some .boolean) e zφN zφN zri [.ref (a.1.2.2.2 + 24), .int v1] s (rec 4 v1 s)) (hrec5 : ∀ (e : Nat), d ≤ e + 2 → ∀ (v1 : Int32) (s : zM), zMt a.1 yX4_readFactor cX4_readFactor 4 (some .boolean) e zφN zφN zri [.ref (a.1.2.2.2 + 24), .int v1] s (rec 5 v1 s)) (v1 : Int32) (s : zM) : zJ a 5 (zG a zφN zri) zφN 0 [(0, .ref (a.1.2.2.2 + 24)), (1, .int v1)] [] s (b_X4_readPart F rec v1 s) := by
  unfold b_X4_readPart
  refine z_aload_n K 0 rfl dX4_readPart_0 ?_
  refine z_iload_n K 1 rfl dX4_readPart_1 ?_
  refine z_cVi (As := [.int v1]) (rest := []) K (hrec2 (d - 1) (by omega) v1 s) mf_X4_readPiece ml_X4_81 (Nat.le_of_ble_eq_true rfl) (by omega) rfl rc_24 rfl (Nat.le_of_ble_eq_true rfl) dX4_readPart_2 (fun r2 s1 => ?_)
  refine z_istore_n K (lv' := [(2, .int r2), (0, .ref (a.1.2.2.2 + 24)), (1, .int v1)]) dX4_readPart_5 rfl (Nat.le_of_ble_eq_true rfl) rfl ?_
  refine z_iconst K ci_0 dX4_readPart_6 ?_
  refine z_istore_n K (lv' := [(3, .int (0 : Int32)), (2, .int r2), (0, .ref (a.1.2.2.2 + 24)), (1, .int v1)]) dX4_readPart_7 rfl (Nat.le_of_ble_eq_true rfl) rfl ?_
  refine z_sub [2, 3, 1, 0] rfl ?_
  refine t_X4_readPart_L8 F rec K hd hrec0 hrec1 hrec2 hrec3 hrec4 hrec5 v1 (fun y15 s14 => ?_) F r2 (0 : Int32) s1
  refine z_iload_n K 0 rfl dX4_readPart_71 ?_
  exact z_zretc K dX4_readPart_72
def f_X4_readPiece_j63 (rec : Nat → Int32 → zM → Option (Int32 × zM)) (v1 : Int32) (v3 : Int32) (s : zM) : Option (Int32 × zM) :=
  lt (zs s 24 2 ((zg s 24 2) + (1 : Int32))) (fun s9 =>
  bnd (rec 3 v1 s9) (fun r11 s10 =>
  if zLw (zg s10 24 1).toNatClampNeg = true then
    bnd (f_X3_add ((zg s10 24 1).toNatClampNeg) v3 (0 : Int32) s10) (fun r14 s13 =>
    if r11 = 0 then some (0, s13) else if r11 = 1 then some (1, s13) else none)
  else none))
set_option maxRecDepth 100000 in
set_option maxHeartbeats 4000000 in
theorem t_X4_readPiece_j63 {a : zA} {d : Nat} (rec : Nat → Int32 → zM → Option (Int32 × zM)) (K : zOK a cX4_readPiece 5 RX4 (some .boolean) d) (hd : 4 ≤ d) (hrec0 : ∀ (e : Nat), d ≤ e + 2 → ∀ (v1 : Int32) (s : zM), zMt a.1 yX4_readCondition cX4_readCondition 5 (some .boolean) e zφN zφN zri [.ref (a.1.2.2.2 + 24), .int v1] s (rec 0 v1 s)) (hrec1 : ∀ (e : Nat), d ≤ e + 2 → ∀ (v1 : Int32) (s : zM), zMt a.1 yX4_readPart cX4_readPart 5 (some .boolean) e zφN zφN zri [.ref (a.1.2.2.2 + 24), .int v1] s (rec 1 v1 s)) (hrec2 : ∀ (e : Nat), d ≤ e + 2 → ∀ (v1 : Int32) (s : zM), zMt a.1 yX4_readPiece cX4_readPiece 5 (some .boolean) e zφN zφN zri [.ref (a.1.2.2.2 + 24), .int v1] s (rec 2 v1 s)) (hrec3 : ∀ (e : Nat), d ≤ e + 2 → ∀ (v1 : Int32) (s : zM), zMt a.1 yX4_readSum cX4_readSum 5 (some .boolean) e zφN zφN zri [.ref (a.1.2.2.2 + 24), .int v1] s (rec 3 v1 s)) (hrec4 : ∀ (e : Nat), d ≤ e + 2 → ∀ (v1 : Int32) (s : zM), zMt a.1 yX4_readTerm cX4_readTerm 5 (some .boolean) e zφN zφN zri [.ref (a.1.2.2.2 + 24), .int v1] s (rec 4 v1 s)) (hrec5 : ∀ (e : Nat), d ≤ e + 2 → ∀ (v1 : Int32) (s : zM), zMt a.1 yX4_readFactor cX4_readFactor 4 (some .boolean) e zφN zφN zri [.ref (a.1.2.2.2 + 24), .int v1] s (rec 5 v1 s)) (v1 : Int32) (v3 : Int32) (s : zM) : zJ a 5 (zG a zφN zri) zφN 63 [(0, .ref (a.1.2.2.2 + 24)), (1, .int v1), (3, .int v3)] [] s (f_X4_readPiece_j63 rec v1 v3 s) := by
  unfold f_X4_readPiece_j63
  refine z_aload_n K 0 rfl dX4_readPiece_63 ?_
  refine z_dup K rfl dX4_readPiece_64 ?_
  refine z_geti K fd_X4_22 ob_24_2 dX4_readPiece_65 ?_
  refine z_iconst K ci_1 dX4_readPiece_68 ?_
  refine z_iadd K dX4_readPiece_69 ?_
  refine z_puti K fw_X4_22 ob_24_2 dX4_readPiece_70 ?_
  refine z_ltm (fun s9 => ?_)
  refine z_aload_n K 0 rfl dX4_readPiece_73 ?_
  refine z_iload_n K 1 rfl dX4_readPiece_74 ?_
  refine z_cVi (As := [.int v1]) (rest := []) K (hrec3 (d - 1) (by omega) v1 s9) mf_X4_readSum ml_X4_60 (Nat.le_of_ble_eq_true rfl) (by omega) rfl rc_24 rfl (Nat.le_of_ble_eq_true rfl) dX4_readPiece_75 (fun r11 s10 => ?_)
  refine z_istore K (lv' := [(4, .int r11), (0, .ref (a.1.2.2.2 + 24)), (1, .int v1), (3, .int v3)]) dX4_readPiece_78 (Nat.le_of_ble_eq_true rfl) rfl ?_
  refine z_aload_n K 1 rfl dX4_readPiece_80 ?_
  refine z_getm K fd_X4_12 ob_24_1 dX4_readPiece_81 ?_
  refine z_ite (fun hl12 => ?_) (fun _ => z_none)
  refine z_iload_n K 3 rfl dX4_readPiece_84 ?_
  refine z_iconst K ci_0 dX4_readPiece_85 ?_
  refine z_cVi (As := [.int v3, .int (0 : Int32)]) (rest := []) K (t_X3_add a.1 (d - 1) (by omega) ((zg s10 24 1).toNatClampNeg) hl12 v3 (0 : Int32) s10) mf_X3_add ml_X4_74 (Nat.le_of_ble_eq_true rfl) (by omega) rfl (rcL hl12) rfl (Nat.le_of_ble_eq_true rfl) dX4_readPiece_86 (fun r14 s13 => ?_)
  refine z_pop K rfl dX4_readPiece_89 ?_
  refine z_iload K 0 rfl dX4_readPiece_90 ?_
  exact z_zretc K dX4_readPiece_92
def b_X4_readPiece (rec : Nat → Int32 → zM → Option (Int32 × zM)) (v1 : Int32) (s : zM) : Option (Int32 × zM) :=
  bnd (f_X4_peek s) (fun r2 s1 =>
  if r2 = (33 : Int32) then
    bnd (b_X4_readInner rec r2 v1 s1) (fun r4 s3 =>
    if r4 = 0 then some (0, s3) else if r4 = 1 then some (1, s3) else none)
  else
    if r2 = (40 : Int32) then
      bnd (b_X4_readInner rec r2 v1 s1) (fun r18 s17 =>
      if r18 = 0 then some (0, s17) else if r18 = 1 then some (1, s17) else none)
    else
      bnd (rec 3 v1 s1) (fun r6 s5 =>
      if r6 = 0 then
        some ((0 : Int32), s5)
      else
        bnd (f_X4_peek s5) (fun r8 s7 =>
        if r8 = (60 : Int32) then
          f_X4_readPiece_j63 rec v1 r8 s7
        else
          if r8 = (62 : Int32) then
            f_X4_readPiece_j63 rec v1 r8 s7
          else
            if r8 = (61 : Int32) then
              f_X4_readPiece_j63 rec v1 r8 s7
            else
              bnd (f_X4_fail (1 : Int32) s7) (fun r16 s15 =>
              if r16 = 0 then some (0, s15) else if r16 = 1 then some (1, s15) else none))))
set_option maxRecDepth 100000 in
set_option maxHeartbeats 4000000 in
theorem tb_X4_readPiece {a : zA} (rec : Nat → Int32 → zM → Option (Int32 × zM)) {d : Nat} (K : zOK a cX4_readPiece 5 RX4 (some .boolean) d) (hd : 4 ≤ d) (hrec0 : ∀ (e : Nat), d ≤ e + 2 → ∀ (v1 : Int32) (s : zM), zMt a.1 yX4_readCondition cX4_readCondition 5 (some .boolean) e zφN zφN zri [.ref (a.1.2.2.2 + 24), .int v1] s (rec 0 v1 s)) (hrec1 : ∀ (e : Nat), d ≤ e + 2 → ∀ (v1 : Int32) (s : zM), zMt a.1 yX4_readPart cX4_readPart 5 (some .boolean) e zφN zφN zri [.ref (a.1.2.2.2 + 24), .int v1] s (rec 1 v1 s)) (hrec2 : ∀ (e : Nat), d ≤ e + 2 → ∀ (v1 : Int32) (s : zM), zMt a.1 yX4_readPiece cX4_readPiece 5 (some .boolean) e zφN zφN zri [.ref (a.1.2.2.2 + 24), .int v1] s (rec 2 v1 s)) (hrec3 : ∀ (e : Nat), d ≤ e + 2 → ∀ (v1 : Int32) (s : zM), zMt a.1 yX4_readSum cX4_readSum 5 (some .boolean) e zφN zφN zri [.ref (a.1.2.2.2 + 24), .int v1] s (rec 3 v1 s)) (hrec4 : ∀ (e : Nat), d ≤ e + 2 → ∀ (v1 : Int32) (s : zM), zMt a.1 yX4_readTerm cX4_readTerm 5 (some .boolean) e zφN zφN zri [.ref (a.1.2.2.2 + 24), .int v1] s (rec 4 v1 s)) (hrec5 : ∀ (e : Nat), d ≤ e + 2 → ∀ (v1 : Int32) (s : zM), zMt a.1 yX4_readFactor cX4_readFactor 4 (some .boolean) e zφN zφN zri [.ref (a.1.2.2.2 + 24), .int v1] s (rec 5 v1 s)) (v1 : Int32) (s : zM) : zJ a 5 (zG a zφN zri) zφN 0 [(0, .ref (a.1.2.2.2 + 24)), (1, .int v1)] [] s (b_X4_readPiece rec v1 s) := by
  unfold b_X4_readPiece
  refine z_aload_n K 0 rfl dX4_readPiece_0 ?_
  refine z_cVi (As := []) (rest := []) K (t_X4_peek a.1 (d - 1) (by omega) s) mf_X4_peek ml_X4_47 (Nat.le_of_ble_eq_true rfl) (by omega) rfl rc_24 rfl (Nat.le_of_ble_eq_true rfl) dX4_readPiece_1 (fun r2 s1 => ?_)
  refine z_istore_n K (lv' := [(2, .int r2), (0, .ref (a.1.2.2.2 + 24)), (1, .int v1)]) dX4_readPiece_4 rfl (Nat.le_of_ble_eq_true rfl) rfl ?_
  refine z_iload_n K 0 rfl dX4_readPiece_5 ?_
  refine z_bipush K cb_33 dX4_readPiece_6 ?_
  refine z_icmp_eq K (tgt := 17) dX4_readPiece_8 (by decide) ?_ ?_
  · refine z_aload_n K 1 rfl dX4_readPiece_17 ?_
    refine z_iload_n K 0 rfl dX4_readPiece_18 ?_
    refine z_iload_n K 2 rfl dX4_readPiece_19 ?_
    refine z_cVi (As := [.int r2, .int v1]) (rest := []) K (ts_X4_readInner a.1 rec (d - 1) (by omega) (fun e he => hrec0 e (by omega)) (fun e he => hrec1 e (by omega)) (fun e he => hrec2 e (by omega)) (fun e he => hrec3 e (by omega)) (fun e he => hrec4 e (by omega)) (fun e he => hrec5 e (by omega)) r2 v1 s1) mf_X4_readInner ml_X4_84 (Nat.le_of_ble_eq_true rfl) (by omega) rfl rc_24 rfl (Nat.le_of_ble_eq_true rfl) dX4_readPiece_20 (fun r4 s3 => ?_)
    exact z_zretc K dX4_readPiece_23
  · refine z_iload_n K 0 rfl dX4_readPiece_11 ?_
    refine z_bipush K cb_40 dX4_readPiece_12 ?_
    refine z_icmp_ne K (tgt := 24) dX4_readPiece_14 (by decide) ?_ ?_
    · refine z_aload_n K 1 rfl dX4_readPiece_24 ?_
      refine z_iload_n K 2 rfl dX4_readPiece_25 ?_
      refine z_cVi (As := [.int v1]) (rest := []) K (hrec3 (d - 1) (by omega) v1 s1) mf_X4_readSum ml_X4_60 (Nat.le_of_ble_eq_true rfl) (by omega) rfl rc_24 rfl (Nat.le_of_ble_eq_true rfl) dX4_readPiece_26 (fun r6 s5 => ?_)
      refine z_if_ne K (tgt := 34) dX4_readPiece_29 (by decide) ?_ ?_
      · refine z_aload_n K 1 rfl dX4_readPiece_34 ?_
        refine z_cVi (As := []) (rest := []) K (t_X4_peek a.1 (d - 1) (by omega) s5) mf_X4_peek ml_X4_47 (Nat.le_of_ble_eq_true rfl) (by omega) rfl rc_24 rfl (Nat.le_of_ble_eq_true rfl) dX4_readPiece_35 (fun r8 s7 => ?_)
        refine z_istore_n K (lv' := [(3, .int r8), (2, .int r2), (0, .ref (a.1.2.2.2 + 24)), (1, .int v1)]) dX4_readPiece_38 rfl (Nat.le_of_ble_eq_true rfl) rfl ?_
        refine z_iload_n K 0 rfl dX4_readPiece_39 ?_
        refine z_bipush K cb_60 dX4_readPiece_40 ?_
        refine z_icmp_eq K (tgt := 63) dX4_readPiece_42 (by decide) ?_ ?_
        · refine z_sub [2, 3, 0] rfl ?_
          exact t_X4_readPiece_j63 rec K hd hrec0 hrec1 hrec2 hrec3 hrec4 hrec5 v1 r8 s7
        · refine z_iload_n K 0 rfl dX4_readPiece_45 ?_
          refine z_bipush K cb_62 dX4_readPiece_46 ?_
          refine z_icmp_eq K (tgt := 63) dX4_readPiece_48 (by decide) ?_ ?_
          · refine z_sub [2, 3, 0] rfl ?_
            exact t_X4_readPiece_j63 rec K hd hrec0 hrec1 hrec2 hrec3 hrec4 hrec5 v1 r8 s7
          · refine z_iload_n K 0 rfl dX4_readPiece_51 ?_
            refine z_bipush K cb_61 dX4_readPiece_52 ?_
            refine z_icmp_eq K (tgt := 63) dX4_readPiece_54 (by decide) ?_ ?_
            · refine z_sub [2, 3, 0] rfl ?_
              exact t_X4_readPiece_j63 rec K hd hrec0 hrec1 hrec2 hrec3 hrec4 hrec5 v1 r8 s7
            · refine z_aload_n K 2 rfl dX4_readPiece_57 ?_
              refine z_iconst K ci_1 dX4_readPiece_58 ?_
              refine z_cVi (As := [.int (1 : Int32)]) (rest := []) K (t_X4_fail a.1 (d - 1) (by omega) (1 : Int32) s7) mf_X4_fail ml_X4_50 (Nat.le_of_ble_eq_true rfl) (by omega) rfl rc_24 rfl (Nat.le_of_ble_eq_true rfl) dX4_readPiece_59 (fun r16 s15 => ?_)
              exact z_zretc K dX4_readPiece_62
      · refine z_iconst K ci_0 dX4_readPiece_32 ?_
        exact z_zret (Or.inl rfl) K dX4_readPiece_33
    · refine z_aload_n K 1 rfl dX4_readPiece_17 ?_
      refine z_iload_n K 0 rfl dX4_readPiece_18 ?_
      refine z_iload_n K 2 rfl dX4_readPiece_19 ?_
      refine z_cVi (As := [.int r2, .int v1]) (rest := []) K (ts_X4_readInner a.1 rec (d - 1) (by omega) (fun e he => hrec0 e (by omega)) (fun e he => hrec1 e (by omega)) (fun e he => hrec2 e (by omega)) (fun e he => hrec3 e (by omega)) (fun e he => hrec4 e (by omega)) (fun e he => hrec5 e (by omega)) r2 v1 s1) mf_X4_readInner ml_X4_84 (Nat.le_of_ble_eq_true rfl) (by omega) rfl rc_24 rfl (Nat.le_of_ble_eq_true rfl) dX4_readPiece_20 (fun r18 s17 => ?_)
      exact z_zretc K dX4_readPiece_23
def f_X4_readSum_L8 (F : Nat) (rec : Nat → Int32 → zM → Option (Int32 × zM)) (k68 : Int32 → zM → Option (Int32 × zM)) (v1 : Int32) : Nat → Int32 → Int32 → zM → Option (Int32 × zM)
  | 0, _, _, _ => none
  | n + 1, v2, v3, s =>
    if v3 < (200 : Int32) then
      if v2 = 0 then
        k68 v2 s
      else
        bnd (f_X4_peek s) (fun r4 s3 =>
        bnd (f_X4_isPlus r4 s3) (fun r6 s5 =>
        if r6 = 0 then
          k68 v2 s5
        else
          bnd (f_X4_peek s5) (fun r8 s7 =>
          lt (zs s7 24 2 ((zg s7 24 2) + (1 : Int32))) (fun s9 =>
          bnd (rec 4 v1 s9) (fun r11 s10 =>
          if zLw (zg s10 24 1).toNatClampNeg = true then
            bnd (f_X3_add ((zg s10 24 1).toNatClampNeg) r8 (0 : Int32) s10) (fun r14 s13 =>
            lt (v3 + (1 : Int32)) (fun y15 =>
            f_X4_readSum_L8 F rec k68 v1 n r11 y15 s13))
          else none)))))
    else
      k68 v2 s
set_option maxRecDepth 100000 in
set_option maxHeartbeats 4000000 in
theorem t_X4_readSum_L8 {a : zA} {d : Nat} (F : Nat) (rec : Nat → Int32 → zM → Option (Int32 × zM)) (K : zOK a cX4_readSum 5 RX4 (some .boolean) d) (hd : 2 ≤ d) (hrec0 : ∀ (e : Nat), d ≤ e + 2 → ∀ (v1 : Int32) (s : zM), zMt a.1 yX4_readCondition cX4_readCondition 5 (some .boolean) e zφN zφN zri [.ref (a.1.2.2.2 + 24), .int v1] s (rec 0 v1 s)) (hrec1 : ∀ (e : Nat), d ≤ e + 2 → ∀ (v1 : Int32) (s : zM), zMt a.1 yX4_readPart cX4_readPart 5 (some .boolean) e zφN zφN zri [.ref (a.1.2.2.2 + 24), .int v1] s (rec 1 v1 s)) (hrec2 : ∀ (e : Nat), d ≤ e + 2 → ∀ (v1 : Int32) (s : zM), zMt a.1 yX4_readPiece cX4_readPiece 5 (some .boolean) e zφN zφN zri [.ref (a.1.2.2.2 + 24), .int v1] s (rec 2 v1 s)) (hrec3 : ∀ (e : Nat), d ≤ e + 2 → ∀ (v1 : Int32) (s : zM), zMt a.1 yX4_readSum cX4_readSum 5 (some .boolean) e zφN zφN zri [.ref (a.1.2.2.2 + 24), .int v1] s (rec 3 v1 s)) (hrec4 : ∀ (e : Nat), d ≤ e + 2 → ∀ (v1 : Int32) (s : zM), zMt a.1 yX4_readTerm cX4_readTerm 5 (some .boolean) e zφN zφN zri [.ref (a.1.2.2.2 + 24), .int v1] s (rec 4 v1 s)) (hrec5 : ∀ (e : Nat), d ≤ e + 2 → ∀ (v1 : Int32) (s : zM), zMt a.1 yX4_readFactor cX4_readFactor 4 (some .boolean) e zφN zφN zri [.ref (a.1.2.2.2 + 24), .int v1] s (rec 5 v1 s)) {k68 : Int32 → zM → Option (Int32 × zM)} (v1 : Int32) (h68 : ∀ (v2 : Int32) (s : zM), zJ a 5 (zG a zφN zri) zφN 68 [(2, .int v2)] [] s (k68 v2 s)) : ∀ (n : Nat) (v2 : Int32) (v3 : Int32) (s : zM), zJ a 5 (zG a zφN zri) zφN 8 [(0, .ref (a.1.2.2.2 + 24)), (1, .int v1), (2, .int v2), (3, .int v3)] [] s (f_X4_readSum_L8 F rec k68 v1 n v2 v3 s) := by
  intro n
  induction n with
  | zero => intros; exact z_none
  | succ n ih =>
    intro v2 v3 s
    rw [f_X4_readSum_L8]
    refine z_iload_n K 3 rfl dX4_readSum_8 ?_
    refine z_sipush K cs_200 dX4_readSum_9 ?_
    refine z_icmp_ge K (tgt := 68) dX4_readSum_12 (by decide) ?_ ?_
    · refine z_sub [2] rfl ?_
      exact h68 v2 s
    · refine z_iload_n K 2 rfl dX4_readSum_15 ?_
      refine z_if_eq K (tgt := 68) dX4_readSum_16 (by decide) ?_ ?_
      · refine z_sub [2] rfl ?_
        exact h68 v2 s
      · refine z_aload_n K 0 rfl dX4_readSum_19 ?_
        refine z_cVi (As := []) (rest := []) K (t_X4_peek a.1 (d - 1) (by omega) s) mf_X4_peek ml_X4_47 (Nat.le_of_ble_eq_true rfl) (by omega) rfl rc_24 rfl (Nat.le_of_ble_eq_true rfl) dX4_readSum_20 (fun r4 s3 => ?_)
        refine z_cSi (As := [.int r4]) (rest := []) K (t_X4_isPlus a.1 (d - 1) (by omega) r4 s3) mf_X4_isPlus ml_X4_91 (Nat.le_of_ble_eq_true rfl) (by omega) rfl rfl (Nat.le_of_ble_eq_true rfl) dX4_readSum_23 (fun r6 s5 => ?_)
        refine z_if_eq K (tgt := 68) dX4_readSum_26 (by decide) ?_ ?_
        · refine z_sub [2] rfl ?_
          exact h68 v2 s5
        · refine z_aload_n K 0 rfl dX4_readSum_29 ?_
          refine z_cVi (As := []) (rest := []) K (t_X4_peek a.1 (d - 1) (by omega) s5) mf_X4_peek ml_X4_47 (Nat.le_of_ble_eq_true rfl) (by omega) rfl rc_24 rfl (Nat.le_of_ble_eq_true rfl) dX4_readSum_30 (fun r8 s7 => ?_)
          refine z_istore K (lv' := [(4, .int r8), (0, .ref (a.1.2.2.2 + 24)), (1, .int v1), (2, .int v2), (3, .int v3)]) dX4_readSum_33 (Nat.le_of_ble_eq_true rfl) rfl ?_
          refine z_aload_n K 1 rfl dX4_readSum_35 ?_
          refine z_dup K rfl dX4_readSum_36 ?_
          refine z_geti K fd_X4_22 ob_24_2 dX4_readSum_37 ?_
          refine z_iconst K ci_1 dX4_readSum_40 ?_
          refine z_iadd K dX4_readSum_41 ?_
          refine z_puti K fw_X4_22 ob_24_2 dX4_readSum_42 ?_
          refine z_ltm (fun s9 => ?_)
          refine z_aload_n K 1 rfl dX4_readSum_45 ?_
          refine z_iload_n K 2 rfl dX4_readSum_46 ?_
          refine z_cVi (As := [.int v1]) (rest := []) K (hrec4 (d - 1) (by omega) v1 s9) mf_X4_readTerm ml_X4_88 (Nat.le_of_ble_eq_true rfl) (by omega) rfl rc_24 rfl (Nat.le_of_ble_eq_true rfl) dX4_readSum_47 (fun r11 s10 => ?_)
          refine z_istore_n K (lv' := [(2, .int r11), (4, .int r8), (0, .ref (a.1.2.2.2 + 24)), (1, .int v1), (3, .int v3)]) dX4_readSum_50 rfl (Nat.le_of_ble_eq_true rfl) rfl ?_
          refine z_aload_n K 2 rfl dX4_readSum_51 ?_
          refine z_getm K fd_X4_12 ob_24_1 dX4_readSum_52 ?_
          refine z_ite (fun hl12 => ?_) (fun _ => z_none)
          refine z_iload K 1 rfl dX4_readSum_55 ?_
          refine z_iconst K ci_0 dX4_readSum_57 ?_
          refine z_cVi (As := [.int r8, .int (0 : Int32)]) (rest := []) K (t_X3_add a.1 (d - 1) (by omega) ((zg s10 24 1).toNatClampNeg) hl12 r8 (0 : Int32) s10) mf_X3_add ml_X4_74 (Nat.le_of_ble_eq_true rfl) (by omega) rfl (rcL hl12) rfl (Nat.le_of_ble_eq_true rfl) dX4_readSum_58 (fun r14 s13 => ?_)
          refine z_pop K rfl dX4_readSum_61 ?_
          refine z_iincN K (j := 4) (lv' := [(2, .int r11), (4, .int r8), (0, .ref (a.1.2.2.2 + 24)), (1, .int v1)]) ci_1 rfl dX4_readSum_62 (Nat.le_of_ble_eq_true rfl) rfl (fun y15 => ?_)
          refine z_goto K (tgt := 8) dX4_readSum_65 (by decide) ?_
          refine z_sub [3, 4, 1, 0] rfl ?_
          exact ih r11 y15 s13
def b_X4_readSum (F : Nat) (rec : Nat → Int32 → zM → Option (Int32 × zM)) (v1 : Int32) (s : zM) : Option (Int32 × zM) :=
  bnd (rec 4 v1 s) (fun r2 s1 =>
  f_X4_readSum_L8 F rec (fun y17 s16 =>
    if y17 = 0 then some (0, s16) else if y17 = 1 then some (1, s16) else none) v1 F r2 (0 : Int32) s1)
set_option maxRecDepth 100000 in
set_option maxHeartbeats 4000000 in
theorem tb_X4_readSum {a : zA} (F : Nat) (rec : Nat → Int32 → zM → Option (Int32 × zM)) {d : Nat} (K : zOK a cX4_readSum 5 RX4 (some .boolean) d) (hd : 2 ≤ d) (hrec0 : ∀ (e : Nat), d ≤ e + 2 → ∀ (v1 : Int32) (s : zM), zMt a.1 yX4_readCondition cX4_readCondition 5 (some .boolean) e zφN zφN zri [.ref (a.1.2.2.2 + 24), .int v1] s (rec 0 v1 s)) (hrec1 : ∀ (e : Nat), d ≤ e + 2 → ∀ (v1 : Int32) (s : zM), zMt a.1 yX4_readPart cX4_readPart 5 (some .boolean) e zφN zφN zri [.ref (a.1.2.2.2 + 24), .int v1] s (rec 1 v1 s)) (hrec2 : ∀ (e : Nat), d ≤ e + 2 → ∀ (v1 : Int32) (s : zM), zMt a.1 yX4_readPiece cX4_readPiece 5 (some .boolean) e zφN zφN zri [.ref (a.1.2.2.2 + 24), .int v1] s (rec 2 v1 s)) (hrec3 : ∀ (e : Nat), d ≤ e + 2 → ∀ (v1 : Int32) (s : zM), zMt a.1 yX4_readSum cX4_readSum 5 (some .boolean) e zφN zφN zri [.ref (a.1.2.2.2 + 24), .int v1] s (rec 3 v1 s)) (hrec4 : ∀ (e : Nat), d ≤ e + 2 → ∀ (v1 : Int32) (s : zM), zMt a.1 yX4_readTerm cX4_readTerm 5 (some .boolean) e zφN zφN zri [.ref (a.1.2.2.2 + 24), .int v1] s (rec 4 v1 s)) (hrec5 : ∀ (e : Nat), d ≤ e + 2 → ∀ (v1 : Int32) (s : zM), zMt a.1 yX4_readFactor cX4_readFactor 4 (some .boolean) e zφN zφN zri [.ref (a.1.2.2.2 + 24), .int v1] s (rec 5 v1 s)) (v1 : Int32) (s : zM) : zJ a 5 (zG a zφN zri) zφN 0 [(0, .ref (a.1.2.2.2 + 24)), (1, .int v1)] [] s (b_X4_readSum F rec v1 s) := by
  unfold b_X4_readSum
  refine z_aload_n K 0 rfl dX4_readSum_0 ?_
  refine z_iload_n K 1 rfl dX4_readSum_1 ?_
  refine z_cVi (As := [.int v1]) (rest := []) K (hrec4 (d - 1) (by omega) v1 s) mf_X4_readTerm ml_X4_88 (Nat.le_of_ble_eq_true rfl) (by omega) rfl rc_24 rfl (Nat.le_of_ble_eq_true rfl) dX4_readSum_2 (fun r2 s1 => ?_)
  refine z_istore_n K (lv' := [(2, .int r2), (0, .ref (a.1.2.2.2 + 24)), (1, .int v1)]) dX4_readSum_5 rfl (Nat.le_of_ble_eq_true rfl) rfl ?_
  refine z_iconst K ci_0 dX4_readSum_6 ?_
  refine z_istore_n K (lv' := [(3, .int (0 : Int32)), (2, .int r2), (0, .ref (a.1.2.2.2 + 24)), (1, .int v1)]) dX4_readSum_7 rfl (Nat.le_of_ble_eq_true rfl) rfl ?_
  refine z_sub [2, 3, 1, 0] rfl ?_
  refine t_X4_readSum_L8 F rec K hd hrec0 hrec1 hrec2 hrec3 hrec4 hrec5 v1 (fun y17 s16 => ?_) F r2 (0 : Int32) s1
  refine z_iload_n K 0 rfl dX4_readSum_68 ?_
  exact z_zretc K dX4_readSum_69
def f_X4_readTerm_L8 (F : Nat) (rec : Nat → Int32 → zM → Option (Int32 × zM)) (k68 : Int32 → zM → Option (Int32 × zM)) (v1 : Int32) : Nat → Int32 → Int32 → zM → Option (Int32 × zM)
  | 0, _, _, _ => none
  | n + 1, v2, v3, s =>
    if v3 < (200 : Int32) then
      if v2 = 0 then
        k68 v2 s
      else
        bnd (f_X4_peek s) (fun r4 s3 =>
        bnd (f_X4_isTimes r4 s3) (fun r6 s5 =>
        if r6 = 0 then
          k68 v2 s5
        else
          bnd (f_X4_peek s5) (fun r8 s7 =>
          lt (zs s7 24 2 ((zg s7 24 2) + (1 : Int32))) (fun s9 =>
          bnd (rec 5 v1 s9) (fun r11 s10 =>
          if zLw (zg s10 24 1).toNatClampNeg = true then
            bnd (f_X3_add ((zg s10 24 1).toNatClampNeg) r8 (0 : Int32) s10) (fun r14 s13 =>
            lt (v3 + (1 : Int32)) (fun y15 =>
            f_X4_readTerm_L8 F rec k68 v1 n r11 y15 s13))
          else none)))))
    else
      k68 v2 s
set_option maxRecDepth 100000 in
set_option maxHeartbeats 4000000 in
theorem t_X4_readTerm_L8 {a : zA} {d : Nat} (F : Nat) (rec : Nat → Int32 → zM → Option (Int32 × zM)) (K : zOK a cX4_readTerm 5 RX4 (some .boolean) d) (hd : 2 ≤ d) (hrec0 : ∀ (e : Nat), d ≤ e + 2 → ∀ (v1 : Int32) (s : zM), zMt a.1 yX4_readCondition cX4_readCondition 5 (some .boolean) e zφN zφN zri [.ref (a.1.2.2.2 + 24), .int v1] s (rec 0 v1 s)) (hrec1 : ∀ (e : Nat), d ≤ e + 2 → ∀ (v1 : Int32) (s : zM), zMt a.1 yX4_readPart cX4_readPart 5 (some .boolean) e zφN zφN zri [.ref (a.1.2.2.2 + 24), .int v1] s (rec 1 v1 s)) (hrec2 : ∀ (e : Nat), d ≤ e + 2 → ∀ (v1 : Int32) (s : zM), zMt a.1 yX4_readPiece cX4_readPiece 5 (some .boolean) e zφN zφN zri [.ref (a.1.2.2.2 + 24), .int v1] s (rec 2 v1 s)) (hrec3 : ∀ (e : Nat), d ≤ e + 2 → ∀ (v1 : Int32) (s : zM), zMt a.1 yX4_readSum cX4_readSum 5 (some .boolean) e zφN zφN zri [.ref (a.1.2.2.2 + 24), .int v1] s (rec 3 v1 s)) (hrec4 : ∀ (e : Nat), d ≤ e + 2 → ∀ (v1 : Int32) (s : zM), zMt a.1 yX4_readTerm cX4_readTerm 5 (some .boolean) e zφN zφN zri [.ref (a.1.2.2.2 + 24), .int v1] s (rec 4 v1 s)) (hrec5 : ∀ (e : Nat), d ≤ e + 2 → ∀ (v1 : Int32) (s : zM), zMt a.1 yX4_readFactor cX4_readFactor 4 (some .boolean) e zφN zφN zri [.ref (a.1.2.2.2 + 24), .int v1] s (rec 5 v1 s)) {k68 : Int32 → zM → Option (Int32 × zM)} (v1 : Int32) (h68 : ∀ (v2 : Int32) (s : zM), zJ a 5 (zG a zφN zri) zφN 68 [(2, .int v2)] [] s (k68 v2 s)) : ∀ (n : Nat) (v2 : Int32) (v3 : Int32) (s : zM), zJ a 5 (zG a zφN zri) zφN 8 [(0, .ref (a.1.2.2.2 + 24)), (1, .int v1), (2, .int v2), (3, .int v3)] [] s (f_X4_readTerm_L8 F rec k68 v1 n v2 v3 s) := by
  intro n
  induction n with
  | zero => intros; exact z_none
  | succ n ih =>
    intro v2 v3 s
    rw [f_X4_readTerm_L8]
    refine z_iload_n K 3 rfl dX4_readTerm_8 ?_
    refine z_sipush K cs_200 dX4_readTerm_9 ?_
    refine z_icmp_ge K (tgt := 68) dX4_readTerm_12 (by decide) ?_ ?_
    · refine z_sub [2] rfl ?_
      exact h68 v2 s
    · refine z_iload_n K 2 rfl dX4_readTerm_15 ?_
      refine z_if_eq K (tgt := 68) dX4_readTerm_16 (by decide) ?_ ?_
      · refine z_sub [2] rfl ?_
        exact h68 v2 s
      · refine z_aload_n K 0 rfl dX4_readTerm_19 ?_
        refine z_cVi (As := []) (rest := []) K (t_X4_peek a.1 (d - 1) (by omega) s) mf_X4_peek ml_X4_47 (Nat.le_of_ble_eq_true rfl) (by omega) rfl rc_24 rfl (Nat.le_of_ble_eq_true rfl) dX4_readTerm_20 (fun r4 s3 => ?_)
        refine z_cSi (As := [.int r4]) (rest := []) K (t_X4_isTimes a.1 (d - 1) (by omega) r4 s3) mf_X4_isTimes ml_X4_97 (Nat.le_of_ble_eq_true rfl) (by omega) rfl rfl (Nat.le_of_ble_eq_true rfl) dX4_readTerm_23 (fun r6 s5 => ?_)
        refine z_if_eq K (tgt := 68) dX4_readTerm_26 (by decide) ?_ ?_
        · refine z_sub [2] rfl ?_
          exact h68 v2 s5
        · refine z_aload_n K 0 rfl dX4_readTerm_29 ?_
          refine z_cVi (As := []) (rest := []) K (t_X4_peek a.1 (d - 1) (by omega) s5) mf_X4_peek ml_X4_47 (Nat.le_of_ble_eq_true rfl) (by omega) rfl rc_24 rfl (Nat.le_of_ble_eq_true rfl) dX4_readTerm_30 (fun r8 s7 => ?_)
          refine z_istore K (lv' := [(4, .int r8), (0, .ref (a.1.2.2.2 + 24)), (1, .int v1), (2, .int v2), (3, .int v3)]) dX4_readTerm_33 (Nat.le_of_ble_eq_true rfl) rfl ?_
          refine z_aload_n K 1 rfl dX4_readTerm_35 ?_
          refine z_dup K rfl dX4_readTerm_36 ?_
          refine z_geti K fd_X4_22 ob_24_2 dX4_readTerm_37 ?_
          refine z_iconst K ci_1 dX4_readTerm_40 ?_
          refine z_iadd K dX4_readTerm_41 ?_
          refine z_puti K fw_X4_22 ob_24_2 dX4_readTerm_42 ?_
          refine z_ltm (fun s9 => ?_)
          refine z_aload_n K 1 rfl dX4_readTerm_45 ?_
          refine z_iload_n K 2 rfl dX4_readTerm_46 ?_
          refine z_cVi (As := [.int v1]) (rest := []) K (hrec5 (d - 1) (by omega) v1 s9) mf_X4_readFactor ml_X4_94 (Nat.le_of_ble_eq_true rfl) (by omega) rfl rc_24 rfl (Nat.le_of_ble_eq_true rfl) dX4_readTerm_47 (fun r11 s10 => ?_)
          refine z_istore_n K (lv' := [(2, .int r11), (4, .int r8), (0, .ref (a.1.2.2.2 + 24)), (1, .int v1), (3, .int v3)]) dX4_readTerm_50 rfl (Nat.le_of_ble_eq_true rfl) rfl ?_
          refine z_aload_n K 2 rfl dX4_readTerm_51 ?_
          refine z_getm K fd_X4_12 ob_24_1 dX4_readTerm_52 ?_
          refine z_ite (fun hl12 => ?_) (fun _ => z_none)
          refine z_iload K 1 rfl dX4_readTerm_55 ?_
          refine z_iconst K ci_0 dX4_readTerm_57 ?_
          refine z_cVi (As := [.int r8, .int (0 : Int32)]) (rest := []) K (t_X3_add a.1 (d - 1) (by omega) ((zg s10 24 1).toNatClampNeg) hl12 r8 (0 : Int32) s10) mf_X3_add ml_X4_74 (Nat.le_of_ble_eq_true rfl) (by omega) rfl (rcL hl12) rfl (Nat.le_of_ble_eq_true rfl) dX4_readTerm_58 (fun r14 s13 => ?_)
          refine z_pop K rfl dX4_readTerm_61 ?_
          refine z_iincN K (j := 4) (lv' := [(2, .int r11), (4, .int r8), (0, .ref (a.1.2.2.2 + 24)), (1, .int v1)]) ci_1 rfl dX4_readTerm_62 (Nat.le_of_ble_eq_true rfl) rfl (fun y15 => ?_)
          refine z_goto K (tgt := 8) dX4_readTerm_65 (by decide) ?_
          refine z_sub [3, 4, 1, 0] rfl ?_
          exact ih r11 y15 s13
def b_X4_readTerm (F : Nat) (rec : Nat → Int32 → zM → Option (Int32 × zM)) (v1 : Int32) (s : zM) : Option (Int32 × zM) :=
  bnd (rec 5 v1 s) (fun r2 s1 =>
  f_X4_readTerm_L8 F rec (fun y17 s16 =>
    if y17 = 0 then some (0, s16) else if y17 = 1 then some (1, s16) else none) v1 F r2 (0 : Int32) s1)
set_option maxRecDepth 100000 in
set_option maxHeartbeats 4000000 in
theorem tb_X4_readTerm {a : zA} (F : Nat) (rec : Nat → Int32 → zM → Option (Int32 × zM)) {d : Nat} (K : zOK a cX4_readTerm 5 RX4 (some .boolean) d) (hd : 2 ≤ d) (hrec0 : ∀ (e : Nat), d ≤ e + 2 → ∀ (v1 : Int32) (s : zM), zMt a.1 yX4_readCondition cX4_readCondition 5 (some .boolean) e zφN zφN zri [.ref (a.1.2.2.2 + 24), .int v1] s (rec 0 v1 s)) (hrec1 : ∀ (e : Nat), d ≤ e + 2 → ∀ (v1 : Int32) (s : zM), zMt a.1 yX4_readPart cX4_readPart 5 (some .boolean) e zφN zφN zri [.ref (a.1.2.2.2 + 24), .int v1] s (rec 1 v1 s)) (hrec2 : ∀ (e : Nat), d ≤ e + 2 → ∀ (v1 : Int32) (s : zM), zMt a.1 yX4_readPiece cX4_readPiece 5 (some .boolean) e zφN zφN zri [.ref (a.1.2.2.2 + 24), .int v1] s (rec 2 v1 s)) (hrec3 : ∀ (e : Nat), d ≤ e + 2 → ∀ (v1 : Int32) (s : zM), zMt a.1 yX4_readSum cX4_readSum 5 (some .boolean) e zφN zφN zri [.ref (a.1.2.2.2 + 24), .int v1] s (rec 3 v1 s)) (hrec4 : ∀ (e : Nat), d ≤ e + 2 → ∀ (v1 : Int32) (s : zM), zMt a.1 yX4_readTerm cX4_readTerm 5 (some .boolean) e zφN zφN zri [.ref (a.1.2.2.2 + 24), .int v1] s (rec 4 v1 s)) (hrec5 : ∀ (e : Nat), d ≤ e + 2 → ∀ (v1 : Int32) (s : zM), zMt a.1 yX4_readFactor cX4_readFactor 4 (some .boolean) e zφN zφN zri [.ref (a.1.2.2.2 + 24), .int v1] s (rec 5 v1 s)) (v1 : Int32) (s : zM) : zJ a 5 (zG a zφN zri) zφN 0 [(0, .ref (a.1.2.2.2 + 24)), (1, .int v1)] [] s (b_X4_readTerm F rec v1 s) := by
  unfold b_X4_readTerm
  refine z_aload_n K 0 rfl dX4_readTerm_0 ?_
  refine z_iload_n K 1 rfl dX4_readTerm_1 ?_
  refine z_cVi (As := [.int v1]) (rest := []) K (hrec5 (d - 1) (by omega) v1 s) mf_X4_readFactor ml_X4_94 (Nat.le_of_ble_eq_true rfl) (by omega) rfl rc_24 rfl (Nat.le_of_ble_eq_true rfl) dX4_readTerm_2 (fun r2 s1 => ?_)
  refine z_istore_n K (lv' := [(2, .int r2), (0, .ref (a.1.2.2.2 + 24)), (1, .int v1)]) dX4_readTerm_5 rfl (Nat.le_of_ble_eq_true rfl) rfl ?_
  refine z_iconst K ci_0 dX4_readTerm_6 ?_
  refine z_istore_n K (lv' := [(3, .int (0 : Int32)), (2, .int r2), (0, .ref (a.1.2.2.2 + 24)), (1, .int v1)]) dX4_readTerm_7 rfl (Nat.le_of_ble_eq_true rfl) rfl ?_
  refine z_sub [2, 3, 1, 0] rfl ?_
  refine t_X4_readTerm_L8 F rec K hd hrec0 hrec1 hrec2 hrec3 hrec4 hrec5 v1 (fun y17 s16 => ?_) F r2 (0 : Int32) s1
  refine z_iload_n K 0 rfl dX4_readTerm_68 ?_
  exact z_zretc K dX4_readTerm_69
def b_X4_readFactor (F : Nat) (rec : Nat → Int32 → zM → Option (Int32 × zM)) (v1 : Int32) (s : zM) : Option (Int32 × zM) :=
  bnd (f_X4_peek s) (fun r2 s1 =>
  bnd (f_X4_isDigit r2 s1) (fun r4 s3 =>
  if r4 = 0 then
    if r2 = (91 : Int32) then
      if v1 < (6 : Int32) then
        lt (zs s3 24 2 ((zg s3 24 2) + (1 : Int32))) (fun s13 =>
        bnd (rec 3 (v1 + (1 : Int32)) s13) (fun r15 s14 =>
        if r15 = 0 then
          some ((0 : Int32), s14)
        else
          bnd (f_X4_accept (93 : Int32) s14) (fun r17 s16 =>
          if r17 = 0 then
            some ((0 : Int32), s16)
          else
            some ((1 : Int32), s16))))
      else
        bnd (f_X4_fail (5 : Int32) s3) (fun r19 s18 =>
        if r19 = 0 then some (0, s18) else if r19 = 1 then some (1, s18) else none)
    else
      bnd (f_X1_letterPlace r2 s3) (fun r6 s5 =>
      if r6 = (-1 : Int32) then
        bnd (f_X4_fail (1 : Int32) s5) (fun r12 s11 =>
        if r12 = 0 then some (0, s11) else if r12 = 1 then some (1, s11) else none)
      else
        lt (zs s5 24 2 ((zg s5 24 2) + (1 : Int32))) (fun s7 =>
        if zLw (zg s7 24 1).toNatClampNeg = true then
          bnd (f_X3_add ((zg s7 24 1).toNatClampNeg) (2 : Int32) r6 s7) (fun r10 s9 =>
          some ((1 : Int32), s9))
        else none))
  else
    bnd (f_X4_readNumber F s3) (fun r21 s20 =>
    if r21 = 0 then some (0, s20) else if r21 = 1 then some (1, s20) else none)))
set_option maxRecDepth 100000 in
set_option maxHeartbeats 4000000 in
theorem tb_X4_readFactor {a : zA} (F : Nat) (rec : Nat → Int32 → zM → Option (Int32 × zM)) {d : Nat} (K : zOK a cX4_readFactor 4 RX4 (some .boolean) d) (hd : 3 ≤ d) (hrec0 : ∀ (e : Nat), d ≤ e + 2 → ∀ (v1 : Int32) (s : zM), zMt a.1 yX4_readCondition cX4_readCondition 5 (some .boolean) e zφN zφN zri [.ref (a.1.2.2.2 + 24), .int v1] s (rec 0 v1 s)) (hrec1 : ∀ (e : Nat), d ≤ e + 2 → ∀ (v1 : Int32) (s : zM), zMt a.1 yX4_readPart cX4_readPart 5 (some .boolean) e zφN zφN zri [.ref (a.1.2.2.2 + 24), .int v1] s (rec 1 v1 s)) (hrec2 : ∀ (e : Nat), d ≤ e + 2 → ∀ (v1 : Int32) (s : zM), zMt a.1 yX4_readPiece cX4_readPiece 5 (some .boolean) e zφN zφN zri [.ref (a.1.2.2.2 + 24), .int v1] s (rec 2 v1 s)) (hrec3 : ∀ (e : Nat), d ≤ e + 2 → ∀ (v1 : Int32) (s : zM), zMt a.1 yX4_readSum cX4_readSum 5 (some .boolean) e zφN zφN zri [.ref (a.1.2.2.2 + 24), .int v1] s (rec 3 v1 s)) (hrec4 : ∀ (e : Nat), d ≤ e + 2 → ∀ (v1 : Int32) (s : zM), zMt a.1 yX4_readTerm cX4_readTerm 5 (some .boolean) e zφN zφN zri [.ref (a.1.2.2.2 + 24), .int v1] s (rec 4 v1 s)) (hrec5 : ∀ (e : Nat), d ≤ e + 2 → ∀ (v1 : Int32) (s : zM), zMt a.1 yX4_readFactor cX4_readFactor 4 (some .boolean) e zφN zφN zri [.ref (a.1.2.2.2 + 24), .int v1] s (rec 5 v1 s)) (v1 : Int32) (s : zM) : zJ a 4 (zG a zφN zri) zφN 0 [(0, .ref (a.1.2.2.2 + 24)), (1, .int v1)] [] s (b_X4_readFactor F rec v1 s) := by
  unfold b_X4_readFactor
  refine z_aload_n K 0 rfl dX4_readFactor_0 ?_
  refine z_cVi (As := []) (rest := []) K (t_X4_peek a.1 (d - 1) (by omega) s) mf_X4_peek ml_X4_47 (Nat.le_of_ble_eq_true rfl) (by omega) rfl rc_24 rfl (Nat.le_of_ble_eq_true rfl) dX4_readFactor_1 (fun r2 s1 => ?_)
  refine z_istore_n K (lv' := [(2, .int r2), (0, .ref (a.1.2.2.2 + 24)), (1, .int v1)]) dX4_readFactor_4 rfl (Nat.le_of_ble_eq_true rfl) rfl ?_
  refine z_iload_n K 0 rfl dX4_readFactor_5 ?_
  refine z_cSi (As := [.int r2]) (rest := []) K (t_X4_isDigit a.1 (d - 1) (by omega) r2 s1) mf_X4_isDigit ml_X4_100 (Nat.le_of_ble_eq_true rfl) (by omega) rfl rfl (Nat.le_of_ble_eq_true rfl) dX4_readFactor_6 (fun r4 s3 => ?_)
  refine z_if_eq K (tgt := 17) dX4_readFactor_9 (by decide) ?_ ?_
  · refine z_iload_n K 0 rfl dX4_readFactor_17 ?_
    refine z_bipush K cb_91 dX4_readFactor_18 ?_
    refine z_icmp_ne K (tgt := 70) dX4_readFactor_20 (by decide) ?_ ?_
    · refine z_iload_n K 0 rfl dX4_readFactor_70 ?_
      refine z_cSi (As := [.int r2]) (rest := []) K (t_X1_letterPlace a.1 (d - 1) (by omega) r2 s3) mf_X1_letterPlace ml_X4_106 (Nat.le_of_ble_eq_true rfl) (by omega) rfl rfl (Nat.le_of_ble_eq_true rfl) dX4_readFactor_71 (fun r6 s5 => ?_)
      refine z_istore_n K (lv' := [(3, .int r6), (2, .int r2), (0, .ref (a.1.2.2.2 + 24)), (1, .int v1)]) dX4_readFactor_74 rfl (Nat.le_of_ble_eq_true rfl) rfl ?_
      refine z_iload_n K 0 rfl dX4_readFactor_75 ?_
      refine z_iconst K ci_m1 dX4_readFactor_76 ?_
      refine z_icmp_ne K (tgt := 86) dX4_readFactor_77 (by decide) ?_ ?_
      · refine z_aload_n K 2 rfl dX4_readFactor_86 ?_
        refine z_dup K rfl dX4_readFactor_87 ?_
        refine z_geti K fd_X4_22 ob_24_2 dX4_readFactor_88 ?_
        refine z_iconst K ci_1 dX4_readFactor_91 ?_
        refine z_iadd K dX4_readFactor_92 ?_
        refine z_puti K fw_X4_22 ob_24_2 dX4_readFactor_93 ?_
        refine z_ltm (fun s7 => ?_)
        refine z_aload_n K 2 rfl dX4_readFactor_96 ?_
        refine z_getm K fd_X4_12 ob_24_1 dX4_readFactor_97 ?_
        refine z_ite (fun hl8 => ?_) (fun _ => z_none)
        refine z_iconst K ci_2 dX4_readFactor_100 ?_
        refine z_iload_n K 0 rfl dX4_readFactor_101 ?_
        refine z_cVi (As := [.int (2 : Int32), .int r6]) (rest := []) K (t_X3_add a.1 (d - 1) (by omega) ((zg s7 24 1).toNatClampNeg) hl8 (2 : Int32) r6 s7) mf_X3_add ml_X4_74 (Nat.le_of_ble_eq_true rfl) (by omega) rfl (rcL hl8) rfl (Nat.le_of_ble_eq_true rfl) dX4_readFactor_102 (fun r10 s9 => ?_)
        refine z_pop K rfl dX4_readFactor_105 ?_
        refine z_iconst K ci_1 dX4_readFactor_106 ?_
        exact z_zret (Or.inr rfl) K dX4_readFactor_107
      · refine z_aload_n K 2 rfl dX4_readFactor_80 ?_
        refine z_iconst K ci_1 dX4_readFactor_81 ?_
        refine z_cVi (As := [.int (1 : Int32)]) (rest := []) K (t_X4_fail a.1 (d - 1) (by omega) (1 : Int32) s5) mf_X4_fail ml_X4_50 (Nat.le_of_ble_eq_true rfl) (by omega) rfl rc_24 rfl (Nat.le_of_ble_eq_true rfl) dX4_readFactor_82 (fun r12 s11 => ?_)
        exact z_zretc K dX4_readFactor_85
    · refine z_iload_n K 2 rfl dX4_readFactor_23 ?_
      refine z_bipush K cb_6 dX4_readFactor_24 ?_
      refine z_icmp_lt K (tgt := 35) dX4_readFactor_26 (by decide) ?_ ?_
      · refine z_aload_n K 1 rfl dX4_readFactor_35 ?_
        refine z_dup K rfl dX4_readFactor_36 ?_
        refine z_geti K fd_X4_22 ob_24_2 dX4_readFactor_37 ?_
        refine z_iconst K ci_1 dX4_readFactor_40 ?_
        refine z_iadd K dX4_readFactor_41 ?_
        refine z_puti K fw_X4_22 ob_24_2 dX4_readFactor_42 ?_
        refine z_ltm (fun s13 => ?_)
        refine z_aload_n K 1 rfl dX4_readFactor_45 ?_
        refine z_iload_n K 2 rfl dX4_readFactor_46 ?_
        refine z_iconst K ci_1 dX4_readFactor_47 ?_
        refine z_iadd K dX4_readFactor_48 ?_
        refine z_cVi (As := [.int (v1 + (1 : Int32))]) (rest := []) K (hrec3 (d - 1) (by omega) (v1 + (1 : Int32)) s13) mf_X4_readSum ml_X4_60 (Nat.le_of_ble_eq_true rfl) (by omega) rfl rc_24 rfl (Nat.le_of_ble_eq_true rfl) dX4_readFactor_49 (fun r15 s14 => ?_)
        refine z_if_eq K (tgt := 68) dX4_readFactor_52 (by decide) ?_ ?_
        · refine z_iconst K ci_0 dX4_readFactor_68 ?_
          exact z_zret (Or.inl rfl) K dX4_readFactor_69
        · refine z_aload_n K 1 rfl dX4_readFactor_55 ?_
          refine z_bipush K cb_93 dX4_readFactor_56 ?_
          refine z_cVi (As := [.int (93 : Int32)]) (rest := []) K (t_X4_accept a.1 (d - 1) (by omega) (93 : Int32) s14) mf_X4_accept ml_X4_39 (Nat.le_of_ble_eq_true rfl) (by omega) rfl rc_24 rfl (Nat.le_of_ble_eq_true rfl) dX4_readFactor_58 (fun r17 s16 => ?_)
          refine z_if_eq K (tgt := 68) dX4_readFactor_61 (by decide) ?_ ?_
          · refine z_iconst K ci_0 dX4_readFactor_68 ?_
            exact z_zret (Or.inl rfl) K dX4_readFactor_69
          · refine z_iconst K ci_1 dX4_readFactor_64 ?_
            refine z_goto K (tgt := 69) dX4_readFactor_65 (by decide) ?_
            exact z_zret (Or.inr rfl) K dX4_readFactor_69
      · refine z_aload_n K 1 rfl dX4_readFactor_29 ?_
        refine z_iconst K ci_5 dX4_readFactor_30 ?_
        refine z_cVi (As := [.int (5 : Int32)]) (rest := []) K (t_X4_fail a.1 (d - 1) (by omega) (5 : Int32) s3) mf_X4_fail ml_X4_50 (Nat.le_of_ble_eq_true rfl) (by omega) rfl rc_24 rfl (Nat.le_of_ble_eq_true rfl) dX4_readFactor_31 (fun r19 s18 => ?_)
        exact z_zretc K dX4_readFactor_34
  · refine z_aload_n K 1 rfl dX4_readFactor_12 ?_
    refine z_cVi (As := []) (rest := []) K (t_X4_readNumber a.1 F (d - 1) (by omega) s3) mf_X4_readNumber ml_X4_103 (Nat.le_of_ble_eq_true rfl) (by omega) rfl rc_24 rfl (Nat.le_of_ble_eq_true rfl) dX4_readFactor_13 (fun r21 s20 => ?_)
    exact z_zretc K dX4_readFactor_16
def f_G0 (F : Nat) : Nat → Nat → Int32 → zM → Option (Int32 × zM)
  | 0, _, _, _ => none
  | n + 1, 0, x, s => b_X4_readCondition F (f_G0 F n) x s
  | n + 1, 1, x, s => b_X4_readPart F (f_G0 F n) x s
  | n + 1, 2, x, s => b_X4_readPiece (f_G0 F n) x s
  | n + 1, 3, x, s => b_X4_readSum F (f_G0 F n) x s
  | n + 1, 4, x, s => b_X4_readTerm F (f_G0 F n) x s
  | n + 1, 5, x, s => b_X4_readFactor F (f_G0 F n) x s
  | _ + 1, _, _, _ => none
set_option maxRecDepth 100000 in
set_option maxHeartbeats 4000000 in
theorem tG0 (w : zWd) (F : Nat) : ∀ n : Nat, (∀ (d : Nat) (x : Int32) (s : zM), 2 * n + 4 ≤ d → zMt w yX4_readCondition cX4_readCondition 5 (some .boolean) d zφN zφN zri [.ref (w.2.2.2 + 24), .int x] s (f_G0 F n 0 x s)) ∧ (∀ (d : Nat) (x : Int32) (s : zM), 2 * n + 4 ≤ d → zMt w yX4_readPart cX4_readPart 5 (some .boolean) d zφN zφN zri [.ref (w.2.2.2 + 24), .int x] s (f_G0 F n 1 x s)) ∧ (∀ (d : Nat) (x : Int32) (s : zM), 2 * n + 4 ≤ d → zMt w yX4_readPiece cX4_readPiece 5 (some .boolean) d zφN zφN zri [.ref (w.2.2.2 + 24), .int x] s (f_G0 F n 2 x s)) ∧ (∀ (d : Nat) (x : Int32) (s : zM), 2 * n + 4 ≤ d → zMt w yX4_readSum cX4_readSum 5 (some .boolean) d zφN zφN zri [.ref (w.2.2.2 + 24), .int x] s (f_G0 F n 3 x s)) ∧ (∀ (d : Nat) (x : Int32) (s : zM), 2 * n + 4 ≤ d → zMt w yX4_readTerm cX4_readTerm 5 (some .boolean) d zφN zφN zri [.ref (w.2.2.2 + 24), .int x] s (f_G0 F n 4 x s)) ∧ (∀ (d : Nat) (x : Int32) (s : zM), 2 * n + 4 ≤ d → zMt w yX4_readFactor cX4_readFactor 4 (some .boolean) d zφN zφN zri [.ref (w.2.2.2 + 24), .int x] s (f_G0 F n 5 x s)) := by
  intro n
  induction n with
  | zero => exact ⟨(fun _ _ _ _ _ _ h => by rw [f_G0] at h; cases h), (fun _ _ _ _ _ _ h => by rw [f_G0] at h; cases h), (fun _ _ _ _ _ _ h => by rw [f_G0] at h; cases h), (fun _ _ _ _ _ _ h => by rw [f_G0] at h; cases h), (fun _ _ _ _ _ _ h => by rw [f_G0] at h; cases h), (fun _ _ _ _ _ _ h => by rw [f_G0] at h; cases h)⟩
  | succ n ih =>
    obtain ⟨g0, g1, g2, g3, g4, g5⟩ := ih
    refine ⟨?_, ?_, ?_, ?_, ?_, ?_⟩
    · intro d x s hd
      refine zMtN_of (own := RX4) rfl (by decide +kernel) (Nat.le_of_ble_eq_true rfl) cd_X4_readCondition [(0, .ref (w.2.2.2 + 24)), (1, .int x)] rfl ?_
      rintro a rfl K
      rw [f_G0]
      exact tb_X4_readCondition F _ K (by omega) (fun e he x s => g0 e x s (by omega)) (fun e he x s => g1 e x s (by omega)) (fun e he x s => g2 e x s (by omega)) (fun e he x s => g3 e x s (by omega)) (fun e he x s => g4 e x s (by omega)) (fun e he x s => g5 e x s (by omega)) x s
    · intro d x s hd
      refine zMtN_of (own := RX4) rfl (by decide +kernel) (Nat.le_of_ble_eq_true rfl) cd_X4_readPart [(0, .ref (w.2.2.2 + 24)), (1, .int x)] rfl ?_
      rintro a rfl K
      rw [f_G0]
      exact tb_X4_readPart F _ K (by omega) (fun e he x s => g0 e x s (by omega)) (fun e he x s => g1 e x s (by omega)) (fun e he x s => g2 e x s (by omega)) (fun e he x s => g3 e x s (by omega)) (fun e he x s => g4 e x s (by omega)) (fun e he x s => g5 e x s (by omega)) x s
    · intro d x s hd
      refine zMtN_of (own := RX4) rfl (by decide +kernel) (Nat.le_of_ble_eq_true rfl) cd_X4_readPiece [(0, .ref (w.2.2.2 + 24)), (1, .int x)] rfl ?_
      rintro a rfl K
      rw [f_G0]
      exact tb_X4_readPiece _ K (by omega) (fun e he x s => g0 e x s (by omega)) (fun e he x s => g1 e x s (by omega)) (fun e he x s => g2 e x s (by omega)) (fun e he x s => g3 e x s (by omega)) (fun e he x s => g4 e x s (by omega)) (fun e he x s => g5 e x s (by omega)) x s
    · intro d x s hd
      refine zMtN_of (own := RX4) rfl (by decide +kernel) (Nat.le_of_ble_eq_true rfl) cd_X4_readSum [(0, .ref (w.2.2.2 + 24)), (1, .int x)] rfl ?_
      rintro a rfl K
      rw [f_G0]
      exact tb_X4_readSum F _ K (by omega) (fun e he x s => g0 e x s (by omega)) (fun e he x s => g1 e x s (by omega)) (fun e he x s => g2 e x s (by omega)) (fun e he x s => g3 e x s (by omega)) (fun e he x s => g4 e x s (by omega)) (fun e he x s => g5 e x s (by omega)) x s
    · intro d x s hd
      refine zMtN_of (own := RX4) rfl (by decide +kernel) (Nat.le_of_ble_eq_true rfl) cd_X4_readTerm [(0, .ref (w.2.2.2 + 24)), (1, .int x)] rfl ?_
      rintro a rfl K
      rw [f_G0]
      exact tb_X4_readTerm F _ K (by omega) (fun e he x s => g0 e x s (by omega)) (fun e he x s => g1 e x s (by omega)) (fun e he x s => g2 e x s (by omega)) (fun e he x s => g3 e x s (by omega)) (fun e he x s => g4 e x s (by omega)) (fun e he x s => g5 e x s (by omega)) x s
    · intro d x s hd
      refine zMtN_of (own := RX4) rfl (by decide +kernel) (Nat.le_of_ble_eq_true rfl) cd_X4_readFactor [(0, .ref (w.2.2.2 + 24)), (1, .int x)] rfl ?_
      rintro a rfl K
      rw [f_G0]
      exact tb_X4_readFactor F _ K (by omega) (fun e he x s => g0 e x s (by omega)) (fun e he x s => g1 e x s (by omega)) (fun e he x s => g2 e x s (by omega)) (fun e he x s => g3 e x s (by omega)) (fun e he x s => g4 e x s (by omega)) (fun e he x s => g5 e x s (by omega)) x s
set_option maxRecDepth 100000 in
set_option maxHeartbeats 4000000 in
theorem t_X4_readCondition (w : zWd) (F : Nat) (D d : Nat) (hd : 2 * D + 4 ≤ d) (x : Int32) (s : zM) : zMt w yX4_readCondition cX4_readCondition 5 (some .boolean) d zφN zφN zri [.ref (w.2.2.2 + 24), .int x] s (f_G0 F D 0 x s) := (tG0 w F D).1 d x s hd
set_option maxRecDepth 100000 in
set_option maxHeartbeats 4000000 in
theorem t_X4_readPart (w : zWd) (F : Nat) (D d : Nat) (hd : 2 * D + 4 ≤ d) (x : Int32) (s : zM) : zMt w yX4_readPart cX4_readPart 5 (some .boolean) d zφN zφN zri [.ref (w.2.2.2 + 24), .int x] s (f_G0 F D 1 x s) := (tG0 w F D).2.1 d x s hd
set_option maxRecDepth 100000 in
set_option maxHeartbeats 4000000 in
theorem t_X4_readPiece (w : zWd) (F : Nat) (D d : Nat) (hd : 2 * D + 4 ≤ d) (x : Int32) (s : zM) : zMt w yX4_readPiece cX4_readPiece 5 (some .boolean) d zφN zφN zri [.ref (w.2.2.2 + 24), .int x] s (f_G0 F D 2 x s) := (tG0 w F D).2.2.1 d x s hd
set_option maxRecDepth 100000 in
set_option maxHeartbeats 4000000 in
theorem t_X4_readSum (w : zWd) (F : Nat) (D d : Nat) (hd : 2 * D + 4 ≤ d) (x : Int32) (s : zM) : zMt w yX4_readSum cX4_readSum 5 (some .boolean) d zφN zφN zri [.ref (w.2.2.2 + 24), .int x] s (f_G0 F D 3 x s) := (tG0 w F D).2.2.2.1 d x s hd
set_option maxRecDepth 100000 in
set_option maxHeartbeats 4000000 in
theorem t_X4_readTerm (w : zWd) (F : Nat) (D d : Nat) (hd : 2 * D + 4 ≤ d) (x : Int32) (s : zM) : zMt w yX4_readTerm cX4_readTerm 5 (some .boolean) d zφN zφN zri [.ref (w.2.2.2 + 24), .int x] s (f_G0 F D 4 x s) := (tG0 w F D).2.2.2.2.1 d x s hd
set_option maxRecDepth 100000 in
set_option maxHeartbeats 4000000 in
theorem t_X4_readFactor (w : zWd) (F : Nat) (D d : Nat) (hd : 2 * D + 4 ≤ d) (x : Int32) (s : zM) : zMt w yX4_readFactor cX4_readFactor 4 (some .boolean) d zφN zφN zri [.ref (w.2.2.2 + 24), .int x] s (f_G0 F D 5 x s) := (tG0 w F D).2.2.2.2.2 d x s hd
def f_X4_readClause_j85 (F : Nat) (D : Nat) (s : zM) : Option (Int32 × zM) :=
  if zLw (zg s 24 1).toNatClampNeg = true then
    bnd (f_X3_beginCondition ((zg s 24 1).toNatClampNeg) s) (fun _ s10 =>
    bnd (f_X4_accept (40 : Int32) s10) (fun r12 s11 =>
    if r12 = 0 then
      some ((0 : Int32), s11)
    else
      bnd (f_G0 F D 0 (1 : Int32) s11) (fun r14 s13 =>
      if r14 = 0 then
        some ((0 : Int32), s13)
      else
        bnd (f_X4_accept (41 : Int32) s13) (fun r16 s15 =>
        if r16 = 0 then
          some ((0 : Int32), s15)
        else
          if zLw (zg s15 24 1).toNatClampNeg = true then
            bnd (f_X3_end ((zg s15 24 1).toNatClampNeg) s15) (fun _ s18 =>
            some ((1 : Int32), s18))
          else none))))
  else none
set_option maxRecDepth 100000 in
set_option maxHeartbeats 4000000 in
theorem t_X4_readClause_j85 {a : zA} {d : Nat} (F : Nat) (D : Nat) (K : zOK a cX4_readClause 2 RX4 (some .boolean) d) (hd : 2 * D + 5 ≤ d) (s : zM) : zJ a 2 (zG a zφN zri) zφN 85 [(0, .ref (a.1.2.2.2 + 24))] [] s (f_X4_readClause_j85 F D s) := by
  unfold f_X4_readClause_j85
  refine z_aload_n K 0 rfl dX4_readClause_85 ?_
  refine z_getm K fd_X4_12 ob_24_1 dX4_readClause_86 ?_
  refine z_ite (fun hl9 => ?_) (fun _ => z_none)
  refine z_cVv (As := []) (rest := []) K (t_X3_beginCondition a.1 (d - 1) (by omega) ((zg s 24 1).toNatClampNeg) hl9 s) mf_X3_beginCondition ml_X4_63 (Nat.le_of_ble_eq_true rfl) (by omega) rfl (rcL hl9) rfl (Nat.le_of_ble_eq_true rfl) dX4_readClause_89 (fun _ s10 => ?_)
  refine z_aload_n K 0 rfl dX4_readClause_92 ?_
  refine z_bipush K cb_40 dX4_readClause_93 ?_
  refine z_cVi (As := [.int (40 : Int32)]) (rest := []) K (t_X4_accept a.1 (d - 1) (by omega) (40 : Int32) s10) mf_X4_accept ml_X4_39 (Nat.le_of_ble_eq_true rfl) (by omega) rfl rc_24 rfl (Nat.le_of_ble_eq_true rfl) dX4_readClause_95 (fun r12 s11 => ?_)
  refine z_if_eq K (tgt := 118) dX4_readClause_98 (by decide) ?_ ?_
  · refine z_iconst K ci_0 dX4_readClause_118 ?_
    exact z_zret (Or.inl rfl) K dX4_readClause_119
  · refine z_aload_n K 0 rfl dX4_readClause_101 ?_
    refine z_iconst K ci_1 dX4_readClause_102 ?_
    refine z_cVi (As := [.int (1 : Int32)]) (rest := []) K (t_X4_readCondition a.1 F D (d - 1) (by omega) (1 : Int32) s11) mf_X4_readCondition ml_X4_66 (Nat.le_of_ble_eq_true rfl) (by omega) rfl rc_24 rfl (Nat.le_of_ble_eq_true rfl) dX4_readClause_103 (fun r14 s13 => ?_)
    refine z_if_eq K (tgt := 118) dX4_readClause_106 (by decide) ?_ ?_
    · refine z_iconst K ci_0 dX4_readClause_118 ?_
      exact z_zret (Or.inl rfl) K dX4_readClause_119
    · refine z_aload_n K 0 rfl dX4_readClause_109 ?_
      refine z_bipush K cb_41 dX4_readClause_110 ?_
      refine z_cVi (As := [.int (41 : Int32)]) (rest := []) K (t_X4_accept a.1 (d - 1) (by omega) (41 : Int32) s13) mf_X4_accept ml_X4_39 (Nat.le_of_ble_eq_true rfl) (by omega) rfl rc_24 rfl (Nat.le_of_ble_eq_true rfl) dX4_readClause_112 (fun r16 s15 => ?_)
      refine z_if_ne K (tgt := 120) dX4_readClause_115 (by decide) ?_ ?_
      · refine z_aload_n K 0 rfl dX4_readClause_120 ?_
        refine z_getm K fd_X4_12 ob_24_1 dX4_readClause_121 ?_
        refine z_ite (fun hl17 => ?_) (fun _ => z_none)
        refine z_cVv (As := []) (rest := []) K (t_X3_end a.1 (d - 1) (by omega) ((zg s15 24 1).toNatClampNeg) hl17 s15) mf_X3_end ml_X4_69 (Nat.le_of_ble_eq_true rfl) (by omega) rfl (rcL hl17) rfl (Nat.le_of_ble_eq_true rfl) dX4_readClause_124 (fun _ s18 => ?_)
        refine z_iconst K ci_1 dX4_readClause_127 ?_
        exact z_zret (Or.inr rfl) K dX4_readClause_128
      · refine z_iconst K ci_0 dX4_readClause_118 ?_
        exact z_zret (Or.inl rfl) K dX4_readClause_119
def f_X4_readClause_j35 (F : Nat) (D : Nat) (v1 : Int32) (s : zM) : Option (Int32 × zM) :=
  if zLw (zg s 24 1).toNatClampNeg = true then
    bnd (f_X3_isFull ((zg s 24 1).toNatClampNeg) s) (fun r5 s4 =>
    if r5 = 0 then
      lt (zs s4 24 2 ((zg s4 24 2) + (1 : Int32))) (fun s6 =>
      if zLw (zg s6 24 1).toNatClampNeg = true then
        bnd (f_X3_begin ((zg s6 24 1).toNatClampNeg) v1 s6) (fun _ s8 =>
        if v1 = (112 : Int32) then
          f_X4_readClause_j85 F D s8
        else
          bnd (f_G0 F D 3 (0 : Int32) s8) (fun r20 s19 =>
          if r20 = 0 then
            some ((0 : Int32), s19)
          else
            f_X4_readClause_j85 F D s19))
      else none)
    else
      bnd (f_X4_fail (4 : Int32) s4) (fun r22 s21 =>
      if r22 = 0 then some (0, s21) else if r22 = 1 then some (1, s21) else none))
  else none
set_option maxRecDepth 100000 in
set_option maxHeartbeats 4000000 in
theorem t_X4_readClause_j35 {a : zA} {d : Nat} (F : Nat) (D : Nat) (K : zOK a cX4_readClause 2 RX4 (some .boolean) d) (hd : 2 * D + 5 ≤ d) (v1 : Int32) (s : zM) : zJ a 2 (zG a zφN zri) zφN 35 [(0, .ref (a.1.2.2.2 + 24)), (1, .int v1)] [] s (f_X4_readClause_j35 F D v1 s) := by
  unfold f_X4_readClause_j35
  refine z_aload_n K 0 rfl dX4_readClause_35 ?_
  refine z_getm K fd_X4_12 ob_24_1 dX4_readClause_36 ?_
  refine z_ite (fun hl3 => ?_) (fun _ => z_none)
  refine z_cVi (As := []) (rest := []) K (t_X3_isFull a.1 (d - 1) (by omega) ((zg s 24 1).toNatClampNeg) hl3 s) mf_X3_isFull ml_X4_53 (Nat.le_of_ble_eq_true rfl) (by omega) rfl (rcL hl3) rfl (Nat.le_of_ble_eq_true rfl) dX4_readClause_39 (fun r5 s4 => ?_)
  refine z_if_eq K (tgt := 51) dX4_readClause_42 (by decide) ?_ ?_
  · refine z_aload_n K 0 rfl dX4_readClause_51 ?_
    refine z_dup K rfl dX4_readClause_52 ?_
    refine z_geti K fd_X4_22 ob_24_2 dX4_readClause_53 ?_
    refine z_iconst K ci_1 dX4_readClause_56 ?_
    refine z_iadd K dX4_readClause_57 ?_
    refine z_puti K fw_X4_22 ob_24_2 dX4_readClause_58 ?_
    refine z_ltm (fun s6 => ?_)
    refine z_aload_n K 0 rfl dX4_readClause_61 ?_
    refine z_getm K fd_X4_12 ob_24_1 dX4_readClause_62 ?_
    refine z_ite (fun hl7 => ?_) (fun _ => z_none)
    refine z_iload_n K 1 rfl dX4_readClause_65 ?_
    refine z_cVv (As := [.int v1]) (rest := []) K (t_X3_begin a.1 (d - 1) (by omega) ((zg s6 24 1).toNatClampNeg) hl7 v1 s6) mf_X3_begin ml_X4_56 (Nat.le_of_ble_eq_true rfl) (by omega) rfl (rcL hl7) rfl (Nat.le_of_ble_eq_true rfl) dX4_readClause_66 (fun _ s8 => ?_)
    refine z_iload_n K 1 rfl dX4_readClause_69 ?_
    refine z_bipush K cb_112 dX4_readClause_70 ?_
    refine z_icmp_eq K (tgt := 85) dX4_readClause_72 (by decide) ?_ ?_
    · refine z_sub [0] rfl ?_
      exact t_X4_readClause_j85 F D K hd s8
    · refine z_aload_n K 0 rfl dX4_readClause_75 ?_
      refine z_iconst K ci_0 dX4_readClause_76 ?_
      refine z_cVi (As := [.int (0 : Int32)]) (rest := []) K (t_X4_readSum a.1 F D (d - 1) (by omega) (0 : Int32) s8) mf_X4_readSum ml_X4_60 (Nat.le_of_ble_eq_true rfl) (by omega) rfl rc_24 rfl (Nat.le_of_ble_eq_true rfl) dX4_readClause_77 (fun r20 s19 => ?_)
      refine z_if_ne K (tgt := 85) dX4_readClause_80 (by decide) ?_ ?_
      · refine z_sub [0] rfl ?_
        exact t_X4_readClause_j85 F D K hd s19
      · refine z_iconst K ci_0 dX4_readClause_83 ?_
        exact z_zret (Or.inl rfl) K dX4_readClause_84
  · refine z_aload_n K 0 rfl dX4_readClause_45 ?_
    refine z_iconst K ci_4 dX4_readClause_46 ?_
    refine z_cVi (As := [.int (4 : Int32)]) (rest := []) K (t_X4_fail a.1 (d - 1) (by omega) (4 : Int32) s4) mf_X4_fail ml_X4_50 (Nat.le_of_ble_eq_true rfl) (by omega) rfl rc_24 rfl (Nat.le_of_ble_eq_true rfl) dX4_readClause_47 (fun r22 s21 => ?_)
    exact z_zretc K dX4_readClause_50
def f_X4_readClause (F : Nat) (D : Nat) (s : zM) : Option (Int32 × zM) :=
  bnd (f_X4_peek s) (fun r2 s1 =>
  if r2 = (112 : Int32) then
    f_X4_readClause_j35 F D r2 s1
  else
    if r2 = (119 : Int32) then
      f_X4_readClause_j35 F D r2 s1
    else
      if r2 = (104 : Int32) then
        f_X4_readClause_j35 F D r2 s1
      else
        if r2 = (118 : Int32) then
          f_X4_readClause_j35 F D r2 s1
        else
          bnd (f_X4_fail (1 : Int32) s1) (fun r24 s23 =>
          if r24 = 0 then some (0, s23) else if r24 = 1 then some (1, s23) else none))
set_option maxRecDepth 100000 in
set_option maxHeartbeats 4000000 in
theorem t_X4_readClause (w : zWd) (F : Nat) (D : Nat) (d : Nat) (hd : 2 * D + 5 ≤ d) (s : zM) : zMt w yX4_readClause cX4_readClause 2 (some .boolean) d zφN zφN zri [.ref (w.2.2.2 + 24)] s (f_X4_readClause F D s) := by
  refine zMtN_of (own := RX4) rfl (by decide +kernel) (Nat.le_of_ble_eq_true rfl) cd_X4_readClause [(0, .ref (w.2.2.2 + 24))] rfl ?_
  rintro a rfl K
  unfold f_X4_readClause
  refine z_aload_n K 0 rfl dX4_readClause_0 ?_
  refine z_cVi (As := []) (rest := []) K (t_X4_peek a.1 (d - 1) (by omega) s) mf_X4_peek ml_X4_47 (Nat.le_of_ble_eq_true rfl) (by omega) rfl rc_24 rfl (Nat.le_of_ble_eq_true rfl) dX4_readClause_1 (fun r2 s1 => ?_)
  refine z_istore_n K (lv' := [(1, .int r2), (0, .ref (a.1.2.2.2 + 24))]) dX4_readClause_4 rfl (Nat.le_of_ble_eq_true rfl) rfl ?_
  refine z_iload_n K 0 rfl dX4_readClause_5 ?_
  refine z_bipush K cb_112 dX4_readClause_6 ?_
  refine z_icmp_eq K (tgt := 35) dX4_readClause_8 (by decide) ?_ ?_
  · refine z_sub [1, 0] rfl ?_
    exact t_X4_readClause_j35 F D K hd r2 s1
  · refine z_iload_n K 0 rfl dX4_readClause_11 ?_
    refine z_bipush K cb_119 dX4_readClause_12 ?_
    refine z_icmp_eq K (tgt := 35) dX4_readClause_14 (by decide) ?_ ?_
    · refine z_sub [1, 0] rfl ?_
      exact t_X4_readClause_j35 F D K hd r2 s1
    · refine z_iload_n K 0 rfl dX4_readClause_17 ?_
      refine z_bipush K cb_104 dX4_readClause_18 ?_
      refine z_icmp_eq K (tgt := 35) dX4_readClause_20 (by decide) ?_ ?_
      · refine z_sub [1, 0] rfl ?_
        exact t_X4_readClause_j35 F D K hd r2 s1
      · refine z_iload_n K 0 rfl dX4_readClause_23 ?_
        refine z_bipush K cb_118 dX4_readClause_24 ?_
        refine z_icmp_eq K (tgt := 35) dX4_readClause_26 (by decide) ?_ ?_
        · refine z_sub [1, 0] rfl ?_
          exact t_X4_readClause_j35 F D K hd r2 s1
        · refine z_aload_n K 1 rfl dX4_readClause_29 ?_
          refine z_iconst K ci_1 dX4_readClause_30 ?_
          refine z_cVi (As := [.int (1 : Int32)]) (rest := []) K (t_X4_fail a.1 (d - 1) (by omega) (1 : Int32) s1) mf_X4_fail ml_X4_50 (Nat.le_of_ble_eq_true rfl) (by omega) rfl rc_24 rfl (Nat.le_of_ble_eq_true rfl) dX4_readClause_31 (fun r24 s23 => ?_)
          exact z_zretc K dX4_readClause_34
def f_X4_read_L26 (F : Nat) (D : Nat) (k75 : zM → Option (Int32 × zM)) : Nat → Int32 → Int32 → zM → Option (Int32 × zM)
  | 0, _, _, _ => none
  | n + 1, v2, v3, s =>
    if (14 : Int32) < v3 then
      k75 s
    else
      if v2 = 0 then
        k75 s
      else
        bnd (f_X4_readClause F D s) (fun r7 s6 =>
        if r7 = 0 then
          lt (v3 + (1 : Int32)) (fun y8 =>
          f_X4_read_L26 F D k75 n (0 : Int32) y8 s6)
        else
          if (zg s6 24 2) < (zg s6 24 3) then
            bnd (f_X4_accept (59 : Int32) s6) (fun r11 s10 =>
            if r11 = 0 then
              lt (v3 + (1 : Int32)) (fun y12 =>
              f_X4_read_L26 F D k75 n (0 : Int32) y12 s10)
            else
              lt (v3 + (1 : Int32)) (fun y13 =>
              f_X4_read_L26 F D k75 n (1 : Int32) y13 s10))
          else
            lt (v3 + (1 : Int32)) (fun y9 =>
            f_X4_read_L26 F D k75 n (0 : Int32) y9 s6))
set_option maxRecDepth 100000 in
set_option maxHeartbeats 4000000 in
theorem t_X4_read_L26 {a : zA} {d : Nat} (F : Nat) (D : Nat) (K : zOK a cX4_read 4 RX4 (some .int) d) (hd : 2 * D + 6 ≤ d) {k75 : zM → Option (Int32 × zM)} (h75 : ∀ (s : zM), zJ a 4 (zG a zφN zri) zφN 75 [(0, .ref (a.1.2.2.2 + 24))] [] s (k75 s)) : ∀ (n : Nat) (v2 : Int32) (v3 : Int32) (s : zM), zJ a 4 (zG a zφN zri) zφN 26 [(0, .ref (a.1.2.2.2 + 24)), (2, .int v2), (3, .int v3)] [] s (f_X4_read_L26 F D k75 n v2 v3 s) := by
  intro n
  induction n with
  | zero => intros; exact z_none
  | succ n ih =>
    intro v2 v3 s
    rw [f_X4_read_L26]
    refine z_iload_n K 2 rfl dX4_read_26 ?_
    refine z_bipush K cb_14 dX4_read_27 ?_
    refine z_icmp_gt K (tgt := 75) dX4_read_29 (by decide) ?_ ?_
    · refine z_sub [0] rfl ?_
      exact h75 s
    · refine z_iload_n K 1 rfl dX4_read_32 ?_
      refine z_if_eq K (tgt := 75) dX4_read_33 (by decide) ?_ ?_
      · refine z_sub [0] rfl ?_
        exact h75 s
      · refine z_aload_n K 0 rfl dX4_read_36 ?_
        refine z_cVi (As := []) (rest := []) K (t_X4_readClause a.1 F D (d - 1) (by omega) s) mf_X4_readClause ml_X4_35 (Nat.le_of_ble_eq_true rfl) (by omega) rfl rc_24 rfl (Nat.le_of_ble_eq_true rfl) dX4_read_37 (fun r7 s6 => ?_)
        refine z_if_eq K (tgt := 67) dX4_read_40 (by decide) ?_ ?_
        · refine z_iconst K ci_0 dX4_read_67 ?_
          refine z_istore_n K (lv' := [(2, .int (0 : Int32)), (0, .ref (a.1.2.2.2 + 24)), (3, .int v3)]) dX4_read_68 rfl (Nat.le_of_ble_eq_true rfl) rfl ?_
          refine z_iincN K (j := 2) (lv' := [(2, .int (0 : Int32)), (0, .ref (a.1.2.2.2 + 24))]) ci_1 rfl dX4_read_69 (Nat.le_of_ble_eq_true rfl) rfl (fun y8 => ?_)
          refine z_goto K (tgt := 26) dX4_read_72 (by decide) ?_
          refine z_sub [2, 1, 0] rfl ?_
          exact ih (0 : Int32) y8 s6
        · refine z_aload_n K 0 rfl dX4_read_43 ?_
          refine z_geti K fd_X4_22 ob_24_2 dX4_read_44 ?_
          refine z_aload_n K 0 rfl dX4_read_47 ?_
          refine z_geti K fd_X4_26 ob_24_3 dX4_read_48 ?_
          refine z_icmp_ge K (tgt := 67) dX4_read_51 (by decide) ?_ ?_
          · refine z_iconst K ci_0 dX4_read_67 ?_
            refine z_istore_n K (lv' := [(2, .int (0 : Int32)), (0, .ref (a.1.2.2.2 + 24)), (3, .int v3)]) dX4_read_68 rfl (Nat.le_of_ble_eq_true rfl) rfl ?_
            refine z_iincN K (j := 2) (lv' := [(2, .int (0 : Int32)), (0, .ref (a.1.2.2.2 + 24))]) ci_1 rfl dX4_read_69 (Nat.le_of_ble_eq_true rfl) rfl (fun y9 => ?_)
            refine z_goto K (tgt := 26) dX4_read_72 (by decide) ?_
            refine z_sub [2, 1, 0] rfl ?_
            exact ih (0 : Int32) y9 s6
          · refine z_aload_n K 0 rfl dX4_read_54 ?_
            refine z_bipush K cb_59 dX4_read_55 ?_
            refine z_cVi (As := [.int (59 : Int32)]) (rest := []) K (t_X4_accept a.1 (d - 1) (by omega) (59 : Int32) s6) mf_X4_accept ml_X4_39 (Nat.le_of_ble_eq_true rfl) (by omega) rfl rc_24 rfl (Nat.le_of_ble_eq_true rfl) dX4_read_57 (fun r11 s10 => ?_)
            refine z_if_eq K (tgt := 67) dX4_read_60 (by decide) ?_ ?_
            · refine z_iconst K ci_0 dX4_read_67 ?_
              refine z_istore_n K (lv' := [(2, .int (0 : Int32)), (0, .ref (a.1.2.2.2 + 24)), (3, .int v3)]) dX4_read_68 rfl (Nat.le_of_ble_eq_true rfl) rfl ?_
              refine z_iincN K (j := 2) (lv' := [(2, .int (0 : Int32)), (0, .ref (a.1.2.2.2 + 24))]) ci_1 rfl dX4_read_69 (Nat.le_of_ble_eq_true rfl) rfl (fun y12 => ?_)
              refine z_goto K (tgt := 26) dX4_read_72 (by decide) ?_
              refine z_sub [2, 1, 0] rfl ?_
              exact ih (0 : Int32) y12 s10
            · refine z_iconst K ci_1 dX4_read_63 ?_
              refine z_goto K (tgt := 68) dX4_read_64 (by decide) ?_
              refine z_istore_n K (lv' := [(2, .int (1 : Int32)), (0, .ref (a.1.2.2.2 + 24)), (3, .int v3)]) dX4_read_68 rfl (Nat.le_of_ble_eq_true rfl) rfl ?_
              refine z_iincN K (j := 2) (lv' := [(2, .int (1 : Int32)), (0, .ref (a.1.2.2.2 + 24))]) ci_1 rfl dX4_read_69 (Nat.le_of_ble_eq_true rfl) rfl (fun y13 => ?_)
              refine z_goto K (tgt := 26) dX4_read_72 (by decide) ?_
              refine z_sub [2, 1, 0] rfl ?_
              exact ih (1 : Int32) y13 s10
def f_X4_read_j75 (F : Nat) (D : Nat) (s : zM) : Option (Int32 × zM) :=
  if (zg s 24 4) = 0 then
    if zLw (zg s 24 1).toNatClampNeg = true then
      bnd (f_X3_number ((zg s 24 1).toNatClampNeg) s) (fun r17 s16 =>
      some (r17, s16))
    else none
  else
    some ((zg s 24 4), s)
set_option maxRecDepth 100000 in
set_option maxHeartbeats 4000000 in
theorem t_X4_read_j75 {a : zA} {d : Nat} (F : Nat) (D : Nat) (K : zOK a cX4_read 4 RX4 (some .int) d) (hd : 2 * D + 6 ≤ d) (s : zM) : zJ a 4 (zG a zφN zri) zφN 75 [(0, .ref (a.1.2.2.2 + 24))] [] s (f_X4_read_j75 F D s) := by
  unfold f_X4_read_j75
  refine z_aload_n K 0 rfl dX4_read_75 ?_
  refine z_geti K fd_X4_29 ob_24_4 dX4_read_76 ?_
  refine z_if_eq K (tgt := 89) dX4_read_79 (by decide) ?_ ?_
  · refine z_aload_n K 0 rfl dX4_read_89 ?_
    refine z_getm K fd_X4_12 ob_24_1 dX4_read_90 ?_
    refine z_ite (fun hl15 => ?_) (fun _ => z_none)
    refine z_cVi (As := []) (rest := []) K (t_X3_number a.1 (d - 1) (by omega) ((zg s 24 1).toNatClampNeg) hl15 s) mf_X3_number ml_X4_43 (Nat.le_of_ble_eq_true rfl) (by omega) rfl (rcL hl15) rfl (Nat.le_of_ble_eq_true rfl) dX4_read_93 (fun r17 s16 => ?_)
    exact z_iret K dX4_read_96
  · refine z_aload_n K 0 rfl dX4_read_82 ?_
    refine z_geti K fd_X4_29 ob_24_4 dX4_read_83 ?_
    refine z_goto K (tgt := 96) dX4_read_86 (by decide) ?_
    exact z_iret K dX4_read_96
def f_X4_read (F : Nat) (D : Nat) (v1 : Int32) (s : zM) : Option (Int32 × zM) :=
  lt (zs s 24 2 (0 : Int32)) (fun s1 =>
  lt (zs s1 24 3 v1) (fun s2 =>
  lt (zs s2 24 4 (0 : Int32)) (fun s3 =>
  if zLw (zg s3 24 1).toNatClampNeg = true then
    bnd (f_X3_clear ((zg s3 24 1).toNatClampNeg) s3) (fun _ s5 =>
    f_X4_read_L26 F D (fun s14 =>
      f_X4_read_j75 F D s14) F (1 : Int32) (0 : Int32) s5)
  else none)))
set_option maxRecDepth 100000 in
set_option maxHeartbeats 4000000 in
theorem t_X4_read (w : zWd) (F : Nat) (D : Nat) (d : Nat) (hd : 2 * D + 6 ≤ d) (v1 : Int32) (s : zM) : zMt w yX4_read cX4_read 4 (some .int) d zφN zφN zri [.ref (w.2.2.2 + 24), .int v1] s (f_X4_read F D v1 s) := by
  refine zMtN_of (own := RX4) rfl (by decide +kernel) (Nat.le_of_ble_eq_true rfl) cd_X4_read [(0, .ref (w.2.2.2 + 24)), (1, .int v1)] rfl ?_
  rintro a rfl K
  unfold f_X4_read
  refine z_aload_n K 0 rfl dX4_read_0 ?_
  refine z_iconst K ci_0 dX4_read_1 ?_
  refine z_puti K fw_X4_22 ob_24_2 dX4_read_2 ?_
  refine z_ltm (fun s1 => ?_)
  refine z_aload_n K 0 rfl dX4_read_5 ?_
  refine z_iload_n K 1 rfl dX4_read_6 ?_
  refine z_puti K fw_X4_26 ob_24_3 dX4_read_7 ?_
  refine z_ltm (fun s2 => ?_)
  refine z_aload_n K 0 rfl dX4_read_10 ?_
  refine z_iconst K ci_0 dX4_read_11 ?_
  refine z_puti K fw_X4_29 ob_24_4 dX4_read_12 ?_
  refine z_ltm (fun s3 => ?_)
  refine z_aload_n K 0 rfl dX4_read_15 ?_
  refine z_getm K fd_X4_12 ob_24_1 dX4_read_16 ?_
  refine z_ite (fun hl4 => ?_) (fun _ => z_none)
  refine z_cVv (As := []) (rest := []) K (t_X3_clear a.1 (d - 1) (by omega) ((zg s3 24 1).toNatClampNeg) hl4 s3) mf_X3_clear ml_X4_32 (Nat.le_of_ble_eq_true rfl) (by omega) rfl (rcL hl4) rfl (Nat.le_of_ble_eq_true rfl) dX4_read_19 (fun _ s5 => ?_)
  refine z_iconst K ci_1 dX4_read_22 ?_
  refine z_istore_n K (lv' := [(2, .int (1 : Int32)), (0, .ref (a.1.2.2.2 + 24)), (1, .int v1)]) dX4_read_23 rfl (Nat.le_of_ble_eq_true rfl) rfl ?_
  refine z_iconst K ci_0 dX4_read_24 ?_
  refine z_istore_n K (lv' := [(3, .int (0 : Int32)), (2, .int (1 : Int32)), (0, .ref (a.1.2.2.2 + 24)), (1, .int v1)]) dX4_read_25 rfl (Nat.le_of_ble_eq_true rfl) rfl ?_
  refine z_sub [2, 1, 0] rfl ?_
  refine t_X4_read_L26 F D K hd (fun s14 => ?_) F (1 : Int32) (0 : Int32) s5
  exact t_X4_read_j75 F D K hd s14
