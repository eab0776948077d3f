def f_L_act (F : Nat) (D : Nat) (v1 : Int32) (v2 : Int32) (s : zM) : Option (Int32 × zM) :=
  lt ((v2 &&& (7 : Int32))) (fun y1 =>
  lt (((v2 >>> ((3 : Int32) &&& 31)) &&& (7 : Int32))) (fun y2 =>
  lt (((1 : Int32) + ((v2 >>> ((6 : Int32) &&& 31)) &&& (31 : Int32)))) (fun y3 =>
  if (v1 &&& (15 : Int32)) = (0 : Int32) then
    bnd (cal (f_X11_sit y1 (((v2 >>> ((6 : Int32) &&& 31)) &&& (31 : Int32)) - (1 : Int32))) (f_X12_sit F y1 (((v2 >>> ((6 : Int32) &&& 31)) &&& (31 : Int32)) - (1 : Int32))) s) (fun r45 s44 =>
    if r45 = 0 then
      some ((0 : Int32), s44)
    else
      some ((1 : Int32), s44))
  else
    if (v1 &&& (15 : Int32)) = (1 : Int32) then
      bnd (cal (f_X11_liking y1 y2 (((v2 >>> ((6 : Int32) &&& 31)) &&& (15 : Int32)) - (7 : Int32))) (f_X12_liking y1 y2 (((v2 >>> ((6 : Int32) &&& 31)) &&& (15 : Int32)) - (7 : Int32))) s) (fun r43 s42 =>
      if r43 = 0 then
        some ((0 : Int32), s42)
      else
        some ((1 : Int32), s42))
    else
      if (v1 &&& (15 : Int32)) = (2 : Int32) then
        bnd (cal (f_X11_rain y3 y2 (y2 + ((v2 >>> ((11 : Int32) &&& 31)) &&& (7 : Int32)))) (f_X12_rain y3 y2 (y2 + ((v2 >>> ((11 : Int32) &&& 31)) &&& (7 : Int32)))) s) (fun r41 s40 =>
        some (r41, s40))
      else
        if (v1 &&& (15 : Int32)) = (3 : Int32) then
          bnd (cal (f_X11_speech (y1 + y2) y3 ((1 : Int32) + ((v2 >>> ((11 : Int32) &&& 31)) &&& (3 : Int32)))) (f_X12_speech (y1 + y2) y3 ((1 : Int32) + ((v2 >>> ((11 : Int32) &&& 31)) &&& (3 : Int32)))) s) (fun r39 s38 =>
          some (r39, s38))
        else
          if (v1 &&& (15 : Int32)) = (4 : Int32) then
            bnd (cal (f_X11_soonest F y1 y2 y3) (f_X12_soonest F y1 y2 y3) s) (fun r37 s36 =>
            some (r37, s36))
          else
            if (v1 &&& (15 : Int32)) = (5 : Int32) then
              bnd (cal (f_X11_rumour F y1 y3 y2) (f_X12_rumour F y1 y3 y2) s) (fun r35 s34 =>
              some (r35, s34))
            else
              if (v1 &&& (15 : Int32)) = (6 : Int32) then
                if ((v2 >>> ((6 : Int32) &&& 31)) &&& (3 : Int32)) = (3 : Int32) then
                  bnd (cal (f_X11_smuggled F D y1 y2 (11 : Int32)) (f_X12_smuggled F y1 y2 (11 : Int32)) s) (fun r33 s32 =>
                  some ((r33).toInt32, s32))
                else
                  bnd (cal (f_X11_smuggled F D y1 y2 ((v2 >>> ((6 : Int32) &&& 31)) &&& (3 : Int32))) (f_X12_smuggled F y1 y2 ((v2 >>> ((6 : Int32) &&& 31)) &&& (3 : Int32))) s) (fun r31 s30 =>
                  some ((r31).toInt32, s30))
              else
                if (v1 &&& (15 : Int32)) = (7 : Int32) then
                  if (v2 - v2 / (3 : Int32) * (3 : Int32)) < 0 then
                    bnd (cal (f_X11_exchange F (0 : Int32)) (f_X12_exchange F (0 : Int32)) s) (fun r29 s28 =>
                    some (r29, s28))
                  else
                    bnd (cal (f_X11_exchange F (v2 - v2 / (3 : Int32) * (3 : Int32))) (f_X12_exchange F (v2 - v2 / (3 : Int32) * (3 : Int32))) s) (fun r27 s26 =>
                    some (r27, s26))
                else
                  if (v1 &&& (15 : Int32)) = (8 : Int32) then
                    bnd (cal (f_X11_heir y1 (y2 - (1 : Int32))) (f_X12_heir y1 (y2 - (1 : Int32))) s) (fun r25 s24 =>
                    if r25 = 0 then
                      some ((0 : Int32), s24)
                    else
                      some ((1 : Int32), s24))
                  else
                    if (v1 &&& (15 : Int32)) = (9 : Int32) then
                      bnd (cal (f_X11_dies F y1) (f_X12_dies F y1) s) (fun r23 s22 =>
                      some (r23, s22))
                    else
                      if (v1 &&& (15 : Int32)) = (10 : Int32) then
                        bnd (cal (f_X11_put y1 y2 (y3 &&& (7 : Int32))) (f_X12_put y1 y2 (y3 &&& (7 : Int32))) s) (fun r19 s18 =>
                        if r19 = 0 then
                          bnd (cal (f_X11_knives y1 (y3 - y3 / (10 : Int32) * (10 : Int32))) (f_X12_knives y1 (y3 - y3 / (10 : Int32) * (10 : Int32))) s18) (fun r21 s20 =>
                          if r21 = 0 then
                            some ((0 : Int32), s20)
                          else
                            some ((2 : Int32), s20))
                        else
                          some ((1 : Int32), s18))
                      else
                        if (v1 &&& (15 : Int32)) = (11 : Int32) then
                          bnd (cal (f_X11_counted ((v2 >>> ((6 : Int32) &&& 31)) &&& (1 : Int32)) y1 (y1 + (y2 &&& (3 : Int32))) (y3 &&& (15 : Int32))) (f_X12_counted ((v2 >>> ((6 : Int32) &&& 31)) &&& (1 : Int32)) y1 (y1 + (y2 &&& (3 : Int32))) (y3 &&& (15 : Int32))) s) (fun r17 s16 =>
                          some (r17, s16))
                        else
                          if (v1 &&& (15 : Int32)) = (12 : Int32) then
                            bnd (cal (f_X11_gives y1 y3) (f_X12_gives y1 y3) s) (fun r15 s14 =>
                            some (r15, s14))
                          else
                            if (v1 &&& (15 : Int32)) = (13 : Int32) then
                              bnd (cal (f_X11_passes F y1 y2 (y3 &&& (7 : Int32))) (f_X12_passes F y1 y2 (y3 &&& (7 : Int32))) s) (fun r13 s12 =>
                              some (r13, s12))
                            else
                              if (v1 &&& (15 : Int32)) = (14 : Int32) then
                                bnd (cal (f_X11_draw F y3) (f_X12_draw F y3) s) (fun r11 s10 =>
                                some (r11, s10))
                              else
                                if ((v2 >>> ((6 : Int32) &&& 31)) &&& (3 : Int32)) = 0 then
                                  bnd (cal (f_X11_keep F) (f_X12_keep F) s) (fun r9 s8 =>
                                  some (r9, s8))
                                else
                                  if ((v2 >>> ((6 : Int32) &&& 31)) &&& (3 : Int32)) = (1 : Int32) then
                                    bnd (cal (f_X11_undo F) (f_X12_undo F) s) (fun r7 s6 =>
                                    if r7 = 0 then
                                      some ((0 : Int32), s6)
                                    else
                                      some ((1 : Int32), s6))
                                  else
                                    bnd (cal (f_X11_eats y1 y3) (f_X12_eats y1 y3) s) (fun r5 s4 =>
                                    some (r5, s4)))))
set_option maxRecDepth 100000 in
set_option maxHeartbeats 4000000 in
theorem t_L_act (w : zWd) (F : Nat) (D : Nat) (d : Nat) (hd : 2 * D + 8 ≤ d) (v1 : Int32) (v2 : Int32) (s : zM) : zMt w yL_act cL_act 6 (some .int) d zφN zφN zri [.ref (w.2.2.2 + 0), .int v1, .int v2] s (f_L_act F D v1 v2 s) := by
  refine zMtN_of (own := RL) rfl (by decide +kernel) (Nat.le_of_ble_eq_true rfl) cd_L_act [(0, .ref (w.2.2.2 + 0)), (1, .int v1), (2, .int v2)] rfl ?_
  rintro a rfl K
  unfold f_L_act
  refine z_iload_n K 2 rfl dL_act_0 ?_
  refine z_bipush K cb_7 dL_act_1 ?_
  refine z_iand K dL_act_3 ?_
  refine z_topi (fun y1 => ?_)
  refine z_istore_n K (lv' := [(3, .int y1), (0, .ref (a.1.2.2.2 + 0)), (1, .int v1), (2, .int v2)]) dL_act_4 rfl (Nat.le_of_ble_eq_true rfl) rfl ?_
  refine z_iload_n K 3 rfl dL_act_5 ?_
  refine z_iconst K ci_3 dL_act_6 ?_
  refine z_ishr K dL_act_7 ?_
  refine z_bipush K cb_7 dL_act_8 ?_
  refine z_iand K dL_act_10 ?_
  refine z_topi (fun y2 => ?_)
  refine z_istore K (lv' := [(4, .int y2), (3, .int y1), (0, .ref (a.1.2.2.2 + 0)), (1, .int v1), (2, .int v2)]) dL_act_11 (Nat.le_of_ble_eq_true rfl) rfl ?_
  refine z_iconst K ci_1 dL_act_13 ?_
  refine z_iload_n K 4 rfl dL_act_14 ?_
  refine z_bipush K cb_6 dL_act_15 ?_
  refine z_ishr K dL_act_17 ?_
  refine z_bipush K cb_31 dL_act_18 ?_
  refine z_iand K dL_act_20 ?_
  refine z_iadd K dL_act_21 ?_
  refine z_topi (fun y3 => ?_)
  refine z_istore K (lv' := [(5, .int y3), (4, .int y2), (3, .int y1), (0, .ref (a.1.2.2.2 + 0)), (1, .int v1), (2, .int v2)]) dL_act_22 (Nat.le_of_ble_eq_true rfl) rfl ?_
  refine z_iload_n K 4 rfl dL_act_24 ?_
  refine z_bipush K cb_15 dL_act_25 ?_
  refine z_iand K dL_act_27 ?_
  refine z_ite (fun hs0 => ?_) (fun hs0 => ?_)
  · refine z_tswIn K (tgt := 104) (off := 76) dL_act_28 (by rw [hs0]; decide) (by rw [hs0]; decide) (by rw [hs0]; rfl) (by decide) ?_
    refine z_aload_n K 3 rfl dL_act_104 ?_
    refine z_iload_n K 2 rfl dL_act_105 ?_
    refine z_iload_n K 5 rfl dL_act_106 ?_
    refine z_bipush K cb_6 dL_act_107 ?_
    refine z_ishr K dL_act_109 ?_
    refine z_bipush K cb_31 dL_act_110 ?_
    refine z_iand K dL_act_112 ?_
    refine z_iconst K ci_1 dL_act_113 ?_
    refine z_isub K dL_act_114 ?_
    refine z_cVi (As := [.int y1, .int (((v2 >>> ((6 : Int32) &&& 31)) &&& (31 : Int32)) - (1 : Int32))]) (rest := []) K (zMt_cal (t_X11_sit a.1 (d - 1) (by omega) y1 (((v2 >>> ((6 : Int32) &&& 31)) &&& (31 : Int32)) - (1 : Int32)) s)) mf_X11_sit ml_L_56 (Nat.le_of_ble_eq_true rfl) (by omega) rfl rc_0 rfl (Nat.le_of_ble_eq_true rfl) dL_act_115 (fun r45 s44 => ?_)
    refine z_if_eq K (tgt := 125) dL_act_118 (by decide) ?_ ?_
    · refine z_iconst K ci_0 dL_act_125 ?_
      exact z_iret K dL_act_126
    · refine z_iconst K ci_1 dL_act_121 ?_
      refine z_goto K (tgt := 126) dL_act_122 (by decide) ?_
      exact z_iret K dL_act_126
  · refine z_ite (fun hs1 => ?_) (fun hs1 => ?_)
    · refine z_tswIn K (tgt := 127) (off := 99) dL_act_28 (by rw [hs1]; decide) (by rw [hs1]; decide) (by rw [hs1]; rfl) (by decide) ?_
      refine z_aload_n K 3 rfl dL_act_127 ?_
      refine z_iload_n K 2 rfl dL_act_128 ?_
      refine z_iload K 1 rfl dL_act_129 ?_
      refine z_iload_n K 5 rfl dL_act_131 ?_
      refine z_bipush K cb_6 dL_act_132 ?_
      refine z_ishr K dL_act_134 ?_
      refine z_bipush K cb_15 dL_act_135 ?_
      refine z_iand K dL_act_137 ?_
      refine z_bipush K cb_7 dL_act_138 ?_
      refine z_isub K dL_act_140 ?_
      refine z_cVi (As := [.int y1, .int y2, .int (((v2 >>> ((6 : Int32) &&& 31)) &&& (15 : Int32)) - (7 : Int32))]) (rest := []) K (zMt_cal (t_X11_liking a.1 (d - 1) (by omega) y1 y2 (((v2 >>> ((6 : Int32) &&& 31)) &&& (15 : Int32)) - (7 : Int32)) s)) mf_X11_liking ml_L_13 (Nat.le_of_ble_eq_true rfl) (by omega) rfl rc_0 rfl (Nat.le_of_ble_eq_true rfl) dL_act_141 (fun r43 s42 => ?_)
      refine z_if_eq K (tgt := 151) dL_act_144 (by decide) ?_ ?_
      · refine z_iconst K ci_0 dL_act_151 ?_
        exact z_iret K dL_act_152
      · refine z_iconst K ci_1 dL_act_147 ?_
        refine z_goto K (tgt := 152) dL_act_148 (by decide) ?_
        exact z_iret K dL_act_152
    · refine z_ite (fun hs2 => ?_) (fun hs2 => ?_)
      · refine z_tswIn K (tgt := 153) (off := 125) dL_act_28 (by rw [hs2]; decide) (by rw [hs2]; decide) (by rw [hs2]; rfl) (by decide) ?_
        refine z_aload_n K 3 rfl dL_act_153 ?_
        refine z_iload K 0 rfl dL_act_154 ?_
        refine z_iload K 1 rfl dL_act_156 ?_
        refine z_iload K 1 rfl dL_act_158 ?_
        refine z_iload_n K 5 rfl dL_act_160 ?_
        refine z_bipush K cb_11 dL_act_161 ?_
        refine z_ishr K dL_act_163 ?_
        refine z_bipush K cb_7 dL_act_164 ?_
        refine z_iand K dL_act_166 ?_
        refine z_iadd K dL_act_167 ?_
        refine z_cVi (As := [.int y3, .int y2, .int (y2 + ((v2 >>> ((11 : Int32) &&& 31)) &&& (7 : Int32)))]) (rest := []) K (zMt_cal (t_X11_rain a.1 (d - 1) (by omega) y3 y2 (y2 + ((v2 >>> ((11 : Int32) &&& 31)) &&& (7 : Int32))) s)) mf_X11_rain ml_L_60 (Nat.le_of_ble_eq_true rfl) (by omega) rfl rc_0 rfl (Nat.le_of_ble_eq_true rfl) dL_act_168 (fun r41 s40 => ?_)
        exact z_iret K dL_act_171
      · refine z_ite (fun hs3 => ?_) (fun hs3 => ?_)
        · refine z_tswIn K (tgt := 172) (off := 144) dL_act_28 (by rw [hs3]; decide) (by rw [hs3]; decide) (by rw [hs3]; rfl) (by decide) ?_
          refine z_aload_n K 3 rfl dL_act_172 ?_
          refine z_iload_n K 2 rfl dL_act_173 ?_
          refine z_iload K 1 rfl dL_act_174 ?_
          refine z_iadd K dL_act_176 ?_
          refine z_iload K 0 rfl dL_act_177 ?_
          refine z_iconst K ci_1 dL_act_179 ?_
          refine z_iload_n K 5 rfl dL_act_180 ?_
          refine z_bipush K cb_11 dL_act_181 ?_
          refine z_ishr K dL_act_183 ?_
          refine z_iconst K ci_3 dL_act_184 ?_
          refine z_iand K dL_act_185 ?_
          refine z_iadd K dL_act_186 ?_
          refine z_cVi (As := [.int (y1 + y2), .int y3, .int ((1 : Int32) + ((v2 >>> ((11 : Int32) &&& 31)) &&& (3 : Int32)))]) (rest := []) K (zMt_cal (t_X11_speech a.1 (d - 1) (by omega) (y1 + y2) y3 ((1 : Int32) + ((v2 >>> ((11 : Int32) &&& 31)) &&& (3 : Int32))) s)) mf_X11_speech ml_L_64 (Nat.le_of_ble_eq_true rfl) (by omega) rfl rc_0 rfl (Nat.le_of_ble_eq_true rfl) dL_act_187 (fun r39 s38 => ?_)
          exact z_iret K dL_act_190
        · refine z_ite (fun hs4 => ?_) (fun hs4 => ?_)
          · refine z_tswIn K (tgt := 191) (off := 163) dL_act_28 (by rw [hs4]; decide) (by rw [hs4]; decide) (by rw [hs4]; rfl) (by decide) ?_
            refine z_aload_n K 3 rfl dL_act_191 ?_
            refine z_iload_n K 2 rfl dL_act_192 ?_
            refine z_iload K 1 rfl dL_act_193 ?_
            refine z_iload K 0 rfl dL_act_195 ?_
            refine z_cVi (As := [.int y1, .int y2, .int y3]) (rest := []) K (zMt_cal (t_X11_soonest a.1 F (d - 1) (by omega) y1 y2 y3 s)) mf_X11_soonest ml_L_67 (Nat.le_of_ble_eq_true rfl) (by omega) rfl rc_0 rfl (Nat.le_of_ble_eq_true rfl) dL_act_197 (fun r37 s36 => ?_)
            exact z_iret K dL_act_200
          · refine z_ite (fun hs5 => ?_) (fun hs5 => ?_)
            · refine z_tswIn K (tgt := 201) (off := 173) dL_act_28 (by rw [hs5]; decide) (by rw [hs5]; decide) (by rw [hs5]; rfl) (by decide) ?_
              refine z_aload_n K 3 rfl dL_act_201 ?_
              refine z_iload_n K 2 rfl dL_act_202 ?_
              refine z_iload K 0 rfl dL_act_203 ?_
              refine z_iload K 1 rfl dL_act_205 ?_
              refine z_cVi (As := [.int y1, .int y3, .int y2]) (rest := []) K (zMt_cal (t_X11_rumour a.1 F (d - 1) (by omega) y1 y3 y2 s)) mf_X11_rumour ml_L_70 (Nat.le_of_ble_eq_true rfl) (by omega) rfl rc_0 rfl (Nat.le_of_ble_eq_true rfl) dL_act_207 (fun r35 s34 => ?_)
              exact z_iret K dL_act_210
            · refine z_ite (fun hs6 => ?_) (fun hs6 => ?_)
              · refine z_tswIn K (tgt := 211) (off := 183) dL_act_28 (by rw [hs6]; decide) (by rw [hs6]; decide) (by rw [hs6]; rfl) (by decide) ?_
                refine z_aload_n K 3 rfl dL_act_211 ?_
                refine z_iload_n K 2 rfl dL_act_212 ?_
                refine z_iload K 1 rfl dL_act_213 ?_
                refine z_iload_n K 5 rfl dL_act_215 ?_
                refine z_bipush K cb_6 dL_act_216 ?_
                refine z_ishr K dL_act_218 ?_
                refine z_iconst K ci_3 dL_act_219 ?_
                refine z_iand K dL_act_220 ?_
                refine z_iconst K ci_3 dL_act_221 ?_
                refine z_icmp_ne K (tgt := 230) dL_act_222 (by decide) ?_ ?_
                · refine z_iload_n K 5 rfl dL_act_230 ?_
                  refine z_bipush K cb_6 dL_act_231 ?_
                  refine z_ishr K dL_act_233 ?_
                  refine z_iconst K ci_3 dL_act_234 ?_
                  refine z_iand K dL_act_235 ?_
                  refine z_cVl (As := [.int y1, .int y2, .int ((v2 >>> ((6 : Int32) &&& 31)) &&& (3 : Int32))]) (rest := []) K (zMt_cal (t_X11_smuggled a.1 F D (d - 1) (by omega) y1 y2 ((v2 >>> ((6 : Int32) &&& 31)) &&& (3 : Int32)) s)) mf_X11_smuggled ml_L_73 (Nat.le_of_ble_eq_true rfl) (by omega) rfl rc_0 rfl (Nat.le_of_ble_eq_true rfl) dL_act_236 (fun r31 s30 => ?_)
                  refine z_l2i K dL_act_239 ?_
                  exact z_iret K dL_act_240
                · refine z_bipush K cb_11 dL_act_225 ?_
                  refine z_goto K (tgt := 236) dL_act_227 (by decide) ?_
                  refine z_cVl (As := [.int y1, .int y2, .int (11 : Int32)]) (rest := []) K (zMt_cal (t_X11_smuggled a.1 F D (d - 1) (by omega) y1 y2 (11 : Int32) s)) mf_X11_smuggled ml_L_73 (Nat.le_of_ble_eq_true rfl) (by omega) rfl rc_0 rfl (Nat.le_of_ble_eq_true rfl) dL_act_236 (fun r33 s32 => ?_)
                  refine z_l2i K dL_act_239 ?_
                  exact z_iret K dL_act_240
              · refine z_ite (fun hs7 => ?_) (fun hs7 => ?_)
                · refine z_tswIn K (tgt := 241) (off := 213) dL_act_28 (by rw [hs7]; decide) (by rw [hs7]; decide) (by rw [hs7]; rfl) (by decide) ?_
                  refine z_aload_n K 3 rfl dL_act_241 ?_
                  refine z_iload_n K 5 rfl dL_act_242 ?_
                  refine z_iconst K ci_3 dL_act_243 ?_
                  refine z_iremc K (by decide) dL_act_244 ?_
                  refine z_if_ge K (tgt := 252) dL_act_245 (by decide) ?_ ?_
                  · refine z_iload_n K 5 rfl dL_act_252 ?_
                    refine z_iconst K ci_3 dL_act_253 ?_
                    refine z_iremc K (by decide) dL_act_254 ?_
                    refine z_cVi (As := [.int (v2 - v2 / (3 : Int32) * (3 : Int32))]) (rest := []) K (zMt_cal (t_X11_exchange a.1 F (d - 1) (by omega) (v2 - v2 / (3 : Int32) * (3 : Int32)) s)) mf_X11_exchange ml_L_77 (Nat.le_of_ble_eq_true rfl) (by omega) rfl rc_0 rfl (Nat.le_of_ble_eq_true rfl) dL_act_255 (fun r27 s26 => ?_)
                    exact z_iret K dL_act_258
                  · refine z_iconst K ci_0 dL_act_248 ?_
                    refine z_goto K (tgt := 255) dL_act_249 (by decide) ?_
                    refine z_cVi (As := [.int (0 : Int32)]) (rest := []) K (zMt_cal (t_X11_exchange a.1 F (d - 1) (by omega) (0 : Int32) s)) mf_X11_exchange ml_L_77 (Nat.le_of_ble_eq_true rfl) (by omega) rfl rc_0 rfl (Nat.le_of_ble_eq_true rfl) dL_act_255 (fun r29 s28 => ?_)
                    exact z_iret K dL_act_258
                · refine z_ite (fun hs8 => ?_) (fun hs8 => ?_)
                  · refine z_tswIn K (tgt := 259) (off := 231) dL_act_28 (by rw [hs8]; decide) (by rw [hs8]; decide) (by rw [hs8]; rfl) (by decide) ?_
                    refine z_aload_n K 3 rfl dL_act_259 ?_
                    refine z_iload_n K 2 rfl dL_act_260 ?_
                    refine z_iload K 1 rfl dL_act_261 ?_
                    refine z_iconst K ci_1 dL_act_263 ?_
                    refine z_isub K dL_act_264 ?_
                    refine z_cVi (As := [.int y1, .int (y2 - (1 : Int32))]) (rest := []) K (zMt_cal (t_X11_heir a.1 (d - 1) (by omega) y1 (y2 - (1 : Int32)) s)) mf_X11_heir ml_L_80 (Nat.le_of_ble_eq_true rfl) (by omega) rfl rc_0 rfl (Nat.le_of_ble_eq_true rfl) dL_act_265 (fun r25 s24 => ?_)
                    refine z_if_eq K (tgt := 275) dL_act_268 (by decide) ?_ ?_
                    · refine z_iconst K ci_0 dL_act_275 ?_
                      exact z_iret K dL_act_276
                    · refine z_iconst K ci_1 dL_act_271 ?_
                      refine z_goto K (tgt := 276) dL_act_272 (by decide) ?_
                      exact z_iret K dL_act_276
                  · refine z_ite (fun hs9 => ?_) (fun hs9 => ?_)
                    · refine z_tswIn K (tgt := 277) (off := 249) dL_act_28 (by rw [hs9]; decide) (by rw [hs9]; decide) (by rw [hs9]; rfl) (by decide) ?_
                      refine z_aload_n K 3 rfl dL_act_277 ?_
                      refine z_iload_n K 2 rfl dL_act_278 ?_
                      refine z_cVi (As := [.int y1]) (rest := []) K (zMt_cal (t_X11_dies a.1 F (d - 1) (by omega) y1 s)) mf_X11_dies ml_L_83 (Nat.le_of_ble_eq_true rfl) (by omega) rfl rc_0 rfl (Nat.le_of_ble_eq_true rfl) dL_act_279 (fun r23 s22 => ?_)
                      exact z_iret K dL_act_282
                    · refine z_ite (fun hs10 => ?_) (fun hs10 => ?_)
                      · refine z_tswIn K (tgt := 283) (off := 255) dL_act_28 (by rw [hs10]; decide) (by rw [hs10]; decide) (by rw [hs10]; rfl) (by decide) ?_
                        refine z_aload_n K 3 rfl dL_act_283 ?_
                        refine z_iload_n K 2 rfl dL_act_284 ?_
                        refine z_iload K 1 rfl dL_act_285 ?_
                        refine z_iload K 0 rfl dL_act_287 ?_
                        refine z_bipush K cb_7 dL_act_289 ?_
                        refine z_iand K dL_act_291 ?_
                        refine z_cVi (As := [.int y1, .int y2, .int (y3 &&& (7 : Int32))]) (rest := []) K (zMt_cal (t_X11_put a.1 (d - 1) (by omega) y1 y2 (y3 &&& (7 : Int32)) s)) mf_X11_put ml_L_86 (Nat.le_of_ble_eq_true rfl) (by omega) rfl rc_0 rfl (Nat.le_of_ble_eq_true rfl) dL_act_292 (fun r19 s18 => ?_)
                        refine z_if_eq K (tgt := 302) dL_act_295 (by decide) ?_ ?_
                        · refine z_aload_n K 3 rfl dL_act_302 ?_
                          refine z_iload_n K 2 rfl dL_act_303 ?_
                          refine z_iload K 0 rfl dL_act_304 ?_
                          refine z_bipush K cb_10 dL_act_306 ?_
                          refine z_iremc K (by decide) dL_act_308 ?_
                          refine z_cVi (As := [.int y1, .int (y3 - y3 / (10 : Int32) * (10 : Int32))]) (rest := []) K (zMt_cal (t_X11_knives a.1 (d - 1) (by omega) y1 (y3 - y3 / (10 : Int32) * (10 : Int32)) s18)) mf_X11_knives ml_L_89 (Nat.le_of_ble_eq_true rfl) (by omega) rfl rc_0 rfl (Nat.le_of_ble_eq_true rfl) dL_act_309 (fun r21 s20 => ?_)
                          refine z_if_eq K (tgt := 319) dL_act_312 (by decide) ?_ ?_
                          · refine z_iconst K ci_0 dL_act_319 ?_
                            exact z_iret K dL_act_320
                          · refine z_iconst K ci_2 dL_act_315 ?_
                            refine z_goto K (tgt := 320) dL_act_316 (by decide) ?_
                            exact z_iret K dL_act_320
                        · refine z_iconst K ci_1 dL_act_298 ?_
                          refine z_goto K (tgt := 320) dL_act_299 (by decide) ?_
                          exact z_iret K dL_act_320
                      · refine z_ite (fun hs11 => ?_) (fun hs11 => ?_)
                        · refine z_tswIn K (tgt := 321) (off := 293) dL_act_28 (by rw [hs11]; decide) (by rw [hs11]; decide) (by rw [hs11]; rfl) (by decide) ?_
                          refine z_aload_n K 3 rfl dL_act_321 ?_
                          refine z_iload_n K 5 rfl dL_act_322 ?_
                          refine z_bipush K cb_6 dL_act_323 ?_
                          refine z_ishr K dL_act_325 ?_
                          refine z_iconst K ci_1 dL_act_326 ?_
                          refine z_iand K dL_act_327 ?_
                          refine z_iload_n K 2 rfl dL_act_328 ?_
                          refine z_iload_n K 2 rfl dL_act_329 ?_
                          refine z_iload K 1 rfl dL_act_330 ?_
                          refine z_iconst K ci_3 dL_act_332 ?_
                          refine z_iand K dL_act_333 ?_
                          refine z_iadd K dL_act_334 ?_
                          refine z_iload K 0 rfl dL_act_335 ?_
                          refine z_bipush K cb_15 dL_act_337 ?_
                          refine z_iand K dL_act_339 ?_
                          refine z_cVi (As := [.int ((v2 >>> ((6 : Int32) &&& 31)) &&& (1 : Int32)), .int y1, .int (y1 + (y2 &&& (3 : Int32))), .int (y3 &&& (15 : Int32))]) (rest := []) K (zMt_cal (t_X11_counted a.1 (d - 1) (by omega) ((v2 >>> ((6 : Int32) &&& 31)) &&& (1 : Int32)) y1 (y1 + (y2 &&& (3 : Int32))) (y3 &&& (15 : Int32)) s)) mf_X11_counted ml_L_92 (Nat.le_of_ble_eq_true rfl) (by omega) rfl rc_0 rfl (Nat.le_of_ble_eq_true rfl) dL_act_340 (fun r17 s16 => ?_)
                          exact z_iret K dL_act_343
                        · refine z_ite (fun hs12 => ?_) (fun hs12 => ?_)
                          · refine z_tswIn K (tgt := 344) (off := 316) dL_act_28 (by rw [hs12]; decide) (by rw [hs12]; decide) (by rw [hs12]; rfl) (by decide) ?_
                            refine z_aload_n K 3 rfl dL_act_344 ?_
                            refine z_iload_n K 2 rfl dL_act_345 ?_
                            refine z_iload K 0 rfl dL_act_346 ?_
                            refine z_cVi (As := [.int y1, .int y3]) (rest := []) K (zMt_cal (t_X11_gives a.1 (d - 1) (by omega) y1 y3 s)) mf_X11_gives ml_L_96 (Nat.le_of_ble_eq_true rfl) (by omega) rfl rc_0 rfl (Nat.le_of_ble_eq_true rfl) dL_act_348 (fun r15 s14 => ?_)
                            exact z_iret K dL_act_351
                          · refine z_ite (fun hs13 => ?_) (fun hs13 => ?_)
                            · refine z_tswIn K (tgt := 352) (off := 324) dL_act_28 (by rw [hs13]; decide) (by rw [hs13]; decide) (by rw [hs13]; rfl) (by decide) ?_
                              refine z_aload_n K 3 rfl dL_act_352 ?_
                              refine z_iload_n K 2 rfl dL_act_353 ?_
                              refine z_iload K 1 rfl dL_act_354 ?_
                              refine z_iload K 0 rfl dL_act_356 ?_
                              refine z_bipush K cb_7 dL_act_358 ?_
                              refine z_iand K dL_act_360 ?_
                              refine z_cVi (As := [.int y1, .int y2, .int (y3 &&& (7 : Int32))]) (rest := []) K (zMt_cal (t_X11_passes a.1 F (d - 1) (by omega) y1 y2 (y3 &&& (7 : Int32)) s)) mf_X11_passes ml_L_99 (Nat.le_of_ble_eq_true rfl) (by omega) rfl rc_0 rfl (Nat.le_of_ble_eq_true rfl) dL_act_361 (fun r13 s12 => ?_)
                              exact z_iret K dL_act_364
                            · refine z_ite (fun hs14 => ?_) (fun hs14 => ?_)
                              · refine z_tswIn K (tgt := 365) (off := 337) dL_act_28 (by rw [hs14]; decide) (by rw [hs14]; decide) (by rw [hs14]; rfl) (by decide) ?_
                                refine z_aload_n K 3 rfl dL_act_365 ?_
                                refine z_iload K 0 rfl dL_act_366 ?_
                                refine z_cVi (As := [.int y3]) (rest := []) K (zMt_cal (t_X11_draw a.1 F (d - 1) (by omega) y3 s)) mf_X11_draw ml_L_102 (Nat.le_of_ble_eq_true rfl) (by omega) rfl rc_0 rfl (Nat.le_of_ble_eq_true rfl) dL_act_368 (fun r11 s10 => ?_)
                                exact z_iret K dL_act_371
                              · have hsw : (v1 &&& (15 : Int32)).toInt < 0 ∨ 14 < (v1 &&& (15 : Int32)).toInt := by
                                  have q0 := lv_neT hs0 (a := 0) rfl
                                  have q1 := lv_neT hs1 (a := 1) rfl
                                  have q2 := lv_neT hs2 (a := 2) rfl
                                  have q3 := lv_neT hs3 (a := 3) rfl
                                  have q4 := lv_neT hs4 (a := 4) rfl
                                  have q5 := lv_neT hs5 (a := 5) rfl
                                  have q6 := lv_neT hs6 (a := 6) rfl
                                  have q7 := lv_neT hs7 (a := 7) rfl
                                  have q8 := lv_neT hs8 (a := 8) rfl
                                  have q9 := lv_neT hs9 (a := 9) rfl
                                  have q10 := lv_neT hs10 (a := 10) rfl
                                  have q11 := lv_neT hs11 (a := 11) rfl
                                  have q12 := lv_neT hs12 (a := 12) rfl
                                  have q13 := lv_neT hs13 (a := 13) rfl
                                  have q14 := lv_neT hs14 (a := 14) rfl
                                  omega
                                refine z_tswOut K (tgt := 372) dL_act_28 hsw (by decide) ?_
                                refine z_iload_n K 5 rfl dL_act_372 ?_
                                refine z_bipush K cb_6 dL_act_373 ?_
                                refine z_ishr K dL_act_375 ?_
                                refine z_iconst K ci_3 dL_act_376 ?_
                                refine z_iand K dL_act_377 ?_
                                refine z_if_ne K (tgt := 388) dL_act_378 (by decide) ?_ ?_
                                · refine z_iload_n K 5 rfl dL_act_388 ?_
                                  refine z_bipush K cb_6 dL_act_389 ?_
                                  refine z_ishr K dL_act_391 ?_
                                  refine z_iconst K ci_3 dL_act_392 ?_
                                  refine z_iand K dL_act_393 ?_
                                  refine z_iconst K ci_1 dL_act_394 ?_
                                  refine z_icmp_ne K (tgt := 413) dL_act_395 (by decide) ?_ ?_
                                  · refine z_aload_n K 3 rfl dL_act_413 ?_
                                    refine z_iload_n K 2 rfl dL_act_414 ?_
                                    refine z_iload K 0 rfl dL_act_415 ?_
                                    refine z_cVi (As := [.int y1, .int y3]) (rest := []) K (zMt_cal (t_X11_eats a.1 (d - 1) (by omega) y1 y3 s)) mf_X11_eats ml_L_113 (Nat.le_of_ble_eq_true rfl) (by omega) rfl rc_0 rfl (Nat.le_of_ble_eq_true rfl) dL_act_417 (fun r5 s4 => ?_)
                                    exact z_iret K dL_act_420
                                  · refine z_aload_n K 3 rfl dL_act_398 ?_
                                    refine z_cVi (As := []) (rest := []) K (zMt_cal (t_X11_undo a.1 F (d - 1) (by omega) s)) mf_X11_undo ml_L_109 (Nat.le_of_ble_eq_true rfl) (by omega) rfl rc_0 rfl (Nat.le_of_ble_eq_true rfl) dL_act_399 (fun r7 s6 => ?_)
                                    refine z_if_eq K (tgt := 409) dL_act_402 (by decide) ?_ ?_
                                    · refine z_iconst K ci_0 dL_act_409 ?_
                                      refine z_goto K (tgt := 420) dL_act_410 (by decide) ?_
                                      exact z_iret K dL_act_420
                                    · refine z_iconst K ci_1 dL_act_405 ?_
                                      refine z_goto K (tgt := 420) dL_act_406 (by decide) ?_
                                      exact z_iret K dL_act_420
                                · refine z_aload_n K 3 rfl dL_act_381 ?_
                                  refine z_cVi (As := []) (rest := []) K (zMt_cal (t_X11_keep a.1 F (d - 1) (by omega) s)) mf_X11_keep ml_L_105 (Nat.le_of_ble_eq_true rfl) (by omega) rfl rc_0 rfl (Nat.le_of_ble_eq_true rfl) dL_act_382 (fun r9 s8 => ?_)
                                  refine z_goto K (tgt := 420) dL_act_385 (by decide) ?_
                                  exact z_iret K dL_act_420
def f_L_idle_j528 (F : Nat) (D : Nat) (v3 : Int32) (w0 : Int32) (s : zM) : Option (Int32 × zM) :=
  if w0 = 0 then
    some ((0 : Int32), s)
  else
    bnd (f_X11_count (2 : Int32) s) (fun r6 s5 =>
    if r6 = v3 then
      some ((1 : Int32), s5)
    else
      some ((0 : Int32), s5))
set_option maxRecDepth 100000 in
set_option maxHeartbeats 4000000 in
theorem t_L_idle_j528 {a : zA} {d : Nat} (F : Nat) (D : Nat) (K : zOK a cL_idle 5 RL (some .boolean) d) (hd : 2 * D + 8 ≤ d) (v3 : Int32) (w0 : Int32) (s : zM) : zJ a 5 (zG a zφN zri) zφN 528 [(0, .ref (a.1.2.2.2 + 0)), (3, .int v3)] [.int w0] s (f_L_idle_j528 F D v3 w0 s) := by
  unfold f_L_idle_j528
  refine z_istore K (lv' := [(4, .int w0), (0, .ref (a.1.2.2.2 + 0)), (3, .int v3)]) dL_idle_528 (Nat.le_of_ble_eq_true rfl) rfl ?_
  refine z_iload K 0 rfl dL_idle_530 ?_
  refine z_if_eq K (tgt := 548) dL_idle_532 (by decide) ?_ ?_
  · refine z_iconst K ci_0 dL_idle_548 ?_
    exact z_zret (Or.inl rfl) K dL_idle_549
  · refine z_aload_n K 1 rfl dL_idle_535 ?_
    refine z_iconst K ci_2 dL_idle_536 ?_
    refine z_cVi (As := [.int (2 : Int32)]) (rest := []) K (t_X11_count a.1 (d - 1) (by omega) (2 : Int32) s) mf_X11_count ml_L_117 (Nat.le_of_ble_eq_true rfl) (by omega) rfl rc_0 rfl (Nat.le_of_ble_eq_true rfl) dL_idle_537 (fun r6 s5 => ?_)
    refine z_iload_n K 2 rfl dL_idle_540 ?_
    refine z_icmp_ne K (tgt := 548) dL_idle_541 (by decide) ?_ ?_
    · refine z_iconst K ci_0 dL_idle_548 ?_
      exact z_zret (Or.inl rfl) K dL_idle_549
    · refine z_iconst K ci_1 dL_idle_544 ?_
      refine z_goto K (tgt := 549) dL_idle_545 (by decide) ?_
      exact z_zret (Or.inr rfl) K dL_idle_549
def f_L_idle_j527 (F : Nat) (D : Nat) (v3 : Int32) (s : zM) : Option (Int32 × zM) :=
  f_L_idle_j528 F D v3 (0 : Int32) s
set_option maxRecDepth 100000 in
set_option maxHeartbeats 4000000 in
theorem t_L_idle_j527 {a : zA} {d : Nat} (F : Nat) (D : Nat) (K : zOK a cL_idle 5 RL (some .boolean) d) (hd : 2 * D + 8 ≤ d) (v3 : Int32) (s : zM) : zJ a 5 (zG a zφN zri) zφN 527 [(0, .ref (a.1.2.2.2 + 0)), (3, .int v3)] [] s (f_L_idle_j527 F D v3 s) := by
  unfold f_L_idle_j527
  refine z_iconst K ci_0 dL_idle_527 ?_
  exact t_L_idle_j528 F D K hd v3 (0 : Int32) s
def f_L_idle_j275 (F : Nat) (D : Nat) (v2 : Int32) (v3 : Int32) (w0 : Int32) (s : zM) : Option (Int32 × zM) :=
  if w0 = 0 then
    f_L_idle_j527 F D v3 s
  else
    bnd (f_X11_seating F D (1 : Int32) (8 : Int32) (-1 : Int32) s) (fun r8 s7 =>
    if r8 = (-1000000 : Int32) then
      bnd (f_X11_exchange F v2 s7) (fun r10 s9 =>
      if r10 = (-1000000 : Int32) then
        bnd (f_X11_heir v2 (0 : Int32) s9) (fun r12 s11 =>
        if r12 = 0 then
          bnd (f_X11_heir (1 : Int32) (1 : Int32) s11) (fun r14 s13 =>
          if r14 = 0 then
            bnd (f_X11_dies F v2 s13) (fun r16 s15 =>
            if r16 = (-1 : Int32) then
              bnd (f_X11_knives v2 (0 : Int32) s15) (fun r18 s17 =>
              if r18 = 0 then
                bnd (f_X11_knives (0 : Int32) (10 : Int32) s17) (fun r20 s19 =>
                if r20 = 0 then
                  bnd (f_X11_put (0 : Int32) (0 : Int32) (1 : Int32) s19) (fun r22 s21 =>
                  if r22 = 0 then
                    bnd (f_X11_put v2 (0 : Int32) (1 : Int32) s21) (fun r24 s23 =>
                    if r24 = 0 then
                      bnd (f_X11_counted v2 (0 : Int32) (0 : Int32) (0 : Int32) s23) (fun r26 s25 =>
                      if r26 = (-1 : Int32) then
                        bnd (f_X11_missing F v2 s25) (fun r28 s27 =>
                        if r28 = (-100000 : Int32) then
                          bnd (f_X11_gives v2 (1 : Int32) s27) (fun r30 s29 =>
                          if r30 = (-1 : Int32) then
                            bnd (f_X11_gives (0 : Int32) (0 : Int32) s29) (fun r32 s31 =>
                            if r32 = (-1 : Int32) then
                              bnd (f_X11_passes F (0 : Int32) v2 (1 : Int32) s31) (fun r34 s33 =>
                              if r34 = (-1 : Int32) then
                                bnd (f_X11_eats v2 (1 : Int32) s33) (fun r36 s35 =>
                                if r36 = (-1 : Int32) then
                                  bnd (f_X11_fed (2 : Int32) (2 : Int32) s35) (fun r38 s37 =>
                                  if r38 = (-1 : Int32) then
                                    bnd (f_X11_led F v2 (0 : Int32) s37) (fun r40 s39 =>
                                    if r40 = (-1 : Int32) then
                                      bnd (f_X11_led F (0 : Int32) (5 : Int32) s39) (fun r42 s41 =>
                                      if r42 = (-1 : Int32) then
                                        bnd (f_X11_seed v2 s41) (fun r44 s43 =>
                                        if r44 = 0 then
                                          bnd (f_X11_draw F v2 s43) (fun r46 s45 =>
                                          if r46 = (-1 : Int32) then
                                            bnd (f_X11_check F v2 (0 : Int32) s45) (fun r48 s47 =>
                                            if r48 = (-2 : Int32) then
                                              bnd (f_X11_check F (0 : Int32) (21 : Int32) s47) (fun r50 s49 =>
                                              if r50 = (-2 : Int32) then
                                                bnd (f_X11_count (7 : Int32) s49) (fun r52 s51 =>
                                                if r52 = (-1 : Int32) then
                                                  bnd (f_X11_count v2 s51) (fun r54 s53 =>
                                                  if r54 = (-1 : Int32) then
                                                    f_L_idle_j528 F D v3 (1 : Int32) s53
                                                  else
                                                    f_L_idle_j527 F D v3 s53)
                                                else
                                                  f_L_idle_j527 F D v3 s51)
                                              else
                                                f_L_idle_j527 F D v3 s49)
                                            else
                                              f_L_idle_j527 F D v3 s47)
                                          else
                                            f_L_idle_j527 F D v3 s45)
                                        else
                                          f_L_idle_j527 F D v3 s43)
                                      else
                                        f_L_idle_j527 F D v3 s41)
                                    else
                                      f_L_idle_j527 F D v3 s39)
                                  else
                                    f_L_idle_j527 F D v3 s37)
                                else
                                  f_L_idle_j527 F D v3 s35)
                              else
                                f_L_idle_j527 F D v3 s33)
                            else
                              f_L_idle_j527 F D v3 s31)
                          else
                            f_L_idle_j527 F D v3 s29)
                        else
                          f_L_idle_j527 F D v3 s27)
                      else
                        f_L_idle_j527 F D v3 s25)
                    else
                      f_L_idle_j527 F D v3 s23)
                  else
                    f_L_idle_j527 F D v3 s21)
                else
                  f_L_idle_j527 F D v3 s19)
              else
                f_L_idle_j527 F D v3 s17)
            else
              f_L_idle_j527 F D v3 s15)
          else
            f_L_idle_j527 F D v3 s13)
        else
          f_L_idle_j527 F D v3 s11)
      else
        f_L_idle_j527 F D v3 s9)
    else
      f_L_idle_j527 F D v3 s7)
set_option maxRecDepth 100000 in
set_option maxHeartbeats 4000000 in
theorem t_L_idle_j275 {a : zA} {d : Nat} (F : Nat) (D : Nat) (K : zOK a cL_idle 5 RL (some .boolean) d) (hd : 2 * D + 8 ≤ d) (v2 : Int32) (v3 : Int32) (w0 : Int32) (s : zM) : zJ a 5 (zG a zφN zri) zφN 275 [(0, .ref (a.1.2.2.2 + 0)), (2, .int v2), (3, .int v3)] [.int w0] s (f_L_idle_j275 F D v2 v3 w0 s) := by
  unfold f_L_idle_j275
  refine z_istore K (lv' := [(4, .int w0), (0, .ref (a.1.2.2.2 + 0)), (2, .int v2), (3, .int v3)]) dL_idle_275 (Nat.le_of_ble_eq_true rfl) rfl ?_
  refine z_iload K 0 rfl dL_idle_277 ?_
  refine z_if_eq K (tgt := 527) dL_idle_279 (by decide) ?_ ?_
  · refine z_sub [1, 3] rfl ?_
    exact t_L_idle_j527 F D K hd v3 s
  · refine z_aload_n K 1 rfl dL_idle_282 ?_
    refine z_iconst K ci_1 dL_idle_283 ?_
    refine z_bipush K cb_8 dL_idle_284 ?_
    refine z_iconst K ci_m1 dL_idle_286 ?_
    refine z_cVi (As := [.int (1 : Int32), .int (8 : Int32), .int (-1 : Int32)]) (rest := []) K (t_X11_seating a.1 F D (d - 1) (by omega) (1 : Int32) (8 : Int32) (-1 : Int32) s) mf_X11_seating ml_L_131 (Nat.le_of_ble_eq_true rfl) (by omega) rfl rc_0 rfl (Nat.le_of_ble_eq_true rfl) dL_idle_287 (fun r8 s7 => ?_)
    refine z_ldc K cst_L_134 dL_idle_290 ?_
    refine z_icmp_ne K (tgt := 527) dL_idle_292 (by decide) ?_ ?_
    · refine z_sub [1, 3] rfl ?_
      exact t_L_idle_j527 F D K hd v3 s7
    · refine z_aload_n K 1 rfl dL_idle_295 ?_
      refine z_iload_n K 2 rfl dL_idle_296 ?_
      refine z_cVi (As := [.int v2]) (rest := []) K (t_X11_exchange a.1 F (d - 1) (by omega) v2 s7) mf_X11_exchange ml_L_77 (Nat.le_of_ble_eq_true rfl) (by omega) rfl rc_0 rfl (Nat.le_of_ble_eq_true rfl) dL_idle_297 (fun r10 s9 => ?_)
      refine z_ldc K cst_L_134 dL_idle_300 ?_
      refine z_icmp_ne K (tgt := 527) dL_idle_302 (by decide) ?_ ?_
      · refine z_sub [1, 3] rfl ?_
        exact t_L_idle_j527 F D K hd v3 s9
      · refine z_aload_n K 1 rfl dL_idle_305 ?_
        refine z_iload_n K 2 rfl dL_idle_306 ?_
        refine z_iconst K ci_0 dL_idle_307 ?_
        refine z_cVi (As := [.int v2, .int (0 : Int32)]) (rest := []) K (t_X11_heir a.1 (d - 1) (by omega) v2 (0 : Int32) s9) mf_X11_heir ml_L_80 (Nat.le_of_ble_eq_true rfl) (by omega) rfl rc_0 rfl (Nat.le_of_ble_eq_true rfl) dL_idle_308 (fun r12 s11 => ?_)
        refine z_if_ne K (tgt := 527) dL_idle_311 (by decide) ?_ ?_
        · refine z_sub [1, 3] rfl ?_
          exact t_L_idle_j527 F D K hd v3 s11
        · refine z_aload_n K 1 rfl dL_idle_314 ?_
          refine z_iconst K ci_1 dL_idle_315 ?_
          refine z_iconst K ci_1 dL_idle_316 ?_
          refine z_cVi (As := [.int (1 : Int32), .int (1 : Int32)]) (rest := []) K (t_X11_heir a.1 (d - 1) (by omega) (1 : Int32) (1 : Int32) s11) mf_X11_heir ml_L_80 (Nat.le_of_ble_eq_true rfl) (by omega) rfl rc_0 rfl (Nat.le_of_ble_eq_true rfl) dL_idle_317 (fun r14 s13 => ?_)
          refine z_if_ne K (tgt := 527) dL_idle_320 (by decide) ?_ ?_
          · refine z_sub [1, 3] rfl ?_
            exact t_L_idle_j527 F D K hd v3 s13
          · refine z_aload_n K 1 rfl dL_idle_323 ?_
            refine z_iload_n K 2 rfl dL_idle_324 ?_
            refine z_cVi (As := [.int v2]) (rest := []) K (t_X11_dies a.1 F (d - 1) (by omega) v2 s13) mf_X11_dies ml_L_83 (Nat.le_of_ble_eq_true rfl) (by omega) rfl rc_0 rfl (Nat.le_of_ble_eq_true rfl) dL_idle_325 (fun r16 s15 => ?_)
            refine z_iconst K ci_m1 dL_idle_328 ?_
            refine z_icmp_ne K (tgt := 527) dL_idle_329 (by decide) ?_ ?_
            · refine z_sub [1, 3] rfl ?_
              exact t_L_idle_j527 F D K hd v3 s15
            · refine z_aload_n K 1 rfl dL_idle_332 ?_
              refine z_iload_n K 2 rfl dL_idle_333 ?_
              refine z_iconst K ci_0 dL_idle_334 ?_
              refine z_cVi (As := [.int v2, .int (0 : Int32)]) (rest := []) K (t_X11_knives a.1 (d - 1) (by omega) v2 (0 : Int32) s15) mf_X11_knives ml_L_89 (Nat.le_of_ble_eq_true rfl) (by omega) rfl rc_0 rfl (Nat.le_of_ble_eq_true rfl) dL_idle_335 (fun r18 s17 => ?_)
              refine z_if_ne K (tgt := 527) dL_idle_338 (by decide) ?_ ?_
              · refine z_sub [1, 3] rfl ?_
                exact t_L_idle_j527 F D K hd v3 s17
              · refine z_aload_n K 1 rfl dL_idle_341 ?_
                refine z_iconst K ci_0 dL_idle_342 ?_
                refine z_bipush K cb_10 dL_idle_343 ?_
                refine z_cVi (As := [.int (0 : Int32), .int (10 : Int32)]) (rest := []) K (t_X11_knives a.1 (d - 1) (by omega) (0 : Int32) (10 : Int32) s17) mf_X11_knives ml_L_89 (Nat.le_of_ble_eq_true rfl) (by omega) rfl rc_0 rfl (Nat.le_of_ble_eq_true rfl) dL_idle_345 (fun r20 s19 => ?_)
                refine z_if_ne K (tgt := 527) dL_idle_348 (by decide) ?_ ?_
                · refine z_sub [1, 3] rfl ?_
                  exact t_L_idle_j527 F D K hd v3 s19
                · refine z_aload_n K 1 rfl dL_idle_351 ?_
                  refine z_iconst K ci_0 dL_idle_352 ?_
                  refine z_iconst K ci_0 dL_idle_353 ?_
                  refine z_iconst K ci_1 dL_idle_354 ?_
                  refine z_cVi (As := [.int (0 : Int32), .int (0 : Int32), .int (1 : Int32)]) (rest := []) K (t_X11_put a.1 (d - 1) (by omega) (0 : Int32) (0 : Int32) (1 : Int32) s19) mf_X11_put ml_L_86 (Nat.le_of_ble_eq_true rfl) (by omega) rfl rc_0 rfl (Nat.le_of_ble_eq_true rfl) dL_idle_355 (fun r22 s21 => ?_)
                  refine z_if_ne K (tgt := 527) dL_idle_358 (by decide) ?_ ?_
                  · refine z_sub [1, 3] rfl ?_
                    exact t_L_idle_j527 F D K hd v3 s21
                  · refine z_aload_n K 1 rfl dL_idle_361 ?_
                    refine z_iload_n K 2 rfl dL_idle_362 ?_
                    refine z_iconst K ci_0 dL_idle_363 ?_
                    refine z_iconst K ci_1 dL_idle_364 ?_
                    refine z_cVi (As := [.int v2, .int (0 : Int32), .int (1 : Int32)]) (rest := []) K (t_X11_put a.1 (d - 1) (by omega) v2 (0 : Int32) (1 : Int32) s21) mf_X11_put ml_L_86 (Nat.le_of_ble_eq_true rfl) (by omega) rfl rc_0 rfl (Nat.le_of_ble_eq_true rfl) dL_idle_365 (fun r24 s23 => ?_)
                    refine z_if_ne K (tgt := 527) dL_idle_368 (by decide) ?_ ?_
                    · refine z_sub [1, 3] rfl ?_
                      exact t_L_idle_j527 F D K hd v3 s23
                    · refine z_aload_n K 1 rfl dL_idle_371 ?_
                      refine z_iload_n K 2 rfl dL_idle_372 ?_
                      refine z_iconst K ci_0 dL_idle_373 ?_
                      refine z_iconst K ci_0 dL_idle_374 ?_
                      refine z_iconst K ci_0 dL_idle_375 ?_
                      refine z_cVi (As := [.int v2, .int (0 : Int32), .int (0 : Int32), .int (0 : Int32)]) (rest := []) K (t_X11_counted a.1 (d - 1) (by omega) v2 (0 : Int32) (0 : Int32) (0 : Int32) s23) mf_X11_counted ml_L_92 (Nat.le_of_ble_eq_true rfl) (by omega) rfl rc_0 rfl (Nat.le_of_ble_eq_true rfl) dL_idle_376 (fun r26 s25 => ?_)
                      refine z_iconst K ci_m1 dL_idle_379 ?_
                      refine z_icmp_ne K (tgt := 527) dL_idle_380 (by decide) ?_ ?_
                      · refine z_sub [1, 3] rfl ?_
                        exact t_L_idle_j527 F D K hd v3 s25
                      · refine z_aload_n K 1 rfl dL_idle_383 ?_
                        refine z_iload_n K 2 rfl dL_idle_384 ?_
                        refine z_cVi (As := [.int v2]) (rest := []) K (t_X11_missing a.1 F (d - 1) (by omega) v2 s25) mf_X11_missing ml_L_135 (Nat.le_of_ble_eq_true rfl) (by omega) rfl rc_0 rfl (Nat.le_of_ble_eq_true rfl) dL_idle_385 (fun r28 s27 => ?_)
                        refine z_ldc K cst_L_138 dL_idle_388 ?_
                        refine z_icmp_ne K (tgt := 527) dL_idle_390 (by decide) ?_ ?_
                        · refine z_sub [1, 3] rfl ?_
                          exact t_L_idle_j527 F D K hd v3 s27
                        · refine z_aload_n K 1 rfl dL_idle_393 ?_
                          refine z_iload_n K 2 rfl dL_idle_394 ?_
                          refine z_iconst K ci_1 dL_idle_395 ?_
                          refine z_cVi (As := [.int v2, .int (1 : Int32)]) (rest := []) K (t_X11_gives a.1 (d - 1) (by omega) v2 (1 : Int32) s27) mf_X11_gives ml_L_96 (Nat.le_of_ble_eq_true rfl) (by omega) rfl rc_0 rfl (Nat.le_of_ble_eq_true rfl) dL_idle_396 (fun r30 s29 => ?_)
                          refine z_iconst K ci_m1 dL_idle_399 ?_
                          refine z_icmp_ne K (tgt := 527) dL_idle_400 (by decide) ?_ ?_
                          · refine z_sub [1, 3] rfl ?_
                            exact t_L_idle_j527 F D K hd v3 s29
                          · refine z_aload_n K 1 rfl dL_idle_403 ?_
                            refine z_iconst K ci_0 dL_idle_404 ?_
                            refine z_iconst K ci_0 dL_idle_405 ?_
                            refine z_cVi (As := [.int (0 : Int32), .int (0 : Int32)]) (rest := []) K (t_X11_gives a.1 (d - 1) (by omega) (0 : Int32) (0 : Int32) s29) mf_X11_gives ml_L_96 (Nat.le_of_ble_eq_true rfl) (by omega) rfl rc_0 rfl (Nat.le_of_ble_eq_true rfl) dL_idle_406 (fun r32 s31 => ?_)
                            refine z_iconst K ci_m1 dL_idle_409 ?_
                            refine z_icmp_ne K (tgt := 527) dL_idle_410 (by decide) ?_ ?_
                            · refine z_sub [1, 3] rfl ?_
                              exact t_L_idle_j527 F D K hd v3 s31
                            · refine z_aload_n K 1 rfl dL_idle_413 ?_
                              refine z_iconst K ci_0 dL_idle_414 ?_
                              refine z_iload_n K 2 rfl dL_idle_415 ?_
                              refine z_iconst K ci_1 dL_idle_416 ?_
                              refine z_cVi (As := [.int (0 : Int32), .int v2, .int (1 : Int32)]) (rest := []) K (t_X11_passes a.1 F (d - 1) (by omega) (0 : Int32) v2 (1 : Int32) s31) mf_X11_passes ml_L_99 (Nat.le_of_ble_eq_true rfl) (by omega) rfl rc_0 rfl (Nat.le_of_ble_eq_true rfl) dL_idle_417 (fun r34 s33 => ?_)
                              refine z_iconst K ci_m1 dL_idle_420 ?_
                              refine z_icmp_ne K (tgt := 527) dL_idle_421 (by decide) ?_ ?_
                              · refine z_sub [1, 3] rfl ?_
                                exact t_L_idle_j527 F D K hd v3 s33
                              · refine z_aload_n K 1 rfl dL_idle_424 ?_
                                refine z_iload_n K 2 rfl dL_idle_425 ?_
                                refine z_iconst K ci_1 dL_idle_426 ?_
                                refine z_cVi (As := [.int v2, .int (1 : Int32)]) (rest := []) K (t_X11_eats a.1 (d - 1) (by omega) v2 (1 : Int32) s33) mf_X11_eats ml_L_113 (Nat.le_of_ble_eq_true rfl) (by omega) rfl rc_0 rfl (Nat.le_of_ble_eq_true rfl) dL_idle_427 (fun r36 s35 => ?_)
                                refine z_iconst K ci_m1 dL_idle_430 ?_
                                refine z_icmp_ne K (tgt := 527) dL_idle_431 (by decide) ?_ ?_
                                · refine z_sub [1, 3] rfl ?_
                                  exact t_L_idle_j527 F D K hd v3 s35
                                · refine z_aload_n K 1 rfl dL_idle_434 ?_
                                  refine z_iconst K ci_2 dL_idle_435 ?_
                                  refine z_iconst K ci_2 dL_idle_436 ?_
                                  refine z_cVi (As := [.int (2 : Int32), .int (2 : Int32)]) (rest := []) K (t_X11_fed a.1 (d - 1) (by omega) (2 : Int32) (2 : Int32) s35) mf_X11_fed ml_L_139 (Nat.le_of_ble_eq_true rfl) (by omega) rfl rc_0 rfl (Nat.le_of_ble_eq_true rfl) dL_idle_437 (fun r38 s37 => ?_)
                                  refine z_iconst K ci_m1 dL_idle_440 ?_
                                  refine z_icmp_ne K (tgt := 527) dL_idle_441 (by decide) ?_ ?_
                                  · refine z_sub [1, 3] rfl ?_
                                    exact t_L_idle_j527 F D K hd v3 s37
                                  · refine z_aload_n K 1 rfl dL_idle_444 ?_
                                    refine z_iload_n K 2 rfl dL_idle_445 ?_
                                    refine z_iconst K ci_0 dL_idle_446 ?_
                                    refine z_cVi (As := [.int v2, .int (0 : Int32)]) (rest := []) K (t_X11_led a.1 F (d - 1) (by omega) v2 (0 : Int32) s37) mf_X11_led ml_L_142 (Nat.le_of_ble_eq_true rfl) (by omega) rfl rc_0 rfl (Nat.le_of_ble_eq_true rfl) dL_idle_447 (fun r40 s39 => ?_)
                                    refine z_iconst K ci_m1 dL_idle_450 ?_
                                    refine z_icmp_ne K (tgt := 527) dL_idle_451 (by decide) ?_ ?_
                                    · refine z_sub [1, 3] rfl ?_
                                      exact t_L_idle_j527 F D K hd v3 s39
                                    · refine z_aload_n K 1 rfl dL_idle_454 ?_
                                      refine z_iconst K ci_0 dL_idle_455 ?_
                                      refine z_iconst K ci_5 dL_idle_456 ?_
                                      refine z_cVi (As := [.int (0 : Int32), .int (5 : Int32)]) (rest := []) K (t_X11_led a.1 F (d - 1) (by omega) (0 : Int32) (5 : Int32) s39) mf_X11_led ml_L_142 (Nat.le_of_ble_eq_true rfl) (by omega) rfl rc_0 rfl (Nat.le_of_ble_eq_true rfl) dL_idle_457 (fun r42 s41 => ?_)
                                      refine z_iconst K ci_m1 dL_idle_460 ?_
                                      refine z_icmp_ne K (tgt := 527) dL_idle_461 (by decide) ?_ ?_
                                      · refine z_sub [1, 3] rfl ?_
                                        exact t_L_idle_j527 F D K hd v3 s41
                                      · refine z_aload_n K 1 rfl dL_idle_464 ?_
                                        refine z_iload_n K 2 rfl dL_idle_465 ?_
                                        refine z_cVi (As := [.int v2]) (rest := []) K (t_X11_seed a.1 (d - 1) (by omega) v2 s41) mf_X11_seed ml_L_145 (Nat.le_of_ble_eq_true rfl) (by omega) rfl rc_0 rfl (Nat.le_of_ble_eq_true rfl) dL_idle_466 (fun r44 s43 => ?_)
                                        refine z_if_ne K (tgt := 527) dL_idle_469 (by decide) ?_ ?_
                                        · refine z_sub [1, 3] rfl ?_
                                          exact t_L_idle_j527 F D K hd v3 s43
                                        · refine z_aload_n K 1 rfl dL_idle_472 ?_
                                          refine z_iload_n K 2 rfl dL_idle_473 ?_
                                          refine z_cVi (As := [.int v2]) (rest := []) K (t_X11_draw a.1 F (d - 1) (by omega) v2 s43) mf_X11_draw ml_L_102 (Nat.le_of_ble_eq_true rfl) (by omega) rfl rc_0 rfl (Nat.le_of_ble_eq_true rfl) dL_idle_474 (fun r46 s45 => ?_)
                                          refine z_iconst K ci_m1 dL_idle_477 ?_
                                          refine z_icmp_ne K (tgt := 527) dL_idle_478 (by decide) ?_ ?_
                                          · refine z_sub [1, 3] rfl ?_
                                            exact t_L_idle_j527 F D K hd v3 s45
                                          · refine z_aload_n K 1 rfl dL_idle_481 ?_
                                            refine z_iload_n K 2 rfl dL_idle_482 ?_
                                            refine z_iconst K ci_0 dL_idle_483 ?_
                                            refine z_cVi (As := [.int v2, .int (0 : Int32)]) (rest := []) K (t_X11_check a.1 F (d - 1) (by omega) v2 (0 : Int32) s45) mf_X11_check ml_L_149 (Nat.le_of_ble_eq_true rfl) (by omega) rfl rc_0 rfl (Nat.le_of_ble_eq_true rfl) dL_idle_484 (fun r48 s47 => ?_)
                                            refine z_bipush K cb_m2 dL_idle_487 ?_
                                            refine z_icmp_ne K (tgt := 527) dL_idle_489 (by decide) ?_ ?_
                                            · refine z_sub [1, 3] rfl ?_
                                              exact t_L_idle_j527 F D K hd v3 s47
                                            · refine z_aload_n K 1 rfl dL_idle_492 ?_
                                              refine z_iconst K ci_0 dL_idle_493 ?_
                                              refine z_bipush K cb_21 dL_idle_494 ?_
                                              refine z_cVi (As := [.int (0 : Int32), .int (21 : Int32)]) (rest := []) K (t_X11_check a.1 F (d - 1) (by omega) (0 : Int32) (21 : Int32) s47) mf_X11_check ml_L_149 (Nat.le_of_ble_eq_true rfl) (by omega) rfl rc_0 rfl (Nat.le_of_ble_eq_true rfl) dL_idle_496 (fun r50 s49 => ?_)
                                              refine z_bipush K cb_m2 dL_idle_499 ?_
                                              refine z_icmp_ne K (tgt := 527) dL_idle_501 (by decide) ?_ ?_
                                              · refine z_sub [1, 3] rfl ?_
                                                exact t_L_idle_j527 F D K hd v3 s49
                                              · refine z_aload_n K 1 rfl dL_idle_504 ?_
                                                refine z_bipush K cb_7 dL_idle_505 ?_
                                                refine z_cVi (As := [.int (7 : Int32)]) (rest := []) K (t_X11_count a.1 (d - 1) (by omega) (7 : Int32) s49) mf_X11_count ml_L_117 (Nat.le_of_ble_eq_true rfl) (by omega) rfl rc_0 rfl (Nat.le_of_ble_eq_true rfl) dL_idle_507 (fun r52 s51 => ?_)
                                                refine z_iconst K ci_m1 dL_idle_510 ?_
                                                refine z_icmp_ne K (tgt := 527) dL_idle_511 (by decide) ?_ ?_
                                                · refine z_sub [1, 3] rfl ?_
                                                  exact t_L_idle_j527 F D K hd v3 s51
                                                · refine z_aload_n K 1 rfl dL_idle_514 ?_
                                                  refine z_iload_n K 2 rfl dL_idle_515 ?_
                                                  refine z_cVi (As := [.int v2]) (rest := []) K (t_X11_count a.1 (d - 1) (by omega) v2 s51) mf_X11_count ml_L_117 (Nat.le_of_ble_eq_true rfl) (by omega) rfl rc_0 rfl (Nat.le_of_ble_eq_true rfl) dL_idle_516 (fun r54 s53 => ?_)
                                                  refine z_iconst K ci_m1 dL_idle_519 ?_
                                                  refine z_icmp_ne K (tgt := 527) dL_idle_520 (by decide) ?_ ?_
                                                  · refine z_sub [1, 3] rfl ?_
                                                    exact t_L_idle_j527 F D K hd v3 s53
                                                  · refine z_iconst K ci_1 dL_idle_523 ?_
                                                    refine z_goto K (tgt := 528) dL_idle_524 (by decide) ?_
                                                    refine z_sub [1, 3] rfl ?_
                                                    exact t_L_idle_j528 F D K hd v3 (1 : Int32) s53
def f_L_idle_j274 (F : Nat) (D : Nat) (v2 : Int32) (v3 : Int32) (s : zM) : Option (Int32 × zM) :=
  f_L_idle_j275 F D v2 v3 (0 : Int32) s
set_option maxRecDepth 100000 in
set_option maxHeartbeats 4000000 in
theorem t_L_idle_j274 {a : zA} {d : Nat} (F : Nat) (D : Nat) (K : zOK a cL_idle 5 RL (some .boolean) d) (hd : 2 * D + 8 ≤ d) (v2 : Int32) (v3 : Int32) (s : zM) : zJ a 5 (zG a zφN zri) zφN 274 [(0, .ref (a.1.2.2.2 + 0)), (2, .int v2), (3, .int v3)] [] s (f_L_idle_j274 F D v2 v3 s) := by
  unfold f_L_idle_j274
  refine z_iconst K ci_0 dL_idle_274 ?_
  exact t_L_idle_j275 F D K hd v2 v3 (0 : Int32) s
def f_L_idle_j22 (F : Nat) (D : Nat) (w0 : Int32) (s : zM) : Option (Int32 × zM) :=
  bnd (f_X11_count (2 : Int32) s) (fun r2 s1 =>
  bnd (f_X11_guest w0 (-1 : Int32) s1) (fun r4 s3 =>
  if r4 = (-1 : Int32) then
    bnd (f_X11_guest (0 : Int32) w0 s3) (fun r56 s55 =>
    if r56 = (-1 : Int32) then
      bnd (f_X11_liking w0 (0 : Int32) (0 : Int32) s55) (fun r58 s57 =>
      if r58 = 0 then
        bnd (f_X11_liking (0 : Int32) (0 : Int32) (0 : Int32) s57) (fun r60 s59 =>
        if r60 = 0 then
          bnd (f_X11_sit w0 (0 : Int32) s59) (fun r62 s61 =>
          if r62 = 0 then
            bnd (f_X11_sit (0 : Int32) w0 s61) (fun r64 s63 =>
            if r64 = 0 then
              bnd (f_X11_law F D (0 : Int32) s63) (fun r66 s65 =>
              if r66 = (-1 : Int32) then
                bnd (f_X11_law F D (201 : Int32) s65) (fun r68 s67 =>
                if r68 = (-1 : Int32) then
                  bnd (f_X11_two F w0 (0 : Int32) (0 : Int32) s67) (fun r70 s69 =>
                  if r70 = (-1 : Int32) then
                    bnd (f_X11_two F (1 : Int32) (1 : Int32) (1 : Int32) s69) (fun r72 s71 =>
                    if r72 = (-1 : Int32) then
                      bnd (f_X11_worth F w0 (0 : Int32) s71) (fun r74 s73 =>
                      if r74 = (-1000 : Int32) then
                        bnd (f_X11_rain w0 (0 : Int32) (0 : Int32) s73) (fun r76 s75 =>
                        if r76 = (-1 : Int32) then
                          bnd (f_X11_rain (0 : Int32) (2 : Int32) (1 : Int32) s75) (fun r78 s77 =>
                          if r78 = (-1 : Int32) then
                            bnd (f_X11_soonest F w0 (0 : Int32) (0 : Int32) s77) (fun r80 s79 =>
                            if r80 = (-1 : Int32) then
                              bnd (f_X11_soonest F (0 : Int32) (0 : Int32) w0 s79) (fun r82 s81 =>
                              if r82 = (-1 : Int32) then
                                bnd (f_X11_rumour F w0 (0 : Int32) (0 : Int32) s81) (fun r84 s83 =>
                                if r84 = (-3 : Int32) then
                                  bnd (f_X11_rumour F (0 : Int32) (0 : Int32) w0 s83) (fun r86 s85 =>
                                  if r86 = (-3 : Int32) then
                                    bnd (f_X11_speech w0 (0 : Int32) (1 : Int32) s85) (fun r88 s87 =>
                                    if r88 = (-1 : Int32) then
                                      bnd (f_X11_heard F w0 (0 : Int32) s87) (fun r90 s89 =>
                                      if r90 = (-1 : Int32) then
                                        bnd (f_X11_smuggled F D w0 (0 : Int32) (0 : Int32) s89) (fun r92 s91 =>
                                        if (lg_cmp r92 (-1 : Int64)) = 0 then
                                          bnd (f_X11_smuggled F D (0 : Int32) (0 : Int32) (0 : Int32) s91) (fun r94 s93 =>
                                          if (lg_cmp r94 (-1 : Int64)) = 0 then
                                            bnd (f_X11_seating F D (0 : Int32) (1 : Int32) (-1 : Int32) s93) (fun r96 s95 =>
                                            if r96 = (-1000000 : Int32) then
                                              f_L_idle_j275 F D w0 r2 (1 : Int32) s95
                                            else
                                              f_L_idle_j274 F D w0 r2 s95)
                                          else
                                            f_L_idle_j274 F D w0 r2 s93)
                                        else
                                          f_L_idle_j274 F D w0 r2 s91)
                                      else
                                        f_L_idle_j274 F D w0 r2 s89)
                                    else
                                      f_L_idle_j274 F D w0 r2 s87)
                                  else
                                    f_L_idle_j274 F D w0 r2 s85)
                                else
                                  f_L_idle_j274 F D w0 r2 s83)
                              else
                                f_L_idle_j274 F D w0 r2 s81)
                            else
                              f_L_idle_j274 F D w0 r2 s79)
                          else
                            f_L_idle_j274 F D w0 r2 s77)
                        else
                          f_L_idle_j274 F D w0 r2 s75)
                      else
                        f_L_idle_j274 F D w0 r2 s73)
                    else
                      f_L_idle_j274 F D w0 r2 s71)
                  else
                    f_L_idle_j274 F D w0 r2 s69)
                else
                  f_L_idle_j274 F D w0 r2 s67)
              else
                f_L_idle_j274 F D w0 r2 s65)
            else
              f_L_idle_j274 F D w0 r2 s63)
          else
            f_L_idle_j274 F D w0 r2 s61)
        else
          f_L_idle_j274 F D w0 r2 s59)
      else
        f_L_idle_j274 F D w0 r2 s57)
    else
      f_L_idle_j274 F D w0 r2 s55)
  else
    f_L_idle_j274 F D w0 r2 s3))
set_option maxRecDepth 100000 in
set_option maxHeartbeats 4000000 in
theorem t_L_idle_j22 {a : zA} {d : Nat} (F : Nat) (D : Nat) (K : zOK a cL_idle 5 RL (some .boolean) d) (hd : 2 * D + 8 ≤ d) (w0 : Int32) (s : zM) : zJ a 5 (zG a zφN zri) zφN 22 [(0, .ref (a.1.2.2.2 + 0))] [.int w0] s (f_L_idle_j22 F D w0 s) := by
  unfold f_L_idle_j22
  refine z_istore_n K (lv' := [(2, .int w0), (0, .ref (a.1.2.2.2 + 0))]) dL_idle_22 rfl (Nat.le_of_ble_eq_true rfl) rfl ?_
  refine z_aload_n K 1 rfl dL_idle_23 ?_
  refine z_iconst K ci_2 dL_idle_24 ?_
  refine z_cVi (As := [.int (2 : Int32)]) (rest := []) K (t_X11_count a.1 (d - 1) (by omega) (2 : Int32) s) mf_X11_count ml_L_117 (Nat.le_of_ble_eq_true rfl) (by omega) rfl rc_0 rfl (Nat.le_of_ble_eq_true rfl) dL_idle_25 (fun r2 s1 => ?_)
  refine z_istore_n K (lv' := [(3, .int r2), (2, .int w0), (0, .ref (a.1.2.2.2 + 0))]) dL_idle_28 rfl (Nat.le_of_ble_eq_true rfl) rfl ?_
  refine z_aload_n K 2 rfl dL_idle_29 ?_
  refine z_iload_n K 1 rfl dL_idle_30 ?_
  refine z_iconst K ci_m1 dL_idle_31 ?_
  refine z_cVi (As := [.int w0, .int (-1 : Int32)]) (rest := []) K (t_X11_guest a.1 (d - 1) (by omega) w0 (-1 : Int32) s1) mf_X11_guest ml_L_7 (Nat.le_of_ble_eq_true rfl) (by omega) rfl rc_0 rfl (Nat.le_of_ble_eq_true rfl) dL_idle_32 (fun r4 s3 => ?_)
  refine z_iconst K ci_m1 dL_idle_35 ?_
  refine z_icmp_ne K (tgt := 274) dL_idle_36 (by decide) ?_ ?_
  · refine z_sub [2, 1, 0] rfl ?_
    exact t_L_idle_j274 F D K hd w0 r2 s3
  · refine z_aload_n K 2 rfl dL_idle_39 ?_
    refine z_iconst K ci_0 dL_idle_40 ?_
    refine z_iload_n K 1 rfl dL_idle_41 ?_
    refine z_cVi (As := [.int (0 : Int32), .int w0]) (rest := []) K (t_X11_guest a.1 (d - 1) (by omega) (0 : Int32) w0 s3) mf_X11_guest ml_L_7 (Nat.le_of_ble_eq_true rfl) (by omega) rfl rc_0 rfl (Nat.le_of_ble_eq_true rfl) dL_idle_42 (fun r56 s55 => ?_)
    refine z_iconst K ci_m1 dL_idle_45 ?_
    refine z_icmp_ne K (tgt := 274) dL_idle_46 (by decide) ?_ ?_
    · refine z_sub [2, 1, 0] rfl ?_
      exact t_L_idle_j274 F D K hd w0 r2 s55
    · refine z_aload_n K 2 rfl dL_idle_49 ?_
      refine z_iload_n K 1 rfl dL_idle_50 ?_
      refine z_iconst K ci_0 dL_idle_51 ?_
      refine z_iconst K ci_0 dL_idle_52 ?_
      refine z_cVi (As := [.int w0, .int (0 : Int32), .int (0 : Int32)]) (rest := []) K (t_X11_liking a.1 (d - 1) (by omega) w0 (0 : Int32) (0 : Int32) s55) mf_X11_liking ml_L_13 (Nat.le_of_ble_eq_true rfl) (by omega) rfl rc_0 rfl (Nat.le_of_ble_eq_true rfl) dL_idle_53 (fun r58 s57 => ?_)
      refine z_if_ne K (tgt := 274) dL_idle_56 (by decide) ?_ ?_
      · refine z_sub [2, 1, 0] rfl ?_
        exact t_L_idle_j274 F D K hd w0 r2 s57
      · refine z_aload_n K 2 rfl dL_idle_59 ?_
        refine z_iconst K ci_0 dL_idle_60 ?_
        refine z_iconst K ci_0 dL_idle_61 ?_
        refine z_iconst K ci_0 dL_idle_62 ?_
        refine z_cVi (As := [.int (0 : Int32), .int (0 : Int32), .int (0 : Int32)]) (rest := []) K (t_X11_liking a.1 (d - 1) (by omega) (0 : Int32) (0 : Int32) (0 : Int32) s57) mf_X11_liking ml_L_13 (Nat.le_of_ble_eq_true rfl) (by omega) rfl rc_0 rfl (Nat.le_of_ble_eq_true rfl) dL_idle_63 (fun r60 s59 => ?_)
        refine z_if_ne K (tgt := 274) dL_idle_66 (by decide) ?_ ?_
        · refine z_sub [2, 1, 0] rfl ?_
          exact t_L_idle_j274 F D K hd w0 r2 s59
        · refine z_aload_n K 2 rfl dL_idle_69 ?_
          refine z_iload_n K 1 rfl dL_idle_70 ?_
          refine z_iconst K ci_0 dL_idle_71 ?_
          refine z_cVi (As := [.int w0, .int (0 : Int32)]) (rest := []) K (t_X11_sit a.1 (d - 1) (by omega) w0 (0 : Int32) s59) mf_X11_sit ml_L_56 (Nat.le_of_ble_eq_true rfl) (by omega) rfl rc_0 rfl (Nat.le_of_ble_eq_true rfl) dL_idle_72 (fun r62 s61 => ?_)
          refine z_if_ne K (tgt := 274) dL_idle_75 (by decide) ?_ ?_
          · refine z_sub [2, 1, 0] rfl ?_
            exact t_L_idle_j274 F D K hd w0 r2 s61
          · refine z_aload_n K 2 rfl dL_idle_78 ?_
            refine z_iconst K ci_0 dL_idle_79 ?_
            refine z_iload_n K 1 rfl dL_idle_80 ?_
            refine z_cVi (As := [.int (0 : Int32), .int w0]) (rest := []) K (t_X11_sit a.1 (d - 1) (by omega) (0 : Int32) w0 s61) mf_X11_sit ml_L_56 (Nat.le_of_ble_eq_true rfl) (by omega) rfl rc_0 rfl (Nat.le_of_ble_eq_true rfl) dL_idle_81 (fun r64 s63 => ?_)
            refine z_if_ne K (tgt := 274) dL_idle_84 (by decide) ?_ ?_
            · refine z_sub [2, 1, 0] rfl ?_
              exact t_L_idle_j274 F D K hd w0 r2 s63
            · refine z_aload_n K 2 rfl dL_idle_87 ?_
              refine z_iconst K ci_0 dL_idle_88 ?_
              refine z_cVi (As := [.int (0 : Int32)]) (rest := []) K (t_X11_law a.1 F D (d - 1) (by omega) (0 : Int32) s63) mf_X11_law ml_L_35 (Nat.le_of_ble_eq_true rfl) (by omega) rfl rc_0 rfl (Nat.le_of_ble_eq_true rfl) dL_idle_89 (fun r66 s65 => ?_)
              refine z_iconst K ci_m1 dL_idle_92 ?_
              refine z_icmp_ne K (tgt := 274) dL_idle_93 (by decide) ?_ ?_
              · refine z_sub [2, 1, 0] rfl ?_
                exact t_L_idle_j274 F D K hd w0 r2 s65
              · refine z_aload_n K 2 rfl dL_idle_96 ?_
                refine z_sipush K cs_201 dL_idle_97 ?_
                refine z_cVi (As := [.int (201 : Int32)]) (rest := []) K (t_X11_law a.1 F D (d - 1) (by omega) (201 : Int32) s65) mf_X11_law ml_L_35 (Nat.le_of_ble_eq_true rfl) (by omega) rfl rc_0 rfl (Nat.le_of_ble_eq_true rfl) dL_idle_100 (fun r68 s67 => ?_)
                refine z_iconst K ci_m1 dL_idle_103 ?_
                refine z_icmp_ne K (tgt := 274) dL_idle_104 (by decide) ?_ ?_
                · refine z_sub [2, 1, 0] rfl ?_
                  exact t_L_idle_j274 F D K hd w0 r2 s67
                · refine z_aload_n K 2 rfl dL_idle_107 ?_
                  refine z_iload_n K 1 rfl dL_idle_108 ?_
                  refine z_iconst K ci_0 dL_idle_109 ?_
                  refine z_iconst K ci_0 dL_idle_110 ?_
                  refine z_cVi (As := [.int w0, .int (0 : Int32), .int (0 : Int32)]) (rest := []) K (t_X11_two a.1 F (d - 1) (by omega) w0 (0 : Int32) (0 : Int32) s67) mf_X11_two ml_L_120 (Nat.le_of_ble_eq_true rfl) (by omega) rfl rc_0 rfl (Nat.le_of_ble_eq_true rfl) dL_idle_111 (fun r70 s69 => ?_)
                  refine z_iconst K ci_m1 dL_idle_114 ?_
                  refine z_icmp_ne K (tgt := 274) dL_idle_115 (by decide) ?_ ?_
                  · refine z_sub [2, 1, 0] rfl ?_
                    exact t_L_idle_j274 F D K hd w0 r2 s69
                  · refine z_aload_n K 2 rfl dL_idle_118 ?_
                    refine z_iconst K ci_1 dL_idle_119 ?_
                    refine z_iconst K ci_1 dL_idle_120 ?_
                    refine z_iconst K ci_1 dL_idle_121 ?_
                    refine z_cVi (As := [.int (1 : Int32), .int (1 : Int32), .int (1 : Int32)]) (rest := []) K (t_X11_two a.1 F (d - 1) (by omega) (1 : Int32) (1 : Int32) (1 : Int32) s69) mf_X11_two ml_L_120 (Nat.le_of_ble_eq_true rfl) (by omega) rfl rc_0 rfl (Nat.le_of_ble_eq_true rfl) dL_idle_122 (fun r72 s71 => ?_)
                    refine z_iconst K ci_m1 dL_idle_125 ?_
                    refine z_icmp_ne K (tgt := 274) dL_idle_126 (by decide) ?_ ?_
                    · refine z_sub [2, 1, 0] rfl ?_
                      exact t_L_idle_j274 F D K hd w0 r2 s71
                    · refine z_aload_n K 2 rfl dL_idle_129 ?_
                      refine z_iload_n K 1 rfl dL_idle_130 ?_
                      refine z_iconst K ci_0 dL_idle_131 ?_
                      refine z_cVi (As := [.int w0, .int (0 : Int32)]) (rest := []) K (t_X11_worth a.1 F (d - 1) (by omega) w0 (0 : Int32) s71) mf_X11_worth ml_L_123 (Nat.le_of_ble_eq_true rfl) (by omega) rfl rc_0 rfl (Nat.le_of_ble_eq_true rfl) dL_idle_132 (fun r74 s73 => ?_)
                      refine z_sipush K cs_m1000 dL_idle_135 ?_
                      refine z_icmp_ne K (tgt := 274) dL_idle_138 (by decide) ?_ ?_
                      · refine z_sub [2, 1, 0] rfl ?_
                        exact t_L_idle_j274 F D K hd w0 r2 s73
                      · refine z_aload_n K 2 rfl dL_idle_141 ?_
                        refine z_iload_n K 1 rfl dL_idle_142 ?_
                        refine z_iconst K ci_0 dL_idle_143 ?_
                        refine z_iconst K ci_0 dL_idle_144 ?_
                        refine z_cVi (As := [.int w0, .int (0 : Int32), .int (0 : Int32)]) (rest := []) K (t_X11_rain a.1 (d - 1) (by omega) w0 (0 : Int32) (0 : Int32) s73) mf_X11_rain ml_L_60 (Nat.le_of_ble_eq_true rfl) (by omega) rfl rc_0 rfl (Nat.le_of_ble_eq_true rfl) dL_idle_145 (fun r76 s75 => ?_)
                        refine z_iconst K ci_m1 dL_idle_148 ?_
                        refine z_icmp_ne K (tgt := 274) dL_idle_149 (by decide) ?_ ?_
                        · refine z_sub [2, 1, 0] rfl ?_
                          exact t_L_idle_j274 F D K hd w0 r2 s75
                        · refine z_aload_n K 2 rfl dL_idle_152 ?_
                          refine z_iconst K ci_0 dL_idle_153 ?_
                          refine z_iconst K ci_2 dL_idle_154 ?_
                          refine z_iconst K ci_1 dL_idle_155 ?_
                          refine z_cVi (As := [.int (0 : Int32), .int (2 : Int32), .int (1 : Int32)]) (rest := []) K (t_X11_rain a.1 (d - 1) (by omega) (0 : Int32) (2 : Int32) (1 : Int32) s75) mf_X11_rain ml_L_60 (Nat.le_of_ble_eq_true rfl) (by omega) rfl rc_0 rfl (Nat.le_of_ble_eq_true rfl) dL_idle_156 (fun r78 s77 => ?_)
                          refine z_iconst K ci_m1 dL_idle_159 ?_
                          refine z_icmp_ne K (tgt := 274) dL_idle_160 (by decide) ?_ ?_
                          · refine z_sub [2, 1, 0] rfl ?_
                            exact t_L_idle_j274 F D K hd w0 r2 s77
                          · refine z_aload_n K 2 rfl dL_idle_163 ?_
                            refine z_iload_n K 1 rfl dL_idle_164 ?_
                            refine z_iconst K ci_0 dL_idle_165 ?_
                            refine z_iconst K ci_0 dL_idle_166 ?_
                            refine z_cVi (As := [.int w0, .int (0 : Int32), .int (0 : Int32)]) (rest := []) K (t_X11_soonest a.1 F (d - 1) (by omega) w0 (0 : Int32) (0 : Int32) s77) mf_X11_soonest ml_L_67 (Nat.le_of_ble_eq_true rfl) (by omega) rfl rc_0 rfl (Nat.le_of_ble_eq_true rfl) dL_idle_167 (fun r80 s79 => ?_)
                            refine z_iconst K ci_m1 dL_idle_170 ?_
                            refine z_icmp_ne K (tgt := 274) dL_idle_171 (by decide) ?_ ?_
                            · refine z_sub [2, 1, 0] rfl ?_
                              exact t_L_idle_j274 F D K hd w0 r2 s79
                            · refine z_aload_n K 2 rfl dL_idle_174 ?_
                              refine z_iconst K ci_0 dL_idle_175 ?_
                              refine z_iconst K ci_0 dL_idle_176 ?_
                              refine z_iload_n K 1 rfl dL_idle_177 ?_
                              refine z_cVi (As := [.int (0 : Int32), .int (0 : Int32), .int w0]) (rest := []) K (t_X11_soonest a.1 F (d - 1) (by omega) (0 : Int32) (0 : Int32) w0 s79) mf_X11_soonest ml_L_67 (Nat.le_of_ble_eq_true rfl) (by omega) rfl rc_0 rfl (Nat.le_of_ble_eq_true rfl) dL_idle_178 (fun r82 s81 => ?_)
                              refine z_iconst K ci_m1 dL_idle_181 ?_
                              refine z_icmp_ne K (tgt := 274) dL_idle_182 (by decide) ?_ ?_
                              · refine z_sub [2, 1, 0] rfl ?_
                                exact t_L_idle_j274 F D K hd w0 r2 s81
                              · refine z_aload_n K 2 rfl dL_idle_185 ?_
                                refine z_iload_n K 1 rfl dL_idle_186 ?_
                                refine z_iconst K ci_0 dL_idle_187 ?_
                                refine z_iconst K ci_0 dL_idle_188 ?_
                                refine z_cVi (As := [.int w0, .int (0 : Int32), .int (0 : Int32)]) (rest := []) K (t_X11_rumour a.1 F (d - 1) (by omega) w0 (0 : Int32) (0 : Int32) s81) mf_X11_rumour ml_L_70 (Nat.le_of_ble_eq_true rfl) (by omega) rfl rc_0 rfl (Nat.le_of_ble_eq_true rfl) dL_idle_189 (fun r84 s83 => ?_)
                                refine z_bipush K cb_m3 dL_idle_192 ?_
                                refine z_icmp_ne K (tgt := 274) dL_idle_194 (by decide) ?_ ?_
                                · refine z_sub [2, 1, 0] rfl ?_
                                  exact t_L_idle_j274 F D K hd w0 r2 s83
                                · refine z_aload_n K 2 rfl dL_idle_197 ?_
                                  refine z_iconst K ci_0 dL_idle_198 ?_
                                  refine z_iconst K ci_0 dL_idle_199 ?_
                                  refine z_iload_n K 1 rfl dL_idle_200 ?_
                                  refine z_cVi (As := [.int (0 : Int32), .int (0 : Int32), .int w0]) (rest := []) K (t_X11_rumour a.1 F (d - 1) (by omega) (0 : Int32) (0 : Int32) w0 s83) mf_X11_rumour ml_L_70 (Nat.le_of_ble_eq_true rfl) (by omega) rfl rc_0 rfl (Nat.le_of_ble_eq_true rfl) dL_idle_201 (fun r86 s85 => ?_)
                                  refine z_bipush K cb_m3 dL_idle_204 ?_
                                  refine z_icmp_ne K (tgt := 274) dL_idle_206 (by decide) ?_ ?_
                                  · refine z_sub [2, 1, 0] rfl ?_
                                    exact t_L_idle_j274 F D K hd w0 r2 s85
                                  · refine z_aload_n K 2 rfl dL_idle_209 ?_
                                    refine z_iload_n K 1 rfl dL_idle_210 ?_
                                    refine z_iconst K ci_0 dL_idle_211 ?_
                                    refine z_iconst K ci_1 dL_idle_212 ?_
                                    refine z_cVi (As := [.int w0, .int (0 : Int32), .int (1 : Int32)]) (rest := []) K (t_X11_speech a.1 (d - 1) (by omega) w0 (0 : Int32) (1 : Int32) s85) mf_X11_speech ml_L_64 (Nat.le_of_ble_eq_true rfl) (by omega) rfl rc_0 rfl (Nat.le_of_ble_eq_true rfl) dL_idle_213 (fun r88 s87 => ?_)
                                    refine z_iconst K ci_m1 dL_idle_216 ?_
                                    refine z_icmp_ne K (tgt := 274) dL_idle_217 (by decide) ?_ ?_
                                    · refine z_sub [2, 1, 0] rfl ?_
                                      exact t_L_idle_j274 F D K hd w0 r2 s87
                                    · refine z_aload_n K 2 rfl dL_idle_220 ?_
                                      refine z_iload_n K 1 rfl dL_idle_221 ?_
                                      refine z_iconst K ci_0 dL_idle_222 ?_
                                      refine z_cVi (As := [.int w0, .int (0 : Int32)]) (rest := []) K (t_X11_heard a.1 F (d - 1) (by omega) w0 (0 : Int32) s87) mf_X11_heard ml_L_126 (Nat.le_of_ble_eq_true rfl) (by omega) rfl rc_0 rfl (Nat.le_of_ble_eq_true rfl) dL_idle_223 (fun r90 s89 => ?_)
                                      refine z_iconst K ci_m1 dL_idle_226 ?_
                                      refine z_icmp_ne K (tgt := 274) dL_idle_227 (by decide) ?_ ?_
                                      · refine z_sub [2, 1, 0] rfl ?_
                                        exact t_L_idle_j274 F D K hd w0 r2 s89
                                      · refine z_aload_n K 2 rfl dL_idle_230 ?_
                                        refine z_iload_n K 1 rfl dL_idle_231 ?_
                                        refine z_iconst K ci_0 dL_idle_232 ?_
                                        refine z_iconst K ci_0 dL_idle_233 ?_
                                        refine z_cVl (As := [.int w0, .int (0 : Int32), .int (0 : Int32)]) (rest := []) K (t_X11_smuggled a.1 F D (d - 1) (by omega) w0 (0 : Int32) (0 : Int32) s89) mf_X11_smuggled ml_L_73 (Nat.le_of_ble_eq_true rfl) (by omega) rfl rc_0 rfl (Nat.le_of_ble_eq_true rfl) dL_idle_234 (fun r92 s91 => ?_)
                                        refine z_ldc2 K cst_L_129 dL_idle_237 ?_
                                        refine z_lcmp K dL_idle_240 ?_
                                        refine z_if_ne K (tgt := 274) dL_idle_241 (by decide) ?_ ?_
                                        · refine z_sub [2, 1, 0] rfl ?_
                                          exact t_L_idle_j274 F D K hd w0 r2 s91
                                        · refine z_aload_n K 2 rfl dL_idle_244 ?_
                                          refine z_iconst K ci_0 dL_idle_245 ?_
                                          refine z_iconst K ci_0 dL_idle_246 ?_
                                          refine z_iconst K ci_0 dL_idle_247 ?_
                                          refine z_cVl (As := [.int (0 : Int32), .int (0 : Int32), .int (0 : Int32)]) (rest := []) K (t_X11_smuggled a.1 F D (d - 1) (by omega) (0 : Int32) (0 : Int32) (0 : Int32) s91) mf_X11_smuggled ml_L_73 (Nat.le_of_ble_eq_true rfl) (by omega) rfl rc_0 rfl (Nat.le_of_ble_eq_true rfl) dL_idle_248 (fun r94 s93 => ?_)
                                          refine z_ldc2 K cst_L_129 dL_idle_251 ?_
                                          refine z_lcmp K dL_idle_254 ?_
                                          refine z_if_ne K (tgt := 274) dL_idle_255 (by decide) ?_ ?_
                                          · refine z_sub [2, 1, 0] rfl ?_
                                            exact t_L_idle_j274 F D K hd w0 r2 s93
                                          · refine z_aload_n K 2 rfl dL_idle_258 ?_
                                            refine z_iconst K ci_0 dL_idle_259 ?_
                                            refine z_iconst K ci_1 dL_idle_260 ?_
                                            refine z_iconst K ci_m1 dL_idle_261 ?_
                                            refine z_cVi (As := [.int (0 : Int32), .int (1 : Int32), .int (-1 : Int32)]) (rest := []) K (t_X11_seating a.1 F D (d - 1) (by omega) (0 : Int32) (1 : Int32) (-1 : Int32) s93) mf_X11_seating ml_L_131 (Nat.le_of_ble_eq_true rfl) (by omega) rfl rc_0 rfl (Nat.le_of_ble_eq_true rfl) dL_idle_262 (fun r96 s95 => ?_)
                                            refine z_ldc K cst_L_134 dL_idle_265 ?_
                                            refine z_icmp_ne K (tgt := 274) dL_idle_267 (by decide) ?_ ?_
                                            · refine z_sub [2, 1, 0] rfl ?_
                                              exact t_L_idle_j274 F D K hd w0 r2 s95
                                            · refine z_iconst K ci_1 dL_idle_270 ?_
                                              refine z_goto K (tgt := 275) dL_idle_271 (by decide) ?_
                                              refine z_sub [2, 1, 0] rfl ?_
                                              exact t_L_idle_j275 F D K hd w0 r2 (1 : Int32) s95
def f_L_idle (F : Nat) (D : Nat) (v1 : Int32) (s : zM) : Option (Int32 × zM) :=
  if v1 < 0 then
    if v1 = (-1 : Int32) then
      f_L_idle_j22 F D (-2 : Int32) s
    else
      f_L_idle_j22 F D v1 s
  else
    f_L_idle_j22 F D (v1 ||| (65536 : Int32)) s
set_option maxRecDepth 100000 in
set_option maxHeartbeats 4000000 in
theorem t_L_idle (w : zWd) (F : Nat) (D : Nat) (d : Nat) (hd : 2 * D + 8 ≤ d) (v1 : Int32) (s : zM) : zMt w yL_idle cL_idle 5 (some .boolean) d zφN zφN zri [.ref (w.2.2.2 + 0), .int v1] s (f_L_idle F D v1 s) := by
  refine zMtN_of (own := RL) rfl (by decide +kernel) (Nat.le_of_ble_eq_true rfl) cd_L_idle [(0, .ref (w.2.2.2 + 0)), (1, .int v1)] rfl ?_
  rintro a rfl K
  unfold f_L_idle
  refine z_iload_n K 1 rfl dL_idle_0 ?_
  refine z_if_ge K (tgt := 18) dL_idle_1 (by decide) ?_ ?_
  · refine z_iload_n K 1 rfl dL_idle_18 ?_
    refine z_ldc K cst_L_116 dL_idle_19 ?_
    refine z_ior K dL_idle_21 ?_
    refine z_sub [0] rfl ?_
    exact t_L_idle_j22 F D K hd (v1 ||| (65536 : Int32)) s
  · refine z_iload_n K 1 rfl dL_idle_4 ?_
    refine z_iconst K ci_m1 dL_idle_5 ?_
    refine z_icmp_ne K (tgt := 14) dL_idle_6 (by decide) ?_ ?_
    · refine z_iload_n K 1 rfl dL_idle_14 ?_
      refine z_goto K (tgt := 22) dL_idle_15 (by decide) ?_
      refine z_sub [0] rfl ?_
      exact t_L_idle_j22 F D K hd v1 s
    · refine z_bipush K cb_m2 dL_idle_9 ?_
      refine z_goto K (tgt := 22) dL_idle_11 (by decide) ?_
      refine z_sub [0] rfl ?_
      exact t_L_idle_j22 F D K hd (-2 : Int32) s
def f_L_alike_L60 (F : Nat) (k95 : Int32 → zM → Option (Int32 × zM)) : Nat → Int32 → Int32 → zM → Option (Int32 × zM)
  | 0, _, _, _ => none
  | n + 1, v2, v3, s =>
    if v3 < (7 : Int32) then
      if v2 = 0 then
        lt (v3 + (1 : Int32)) (fun y5 =>
        f_L_alike_L60 F k95 n (0 : Int32) y5 s)
      else
        bnd (inT 0 (cal (f_X11_count v3) (f_X12_count v3)) s) (fun r7 s6 =>
        bnd (inT 1 (cal (f_X11_count v3) (f_X12_count v3)) s6) (fun r9 s8 =>
        if r7 = r9 then
          lt (v3 + (1 : Int32)) (fun y11 =>
          f_L_alike_L60 F k95 n (1 : Int32) y11 s8)
        else
          lt (v3 + (1 : Int32)) (fun y10 =>
          f_L_alike_L60 F k95 n (0 : Int32) y10 s8)))
    else
      k95 v2 s
set_option maxRecDepth 100000 in
set_option maxHeartbeats 4000000 in
theorem t_L_alike_L60 {a : zA} {d : Nat} (F : Nat) (K : zOK a cL_alike 4 RL (some .boolean) d) (hd : 7 ≤ d) (hB : (141 : Nat) ≤ a.1.2.2.1 3) {k95 : Int32 → zM → Option (Int32 × zM)} (h95 : ∀ (v2 : Int32) (s : zM), zJ a 4 (zG a zφ2 zri) zφ2 95 [(0, .ref (a.1.2.2.2 + 69 * 0)), (1, .ref (a.1.2.2.2 + 69 * 1)), (2, .int v2)] [] s (k95 v2 s)) : ∀ (n : Nat) (v2 : Int32) (v3 : Int32) (s : zM), zJ a 4 (zG a zφ2 zri) zφ2 60 [(0, .ref (a.1.2.2.2 + 69 * 0)), (1, .ref (a.1.2.2.2 + 69 * 1)), (2, .int v2), (3, .int v3)] [] s (f_L_alike_L60 F k95 n v2 v3 s) := by
  intro n
  induction n with
  | zero => intros; exact z_none
  | succ n ih =>
    intro v2 v3 s
    rw [f_L_alike_L60]
    refine z_iload_n K 3 rfl dL_alike_60 ?_
    refine z_bipush K cb_7 dL_alike_61 ?_
    refine z_icmp_ge K (tgt := 95) dL_alike_63 (by decide) ?_ ?_
    · refine z_sub [0, 1, 2] rfl ?_
      exact h95 v2 s
    · refine z_iload_n K 2 rfl dL_alike_66 ?_
      refine z_if_eq K (tgt := 87) dL_alike_67 (by decide) ?_ ?_
      · refine z_iconst K ci_0 dL_alike_87 ?_
        refine z_istore_n K (lv' := [(2, .int (0 : Int32)), (0, .ref (a.1.2.2.2 + 69 * 0)), (1, .ref (a.1.2.2.2 + 69 * 1)), (3, .int v3)]) dL_alike_88 rfl (Nat.le_of_ble_eq_true rfl) rfl ?_
        refine z_iincN K (j := 3) (lv' := [(2, .int (0 : Int32)), (0, .ref (a.1.2.2.2 + 69 * 0)), (1, .ref (a.1.2.2.2 + 69 * 1))]) ci_1 rfl dL_alike_89 (Nat.le_of_ble_eq_true rfl) rfl (fun y5 => ?_)
        refine z_goto K (tgt := 60) dL_alike_92 (by decide) ?_
        refine z_sub [2, 3, 1, 0] rfl ?_
        exact ih (0 : Int32) y5 s
      · refine z_aload_n K 0 rfl dL_alike_70 ?_
        refine z_iload_n K 3 rfl dL_alike_71 ?_
        refine z_cTVi (As := [.int v3]) (rest := []) (X := (cal (f_X11_count v3) (f_X12_count v3))) (by decide) hB K ⟨Nat.zero_le _, Nat.zero_le _⟩ (zMt_cal (t_X11_count (wt a.1 0) (d - 1) (by omega) v3 (sub 0 s))) mf_X11_count ml_L_117 (Nat.le_of_ble_eq_true rfl) (by omega) rfl rfl rfl (Nat.le_of_ble_eq_true rfl) dL_alike_72 (fun r7 s6 => ?_)
        refine z_aload_n K 1 rfl dL_alike_75 ?_
        refine z_iload_n K 3 rfl dL_alike_76 ?_
        refine z_cTVi (As := [.int v3]) (rest := [.int r7]) (X := (cal (f_X11_count v3) (f_X12_count v3))) (by decide) hB K ⟨Nat.zero_le _, Nat.zero_le _⟩ (zMt_cal (t_X11_count (wt a.1 1) (d - 1) (by omega) v3 (sub 1 s6))) mf_X11_count ml_L_117 (Nat.le_of_ble_eq_true rfl) (by omega) rfl rfl rfl (Nat.le_of_ble_eq_true rfl) dL_alike_77 (fun r9 s8 => ?_)
        refine z_icmp_ne K (tgt := 87) dL_alike_80 (by decide) ?_ ?_
        · refine z_iconst K ci_0 dL_alike_87 ?_
          refine z_istore_n K (lv' := [(2, .int (0 : Int32)), (0, .ref (a.1.2.2.2 + 69 * 0)), (1, .ref (a.1.2.2.2 + 69 * 1)), (3, .int v3)]) dL_alike_88 rfl (Nat.le_of_ble_eq_true rfl) rfl ?_
          refine z_iincN K (j := 3) (lv' := [(2, .int (0 : Int32)), (0, .ref (a.1.2.2.2 + 69 * 0)), (1, .ref (a.1.2.2.2 + 69 * 1))]) ci_1 rfl dL_alike_89 (Nat.le_of_ble_eq_true rfl) rfl (fun y10 => ?_)
          refine z_goto K (tgt := 60) dL_alike_92 (by decide) ?_
          refine z_sub [2, 3, 1, 0] rfl ?_
          exact ih (0 : Int32) y10 s8
        · refine z_iconst K ci_1 dL_alike_83 ?_
          refine z_goto K (tgt := 88) dL_alike_84 (by decide) ?_
          refine z_istore_n K (lv' := [(2, .int (1 : Int32)), (0, .ref (a.1.2.2.2 + 69 * 0)), (1, .ref (a.1.2.2.2 + 69 * 1)), (3, .int v3)]) dL_alike_88 rfl (Nat.le_of_ble_eq_true rfl) rfl ?_
          refine z_iincN K (j := 3) (lv' := [(2, .int (1 : Int32)), (0, .ref (a.1.2.2.2 + 69 * 0)), (1, .ref (a.1.2.2.2 + 69 * 1))]) ci_1 rfl dL_alike_89 (Nat.le_of_ble_eq_true rfl) rfl (fun y11 => ?_)
          refine z_goto K (tgt := 60) dL_alike_92 (by decide) ?_
          refine z_sub [2, 3, 1, 0] rfl ?_
          exact ih (1 : Int32) y11 s8
def f_L_alike_L97 (F : Nat) (k204 : Int32 → zM → Option (Int32 × zM)) : Nat → Int32 → Int32 → zM → Option (Int32 × zM)
  | 0, _, _, _ => none
  | n + 1, v2, v3, s =>
    if v3 < (8 : Int32) then
      if v2 = 0 then
        lt (v3 + (1 : Int32)) (fun y14 =>
        f_L_alike_L97 F k204 n (0 : Int32) y14 s)
      else
        bnd (inT 0 (cal (f_X11_count ((20 : Int32) + v3)) (f_X12_count ((20 : Int32) + v3))) s) (fun r16 s15 =>
        bnd (inT 1 (cal (f_X11_count ((20 : Int32) + v3)) (f_X12_count ((20 : Int32) + v3))) s15) (fun r18 s17 =>
        if r16 = r18 then
          bnd (inT 0 (cal (f_X11_led F v3 (0 : Int32)) (f_X12_led v3 (0 : Int32))) s17) (fun r21 s20 =>
          bnd (inT 1 (cal (f_X11_led F v3 (0 : Int32)) (f_X12_led v3 (0 : Int32))) s20) (fun r23 s22 =>
          if r21 = r23 then
            bnd (inT 0 (cal (f_X11_led F v3 (4 : Int32)) (f_X12_led v3 (4 : Int32))) s22) (fun r26 s25 =>
            bnd (inT 1 (cal (f_X11_led F v3 (4 : Int32)) (f_X12_led v3 (4 : Int32))) s25) (fun r28 s27 =>
            if r26 = r28 then
              bnd (inT 0 (cal (f_X11_count ((40 : Int32) + v3)) (f_X12_count ((40 : Int32) + v3))) s27) (fun r31 s30 =>
              bnd (inT 1 (cal (f_X11_count ((40 : Int32) + v3)) (f_X12_count ((40 : Int32) + v3))) s30) (fun r33 s32 =>
              if r31 = r33 then
                bnd (inT 0 (cal (f_X11_rumour F v3 (3 : Int32) (-1 : Int32)) (f_X12_rumour F v3 (3 : Int32) (-1 : Int32))) s32) (fun r36 s35 =>
                bnd (inT 1 (cal (f_X11_rumour F v3 (3 : Int32) (-1 : Int32)) (f_X12_rumour F v3 (3 : Int32) (-1 : Int32))) s35) (fun r38 s37 =>
                if r36 = r38 then
                  lt (v3 + (1 : Int32)) (fun y40 =>
                  f_L_alike_L97 F k204 n (1 : Int32) y40 s37)
                else
                  lt (v3 + (1 : Int32)) (fun y39 =>
                  f_L_alike_L97 F k204 n (0 : Int32) y39 s37)))
              else
                lt (v3 + (1 : Int32)) (fun y34 =>
                f_L_alike_L97 F k204 n (0 : Int32) y34 s32)))
            else
              lt (v3 + (1 : Int32)) (fun y29 =>
              f_L_alike_L97 F k204 n (0 : Int32) y29 s27)))
          else
            lt (v3 + (1 : Int32)) (fun y24 =>
            f_L_alike_L97 F k204 n (0 : Int32) y24 s22)))
        else
          lt (v3 + (1 : Int32)) (fun y19 =>
          f_L_alike_L97 F k204 n (0 : Int32) y19 s17)))
    else
      k204 v2 s
set_option maxRecDepth 100000 in
set_option maxHeartbeats 4000000 in
theorem t_L_alike_L97 {a : zA} {d : Nat} (F : Nat) (K : zOK a cL_alike 4 RL (some .boolean) d) (hd : 7 ≤ d) (hB : (141 : Nat) ≤ a.1.2.2.1 3) {k204 : Int32 → zM → Option (Int32 × zM)} (h204 : ∀ (v2 : Int32) (s : zM), zJ a 4 (zG a zφ2 zri) zφ2 204 [(2, .int v2)] [] s (k204 v2 s)) : ∀ (n : Nat) (v2 : Int32) (v3 : Int32) (s : zM), zJ a 4 (zG a zφ2 zri) zφ2 97 [(0, .ref (a.1.2.2.2 + 69 * 0)), (1, .ref (a.1.2.2.2 + 69 * 1)), (2, .int v2), (3, .int v3)] [] s (f_L_alike_L97 F k204 n v2 v3 s) := by
  intro n
  induction n with
  | zero => intros; exact z_none
  | succ n ih =>
    intro v2 v3 s
    rw [f_L_alike_L97]
    refine z_iload_n K 3 rfl dL_alike_97 ?_
    refine z_bipush K cb_8 dL_alike_98 ?_
    refine z_icmp_ge K (tgt := 204) dL_alike_100 (by decide) ?_ ?_
    · refine z_sub [2] rfl ?_
      exact h204 v2 s
    · refine z_iload_n K 2 rfl dL_alike_103 ?_
      refine z_if_eq K (tgt := 196) dL_alike_104 (by decide) ?_ ?_
      · refine z_iconst K ci_0 dL_alike_196 ?_
        refine z_istore_n K (lv' := [(2, .int (0 : Int32)), (0, .ref (a.1.2.2.2 + 69 * 0)), (1, .ref (a.1.2.2.2 + 69 * 1)), (3, .int v3)]) dL_alike_197 rfl (Nat.le_of_ble_eq_true rfl) rfl ?_
        refine z_iincN K (j := 3) (lv' := [(2, .int (0 : Int32)), (0, .ref (a.1.2.2.2 + 69 * 0)), (1, .ref (a.1.2.2.2 + 69 * 1))]) ci_1 rfl dL_alike_198 (Nat.le_of_ble_eq_true rfl) rfl (fun y14 => ?_)
        refine z_goto K (tgt := 97) dL_alike_201 (by decide) ?_
        refine z_sub [2, 3, 1, 0] rfl ?_
        exact ih (0 : Int32) y14 s
      · refine z_aload_n K 0 rfl dL_alike_107 ?_
        refine z_bipush K cb_20 dL_alike_108 ?_
        refine z_iload_n K 3 rfl dL_alike_110 ?_
        refine z_iadd K dL_alike_111 ?_
        refine z_cTVi (As := [.int ((20 : Int32) + v3)]) (rest := []) (X := (cal (f_X11_count ((20 : Int32) + v3)) (f_X12_count ((20 : Int32) + v3)))) (by decide) hB K ⟨Nat.zero_le _, Nat.zero_le _⟩ (zMt_cal (t_X11_count (wt a.1 0) (d - 1) (by omega) ((20 : Int32) + v3) (sub 0 s))) mf_X11_count ml_L_117 (Nat.le_of_ble_eq_true rfl) (by omega) rfl rfl rfl (Nat.le_of_ble_eq_true rfl) dL_alike_112 (fun r16 s15 => ?_)
        refine z_aload_n K 1 rfl dL_alike_115 ?_
        refine z_bipush K cb_20 dL_alike_116 ?_
        refine z_iload_n K 3 rfl dL_alike_118 ?_
        refine z_iadd K dL_alike_119 ?_
        refine z_cTVi (As := [.int ((20 : Int32) + v3)]) (rest := [.int r16]) (X := (cal (f_X11_count ((20 : Int32) + v3)) (f_X12_count ((20 : Int32) + v3)))) (by decide) hB K ⟨Nat.zero_le _, Nat.zero_le _⟩ (zMt_cal (t_X11_count (wt a.1 1) (d - 1) (by omega) ((20 : Int32) + v3) (sub 1 s15))) mf_X11_count ml_L_117 (Nat.le_of_ble_eq_true rfl) (by omega) rfl rfl rfl (Nat.le_of_ble_eq_true rfl) dL_alike_120 (fun r18 s17 => ?_)
        refine z_icmp_ne K (tgt := 196) dL_alike_123 (by decide) ?_ ?_
        · refine z_iconst K ci_0 dL_alike_196 ?_
          refine z_istore_n K (lv' := [(2, .int (0 : Int32)), (0, .ref (a.1.2.2.2 + 69 * 0)), (1, .ref (a.1.2.2.2 + 69 * 1)), (3, .int v3)]) dL_alike_197 rfl (Nat.le_of_ble_eq_true rfl) rfl ?_
          refine z_iincN K (j := 3) (lv' := [(2, .int (0 : Int32)), (0, .ref (a.1.2.2.2 + 69 * 0)), (1, .ref (a.1.2.2.2 + 69 * 1))]) ci_1 rfl dL_alike_198 (Nat.le_of_ble_eq_true rfl) rfl (fun y19 => ?_)
          refine z_goto K (tgt := 97) dL_alike_201 (by decide) ?_
          refine z_sub [2, 3, 1, 0] rfl ?_
          exact ih (0 : Int32) y19 s17
        · refine z_aload_n K 0 rfl dL_alike_126 ?_
          refine z_iload_n K 3 rfl dL_alike_127 ?_
          refine z_iconst K ci_0 dL_alike_128 ?_
          refine z_cTVi (As := [.int v3, .int (0 : Int32)]) (rest := []) (X := (cal (f_X11_led F v3 (0 : Int32)) (f_X12_led v3 (0 : Int32)))) (by decide) hB K ⟨Nat.zero_le _, Nat.zero_le _⟩ (zMt_cal (t_X11_led (wt a.1 0) F (d - 1) (by omega) v3 (0 : Int32) (sub 0 s17))) mf_X11_led ml_L_142 (Nat.le_of_ble_eq_true rfl) (by omega) rfl rfl rfl (Nat.le_of_ble_eq_true rfl) dL_alike_129 (fun r21 s20 => ?_)
          refine z_aload_n K 1 rfl dL_alike_132 ?_
          refine z_iload_n K 3 rfl dL_alike_133 ?_
          refine z_iconst K ci_0 dL_alike_134 ?_
          refine z_cTVi (As := [.int v3, .int (0 : Int32)]) (rest := [.int r21]) (X := (cal (f_X11_led F v3 (0 : Int32)) (f_X12_led v3 (0 : Int32)))) (by decide) hB K ⟨Nat.zero_le _, Nat.zero_le _⟩ (zMt_cal (t_X11_led (wt a.1 1) F (d - 1) (by omega) v3 (0 : Int32) (sub 1 s20))) mf_X11_led ml_L_142 (Nat.le_of_ble_eq_true rfl) (by omega) rfl rfl rfl (Nat.le_of_ble_eq_true rfl) dL_alike_135 (fun r23 s22 => ?_)
          refine z_icmp_ne K (tgt := 196) dL_alike_138 (by decide) ?_ ?_
          · refine z_iconst K ci_0 dL_alike_196 ?_
            refine z_istore_n K (lv' := [(2, .int (0 : Int32)), (0, .ref (a.1.2.2.2 + 69 * 0)), (1, .ref (a.1.2.2.2 + 69 * 1)), (3, .int v3)]) dL_alike_197 rfl (Nat.le_of_ble_eq_true rfl) rfl ?_
            refine z_iincN K (j := 3) (lv' := [(2, .int (0 : Int32)), (0, .ref (a.1.2.2.2 + 69 * 0)), (1, .ref (a.1.2.2.2 + 69 * 1))]) ci_1 rfl dL_alike_198 (Nat.le_of_ble_eq_true rfl) rfl (fun y24 => ?_)
            refine z_goto K (tgt := 97) dL_alike_201 (by decide) ?_
            refine z_sub [2, 3, 1, 0] rfl ?_
            exact ih (0 : Int32) y24 s22
          · refine z_aload_n K 0 rfl dL_alike_141 ?_
            refine z_iload_n K 3 rfl dL_alike_142 ?_
            refine z_iconst K ci_4 dL_alike_143 ?_
            refine z_cTVi (As := [.int v3, .int (4 : Int32)]) (rest := []) (X := (cal (f_X11_led F v3 (4 : Int32)) (f_X12_led v3 (4 : Int32)))) (by decide) hB K ⟨Nat.zero_le _, Nat.zero_le _⟩ (zMt_cal (t_X11_led (wt a.1 0) F (d - 1) (by omega) v3 (4 : Int32) (sub 0 s22))) mf_X11_led ml_L_142 (Nat.le_of_ble_eq_true rfl) (by omega) rfl rfl rfl (Nat.le_of_ble_eq_true rfl) dL_alike_144 (fun r26 s25 => ?_)
            refine z_aload_n K 1 rfl dL_alike_147 ?_
            refine z_iload_n K 3 rfl dL_alike_148 ?_
            refine z_iconst K ci_4 dL_alike_149 ?_
            refine z_cTVi (As := [.int v3, .int (4 : Int32)]) (rest := [.int r26]) (X := (cal (f_X11_led F v3 (4 : Int32)) (f_X12_led v3 (4 : Int32)))) (by decide) hB K ⟨Nat.zero_le _, Nat.zero_le _⟩ (zMt_cal (t_X11_led (wt a.1 1) F (d - 1) (by omega) v3 (4 : Int32) (sub 1 s25))) mf_X11_led ml_L_142 (Nat.le_of_ble_eq_true rfl) (by omega) rfl rfl rfl (Nat.le_of_ble_eq_true rfl) dL_alike_150 (fun r28 s27 => ?_)
            refine z_icmp_ne K (tgt := 196) dL_alike_153 (by decide) ?_ ?_
            · refine z_iconst K ci_0 dL_alike_196 ?_
              refine z_istore_n K (lv' := [(2, .int (0 : Int32)), (0, .ref (a.1.2.2.2 + 69 * 0)), (1, .ref (a.1.2.2.2 + 69 * 1)), (3, .int v3)]) dL_alike_197 rfl (Nat.le_of_ble_eq_true rfl) rfl ?_
              refine z_iincN K (j := 3) (lv' := [(2, .int (0 : Int32)), (0, .ref (a.1.2.2.2 + 69 * 0)), (1, .ref (a.1.2.2.2 + 69 * 1))]) ci_1 rfl dL_alike_198 (Nat.le_of_ble_eq_true rfl) rfl (fun y29 => ?_)
              refine z_goto K (tgt := 97) dL_alike_201 (by decide) ?_
              refine z_sub [2, 3, 1, 0] rfl ?_
              exact ih (0 : Int32) y29 s27
            · refine z_aload_n K 0 rfl dL_alike_156 ?_
              refine z_bipush K cb_40 dL_alike_157 ?_
              refine z_iload_n K 3 rfl dL_alike_159 ?_
              refine z_iadd K dL_alike_160 ?_
              refine z_cTVi (As := [.int ((40 : Int32) + v3)]) (rest := []) (X := (cal (f_X11_count ((40 : Int32) + v3)) (f_X12_count ((40 : Int32) + v3)))) (by decide) hB K ⟨Nat.zero_le _, Nat.zero_le _⟩ (zMt_cal (t_X11_count (wt a.1 0) (d - 1) (by omega) ((40 : Int32) + v3) (sub 0 s27))) mf_X11_count ml_L_117 (Nat.le_of_ble_eq_true rfl) (by omega) rfl rfl rfl (Nat.le_of_ble_eq_true rfl) dL_alike_161 (fun r31 s30 => ?_)
              refine z_aload_n K 1 rfl dL_alike_164 ?_
              refine z_bipush K cb_40 dL_alike_165 ?_
              refine z_iload_n K 3 rfl dL_alike_167 ?_
              refine z_iadd K dL_alike_168 ?_
              refine z_cTVi (As := [.int ((40 : Int32) + v3)]) (rest := [.int r31]) (X := (cal (f_X11_count ((40 : Int32) + v3)) (f_X12_count ((40 : Int32) + v3)))) (by decide) hB K ⟨Nat.zero_le _, Nat.zero_le _⟩ (zMt_cal (t_X11_count (wt a.1 1) (d - 1) (by omega) ((40 : Int32) + v3) (sub 1 s30))) mf_X11_count ml_L_117 (Nat.le_of_ble_eq_true rfl) (by omega) rfl rfl rfl (Nat.le_of_ble_eq_true rfl) dL_alike_169 (fun r33 s32 => ?_)
              refine z_icmp_ne K (tgt := 196) dL_alike_172 (by decide) ?_ ?_
              · refine z_iconst K ci_0 dL_alike_196 ?_
                refine z_istore_n K (lv' := [(2, .int (0 : Int32)), (0, .ref (a.1.2.2.2 + 69 * 0)), (1, .ref (a.1.2.2.2 + 69 * 1)), (3, .int v3)]) dL_alike_197 rfl (Nat.le_of_ble_eq_true rfl) rfl ?_
                refine z_iincN K (j := 3) (lv' := [(2, .int (0 : Int32)), (0, .ref (a.1.2.2.2 + 69 * 0)), (1, .ref (a.1.2.2.2 + 69 * 1))]) ci_1 rfl dL_alike_198 (Nat.le_of_ble_eq_true rfl) rfl (fun y34 => ?_)
                refine z_goto K (tgt := 97) dL_alike_201 (by decide) ?_
                refine z_sub [2, 3, 1, 0] rfl ?_
                exact ih (0 : Int32) y34 s32
              · refine z_aload_n K 0 rfl dL_alike_175 ?_
                refine z_iload_n K 3 rfl dL_alike_176 ?_
                refine z_iconst K ci_3 dL_alike_177 ?_
                refine z_iconst K ci_m1 dL_alike_178 ?_
                refine z_cTVi (As := [.int v3, .int (3 : Int32), .int (-1 : Int32)]) (rest := []) (X := (cal (f_X11_rumour F v3 (3 : Int32) (-1 : Int32)) (f_X12_rumour F v3 (3 : Int32) (-1 : Int32)))) (by decide) hB K ⟨Nat.zero_le _, Nat.zero_le _⟩ (zMt_cal (t_X11_rumour (wt a.1 0) F (d - 1) (by omega) v3 (3 : Int32) (-1 : Int32) (sub 0 s32))) mf_X11_rumour ml_L_70 (Nat.le_of_ble_eq_true rfl) (by omega) rfl rfl rfl (Nat.le_of_ble_eq_true rfl) dL_alike_179 (fun r36 s35 => ?_)
                refine z_aload_n K 1 rfl dL_alike_182 ?_
                refine z_iload_n K 3 rfl dL_alike_183 ?_
                refine z_iconst K ci_3 dL_alike_184 ?_
                refine z_iconst K ci_m1 dL_alike_185 ?_
                refine z_cTVi (As := [.int v3, .int (3 : Int32), .int (-1 : Int32)]) (rest := [.int r36]) (X := (cal (f_X11_rumour F v3 (3 : Int32) (-1 : Int32)) (f_X12_rumour F v3 (3 : Int32) (-1 : Int32)))) (by decide) hB K ⟨Nat.zero_le _, Nat.zero_le _⟩ (zMt_cal (t_X11_rumour (wt a.1 1) F (d - 1) (by omega) v3 (3 : Int32) (-1 : Int32) (sub 1 s35))) mf_X11_rumour ml_L_70 (Nat.le_of_ble_eq_true rfl) (by omega) rfl rfl rfl (Nat.le_of_ble_eq_true rfl) dL_alike_186 (fun r38 s37 => ?_)
                refine z_icmp_ne K (tgt := 196) dL_alike_189 (by decide) ?_ ?_
                · refine z_iconst K ci_0 dL_alike_196 ?_
                  refine z_istore_n K (lv' := [(2, .int (0 : Int32)), (0, .ref (a.1.2.2.2 + 69 * 0)), (1, .ref (a.1.2.2.2 + 69 * 1)), (3, .int v3)]) dL_alike_197 rfl (Nat.le_of_ble_eq_true rfl) rfl ?_
                  refine z_iincN K (j := 3) (lv' := [(2, .int (0 : Int32)), (0, .ref (a.1.2.2.2 + 69 * 0)), (1, .ref (a.1.2.2.2 + 69 * 1))]) ci_1 rfl dL_alike_198 (Nat.le_of_ble_eq_true rfl) rfl (fun y39 => ?_)
                  refine z_goto K (tgt := 97) dL_alike_201 (by decide) ?_
                  refine z_sub [2, 3, 1, 0] rfl ?_
                  exact ih (0 : Int32) y39 s37
                · refine z_iconst K ci_1 dL_alike_192 ?_
                  refine z_goto K (tgt := 197) dL_alike_193 (by decide) ?_
                  refine z_istore_n K (lv' := [(2, .int (1 : Int32)), (0, .ref (a.1.2.2.2 + 69 * 0)), (1, .ref (a.1.2.2.2 + 69 * 1)), (3, .int v3)]) dL_alike_197 rfl (Nat.le_of_ble_eq_true rfl) rfl ?_
                  refine z_iincN K (j := 3) (lv' := [(2, .int (1 : Int32)), (0, .ref (a.1.2.2.2 + 69 * 0)), (1, .ref (a.1.2.2.2 + 69 * 1))]) ci_1 rfl dL_alike_198 (Nat.le_of_ble_eq_true rfl) rfl (fun y40 => ?_)
                  refine z_goto K (tgt := 97) dL_alike_201 (by decide) ?_
                  refine z_sub [2, 3, 1, 0] rfl ?_
                  exact ih (1 : Int32) y40 s37
def f_L_alike (F : Nat) (s : zM) : Option (Int32 × zM) :=
  bnd (inT 0 (cal (f_X11_sum F) (f_X12_sum F)) s) (fun r2 s1 =>
  bnd (inT 1 (cal (f_X11_sum F) (f_X12_sum F)) s1) (fun r4 s3 =>
  if r2 = r4 then
    bnd (inT 0 (cal (f_X11_strays F) (f_X12_strays F)) s3) (fun r44 s43 =>
    bnd (inT 1 (cal (f_X11_strays F) (f_X12_strays F)) s43) (fun r46 s45 =>
    if r44 = r46 then
      bnd (inT 0 (cal (f_X11_wrong F) (f_X12_wrong F)) s45) (fun r52 s51 =>
      bnd (inT 1 (cal (f_X11_wrong F) (f_X12_wrong F)) s51) (fun r54 s53 =>
      if r52 = r54 then
        bnd (inT 0 (cal (f_X11_heard F (9 : Int32) (20 : Int32)) (f_X12_heard F (9 : Int32) (20 : Int32))) s53) (fun r60 s59 =>
        bnd (inT 1 (cal (f_X11_heard F (9 : Int32) (20 : Int32)) (f_X12_heard F (9 : Int32) (20 : Int32))) s59) (fun r62 s61 =>
        if r60 = r62 then
          f_L_alike_L60 F (fun y68 s67 =>
            f_L_alike_L97 F (fun y70 s69 =>
              if y70 = 0 then some (0, s69) else if y70 = 1 then some (1, s69) else none) F y68 (0 : Int32) s67) F (1 : Int32) (0 : Int32) s61
        else
          f_L_alike_L60 F (fun y64 s63 =>
            f_L_alike_L97 F (fun y66 s65 =>
              if y66 = 0 then some (0, s65) else if y66 = 1 then some (1, s65) else none) F y64 (0 : Int32) s63) F (0 : Int32) (0 : Int32) s61))
      else
        f_L_alike_L60 F (fun y56 s55 =>
          f_L_alike_L97 F (fun y58 s57 =>
            if y58 = 0 then some (0, s57) else if y58 = 1 then some (1, s57) else none) F y56 (0 : Int32) s55) F (0 : Int32) (0 : Int32) s53))
    else
      f_L_alike_L60 F (fun y48 s47 =>
        f_L_alike_L97 F (fun y50 s49 =>
          if y50 = 0 then some (0, s49) else if y50 = 1 then some (1, s49) else none) F y48 (0 : Int32) s47) F (0 : Int32) (0 : Int32) s45))
  else
    f_L_alike_L60 F (fun y13 s12 =>
      f_L_alike_L97 F (fun y42 s41 =>
        if y42 = 0 then some (0, s41) else if y42 = 1 then some (1, s41) else none) F y13 (0 : Int32) s12) F (0 : Int32) (0 : Int32) s3))
set_option maxRecDepth 100000 in
set_option maxHeartbeats 4000000 in
theorem t_L_alike {bs L : Nat} {xs : Nat → Int32} (w : zWd) (F : Nat) (d : Nat) (hd : 7 ≤ d) (hB : (141 : Nat) ≤ w.2.2.1 3) (s : zM) : zMtX bs L xs w yL_alike cL_alike 4 (some .boolean) d zφ2 zφ2 zri [.ref (w.2.2.2 + 69 * 0), .ref (w.2.2.2 + 69 * 1)] s (f_L_alike F s) := by
  refine zMtX_of (own := RL) rfl (by decide +kernel) (Nat.le_of_ble_eq_true rfl) cd_L_alike [(0, .ref (w.2.2.2 + 69 * 0)), (1, .ref (w.2.2.2 + 69 * 1))] rfl ?_
  rintro a rfl K hX hbl hbA
  unfold f_L_alike
  refine z_aload_n K 0 rfl dL_alike_0 ?_
  refine z_cTVi (As := []) (rest := []) (X := (cal (f_X11_sum F) (f_X12_sum F))) (by decide) hB K ⟨Nat.zero_le _, Nat.zero_le _⟩ (zMt_cal (t_X11_sum (wt a.1 0) F (d - 1) (by omega) (sub 0 s))) mf_X11_sum ml_L_152 (Nat.le_of_ble_eq_true rfl) (by omega) rfl rfl rfl (Nat.le_of_ble_eq_true rfl) dL_alike_1 (fun r2 s1 => ?_)
  refine z_aload_n K 1 rfl dL_alike_4 ?_
  refine z_cTVi (As := []) (rest := [.int r2]) (X := (cal (f_X11_sum F) (f_X12_sum F))) (by decide) hB K ⟨Nat.zero_le _, Nat.zero_le _⟩ (zMt_cal (t_X11_sum (wt a.1 1) F (d - 1) (by omega) (sub 1 s1))) mf_X11_sum ml_L_152 (Nat.le_of_ble_eq_true rfl) (by omega) rfl rfl rfl (Nat.le_of_ble_eq_true rfl) dL_alike_5 (fun r4 s3 => ?_)
  refine z_icmp_ne K (tgt := 56) dL_alike_8 (by decide) ?_ ?_
  · refine z_iconst K ci_0 dL_alike_56 ?_
    refine z_istore_n K (lv' := [(2, .int (0 : Int32)), (0, .ref (a.1.2.2.2 + 69 * 0)), (1, .ref (a.1.2.2.2 + 69 * 1))]) dL_alike_57 rfl (Nat.le_of_ble_eq_true rfl) rfl ?_
    refine z_iconst K ci_0 dL_alike_58 ?_
    refine z_istore_n K (lv' := [(3, .int (0 : Int32)), (2, .int (0 : Int32)), (0, .ref (a.1.2.2.2 + 69 * 0)), (1, .ref (a.1.2.2.2 + 69 * 1))]) dL_alike_59 rfl (Nat.le_of_ble_eq_true rfl) rfl ?_
    refine z_sub [2, 3, 1, 0] rfl ?_
    refine t_L_alike_L60 F K hd hB (fun y13 s12 => ?_) F (0 : Int32) (0 : Int32) s3
    refine z_iconst K ci_0 dL_alike_95 ?_
    refine z_istore_n K (lv' := [(3, .int (0 : Int32)), (0, .ref (a.1.2.2.2 + 69 * 0)), (1, .ref (a.1.2.2.2 + 69 * 1)), (2, .int y13)]) dL_alike_96 rfl (Nat.le_of_ble_eq_true rfl) rfl ?_
    refine z_sub [1, 2, 3, 0] rfl ?_
    refine t_L_alike_L97 F K hd hB (fun y42 s41 => ?_) F y13 (0 : Int32) s12
    refine z_iload_n K 0 rfl dL_alike_204 ?_
    exact z_zretc K dL_alike_205
  · refine z_aload_n K 0 rfl dL_alike_11 ?_
    refine z_cTVi (As := []) (rest := []) (X := (cal (f_X11_strays F) (f_X12_strays F))) (by decide) hB K ⟨Nat.zero_le _, Nat.zero_le _⟩ (zMt_cal (t_X11_strays (wt a.1 0) F (d - 1) (by omega) (sub 0 s3))) mf_X11_strays ml_L_155 (Nat.le_of_ble_eq_true rfl) (by omega) rfl rfl rfl (Nat.le_of_ble_eq_true rfl) dL_alike_12 (fun r44 s43 => ?_)
    refine z_aload_n K 1 rfl dL_alike_15 ?_
    refine z_cTVi (As := []) (rest := [.int r44]) (X := (cal (f_X11_strays F) (f_X12_strays F))) (by decide) hB K ⟨Nat.zero_le _, Nat.zero_le _⟩ (zMt_cal (t_X11_strays (wt a.1 1) F (d - 1) (by omega) (sub 1 s43))) mf_X11_strays ml_L_155 (Nat.le_of_ble_eq_true rfl) (by omega) rfl rfl rfl (Nat.le_of_ble_eq_true rfl) dL_alike_16 (fun r46 s45 => ?_)
    refine z_icmp_ne K (tgt := 56) dL_alike_19 (by decide) ?_ ?_
    · refine z_iconst K ci_0 dL_alike_56 ?_
      refine z_istore_n K (lv' := [(2, .int (0 : Int32)), (0, .ref (a.1.2.2.2 + 69 * 0)), (1, .ref (a.1.2.2.2 + 69 * 1))]) dL_alike_57 rfl (Nat.le_of_ble_eq_true rfl) rfl ?_
      refine z_iconst K ci_0 dL_alike_58 ?_
      refine z_istore_n K (lv' := [(3, .int (0 : Int32)), (2, .int (0 : Int32)), (0, .ref (a.1.2.2.2 + 69 * 0)), (1, .ref (a.1.2.2.2 + 69 * 1))]) dL_alike_59 rfl (Nat.le_of_ble_eq_true rfl) rfl ?_
      refine z_sub [2, 3, 1, 0] rfl ?_
      refine t_L_alike_L60 F K hd hB (fun y48 s47 => ?_) F (0 : Int32) (0 : Int32) s45
      refine z_iconst K ci_0 dL_alike_95 ?_
      refine z_istore_n K (lv' := [(3, .int (0 : Int32)), (0, .ref (a.1.2.2.2 + 69 * 0)), (1, .ref (a.1.2.2.2 + 69 * 1)), (2, .int y48)]) dL_alike_96 rfl (Nat.le_of_ble_eq_true rfl) rfl ?_
      refine z_sub [1, 2, 3, 0] rfl ?_
      refine t_L_alike_L97 F K hd hB (fun y50 s49 => ?_) F y48 (0 : Int32) s47
      refine z_iload_n K 0 rfl dL_alike_204 ?_
      exact z_zretc K dL_alike_205
    · refine z_aload_n K 0 rfl dL_alike_22 ?_
      refine z_cTVi (As := []) (rest := []) (X := (cal (f_X11_wrong F) (f_X12_wrong F))) (by decide) hB K ⟨Nat.zero_le _, Nat.zero_le _⟩ (zMt_cal (t_X11_wrong (wt a.1 0) F (d - 1) (by omega) (sub 0 s45))) mf_X11_wrong ml_L_158 (Nat.le_of_ble_eq_true rfl) (by omega) rfl rfl rfl (Nat.le_of_ble_eq_true rfl) dL_alike_23 (fun r52 s51 => ?_)
      refine z_aload_n K 1 rfl dL_alike_26 ?_
      refine z_cTVi (As := []) (rest := [.int r52]) (X := (cal (f_X11_wrong F) (f_X12_wrong F))) (by decide) hB K ⟨Nat.zero_le _, Nat.zero_le _⟩ (zMt_cal (t_X11_wrong (wt a.1 1) F (d - 1) (by omega) (sub 1 s51))) mf_X11_wrong ml_L_158 (Nat.le_of_ble_eq_true rfl) (by omega) rfl rfl rfl (Nat.le_of_ble_eq_true rfl) dL_alike_27 (fun r54 s53 => ?_)
      refine z_icmp_ne K (tgt := 56) dL_alike_30 (by decide) ?_ ?_
      · refine z_iconst K ci_0 dL_alike_56 ?_
        refine z_istore_n K (lv' := [(2, .int (0 : Int32)), (0, .ref (a.1.2.2.2 + 69 * 0)), (1, .ref (a.1.2.2.2 + 69 * 1))]) dL_alike_57 rfl (Nat.le_of_ble_eq_true rfl) rfl ?_
        refine z_iconst K ci_0 dL_alike_58 ?_
        refine z_istore_n K (lv' := [(3, .int (0 : Int32)), (2, .int (0 : Int32)), (0, .ref (a.1.2.2.2 + 69 * 0)), (1, .ref (a.1.2.2.2 + 69 * 1))]) dL_alike_59 rfl (Nat.le_of_ble_eq_true rfl) rfl ?_
        refine z_sub [2, 3, 1, 0] rfl ?_
        refine t_L_alike_L60 F K hd hB (fun y56 s55 => ?_) F (0 : Int32) (0 : Int32) s53
        refine z_iconst K ci_0 dL_alike_95 ?_
        refine z_istore_n K (lv' := [(3, .int (0 : Int32)), (0, .ref (a.1.2.2.2 + 69 * 0)), (1, .ref (a.1.2.2.2 + 69 * 1)), (2, .int y56)]) dL_alike_96 rfl (Nat.le_of_ble_eq_true rfl) rfl ?_
        refine z_sub [1, 2, 3, 0] rfl ?_
        refine t_L_alike_L97 F K hd hB (fun y58 s57 => ?_) F y56 (0 : Int32) s55
        refine z_iload_n K 0 rfl dL_alike_204 ?_
        exact z_zretc K dL_alike_205
      · refine z_aload_n K 0 rfl dL_alike_33 ?_
        refine z_bipush K cb_9 dL_alike_34 ?_
        refine z_bipush K cb_20 dL_alike_36 ?_
        refine z_cTVi (As := [.int (9 : Int32), .int (20 : Int32)]) (rest := []) (X := (cal (f_X11_heard F (9 : Int32) (20 : Int32)) (f_X12_heard F (9 : Int32) (20 : Int32)))) (by decide) hB K ⟨Nat.zero_le _, Nat.zero_le _⟩ (zMt_cal (t_X11_heard (wt a.1 0) F (d - 1) (by omega) (9 : Int32) (20 : Int32) (sub 0 s53))) mf_X11_heard ml_L_126 (Nat.le_of_ble_eq_true rfl) (by omega) rfl rfl rfl (Nat.le_of_ble_eq_true rfl) dL_alike_38 (fun r60 s59 => ?_)
        refine z_aload_n K 1 rfl dL_alike_41 ?_
        refine z_bipush K cb_9 dL_alike_42 ?_
        refine z_bipush K cb_20 dL_alike_44 ?_
        refine z_cTVi (As := [.int (9 : Int32), .int (20 : Int32)]) (rest := [.int r60]) (X := (cal (f_X11_heard F (9 : Int32) (20 : Int32)) (f_X12_heard F (9 : Int32) (20 : Int32)))) (by decide) hB K ⟨Nat.zero_le _, Nat.zero_le _⟩ (zMt_cal (t_X11_heard (wt a.1 1) F (d - 1) (by omega) (9 : Int32) (20 : Int32) (sub 1 s59))) mf_X11_heard ml_L_126 (Nat.le_of_ble_eq_true rfl) (by omega) rfl rfl rfl (Nat.le_of_ble_eq_true rfl) dL_alike_46 (fun r62 s61 => ?_)
        refine z_icmp_ne K (tgt := 56) dL_alike_49 (by decide) ?_ ?_
        · refine z_iconst K ci_0 dL_alike_56 ?_
          refine z_istore_n K (lv' := [(2, .int (0 : Int32)), (0, .ref (a.1.2.2.2 + 69 * 0)), (1, .ref (a.1.2.2.2 + 69 * 1))]) dL_alike_57 rfl (Nat.le_of_ble_eq_true rfl) rfl ?_
          refine z_iconst K ci_0 dL_alike_58 ?_
          refine z_istore_n K (lv' := [(3, .int (0 : Int32)), (2, .int (0 : Int32)), (0, .ref (a.1.2.2.2 + 69 * 0)), (1, .ref (a.1.2.2.2 + 69 * 1))]) dL_alike_59 rfl (Nat.le_of_ble_eq_true rfl) rfl ?_
          refine z_sub [2, 3, 1, 0] rfl ?_
          refine t_L_alike_L60 F K hd hB (fun y64 s63 => ?_) F (0 : Int32) (0 : Int32) s61
          refine z_iconst K ci_0 dL_alike_95 ?_
          refine z_istore_n K (lv' := [(3, .int (0 : Int32)), (0, .ref (a.1.2.2.2 + 69 * 0)), (1, .ref (a.1.2.2.2 + 69 * 1)), (2, .int y64)]) dL_alike_96 rfl (Nat.le_of_ble_eq_true rfl) rfl ?_
          refine z_sub [1, 2, 3, 0] rfl ?_
          refine t_L_alike_L97 F K hd hB (fun y66 s65 => ?_) F y64 (0 : Int32) s63
          refine z_iload_n K 0 rfl dL_alike_204 ?_
          exact z_zretc K dL_alike_205
        · refine z_iconst K ci_1 dL_alike_52 ?_
          refine z_goto K (tgt := 57) dL_alike_53 (by decide) ?_
          refine z_istore_n K (lv' := [(2, .int (1 : Int32)), (0, .ref (a.1.2.2.2 + 69 * 0)), (1, .ref (a.1.2.2.2 + 69 * 1))]) dL_alike_57 rfl (Nat.le_of_ble_eq_true rfl) rfl ?_
          refine z_iconst K ci_0 dL_alike_58 ?_
          refine z_istore_n K (lv' := [(3, .int (0 : Int32)), (2, .int (1 : Int32)), (0, .ref (a.1.2.2.2 + 69 * 0)), (1, .ref (a.1.2.2.2 + 69 * 1))]) dL_alike_59 rfl (Nat.le_of_ble_eq_true rfl) rfl ?_
          refine z_sub [2, 3, 1, 0] rfl ?_
          refine t_L_alike_L60 F K hd hB (fun y68 s67 => ?_) F (1 : Int32) (0 : Int32) s61
          refine z_iconst K ci_0 dL_alike_95 ?_
          refine z_istore_n K (lv' := [(3, .int (0 : Int32)), (0, .ref (a.1.2.2.2 + 69 * 0)), (1, .ref (a.1.2.2.2 + 69 * 1)), (2, .int y68)]) dL_alike_96 rfl (Nat.le_of_ble_eq_true rfl) rfl ?_
          refine z_sub [1, 2, 3, 0] rfl ?_
          refine t_L_alike_L97 F K hd hB (fun y70 s69 => ?_) F y68 (0 : Int32) s67
          refine z_iload_n K 0 rfl dL_alike_204 ?_
          exact z_zretc K dL_alike_205
def f_L_lay_L100 (F : Nat) (D : Nat) (t : Nat) (xs : Nat → Int32) (L : Nat) (k134 : Int32 → zM → Option (Int32 × zM)) (v5 : Int32) (v6 : Int32) (v7 : Int32) (v9 : Int32) : Nat → Int32 → Int32 → zM → Option (Int32 × zM)
  | 0, _, _, _ => none
  | n + 1, v10, v11, s =>
    if v11 < v7 then
      if v10 = 0 then
        lt (v11 + (1 : Int32)) (fun y5 =>
        f_L_lay_L100 F D t xs L k134 v5 v6 v7 v9 n (0 : Int32) y5 s)
      else
        if zin v11 8 = true then
          if (zg s 138 (v11).toNatClampNeg) = v9 then
            lt (v11 + (1 : Int32)) (fun y6 =>
            f_L_lay_L100 F D t xs L k134 v5 v6 v7 v9 n (0 : Int32) y6 s)
          else
            lt (v11 + (1 : Int32)) (fun y7 =>
            f_L_lay_L100 F D t xs L k134 v5 v6 v7 v9 n (1 : Int32) y7 s)
        else none
    else
      k134 v10 s
set_option maxRecDepth 100000 in
set_option maxHeartbeats 4000000 in
theorem t_L_lay_L100 {a : zA} {d : Nat} (F : Nat) (D : Nat) (K : zOK a cL_lay 12 RL (some .boolean) d) (hd : 2 * D + 8 ≤ d) (t : Nat) (xs : Nat → Int32) (L : Nat) (ht : t < 2) (hB : (141 : Nat) ≤ a.1.2.2.1 3) {bs : Nat} (hX : va_X bs L xs a.2.2.2.2.1 a.2.2.2.2.1.heap) (hbl : bs < a.2.2.2.2.1.heap.size) (hbA : bs < a.1.2.2.2) {k134 : Int32 → zM → Option (Int32 × zM)} (v5 : Int32) (v6 : Int32) (v7 : Int32) (v9 : Int32) (h134 : ∀ (v10 : Int32) (s : zM), zJ a 12 (zG a zφ2 zri) zφ2 134 [(0, .ref (a.1.2.2.2 + 69 * t)), (1, .ref bs), (2, .ref (a.1.2.2.2 + 138)), (3, .ref (a.1.2.2.2 + 139)), (4, .ref (a.1.2.2.2 + 140)), (5, .int v5), (6, .int v6), (7, .int v7), (9, .int v9), (10, .int v10)] [] s (k134 v10 s)) : ∀ (n : Nat) (v10 : Int32) (v11 : Int32) (s : zM), zJ a 12 (zG a zφ2 zri) zφ2 100 [(0, .ref (a.1.2.2.2 + 69 * t)), (1, .ref bs), (2, .ref (a.1.2.2.2 + 138)), (3, .ref (a.1.2.2.2 + 139)), (4, .ref (a.1.2.2.2 + 140)), (5, .int v5), (6, .int v6), (7, .int v7), (9, .int v9), (10, .int v10), (11, .int v11)] [] s (f_L_lay_L100 F D t xs L k134 v5 v6 v7 v9 n v10 v11 s) := by
  intro n
  induction n with
  | zero => intros; exact z_none
  | succ n ih =>
    intro v10 v11 s
    rw [f_L_lay_L100]
    refine z_iload K 10 rfl dL_lay_100 ?_
    refine z_iload K 7 rfl dL_lay_102 ?_
    refine z_icmp_ge K (tgt := 134) dL_lay_104 (by decide) ?_ ?_
    · refine z_sub [0, 1, 2, 3, 4, 5, 6, 7, 8, 9] rfl ?_
      exact h134 v10 s
    · refine z_iload K 9 rfl dL_lay_107 ?_
      refine z_if_eq K (tgt := 125) dL_lay_109 (by decide) ?_ ?_
      · refine z_iconst K ci_0 dL_lay_125 ?_
        refine z_istore K (lv' := [(10, .int (0 : Int32)), (0, .ref (a.1.2.2.2 + 69 * t)), (1, .ref bs), (2, .ref (a.1.2.2.2 + 138)), (3, .ref (a.1.2.2.2 + 139)), (4, .ref (a.1.2.2.2 + 140)), (5, .int v5), (6, .int v6), (7, .int v7), (9, .int v9), (11, .int v11)]) dL_lay_126 (Nat.le_of_ble_eq_true rfl) rfl ?_
        refine z_iincN K (j := 10) (lv' := [(10, .int (0 : Int32)), (0, .ref (a.1.2.2.2 + 69 * t)), (1, .ref bs), (2, .ref (a.1.2.2.2 + 138)), (3, .ref (a.1.2.2.2 + 139)), (4, .ref (a.1.2.2.2 + 140)), (5, .int v5), (6, .int v6), (7, .int v7), (9, .int v9)]) ci_1 rfl dL_lay_128 (Nat.le_of_ble_eq_true rfl) rfl (fun y5 => ?_)
        refine z_goto K (tgt := 100) dL_lay_131 (by decide) ?_
        refine z_sub [2, 3, 4, 5, 6, 7, 8, 9, 10, 1, 0] rfl ?_
        exact ih (0 : Int32) y5 s
      · refine z_aload_n K 2 rfl dL_lay_112 ?_
        refine z_iload K 10 rfl dL_lay_113 ?_
        refine z_iald K ar_138 dL_lay_115 ?_
        refine z_iload K 8 rfl dL_lay_116 ?_
        refine z_icmp_eq K (tgt := 125) dL_lay_118 (by decide) ?_ ?_
        · refine z_iconst K ci_0 dL_lay_125 ?_
          refine z_istore K (lv' := [(10, .int (0 : Int32)), (0, .ref (a.1.2.2.2 + 69 * t)), (1, .ref bs), (2, .ref (a.1.2.2.2 + 138)), (3, .ref (a.1.2.2.2 + 139)), (4, .ref (a.1.2.2.2 + 140)), (5, .int v5), (6, .int v6), (7, .int v7), (9, .int v9), (11, .int v11)]) dL_lay_126 (Nat.le_of_ble_eq_true rfl) rfl ?_
          refine z_iincN K (j := 10) (lv' := [(10, .int (0 : Int32)), (0, .ref (a.1.2.2.2 + 69 * t)), (1, .ref bs), (2, .ref (a.1.2.2.2 + 138)), (3, .ref (a.1.2.2.2 + 139)), (4, .ref (a.1.2.2.2 + 140)), (5, .int v5), (6, .int v6), (7, .int v7), (9, .int v9)]) ci_1 rfl dL_lay_128 (Nat.le_of_ble_eq_true rfl) rfl (fun y6 => ?_)
          refine z_goto K (tgt := 100) dL_lay_131 (by decide) ?_
          refine z_sub [2, 3, 4, 5, 6, 7, 8, 9, 10, 1, 0] rfl ?_
          exact ih (0 : Int32) y6 s
        · refine z_iconst K ci_1 dL_lay_121 ?_
          refine z_goto K (tgt := 126) dL_lay_122 (by decide) ?_
          refine z_istore K (lv' := [(10, .int (1 : Int32)), (0, .ref (a.1.2.2.2 + 69 * t)), (1, .ref bs), (2, .ref (a.1.2.2.2 + 138)), (3, .ref (a.1.2.2.2 + 139)), (4, .ref (a.1.2.2.2 + 140)), (5, .int v5), (6, .int v6), (7, .int v7), (9, .int v9), (11, .int v11)]) dL_lay_126 (Nat.le_of_ble_eq_true rfl) rfl ?_
          refine z_iincN K (j := 10) (lv' := [(10, .int (1 : Int32)), (0, .ref (a.1.2.2.2 + 69 * t)), (1, .ref bs), (2, .ref (a.1.2.2.2 + 138)), (3, .ref (a.1.2.2.2 + 139)), (4, .ref (a.1.2.2.2 + 140)), (5, .int v5), (6, .int v6), (7, .int v7), (9, .int v9)]) ci_1 rfl dL_lay_128 (Nat.le_of_ble_eq_true rfl) rfl (fun y7 => ?_)
          refine z_goto K (tgt := 100) dL_lay_131 (by decide) ?_
          refine z_sub [2, 3, 4, 5, 6, 7, 8, 9, 10, 1, 0] rfl ?_
          exact ih (1 : Int32) y7 s
def f_L_lay_j148 (F : Nat) (D : Nat) (t : Nat) (xs : Nat → Int32) (L : Nat) (k23 : Int32 → zM → Option (Int32 × zM)) (v5 : Int32) (v6 : Int32) (v7 : Int32) (w0 : Int32) (w1 : Int32) (s : zM) : Option (Int32 × zM) :=
  if zin w1 8 = true then
    lt (zs s 138 (w1).toNatClampNeg w0) (fun s10 =>
    if zin v7 8 = true then
      if zin v7 8 = true then
        bnd (inT t (cal (f_X11_guest (zg s10 139 (v7).toNatClampNeg) (zg s10 138 (v7).toNatClampNeg)) (f_X12_guest F (zg s10 139 (v7).toNatClampNeg) (zg s10 138 (v7).toNatClampNeg))) s10) (fun r12 s11 =>
        if r12 = v7 then
          lt (v7 + (1 : Int32)) (fun y13 =>
          k23 y13 s11)
        else
          some ((0 : Int32), s11))
      else none
    else none)
  else none
set_option maxRecDepth 100000 in
set_option maxHeartbeats 4000000 in
theorem t_L_lay_j148 {a : zA} {d : Nat} (F : Nat) (D : Nat) (K : zOK a cL_lay 12 RL (some .boolean) d) (hd : 2 * D + 8 ≤ d) (t : Nat) (xs : Nat → Int32) (L : Nat) (ht : t < 2) (hB : (141 : Nat) ≤ a.1.2.2.1 3) {bs : Nat} (hX : va_X bs L xs a.2.2.2.2.1 a.2.2.2.2.1.heap) (hbl : bs < a.2.2.2.2.1.heap.size) (hbA : bs < a.1.2.2.2) {k23 : Int32 → zM → Option (Int32 × zM)} (v5 : Int32) (v6 : Int32) (h23 : ∀ (v7 : Int32) (s : zM), zJ a 12 (zG a zφ2 zri) zφ2 23 [(0, .ref (a.1.2.2.2 + 69 * t)), (1, .ref bs), (2, .ref (a.1.2.2.2 + 138)), (3, .ref (a.1.2.2.2 + 139)), (4, .ref (a.1.2.2.2 + 140)), (5, .int v5), (6, .int v6), (7, .int v7)] [] s (k23 v7 s)) (v7 : Int32) (w0 : Int32) (w1 : Int32) (s : zM) : zJ a 12 (zG a zφ2 zri) zφ2 148 [(0, .ref (a.1.2.2.2 + 69 * t)), (1, .ref bs), (2, .ref (a.1.2.2.2 + 138)), (3, .ref (a.1.2.2.2 + 139)), (4, .ref (a.1.2.2.2 + 140)), (5, .int v5), (6, .int v6), (7, .int v7)] [.int w0, .int w1, .ref (a.1.2.2.2 + 138)] s (f_L_lay_j148 F D t xs L k23 v5 v6 v7 w0 w1 s) := by
  unfold f_L_lay_j148
  refine z_iast K ar_138 dL_lay_148 ?_
  refine z_ltm (fun s10 => ?_)
  refine z_aload_n K 0 rfl dL_lay_149 ?_
  refine z_aload_n K 3 rfl dL_lay_150 ?_
  refine z_iload K 7 rfl dL_lay_151 ?_
  refine z_iald K ar_139 dL_lay_153 ?_
  refine z_aload_n K 2 rfl dL_lay_154 ?_
  refine z_iload K 7 rfl dL_lay_155 ?_
  refine z_iald K ar_138 dL_lay_157 ?_
  refine z_cTVi (As := [.int (zg s10 139 (v7).toNatClampNeg), .int (zg s10 138 (v7).toNatClampNeg)]) (rest := []) (X := (cal (f_X11_guest (zg s10 139 (v7).toNatClampNeg) (zg s10 138 (v7).toNatClampNeg)) (f_X12_guest F (zg s10 139 (v7).toNatClampNeg) (zg s10 138 (v7).toNatClampNeg)))) ht hB K ⟨Nat.zero_le _, Nat.zero_le _⟩ (zMt_cal (t_X11_guest (wt a.1 t) (d - 1) (by omega) (zg s10 139 (v7).toNatClampNeg) (zg s10 138 (v7).toNatClampNeg) (sub t s10))) mf_X11_guest ml_L_7 (Nat.le_of_ble_eq_true rfl) (by omega) rfl rfl rfl (Nat.le_of_ble_eq_true rfl) dL_lay_158 (fun r12 s11 => ?_)
  refine z_iload K 7 rfl dL_lay_161 ?_
  refine z_icmp_eq K (tgt := 168) dL_lay_163 (by decide) ?_ ?_
  · refine z_iincN K (j := 7) (lv' := [(0, .ref (a.1.2.2.2 + 69 * t)), (1, .ref bs), (2, .ref (a.1.2.2.2 + 138)), (3, .ref (a.1.2.2.2 + 139)), (4, .ref (a.1.2.2.2 + 140)), (5, .int v5), (6, .int v6)]) ci_1 rfl dL_lay_168 (Nat.le_of_ble_eq_true rfl) rfl (fun y13 => ?_)
    refine z_goto K (tgt := 23) dL_lay_171 (by decide) ?_
    refine z_sub [1, 2, 3, 4, 5, 6, 7, 0] rfl ?_
    exact h23 y13 s11
  · refine z_iconst K ci_0 dL_lay_166 ?_
    exact z_zret (Or.inl rfl) K dL_lay_167
def f_L_lay_j56 (F : Nat) (D : Nat) (t : Nat) (xs : Nat → Int32) (L : Nat) (k23 : Int32 → zM → Option (Int32 × zM)) (v5 : Int32) (v6 : Int32) (v7 : Int32) (w0 : Int32) (s : zM) : Option (Int32 × zM) :=
  if zin v7 8 = true then
    lt (zs s 139 (v7).toNatClampNeg (w0 &&& (1 : Int32))) (fun s3 =>
    lt ((((2 : Int32) * v6) + ((w0 >>> ((1 : Int32) &&& 31)) &&& (15 : Int32)))) (fun y4 =>
    if 0 < ((w0 >>> ((5 : Int32) &&& 31)) &&& (7 : Int32)) then
      f_L_lay_L100 F D t xs L (fun y15 s14 =>
        if y15 = 0 then
          f_L_lay_j148 F D t xs L k23 v5 v6 v7 (-1 : Int32) v7 s14
        else
          f_L_lay_j148 F D t xs L k23 v5 v6 v7 y4 v7 s14) v5 v6 v7 y4 F (1 : Int32) (0 : Int32) s3
    else
      f_L_lay_L100 F D t xs L (fun y9 s8 =>
        if y9 = 0 then
          f_L_lay_j148 F D t xs L k23 v5 v6 v7 (-1 : Int32) v7 s8
        else
          f_L_lay_j148 F D t xs L k23 v5 v6 v7 y4 v7 s8) v5 v6 v7 y4 F (0 : Int32) (0 : Int32) s3))
  else none
set_option maxRecDepth 100000 in
set_option maxHeartbeats 4000000 in
theorem t_L_lay_j56 {a : zA} {d : Nat} (F : Nat) (D : Nat) (K : zOK a cL_lay 12 RL (some .boolean) d) (hd : 2 * D + 8 ≤ d) (t : Nat) (xs : Nat → Int32) (L : Nat) (ht : t < 2) (hB : (141 : Nat) ≤ a.1.2.2.1 3) {bs : Nat} (hX : va_X bs L xs a.2.2.2.2.1 a.2.2.2.2.1.heap) (hbl : bs < a.2.2.2.2.1.heap.size) (hbA : bs < a.1.2.2.2) {k23 : Int32 → zM → Option (Int32 × zM)} (v5 : Int32) (v6 : Int32) (h23 : ∀ (v7 : Int32) (s : zM), zJ a 12 (zG a zφ2 zri) zφ2 23 [(0, .ref (a.1.2.2.2 + 69 * t)), (1, .ref bs), (2, .ref (a.1.2.2.2 + 138)), (3, .ref (a.1.2.2.2 + 139)), (4, .ref (a.1.2.2.2 + 140)), (5, .int v5), (6, .int v6), (7, .int v7)] [] s (k23 v7 s)) (v7 : Int32) (w0 : Int32) (s : zM) : zJ a 12 (zG a zφ2 zri) zφ2 56 [(0, .ref (a.1.2.2.2 + 69 * t)), (1, .ref bs), (2, .ref (a.1.2.2.2 + 138)), (3, .ref (a.1.2.2.2 + 139)), (4, .ref (a.1.2.2.2 + 140)), (5, .int v5), (6, .int v6), (7, .int v7)] [.int w0] s (f_L_lay_j56 F D t xs L k23 v5 v6 v7 w0 s) := by
  unfold f_L_lay_j56
  refine z_istore K (lv' := [(8, .int w0), (0, .ref (a.1.2.2.2 + 69 * t)), (1, .ref bs), (2, .ref (a.1.2.2.2 + 138)), (3, .ref (a.1.2.2.2 + 139)), (4, .ref (a.1.2.2.2 + 140)), (5, .int v5), (6, .int v6), (7, .int v7)]) dL_lay_56 (Nat.le_of_ble_eq_true rfl) rfl ?_
  refine z_aload_n K 4 rfl dL_lay_58 ?_
  refine z_iload K 8 rfl dL_lay_59 ?_
  refine z_iload K 0 rfl dL_lay_61 ?_
  refine z_iconst K ci_1 dL_lay_63 ?_
  refine z_iand K dL_lay_64 ?_
  refine z_iast K ar_139 dL_lay_65 ?_
  refine z_ltm (fun s3 => ?_)
  refine z_iconst K ci_2 dL_lay_66 ?_
  refine z_iload K 7 rfl dL_lay_67 ?_
  refine z_imul K dL_lay_69 ?_
  refine z_iload K 0 rfl dL_lay_70 ?_
  refine z_iconst K ci_1 dL_lay_72 ?_
  refine z_ishr K dL_lay_73 ?_
  refine z_bipush K cb_15 dL_lay_74 ?_
  refine z_iand K dL_lay_76 ?_
  refine z_iadd K dL_lay_77 ?_
  refine z_topi (fun y4 => ?_)
  refine z_istore K (lv' := [(9, .int y4), (8, .int w0), (0, .ref (a.1.2.2.2 + 69 * t)), (1, .ref bs), (2, .ref (a.1.2.2.2 + 138)), (3, .ref (a.1.2.2.2 + 139)), (4, .ref (a.1.2.2.2 + 140)), (5, .int v5), (6, .int v6), (7, .int v7)]) dL_lay_78 (Nat.le_of_ble_eq_true rfl) rfl ?_
  refine z_iload K 1 rfl dL_lay_80 ?_
  refine z_iconst K ci_5 dL_lay_82 ?_
  refine z_ishr K dL_lay_83 ?_
  refine z_bipush K cb_7 dL_lay_84 ?_
  refine z_iand K dL_lay_86 ?_
  refine z_if_le K (tgt := 94) dL_lay_87 (by decide) ?_ ?_
  · refine z_iconst K ci_0 dL_lay_94 ?_
    refine z_istore K (lv' := [(10, .int (0 : Int32)), (9, .int y4), (8, .int w0), (0, .ref (a.1.2.2.2 + 69 * t)), (1, .ref bs), (2, .ref (a.1.2.2.2 + 138)), (3, .ref (a.1.2.2.2 + 139)), (4, .ref (a.1.2.2.2 + 140)), (5, .int v5), (6, .int v6), (7, .int v7)]) dL_lay_95 (Nat.le_of_ble_eq_true rfl) rfl ?_
    refine z_iconst K ci_0 dL_lay_97 ?_
    refine z_istore K (lv' := [(11, .int (0 : Int32)), (10, .int (0 : Int32)), (9, .int y4), (8, .int w0), (0, .ref (a.1.2.2.2 + 69 * t)), (1, .ref bs), (2, .ref (a.1.2.2.2 + 138)), (3, .ref (a.1.2.2.2 + 139)), (4, .ref (a.1.2.2.2 + 140)), (5, .int v5), (6, .int v6), (7, .int v7)]) dL_lay_98 (Nat.le_of_ble_eq_true rfl) rfl ?_
    refine z_sub [4, 5, 6, 7, 8, 9, 10, 11, 2, 1, 0] rfl ?_
    refine t_L_lay_L100 F D K hd t xs L ht hB hX hbl hbA v5 v6 v7 y4 (fun y9 s8 => ?_) F (0 : Int32) (0 : Int32) s3
    refine z_aload_n K 2 rfl dL_lay_134 ?_
    refine z_iload K 7 rfl dL_lay_135 ?_
    refine z_iload K 9 rfl dL_lay_137 ?_
    refine z_if_eq K (tgt := 147) dL_lay_139 (by decide) ?_ ?_
    · refine z_iconst K ci_m1 dL_lay_147 ?_
      refine z_sub [0, 1, 2, 3, 4, 5, 6, 7] rfl ?_
      exact t_L_lay_j148 F D K hd t xs L ht hB hX hbl hbA v5 v6 h23 v7 (-1 : Int32) v7 s8
    · refine z_iload K 8 rfl dL_lay_142 ?_
      refine z_goto K (tgt := 148) dL_lay_144 (by decide) ?_
      refine z_sub [0, 1, 2, 3, 4, 5, 6, 7] rfl ?_
      exact t_L_lay_j148 F D K hd t xs L ht hB hX hbl hbA v5 v6 h23 v7 y4 v7 s8
  · refine z_iconst K ci_1 dL_lay_90 ?_
    refine z_goto K (tgt := 95) dL_lay_91 (by decide) ?_
    refine z_istore K (lv' := [(10, .int (1 : Int32)), (9, .int y4), (8, .int w0), (0, .ref (a.1.2.2.2 + 69 * t)), (1, .ref bs), (2, .ref (a.1.2.2.2 + 138)), (3, .ref (a.1.2.2.2 + 139)), (4, .ref (a.1.2.2.2 + 140)), (5, .int v5), (6, .int v6), (7, .int v7)]) dL_lay_95 (Nat.le_of_ble_eq_true rfl) rfl ?_
    refine z_iconst K ci_0 dL_lay_97 ?_
    refine z_istore K (lv' := [(11, .int (0 : Int32)), (10, .int (1 : Int32)), (9, .int y4), (8, .int w0), (0, .ref (a.1.2.2.2 + 69 * t)), (1, .ref bs), (2, .ref (a.1.2.2.2 + 138)), (3, .ref (a.1.2.2.2 + 139)), (4, .ref (a.1.2.2.2 + 140)), (5, .int v5), (6, .int v6), (7, .int v7)]) dL_lay_98 (Nat.le_of_ble_eq_true rfl) rfl ?_
    refine z_sub [4, 5, 6, 7, 8, 9, 10, 11, 2, 1, 0] rfl ?_
    refine t_L_lay_L100 F D K hd t xs L ht hB hX hbl hbA v5 v6 v7 y4 (fun y15 s14 => ?_) F (1 : Int32) (0 : Int32) s3
    refine z_aload_n K 2 rfl dL_lay_134 ?_
    refine z_iload K 7 rfl dL_lay_135 ?_
    refine z_iload K 9 rfl dL_lay_137 ?_
    refine z_if_eq K (tgt := 147) dL_lay_139 (by decide) ?_ ?_
    · refine z_iconst K ci_m1 dL_lay_147 ?_
      refine z_sub [0, 1, 2, 3, 4, 5, 6, 7] rfl ?_
      exact t_L_lay_j148 F D K hd t xs L ht hB hX hbl hbA v5 v6 h23 v7 (-1 : Int32) v7 s14
    · refine z_iload K 8 rfl dL_lay_142 ?_
      refine z_goto K (tgt := 148) dL_lay_144 (by decide) ?_
      refine z_sub [0, 1, 2, 3, 4, 5, 6, 7] rfl ?_
      exact t_L_lay_j148 F D K hd t xs L ht hB hX hbl hbA v5 v6 h23 v7 y4 v7 s14
def f_L_lay_L23 (F : Nat) (D : Nat) (t : Nat) (xs : Nat → Int32) (L : Nat) (k174 : zM → Option (Int32 × zM)) (v5 : Int32) (v6 : Int32) : Nat → Int32 → zM → Option (Int32 × zM)
  | 0, _, _ => none
  | n + 1, v7, s =>
    if v7 < (8 : Int32) then
      if (v7 + (1 : Int32)) < (nI L) then
        if zin (v7 + (1 : Int32)) L = true then
          f_L_lay_j56 F D t xs L (f_L_lay_L23 F D t xs L k174 v5 v6 n) v5 v6 v7 (xs ((v7 + (1 : Int32))).toNatClampNeg) s
        else none
      else
        f_L_lay_j56 F D t xs L (f_L_lay_L23 F D t xs L k174 v5 v6 n) v5 v6 v7 (((37 : Int32) * v7) + v5) s
    else
      k174 s
set_option maxRecDepth 100000 in
set_option maxHeartbeats 4000000 in
theorem t_L_lay_L23 {a : zA} {d : Nat} (F : Nat) (D : Nat) (K : zOK a cL_lay 12 RL (some .boolean) d) (hd : 2 * D + 8 ≤ d) (t : Nat) (xs : Nat → Int32) (L : Nat) (ht : t < 2) (hB : (141 : Nat) ≤ a.1.2.2.1 3) {bs : Nat} (hX : va_X bs L xs a.2.2.2.2.1 a.2.2.2.2.1.heap) (hbl : bs < a.2.2.2.2.1.heap.size) (hbA : bs < a.1.2.2.2) {k174 : zM → Option (Int32 × zM)} (v5 : Int32) (v6 : Int32) (h174 : ∀ (s : zM), zJ a 12 (zG a zφ2 zri) zφ2 174 [(0, .ref (a.1.2.2.2 + 69 * t)), (1, .ref bs), (4, .ref (a.1.2.2.2 + 140))] [] s (k174 s)) : ∀ (n : Nat) (v7 : Int32) (s : zM), zJ a 12 (zG a zφ2 zri) zφ2 23 [(0, .ref (a.1.2.2.2 + 69 * t)), (1, .ref bs), (2, .ref (a.1.2.2.2 + 138)), (3, .ref (a.1.2.2.2 + 139)), (4, .ref (a.1.2.2.2 + 140)), (5, .int v5), (6, .int v6), (7, .int v7)] [] s (f_L_lay_L23 F D t xs L k174 v5 v6 n v7 s) := by
  intro n
  induction n with
  | zero => intros; exact z_none
  | succ n ih =>
    intro v7 s
    rw [f_L_lay_L23]
    refine z_iload K 7 rfl dL_lay_23 ?_
    refine z_bipush K cb_8 dL_lay_25 ?_
    refine z_icmp_ge K (tgt := 174) dL_lay_27 (by decide) ?_ ?_
    · refine z_sub [0, 1, 4] rfl ?_
      exact h174 s
    · refine z_iload K 7 rfl dL_lay_30 ?_
      refine z_iconst K ci_1 dL_lay_32 ?_
      refine z_iadd K dL_lay_33 ?_
      refine z_aload_n K 1 rfl dL_lay_34 ?_
      refine z_slen K hX hbl hbA dL_lay_35 ?_
      refine z_icmp_ge K (tgt := 48) dL_lay_36 (by decide) ?_ ?_
      · refine z_bipush K cb_37 dL_lay_48 ?_
        refine z_iload K 7 rfl dL_lay_50 ?_
        refine z_imul K dL_lay_52 ?_
        refine z_iload K 5 rfl dL_lay_53 ?_
        refine z_iadd K dL_lay_55 ?_
        exact t_L_lay_j56 F D K hd t xs L ht hB hX hbl hbA v5 v6 ih v7 (((37 : Int32) * v7) + v5) s
      · refine z_aload_n K 1 rfl dL_lay_39 ?_
        refine z_iload K 7 rfl dL_lay_40 ?_
        refine z_iconst K ci_1 dL_lay_42 ?_
        refine z_iadd K dL_lay_43 ?_
        refine z_sld K hX hbl hbA dL_lay_44 ?_
        refine z_goto K (tgt := 56) dL_lay_45 (by decide) ?_
        exact t_L_lay_j56 F D K hd t xs L ht hB hX hbl hbA v5 v6 ih v7 (xs ((v7 + (1 : Int32))).toNatClampNeg) s
def f_L_lay_j255 (F : Nat) (D : Nat) (t : Nat) (xs : Nat → Int32) (L : Nat) (k177 : Int32 → zM → Option (Int32 × zM)) (v7 : Int32) (w0 : Int32) (w1 : Int32) (s : zM) : Option (Int32 × zM) :=
  if zin w1 64 = true then
    lt (zs s 140 (w1).toNatClampNeg w0) (fun s17 =>
    if (v7 / (8 : Int32)) = (v7 - v7 / (8 : Int32) * (8 : Int32)) then
      lt (v7 + (1 : Int32)) (fun y18 =>
      k177 y18 s17)
    else
      if zin v7 64 = true then
        bnd (inT t (cal (f_X11_liking (v7 / (8 : Int32)) (v7 - v7 / (8 : Int32) * (8 : Int32)) (zg s17 140 (v7).toNatClampNeg)) (f_X12_liking (v7 / (8 : Int32)) (v7 - v7 / (8 : Int32) * (8 : Int32)) (zg s17 140 (v7).toNatClampNeg))) s17) (fun r20 s19 =>
        if r20 = 0 then
          some ((0 : Int32), s19)
        else
          lt (v7 + (1 : Int32)) (fun y21 =>
          k177 y21 s19))
      else none)
  else none
set_option maxRecDepth 100000 in
set_option maxHeartbeats 4000000 in
theorem t_L_lay_j255 {a : zA} {d : Nat} (F : Nat) (D : Nat) (K : zOK a cL_lay 12 RL (some .boolean) d) (hd : 2 * D + 8 ≤ d) (t : Nat) (xs : Nat → Int32) (L : Nat) (ht : t < 2) (hB : (141 : Nat) ≤ a.1.2.2.1 3) {bs : Nat} (hX : va_X bs L xs a.2.2.2.2.1 a.2.2.2.2.1.heap) (hbl : bs < a.2.2.2.2.1.heap.size) (hbA : bs < a.1.2.2.2) {k177 : Int32 → zM → Option (Int32 × zM)} (h177 : ∀ (v7 : Int32) (s : zM), zJ a 12 (zG a zφ2 zri) zφ2 177 [(0, .ref (a.1.2.2.2 + 69 * t)), (1, .ref bs), (4, .ref (a.1.2.2.2 + 140)), (7, .int v7)] [] s (k177 v7 s)) (v7 : Int32) (w0 : Int32) (w1 : Int32) (s : zM) : zJ a 12 (zG a zφ2 zri) zφ2 255 [(0, .ref (a.1.2.2.2 + 69 * t)), (1, .ref bs), (4, .ref (a.1.2.2.2 + 140)), (7, .int v7)] [.int w0, .int w1, .ref (a.1.2.2.2 + 140)] s (f_L_lay_j255 F D t xs L k177 v7 w0 w1 s) := by
  unfold f_L_lay_j255
  refine z_iast K ar_140 dL_lay_255 ?_
  refine z_ltm (fun s17 => ?_)
  refine z_iload K 3 rfl dL_lay_256 ?_
  refine z_bipush K cb_8 dL_lay_258 ?_
  refine z_idivc K (by decide) dL_lay_260 ?_
  refine z_iload K 3 rfl dL_lay_261 ?_
  refine z_bipush K cb_8 dL_lay_263 ?_
  refine z_iremc K (by decide) dL_lay_265 ?_
  refine z_icmp_eq K (tgt := 293) dL_lay_266 (by decide) ?_ ?_
  · refine z_iincN K (j := 3) (lv' := [(0, .ref (a.1.2.2.2 + 69 * t)), (1, .ref bs), (4, .ref (a.1.2.2.2 + 140))]) ci_1 rfl dL_lay_293 (Nat.le_of_ble_eq_true rfl) rfl (fun y18 => ?_)
    refine z_goto K (tgt := 177) dL_lay_296 (by decide) ?_
    refine z_sub [1, 2, 3, 0] rfl ?_
    exact h177 y18 s17
  · refine z_aload_n K 0 rfl dL_lay_269 ?_
    refine z_iload K 3 rfl dL_lay_270 ?_
    refine z_bipush K cb_8 dL_lay_272 ?_
    refine z_idivc K (by decide) dL_lay_274 ?_
    refine z_iload K 3 rfl dL_lay_275 ?_
    refine z_bipush K cb_8 dL_lay_277 ?_
    refine z_iremc K (by decide) dL_lay_279 ?_
    refine z_aload K 2 rfl dL_lay_280 ?_
    refine z_iload K 3 rfl dL_lay_282 ?_
    refine z_iald K ar_140 dL_lay_284 ?_
    refine z_cTVi (As := [.int (v7 / (8 : Int32)), .int (v7 - v7 / (8 : Int32) * (8 : Int32)), .int (zg s17 140 (v7).toNatClampNeg)]) (rest := []) (X := (cal (f_X11_liking (v7 / (8 : Int32)) (v7 - v7 / (8 : Int32) * (8 : Int32)) (zg s17 140 (v7).toNatClampNeg)) (f_X12_liking (v7 / (8 : Int32)) (v7 - v7 / (8 : Int32) * (8 : Int32)) (zg s17 140 (v7).toNatClampNeg)))) ht hB K ⟨Nat.zero_le _, Nat.zero_le _⟩ (zMt_cal (t_X11_liking (wt a.1 t) (d - 1) (by omega) (v7 / (8 : Int32)) (v7 - v7 / (8 : Int32) * (8 : Int32)) (zg s17 140 (v7).toNatClampNeg) (sub t s17))) mf_X11_liking ml_L_13 (Nat.le_of_ble_eq_true rfl) (by omega) rfl rfl rfl (Nat.le_of_ble_eq_true rfl) dL_lay_285 (fun r20 s19 => ?_)
    refine z_if_ne K (tgt := 293) dL_lay_288 (by decide) ?_ ?_
    · refine z_iincN K (j := 3) (lv' := [(0, .ref (a.1.2.2.2 + 69 * t)), (1, .ref bs), (4, .ref (a.1.2.2.2 + 140))]) ci_1 rfl dL_lay_293 (Nat.le_of_ble_eq_true rfl) rfl (fun y21 => ?_)
      refine z_goto K (tgt := 177) dL_lay_296 (by decide) ?_
      refine z_sub [1, 2, 3, 0] rfl ?_
      exact h177 y21 s19
    · refine z_iconst K ci_0 dL_lay_291 ?_
      exact z_zret (Or.inl rfl) K dL_lay_292
def f_L_lay_j213 (F : Nat) (D : Nat) (t : Nat) (xs : Nat → Int32) (L : Nat) (k177 : Int32 → zM → Option (Int32 × zM)) (v7 : Int32) (w0 : Int32) (s : zM) : Option (Int32 × zM) :=
  if (v7 / (8 : Int32)) = (v7 - v7 / (8 : Int32) * (8 : Int32)) then
    f_L_lay_j255 F D t xs L k177 v7 (0 : Int32) v7 s
  else
    f_L_lay_j255 F D t xs L k177 v7 (((w0 >>> (((8 : Int32) + ((2 : Int32) * (v7 - v7 / (8 : Int32) * (8 : Int32)))) &&& 31)) &&& (15 : Int32)) - (7 : Int32)) v7 s
set_option maxRecDepth 100000 in
set_option maxHeartbeats 4000000 in
theorem t_L_lay_j213 {a : zA} {d : Nat} (F : Nat) (D : Nat) (K : zOK a cL_lay 12 RL (some .boolean) d) (hd : 2 * D + 8 ≤ d) (t : Nat) (xs : Nat → Int32) (L : Nat) (ht : t < 2) (hB : (141 : Nat) ≤ a.1.2.2.1 3) {bs : Nat} (hX : va_X bs L xs a.2.2.2.2.1 a.2.2.2.2.1.heap) (hbl : bs < a.2.2.2.2.1.heap.size) (hbA : bs < a.1.2.2.2) {k177 : Int32 → zM → Option (Int32 × zM)} (h177 : ∀ (v7 : Int32) (s : zM), zJ a 12 (zG a zφ2 zri) zφ2 177 [(0, .ref (a.1.2.2.2 + 69 * t)), (1, .ref bs), (4, .ref (a.1.2.2.2 + 140)), (7, .int v7)] [] s (k177 v7 s)) (v7 : Int32) (w0 : Int32) (s : zM) : zJ a 12 (zG a zφ2 zri) zφ2 213 [(0, .ref (a.1.2.2.2 + 69 * t)), (1, .ref bs), (4, .ref (a.1.2.2.2 + 140)), (7, .int v7)] [.int w0] s (f_L_lay_j213 F D t xs L k177 v7 w0 s) := by
  unfold f_L_lay_j213
  refine z_istore K (lv' := [(8, .int w0), (0, .ref (a.1.2.2.2 + 69 * t)), (1, .ref bs), (4, .ref (a.1.2.2.2 + 140)), (7, .int v7)]) dL_lay_213 (Nat.le_of_ble_eq_true rfl) rfl ?_
  refine z_aload K 3 rfl dL_lay_215 ?_
  refine z_iload K 4 rfl dL_lay_217 ?_
  refine z_iload K 4 rfl dL_lay_219 ?_
  refine z_bipush K cb_8 dL_lay_221 ?_
  refine z_idivc K (by decide) dL_lay_223 ?_
  refine z_iload K 4 rfl dL_lay_224 ?_
  refine z_bipush K cb_8 dL_lay_226 ?_
  refine z_iremc K (by decide) dL_lay_228 ?_
  refine z_icmp_ne K (tgt := 236) dL_lay_229 (by decide) ?_ ?_
  · refine z_iload K 0 rfl dL_lay_236 ?_
    refine z_bipush K cb_8 dL_lay_238 ?_
    refine z_iconst K ci_2 dL_lay_240 ?_
    refine z_iload K 4 rfl dL_lay_241 ?_
    refine z_bipush K cb_8 dL_lay_243 ?_
    refine z_iremc K (by decide) dL_lay_245 ?_
    refine z_imul K dL_lay_246 ?_
    refine z_iadd K dL_lay_247 ?_
    refine z_ishr K dL_lay_248 ?_
    refine z_bipush K cb_15 dL_lay_249 ?_
    refine z_iand K dL_lay_251 ?_
    refine z_bipush K cb_7 dL_lay_252 ?_
    refine z_isub K dL_lay_254 ?_
    refine z_sub [1, 2, 3, 4] rfl ?_
    exact t_L_lay_j255 F D K hd t xs L ht hB hX hbl hbA h177 v7 (((w0 >>> (((8 : Int32) + ((2 : Int32) * (v7 - v7 / (8 : Int32) * (8 : Int32)))) &&& 31)) &&& (15 : Int32)) - (7 : Int32)) v7 s
  · refine z_iconst K ci_0 dL_lay_232 ?_
    refine z_goto K (tgt := 255) dL_lay_233 (by decide) ?_
    refine z_sub [1, 2, 3, 4] rfl ?_
    exact t_L_lay_j255 F D K hd t xs L ht hB hX hbl hbA h177 v7 (0 : Int32) v7 s
def f_L_lay_L177 (F : Nat) (D : Nat) (t : Nat) (xs : Nat → Int32) (L : Nat) (k299 : zM → Option (Int32 × zM)) : Nat → Int32 → zM → Option (Int32 × zM)
  | 0, _, _ => none
  | n + 1, v7, s =>
    if v7 < (64 : Int32) then
      if ((v7 / (8 : Int32)) + (1 : Int32)) < (nI L) then
        if zin ((v7 / (8 : Int32)) + (1 : Int32)) L = true then
          f_L_lay_j213 F D t xs L (f_L_lay_L177 F D t xs L k299 n) v7 (xs (((v7 / (8 : Int32)) + (1 : Int32))).toNatClampNeg) s
        else none
      else
        f_L_lay_j213 F D t xs L (f_L_lay_L177 F D t xs L k299 n) v7 ((11 : Int32) * v7) s
    else
      k299 s
set_option maxRecDepth 100000 in
set_option maxHeartbeats 4000000 in
theorem t_L_lay_L177 {a : zA} {d : Nat} (F : Nat) (D : Nat) (K : zOK a cL_lay 12 RL (some .boolean) d) (hd : 2 * D + 8 ≤ d) (t : Nat) (xs : Nat → Int32) (L : Nat) (ht : t < 2) (hB : (141 : Nat) ≤ a.1.2.2.1 3) {bs : Nat} (hX : va_X bs L xs a.2.2.2.2.1 a.2.2.2.2.1.heap) (hbl : bs < a.2.2.2.2.1.heap.size) (hbA : bs < a.1.2.2.2) {k299 : zM → Option (Int32 × zM)} (h299 : ∀ (s : zM), zJ a 12 (zG a zφ2 zri) zφ2 299 [(0, .ref (a.1.2.2.2 + 69 * t))] [] s (k299 s)) : ∀ (n : Nat) (v7 : Int32) (s : zM), zJ a 12 (zG a zφ2 zri) zφ2 177 [(0, .ref (a.1.2.2.2 + 69 * t)), (1, .ref bs), (4, .ref (a.1.2.2.2 + 140)), (7, .int v7)] [] s (f_L_lay_L177 F D t xs L k299 n v7 s) := by
  intro n
  induction n with
  | zero => intros; exact z_none
  | succ n ih =>
    intro v7 s
    rw [f_L_lay_L177]
    refine z_iload K 3 rfl dL_lay_177 ?_
    refine z_bipush K cb_64 dL_lay_179 ?_
    refine z_icmp_ge K (tgt := 299) dL_lay_181 (by decide) ?_ ?_
    · refine z_sub [0] rfl ?_
      exact h299 s
    · refine z_iload K 3 rfl dL_lay_184 ?_
      refine z_bipush K cb_8 dL_lay_186 ?_
      refine z_idivc K (by decide) dL_lay_188 ?_
      refine z_iconst K ci_1 dL_lay_189 ?_
      refine z_iadd K dL_lay_190 ?_
      refine z_aload_n K 1 rfl dL_lay_191 ?_
      refine z_slen K hX hbl hbA dL_lay_192 ?_
      refine z_icmp_ge K (tgt := 208) dL_lay_193 (by decide) ?_ ?_
      · refine z_bipush K cb_11 dL_lay_208 ?_
        refine z_iload K 3 rfl dL_lay_210 ?_
        refine z_imul K dL_lay_212 ?_
        exact t_L_lay_j213 F D K hd t xs L ht hB hX hbl hbA ih v7 ((11 : Int32) * v7) s
      · refine z_aload_n K 1 rfl dL_lay_196 ?_
        refine z_iload K 3 rfl dL_lay_197 ?_
        refine z_bipush K cb_8 dL_lay_199 ?_
        refine z_idivc K (by decide) dL_lay_201 ?_
        refine z_iconst K ci_1 dL_lay_202 ?_
        refine z_iadd K dL_lay_203 ?_
        refine z_sld K hX hbl hbA dL_lay_204 ?_
        refine z_goto K (tgt := 213) dL_lay_205 (by decide) ?_
        exact t_L_lay_j213 F D K hd t xs L ht hB hX hbl hbA ih v7 (xs (((v7 / (8 : Int32)) + (1 : Int32))).toNatClampNeg) s
def f_L_lay (F : Nat) (D : Nat) (t : Nat) (xs : Nat → Int32) (L : Nat) (s : zM) : Option (Int32 × zM) :=
  if (nI L) = 0 then
    lt (((0 : Int32) &&& (3 : Int32))) (fun y31 =>
    f_L_lay_L23 F D t xs L (fun s32 =>
      f_L_lay_L177 F D t xs L (fun s33 =>
        bnd (inT t (cal (f_X11_feed F (1881697342 : Int32) (1831679100 : Int32) (1866281257 : Int32) (997668141 : Int32) (1713922365 : Int32)) (f_X12_feed F (1881697342 : Int32) (1831679100 : Int32) (1866281257 : Int32) (997668141 : Int32) (1713922365 : Int32))) s33) (fun r35 s34 =>
        bnd (inT t (cal (f_X11_feed F (808008552 : Int32) (959278125 : Int32) (1831363644 : Int32) (841562984 : Int32) (1680355645 : Int32)) (f_X12_feed F (808008552 : Int32) (959278125 : Int32) (1831363644 : Int32) (841562984 : Int32) (1680355645 : Int32))) s34) (fun r37 s36 =>
        bnd (inT t (cal (f_X11_feed F (824785782 : Int32) (959457903 : Int32) (729032753 : Int32) (1026631936 : Int32) (0 : Int32)) (f_X12_feed F (824785782 : Int32) (959457903 : Int32) (729032753 : Int32) (1026631936 : Int32) (0 : Int32))) s36) (fun r39 s38 =>
        bnd (inT t (cal (f_X11_law F D (55 : Int32)) (f_X12_law F (55 : Int32))) s38) (fun r41 s40 =>
        if r41 = (5 : Int32) then
          some ((1 : Int32), s40)
        else
          some ((0 : Int32), s40)))))) F (0 : Int32) s32) (0 : Int32) y31 F (0 : Int32) s)
  else
    if zin (0 : Int32) L = true then
      lt ((xs ((0 : Int32)).toNatClampNeg)) (fun y1 =>
      lt ((y1 &&& (3 : Int32))) (fun y2 =>
      f_L_lay_L23 F D t xs L (fun s16 =>
        f_L_lay_L177 F D t xs L (fun s22 =>
          bnd (inT t (cal (f_X11_feed F (1881697342 : Int32) (1831679100 : Int32) (1866281257 : Int32) (997668141 : Int32) (1713922365 : Int32)) (f_X12_feed F (1881697342 : Int32) (1831679100 : Int32) (1866281257 : Int32) (997668141 : Int32) (1713922365 : Int32))) s22) (fun r24 s23 =>
          bnd (inT t (cal (f_X11_feed F (808008552 : Int32) (959278125 : Int32) (1831363644 : Int32) (841562984 : Int32) (1680355645 : Int32)) (f_X12_feed F (808008552 : Int32) (959278125 : Int32) (1831363644 : Int32) (841562984 : Int32) (1680355645 : Int32))) s23) (fun r26 s25 =>
          bnd (inT t (cal (f_X11_feed F (824785782 : Int32) (959457903 : Int32) (729032753 : Int32) (1026631936 : Int32) (0 : Int32)) (f_X12_feed F (824785782 : Int32) (959457903 : Int32) (729032753 : Int32) (1026631936 : Int32) (0 : Int32))) s25) (fun r28 s27 =>
          bnd (inT t (cal (f_X11_law F D (55 : Int32)) (f_X12_law F (55 : Int32))) s27) (fun r30 s29 =>
          if r30 = (5 : Int32) then
            some ((1 : Int32), s29)
          else
            some ((0 : Int32), s29)))))) F (0 : Int32) s16) y1 y2 F (0 : Int32) s))
    else none
set_option maxRecDepth 100000 in
set_option maxHeartbeats 4000000 in
theorem t_L_lay {bs : Nat} (w : zWd) (F : Nat) (D : Nat) (d : Nat) (hd : 2 * D + 8 ≤ d) (t : Nat) (ht : t < 2) (xs : Nat → Int32) (L : Nat) (hB : (141 : Nat) ≤ w.2.2.1 3) (s : zM) : zMtX bs L xs w yL_lay cL_lay 12 (some .boolean) d zφ2 zφ2 zri [.ref (w.2.2.2 + 69 * t), .ref bs, .ref (w.2.2.2 + 138), .ref (w.2.2.2 + 139), .ref (w.2.2.2 + 140)] s (f_L_lay F D t xs L s) := by
  refine zMtX_of (own := RL) rfl (by decide +kernel) (Nat.le_of_ble_eq_true rfl) cd_L_lay [(0, .ref (w.2.2.2 + 69 * t)), (1, .ref bs), (2, .ref (w.2.2.2 + 138)), (3, .ref (w.2.2.2 + 139)), (4, .ref (w.2.2.2 + 140))] rfl ?_
  rintro a rfl K hX hbl hbA
  unfold f_L_lay
  refine z_aload_n K 1 rfl dL_lay_0 ?_
  refine z_slen K hX hbl hbA dL_lay_1 ?_
  refine z_if_ne K (tgt := 9) dL_lay_2 (by decide) ?_ ?_
  · refine z_aload_n K 1 rfl dL_lay_9 ?_
    refine z_iconst K ci_0 dL_lay_10 ?_
    refine z_sld K hX hbl hbA dL_lay_11 ?_
    refine z_topi (fun y1 => ?_)
    refine z_istore K (lv' := [(5, .int y1), (0, .ref (a.1.2.2.2 + 69 * t)), (1, .ref bs), (2, .ref (a.1.2.2.2 + 138)), (3, .ref (a.1.2.2.2 + 139)), (4, .ref (a.1.2.2.2 + 140))]) dL_lay_12 (Nat.le_of_ble_eq_true rfl) rfl ?_
    refine z_iload K 0 rfl dL_lay_14 ?_
    refine z_iconst K ci_3 dL_lay_16 ?_
    refine z_iand K dL_lay_17 ?_
    refine z_topi (fun y2 => ?_)
    refine z_istore K (lv' := [(6, .int y2), (5, .int y1), (0, .ref (a.1.2.2.2 + 69 * t)), (1, .ref bs), (2, .ref (a.1.2.2.2 + 138)), (3, .ref (a.1.2.2.2 + 139)), (4, .ref (a.1.2.2.2 + 140))]) dL_lay_18 (Nat.le_of_ble_eq_true rfl) rfl ?_
    refine z_iconst K ci_0 dL_lay_20 ?_
    refine z_istore K (lv' := [(7, .int (0 : Int32)), (6, .int y2), (5, .int y1), (0, .ref (a.1.2.2.2 + 69 * t)), (1, .ref bs), (2, .ref (a.1.2.2.2 + 138)), (3, .ref (a.1.2.2.2 + 139)), (4, .ref (a.1.2.2.2 + 140))]) dL_lay_21 (Nat.le_of_ble_eq_true rfl) rfl ?_
    refine z_sub [3, 4, 5, 6, 7, 2, 1, 0] rfl ?_
    refine t_L_lay_L23 F D K hd t xs L ht hB hX hbl hbA y1 y2 (fun s16 => ?_) F (0 : Int32) s
    refine z_iconst K ci_0 dL_lay_174 ?_
    refine z_istore K (lv' := [(7, .int (0 : Int32)), (0, .ref (a.1.2.2.2 + 69 * t)), (1, .ref bs), (4, .ref (a.1.2.2.2 + 140))]) dL_lay_175 (Nat.le_of_ble_eq_true rfl) rfl ?_
    refine z_sub [1, 2, 3, 0] rfl ?_
    refine t_L_lay_L177 F D K hd t xs L ht hB hX hbl hbA (fun s22 => ?_) F (0 : Int32) s16
    refine z_aload_n K 0 rfl dL_lay_299 ?_
    refine z_ldc K cst_L_17 dL_lay_300 ?_
    refine z_ldc K cst_L_18 dL_lay_302 ?_
    refine z_ldc K cst_L_19 dL_lay_304 ?_
    refine z_ldc K cst_L_20 dL_lay_306 ?_
    refine z_ldc K cst_L_21 dL_lay_308 ?_
    refine z_cTVi (As := [.int (1881697342 : Int32), .int (1831679100 : Int32), .int (1866281257 : Int32), .int (997668141 : Int32), .int (1713922365 : Int32)]) (rest := []) (X := (cal (f_X11_feed F (1881697342 : Int32) (1831679100 : Int32) (1866281257 : Int32) (997668141 : Int32) (1713922365 : Int32)) (f_X12_feed F (1881697342 : Int32) (1831679100 : Int32) (1866281257 : Int32) (997668141 : Int32) (1713922365 : Int32)))) ht hB K ⟨Nat.zero_le _, Nat.zero_le _⟩ (zMt_cal (t_X11_feed (wt a.1 t) F (d - 1) (by omega) (1881697342 : Int32) (1831679100 : Int32) (1866281257 : Int32) (997668141 : Int32) (1713922365 : Int32) (sub t s22))) mf_X11_feed ml_L_22 (Nat.le_of_ble_eq_true rfl) (by omega) rfl rfl rfl (Nat.le_of_ble_eq_true rfl) dL_lay_310 (fun r24 s23 => ?_)
    refine z_pop K rfl dL_lay_313 ?_
    refine z_aload_n K 0 rfl dL_lay_314 ?_
    refine z_ldc K cst_L_26 dL_lay_315 ?_
    refine z_ldc K cst_L_27 dL_lay_317 ?_
    refine z_ldc K cst_L_28 dL_lay_319 ?_
    refine z_ldc K cst_L_29 dL_lay_321 ?_
    refine z_ldc K cst_L_30 dL_lay_323 ?_
    refine z_cTVi (As := [.int (808008552 : Int32), .int (959278125 : Int32), .int (1831363644 : Int32), .int (841562984 : Int32), .int (1680355645 : Int32)]) (rest := []) (X := (cal (f_X11_feed F (808008552 : Int32) (959278125 : Int32) (1831363644 : Int32) (841562984 : Int32) (1680355645 : Int32)) (f_X12_feed F (808008552 : Int32) (959278125 : Int32) (1831363644 : Int32) (841562984 : Int32) (1680355645 : Int32)))) ht hB K ⟨Nat.zero_le _, Nat.zero_le _⟩ (zMt_cal (t_X11_feed (wt a.1 t) F (d - 1) (by omega) (808008552 : Int32) (959278125 : Int32) (1831363644 : Int32) (841562984 : Int32) (1680355645 : Int32) (sub t s23))) mf_X11_feed ml_L_22 (Nat.le_of_ble_eq_true rfl) (by omega) rfl rfl rfl (Nat.le_of_ble_eq_true rfl) dL_lay_325 (fun r26 s25 => ?_)
    refine z_pop K rfl dL_lay_328 ?_
    refine z_aload_n K 0 rfl dL_lay_329 ?_
    refine z_ldc K cst_L_31 dL_lay_330 ?_
    refine z_ldc K cst_L_32 dL_lay_332 ?_
    refine z_ldc K cst_L_33 dL_lay_334 ?_
    refine z_ldc K cst_L_34 dL_lay_336 ?_
    refine z_iconst K ci_0 dL_lay_338 ?_
    refine z_cTVi (As := [.int (824785782 : Int32), .int (959457903 : Int32), .int (729032753 : Int32), .int (1026631936 : Int32), .int (0 : Int32)]) (rest := []) (X := (cal (f_X11_feed F (824785782 : Int32) (959457903 : Int32) (729032753 : Int32) (1026631936 : Int32) (0 : Int32)) (f_X12_feed F (824785782 : Int32) (959457903 : Int32) (729032753 : Int32) (1026631936 : Int32) (0 : Int32)))) ht hB K ⟨Nat.zero_le _, Nat.zero_le _⟩ (zMt_cal (t_X11_feed (wt a.1 t) F (d - 1) (by omega) (824785782 : Int32) (959457903 : Int32) (729032753 : Int32) (1026631936 : Int32) (0 : Int32) (sub t s25))) mf_X11_feed ml_L_22 (Nat.le_of_ble_eq_true rfl) (by omega) rfl rfl rfl (Nat.le_of_ble_eq_true rfl) dL_lay_339 (fun r28 s27 => ?_)
    refine z_pop K rfl dL_lay_342 ?_
    refine z_aload_n K 0 rfl dL_lay_343 ?_
    refine z_bipush K cb_55 dL_lay_344 ?_
    refine z_cTVi (As := [.int (55 : Int32)]) (rest := []) (X := (cal (f_X11_law F D (55 : Int32)) (f_X12_law F (55 : Int32)))) ht hB K ⟨Nat.zero_le _, Nat.zero_le _⟩ (zMt_cal (t_X11_law (wt a.1 t) F D (d - 1) (by omega) (55 : Int32) (sub t s27))) mf_X11_law ml_L_35 (Nat.le_of_ble_eq_true rfl) (by omega) rfl rfl rfl (Nat.le_of_ble_eq_true rfl) dL_lay_346 (fun r30 s29 => ?_)
    refine z_iconst K ci_5 dL_lay_349 ?_
    refine z_icmp_ne K (tgt := 357) dL_lay_350 (by decide) ?_ ?_
    · refine z_iconst K ci_0 dL_lay_357 ?_
      exact z_zret (Or.inl rfl) K dL_lay_358
    · refine z_iconst K ci_1 dL_lay_353 ?_
      refine z_goto K (tgt := 358) dL_lay_354 (by decide) ?_
      exact z_zret (Or.inr rfl) K dL_lay_358
  · refine z_iconst K ci_0 dL_lay_5 ?_
    refine z_goto K (tgt := 12) dL_lay_6 (by decide) ?_
    refine z_istore K (lv' := [(5, .int (0 : Int32)), (0, .ref (a.1.2.2.2 + 69 * t)), (1, .ref bs), (2, .ref (a.1.2.2.2 + 138)), (3, .ref (a.1.2.2.2 + 139)), (4, .ref (a.1.2.2.2 + 140))]) dL_lay_12 (Nat.le_of_ble_eq_true rfl) rfl ?_
    refine z_iload K 0 rfl dL_lay_14 ?_
    refine z_iconst K ci_3 dL_lay_16 ?_
    refine z_iand K dL_lay_17 ?_
    refine z_topi (fun y31 => ?_)
    refine z_istore K (lv' := [(6, .int y31), (5, .int (0 : Int32)), (0, .ref (a.1.2.2.2 + 69 * t)), (1, .ref bs), (2, .ref (a.1.2.2.2 + 138)), (3, .ref (a.1.2.2.2 + 139)), (4, .ref (a.1.2.2.2 + 140))]) dL_lay_18 (Nat.le_of_ble_eq_true rfl) rfl ?_
    refine z_iconst K ci_0 dL_lay_20 ?_
    refine z_istore K (lv' := [(7, .int (0 : Int32)), (6, .int y31), (5, .int (0 : Int32)), (0, .ref (a.1.2.2.2 + 69 * t)), (1, .ref bs), (2, .ref (a.1.2.2.2 + 138)), (3, .ref (a.1.2.2.2 + 139)), (4, .ref (a.1.2.2.2 + 140))]) dL_lay_21 (Nat.le_of_ble_eq_true rfl) rfl ?_
    refine z_sub [3, 4, 5, 6, 7, 2, 1, 0] rfl ?_
    refine t_L_lay_L23 F D K hd t xs L ht hB hX hbl hbA (0 : Int32) y31 (fun s32 => ?_) F (0 : Int32) s
    refine z_iconst K ci_0 dL_lay_174 ?_
    refine z_istore K (lv' := [(7, .int (0 : Int32)), (0, .ref (a.1.2.2.2 + 69 * t)), (1, .ref bs), (4, .ref (a.1.2.2.2 + 140))]) dL_lay_175 (Nat.le_of_ble_eq_true rfl) rfl ?_
    refine z_sub [1, 2, 3, 0] rfl ?_
    refine t_L_lay_L177 F D K hd t xs L ht hB hX hbl hbA (fun s33 => ?_) F (0 : Int32) s32
    refine z_aload_n K 0 rfl dL_lay_299 ?_
    refine z_ldc K cst_L_17 dL_lay_300 ?_
    refine z_ldc K cst_L_18 dL_lay_302 ?_
    refine z_ldc K cst_L_19 dL_lay_304 ?_
    refine z_ldc K cst_L_20 dL_lay_306 ?_
    refine z_ldc K cst_L_21 dL_lay_308 ?_
    refine z_cTVi (As := [.int (1881697342 : Int32), .int (1831679100 : Int32), .int (1866281257 : Int32), .int (997668141 : Int32), .int (1713922365 : Int32)]) (rest := []) (X := (cal (f_X11_feed F (1881697342 : Int32) (1831679100 : Int32) (1866281257 : Int32) (997668141 : Int32) (1713922365 : Int32)) (f_X12_feed F (1881697342 : Int32) (1831679100 : Int32) (1866281257 : Int32) (997668141 : Int32) (1713922365 : Int32)))) ht hB K ⟨Nat.zero_le _, Nat.zero_le _⟩ (zMt_cal (t_X11_feed (wt a.1 t) F (d - 1) (by omega) (1881697342 : Int32) (1831679100 : Int32) (1866281257 : Int32) (997668141 : Int32) (1713922365 : Int32) (sub t s33))) mf_X11_feed ml_L_22 (Nat.le_of_ble_eq_true rfl) (by omega) rfl rfl rfl (Nat.le_of_ble_eq_true rfl) dL_lay_310 (fun r35 s34 => ?_)
    refine z_pop K rfl dL_lay_313 ?_
    refine z_aload_n K 0 rfl dL_lay_314 ?_
    refine z_ldc K cst_L_26 dL_lay_315 ?_
    refine z_ldc K cst_L_27 dL_lay_317 ?_
    refine z_ldc K cst_L_28 dL_lay_319 ?_
    refine z_ldc K cst_L_29 dL_lay_321 ?_
    refine z_ldc K cst_L_30 dL_lay_323 ?_
    refine z_cTVi (As := [.int (808008552 : Int32), .int (959278125 : Int32), .int (1831363644 : Int32), .int (841562984 : Int32), .int (1680355645 : Int32)]) (rest := []) (X := (cal (f_X11_feed F (808008552 : Int32) (959278125 : Int32) (1831363644 : Int32) (841562984 : Int32) (1680355645 : Int32)) (f_X12_feed F (808008552 : Int32) (959278125 : Int32) (1831363644 : Int32) (841562984 : Int32) (1680355645 : Int32)))) ht hB K ⟨Nat.zero_le _, Nat.zero_le _⟩ (zMt_cal (t_X11_feed (wt a.1 t) F (d - 1) (by omega) (808008552 : Int32) (959278125 : Int32) (1831363644 : Int32) (841562984 : Int32) (1680355645 : Int32) (sub t s34))) mf_X11_feed ml_L_22 (Nat.le_of_ble_eq_true rfl) (by omega) rfl rfl rfl (Nat.le_of_ble_eq_true rfl) dL_lay_325 (fun r37 s36 => ?_)
    refine z_pop K rfl dL_lay_328 ?_
    refine z_aload_n K 0 rfl dL_lay_329 ?_
    refine z_ldc K cst_L_31 dL_lay_330 ?_
    refine z_ldc K cst_L_32 dL_lay_332 ?_
    refine z_ldc K cst_L_33 dL_lay_334 ?_
    refine z_ldc K cst_L_34 dL_lay_336 ?_
    refine z_iconst K ci_0 dL_lay_338 ?_
    refine z_cTVi (As := [.int (824785782 : Int32), .int (959457903 : Int32), .int (729032753 : Int32), .int (1026631936 : Int32), .int (0 : Int32)]) (rest := []) (X := (cal (f_X11_feed F (824785782 : Int32) (959457903 : Int32) (729032753 : Int32) (1026631936 : Int32) (0 : Int32)) (f_X12_feed F (824785782 : Int32) (959457903 : Int32) (729032753 : Int32) (1026631936 : Int32) (0 : Int32)))) ht hB K ⟨Nat.zero_le _, Nat.zero_le _⟩ (zMt_cal (t_X11_feed (wt a.1 t) F (d - 1) (by omega) (824785782 : Int32) (959457903 : Int32) (729032753 : Int32) (1026631936 : Int32) (0 : Int32) (sub t s36))) mf_X11_feed ml_L_22 (Nat.le_of_ble_eq_true rfl) (by omega) rfl rfl rfl (Nat.le_of_ble_eq_true rfl) dL_lay_339 (fun r39 s38 => ?_)
    refine z_pop K rfl dL_lay_342 ?_
    refine z_aload_n K 0 rfl dL_lay_343 ?_
    refine z_bipush K cb_55 dL_lay_344 ?_
    refine z_cTVi (As := [.int (55 : Int32)]) (rest := []) (X := (cal (f_X11_law F D (55 : Int32)) (f_X12_law F (55 : Int32)))) ht hB K ⟨Nat.zero_le _, Nat.zero_le _⟩ (zMt_cal (t_X11_law (wt a.1 t) F D (d - 1) (by omega) (55 : Int32) (sub t s38))) mf_X11_law ml_L_35 (Nat.le_of_ble_eq_true rfl) (by omega) rfl rfl rfl (Nat.le_of_ble_eq_true rfl) dL_lay_346 (fun r41 s40 => ?_)
    refine z_iconst K ci_5 dL_lay_349 ?_
    refine z_icmp_ne K (tgt := 357) dL_lay_350 (by decide) ?_ ?_
    · refine z_iconst K ci_0 dL_lay_357 ?_
      exact z_zret (Or.inl rfl) K dL_lay_358
    · refine z_iconst K ci_1 dL_lay_353 ?_
      refine z_goto K (tgt := 358) dL_lay_354 (by decide) ?_
      exact z_zret (Or.inr rfl) K dL_lay_358
def f_L_law_j693 (F : Nat) (D : Nat) (xs : Nat → Int32) (L : Nat) (k642 : Int32 → Int32 → zM → Option (Int32 × zM)) (v7 : Int32) (v8 : Int32) (v9 : Int32) (v10 : Int32) (v11 : Int32) (v12 : Int32) (s : zM) : Option (Int32 × zM) :=
  if v12 < 0 then
    lt (v11 + (1 : Int32)) (fun y99 =>
    k642 (1 : Int32) y99 s)
  else
    bnd (inT 0 (f_X11_soonest F v10 v12 (2 : Int32)) s) (fun r101 s100 =>
    bnd (inT 0 (f_X11_soonest F v10 v11 (2 : Int32)) s100) (fun r103 s102 =>
    if r101 < r103 then
      bnd (inT 0 (f_X11_two F v12 v11 (0 : Int32)) s102) (fun r106 s105 =>
      if r106 = (1 : Int32) then
        lt (v11 + (1 : Int32)) (fun y108 =>
        k642 (1 : Int32) y108 s105)
      else
        lt (v11 + (1 : Int32)) (fun y107 =>
        k642 (0 : Int32) y107 s105))
    else
      lt (v11 + (1 : Int32)) (fun y104 =>
      k642 (0 : Int32) y104 s102)))
set_option maxRecDepth 100000 in
set_option maxHeartbeats 4000000 in
theorem t_L_law_j693 {a : zA} {d : Nat} (F : Nat) (D : Nat) (K : zOK a code 13 RL (some .boolean) d) (hd : 2 * D + 9 ≤ d) (xs : Nat → Int32) (L : Nat) (hB : (141 : Nat) ≤ a.1.2.2.1 3) (hR : 141 ≤ a.2.2.2.1.cells ∧ 102862 ≤ a.2.2.2.1.slots) {bs : Nat} (hX : va_X bs L xs a.2.2.2.2.1 a.2.2.2.2.1.heap) (hbl : bs < a.2.2.2.2.1.heap.size) (hbA : bs < a.1.2.2.2) {G : Int32 → zM → State → Prop} (hr1 : ∀ (pc : Nat) (lv : List (Nat × Value)) (s : zM), decode code pc = .ok (.ireturn, 1) → zJ a 13 G (zKD2, false, 141, 102862) pc lv [.int 1] s (some (1, s))) {k642 : Int32 → Int32 → zM → Option (Int32 × zM)} (v7 : Int32) (v8 : Int32) (v9 : Int32) (v10 : Int32) (h642 : ∀ (v6 : Int32) (v11 : Int32) (s : zM), zJ a 13 G (zKD2, false, 141, 102862) 642 [(0, .ref bs), (1, .ref (a.1.2.2.2 + 69 * 0)), (2, .ref (a.1.2.2.2 + 69 * 1)), (6, .int v6), (7, .int v7), (8, .int v8), (9, .int v9), (10, .int v10), (11, .int v11)] [] s (k642 v6 v11 s)) (v11 : Int32) (v12 : Int32) (s : zM) : zJ a 13 G (zKD2, false, 141, 102862) 693 [(0, .ref bs), (1, .ref (a.1.2.2.2 + 69 * 0)), (2, .ref (a.1.2.2.2 + 69 * 1)), (7, .int v7), (8, .int v8), (9, .int v9), (10, .int v10), (11, .int v11), (12, .int v12)] [] s (f_L_law_j693 F D xs L k642 v7 v8 v9 v10 v11 v12 s) := by
  unfold f_L_law_j693
  refine z_iload K 8 rfl dL_law_693 ?_
  refine z_if_lt K (tgt := 732) dL_law_695 (by decide) ?_ ?_
  · refine z_iconst K ci_1 dL_law_732 ?_
    refine z_goto K (tgt := 737) dL_law_733 (by decide) ?_
    refine z_istore K (lv' := [(6, .int (1 : Int32)), (0, .ref bs), (1, .ref (a.1.2.2.2 + 69 * 0)), (2, .ref (a.1.2.2.2 + 69 * 1)), (7, .int v7), (8, .int v8), (9, .int v9), (10, .int v10), (11, .int v11), (12, .int v12)]) dL_law_737 (Nat.le_of_ble_eq_true rfl) rfl ?_
    refine z_iincN K (j := 8) (lv' := [(6, .int (1 : Int32)), (0, .ref bs), (1, .ref (a.1.2.2.2 + 69 * 0)), (2, .ref (a.1.2.2.2 + 69 * 1)), (7, .int v7), (8, .int v8), (9, .int v9), (10, .int v10), (12, .int v12)]) ci_1 rfl dL_law_739 (Nat.le_of_ble_eq_true rfl) rfl (fun y99 => ?_)
    refine z_goto K (tgt := 642) dL_law_742 (by decide) ?_
    refine z_sub [2, 3, 4, 1, 5, 6, 7, 8, 0] rfl ?_
    exact h642 (1 : Int32) y99 s
  · refine z_aload_n K 1 rfl dL_law_698 ?_
    refine z_iload K 6 rfl dL_law_699 ?_
    refine z_iload K 8 rfl dL_law_701 ?_
    refine z_iconst K ci_2 dL_law_703 ?_
    refine z_cTVi (As := [.int v10, .int v12, .int (2 : Int32)]) (rest := []) (X := (f_X11_soonest F v10 v12 (2 : Int32))) (by decide) hB K hR (t_X11_soonest (wt a.1 0) F (d - 1) (by omega) v10 v12 (2 : Int32) (sub 0 s)) mf_X11_soonest ml_L_67 (Nat.le_of_ble_eq_true rfl) (by omega) rfl rfl rfl (Nat.le_of_ble_eq_true rfl) dL_law_704 (fun r101 s100 => ?_)
    refine z_aload_n K 1 rfl dL_law_707 ?_
    refine z_iload K 6 rfl dL_law_708 ?_
    refine z_iload K 7 rfl dL_law_710 ?_
    refine z_iconst K ci_2 dL_law_712 ?_
    refine z_cTVi (As := [.int v10, .int v11, .int (2 : Int32)]) (rest := [.int r101]) (X := (f_X11_soonest F v10 v11 (2 : Int32))) (by decide) hB K hR (t_X11_soonest (wt a.1 0) F (d - 1) (by omega) v10 v11 (2 : Int32) (sub 0 s100)) mf_X11_soonest ml_L_67 (Nat.le_of_ble_eq_true rfl) (by omega) rfl rfl rfl (Nat.le_of_ble_eq_true rfl) dL_law_713 (fun r103 s102 => ?_)
    refine z_icmp_ge K (tgt := 736) dL_law_716 (by decide) ?_ ?_
    · refine z_iconst K ci_0 dL_law_736 ?_
      refine z_istore K (lv' := [(6, .int (0 : Int32)), (0, .ref bs), (1, .ref (a.1.2.2.2 + 69 * 0)), (2, .ref (a.1.2.2.2 + 69 * 1)), (7, .int v7), (8, .int v8), (9, .int v9), (10, .int v10), (11, .int v11), (12, .int v12)]) dL_law_737 (Nat.le_of_ble_eq_true rfl) rfl ?_
      refine z_iincN K (j := 8) (lv' := [(6, .int (0 : Int32)), (0, .ref bs), (1, .ref (a.1.2.2.2 + 69 * 0)), (2, .ref (a.1.2.2.2 + 69 * 1)), (7, .int v7), (8, .int v8), (9, .int v9), (10, .int v10), (12, .int v12)]) ci_1 rfl dL_law_739 (Nat.le_of_ble_eq_true rfl) rfl (fun y104 => ?_)
      refine z_goto K (tgt := 642) dL_law_742 (by decide) ?_
      refine z_sub [2, 3, 4, 1, 5, 6, 7, 8, 0] rfl ?_
      exact h642 (0 : Int32) y104 s102
    · refine z_aload_n K 1 rfl dL_law_719 ?_
      refine z_iload K 8 rfl dL_law_720 ?_
      refine z_iload K 7 rfl dL_law_722 ?_
      refine z_iconst K ci_0 dL_law_724 ?_
      refine z_cTVi (As := [.int v12, .int v11, .int (0 : Int32)]) (rest := []) (X := (f_X11_two F v12 v11 (0 : Int32))) (by decide) hB K hR (t_X11_two (wt a.1 0) F (d - 1) (by omega) v12 v11 (0 : Int32) (sub 0 s102)) mf_X11_two ml_L_120 (Nat.le_of_ble_eq_true rfl) (by omega) rfl rfl rfl (Nat.le_of_ble_eq_true rfl) dL_law_725 (fun r106 s105 => ?_)
      refine z_iconst K ci_1 dL_law_728 ?_
      refine z_icmp_ne K (tgt := 736) dL_law_729 (by decide) ?_ ?_
      · refine z_iconst K ci_0 dL_law_736 ?_
        refine z_istore K (lv' := [(6, .int (0 : Int32)), (0, .ref bs), (1, .ref (a.1.2.2.2 + 69 * 0)), (2, .ref (a.1.2.2.2 + 69 * 1)), (7, .int v7), (8, .int v8), (9, .int v9), (10, .int v10), (11, .int v11), (12, .int v12)]) dL_law_737 (Nat.le_of_ble_eq_true rfl) rfl ?_
        refine z_iincN K (j := 8) (lv' := [(6, .int (0 : Int32)), (0, .ref bs), (1, .ref (a.1.2.2.2 + 69 * 0)), (2, .ref (a.1.2.2.2 + 69 * 1)), (7, .int v7), (8, .int v8), (9, .int v9), (10, .int v10), (12, .int v12)]) ci_1 rfl dL_law_739 (Nat.le_of_ble_eq_true rfl) rfl (fun y107 => ?_)
        refine z_goto K (tgt := 642) dL_law_742 (by decide) ?_
        refine z_sub [2, 3, 4, 1, 5, 6, 7, 8, 0] rfl ?_
        exact h642 (0 : Int32) y107 s105
      · refine z_iconst K ci_1 dL_law_732 ?_
        refine z_goto K (tgt := 737) dL_law_733 (by decide) ?_
        refine z_istore K (lv' := [(6, .int (1 : Int32)), (0, .ref bs), (1, .ref (a.1.2.2.2 + 69 * 0)), (2, .ref (a.1.2.2.2 + 69 * 1)), (7, .int v7), (8, .int v8), (9, .int v9), (10, .int v10), (11, .int v11), (12, .int v12)]) dL_law_737 (Nat.le_of_ble_eq_true rfl) rfl ?_
        refine z_iincN K (j := 8) (lv' := [(6, .int (1 : Int32)), (0, .ref bs), (1, .ref (a.1.2.2.2 + 69 * 0)), (2, .ref (a.1.2.2.2 + 69 * 1)), (7, .int v7), (8, .int v8), (9, .int v9), (10, .int v10), (12, .int v12)]) ci_1 rfl dL_law_739 (Nat.le_of_ble_eq_true rfl) rfl (fun y108 => ?_)
        refine z_goto K (tgt := 642) dL_law_742 (by decide) ?_
        refine z_sub [2, 3, 4, 1, 5, 6, 7, 8, 0] rfl ?_
        exact h642 (1 : Int32) y108 s105
def f_L_law_L642 (F : Nat) (D : Nat) (xs : Nat → Int32) (L : Nat) (k745 : Int32 → zM → Option (Int32 × zM)) (v7 : Int32) (v8 : Int32) (v9 : Int32) (v10 : Int32) : Nat → Int32 → Int32 → zM → Option (Int32 × zM)
  | 0, _, _, _ => none
  | n + 1, v6, v11, s =>
    if v11 < (8 : Int32) then
      bnd (inT 0 (f_X11_rumour F v10 (2 : Int32) v11) s) (fun r97 s96 =>
      if v6 = 0 then
        lt (v11 + (1 : Int32)) (fun y98 =>
        f_L_law_L642 F D xs L k745 v7 v8 v9 v10 n (0 : Int32) y98 s96)
      else
        if v10 = v11 then
          f_L_law_j693 F D xs L (f_L_law_L642 F D xs L k745 v7 v8 v9 v10 n) v7 v8 v9 v10 v11 r97 s96
        else
          bnd (inT 0 (f_X11_two F v10 v11 (1 : Int32)) s96) (fun r110 s109 =>
          bnd (inT 0 (f_X11_two F v11 v10 (1 : Int32)) s109) (fun r112 s111 =>
          if r110 = r112 then
            f_L_law_j693 F D xs L (f_L_law_L642 F D xs L k745 v7 v8 v9 v10 n) v7 v8 v9 v10 v11 r97 s111
          else
            lt (v11 + (1 : Int32)) (fun y113 =>
            f_L_law_L642 F D xs L k745 v7 v8 v9 v10 n (0 : Int32) y113 s111))))
    else
      k745 v6 s
set_option maxRecDepth 100000 in
set_option maxHeartbeats 4000000 in
theorem t_L_law_L642 {a : zA} {d : Nat} (F : Nat) (D : Nat) (K : zOK a code 13 RL (some .boolean) d) (hd : 2 * D + 9 ≤ d) (xs : Nat → Int32) (L : Nat) (hB : (141 : Nat) ≤ a.1.2.2.1 3) (hR : 141 ≤ a.2.2.2.1.cells ∧ 102862 ≤ a.2.2.2.1.slots) {bs : Nat} (hX : va_X bs L xs a.2.2.2.2.1 a.2.2.2.2.1.heap) (hbl : bs < a.2.2.2.2.1.heap.size) (hbA : bs < a.1.2.2.2) {G : Int32 → zM → State → Prop} (hr1 : ∀ (pc : Nat) (lv : List (Nat × Value)) (s : zM), decode code pc = .ok (.ireturn, 1) → zJ a 13 G (zKD2, false, 141, 102862) pc lv [.int 1] s (some (1, s))) {k745 : Int32 → zM → Option (Int32 × zM)} (v7 : Int32) (v8 : Int32) (v9 : Int32) (v10 : Int32) (h745 : ∀ (v6 : Int32) (s : zM), zJ a 13 G (zKD2, false, 141, 102862) 745 [(0, .ref bs), (1, .ref (a.1.2.2.2 + 69 * 0)), (2, .ref (a.1.2.2.2 + 69 * 1)), (6, .int v6), (7, .int v7), (8, .int v8), (9, .int v9), (10, .int v10)] [] s (k745 v6 s)) : ∀ (n : Nat) (v6 : Int32) (v11 : Int32) (s : zM), zJ a 13 G (zKD2, false, 141, 102862) 642 [(0, .ref bs), (1, .ref (a.1.2.2.2 + 69 * 0)), (2, .ref (a.1.2.2.2 + 69 * 1)), (6, .int v6), (7, .int v7), (8, .int v8), (9, .int v9), (10, .int v10), (11, .int v11)] [] s (f_L_law_L642 F D xs L k745 v7 v8 v9 v10 n v6 v11 s) := by
  intro n
  induction n with
  | zero => intros; exact z_none
  | succ n ih =>
    intro v6 v11 s
    rw [f_L_law_L642]
    refine z_iload K 8 rfl dL_law_642 ?_
    refine z_bipush K cb_8 dL_law_644 ?_
    refine z_icmp_ge K (tgt := 745) dL_law_646 (by decide) ?_ ?_
    · refine z_sub [0, 1, 2, 3, 4, 5, 6, 7] rfl ?_
      exact h745 v6 s
    · refine z_aload_n K 1 rfl dL_law_649 ?_
      refine z_iload K 7 rfl dL_law_650 ?_
      refine z_iconst K ci_2 dL_law_652 ?_
      refine z_iload K 8 rfl dL_law_653 ?_
      refine z_cTVi (As := [.int v10, .int (2 : Int32), .int v11]) (rest := []) (X := (f_X11_rumour F v10 (2 : Int32) v11)) (by decide) hB K hR (t_X11_rumour (wt a.1 0) F (d - 1) (by omega) v10 (2 : Int32) v11 (sub 0 s)) mf_X11_rumour ml_L_70 (Nat.le_of_ble_eq_true rfl) (by omega) rfl rfl rfl (Nat.le_of_ble_eq_true rfl) dL_law_655 (fun r97 s96 => ?_)
      refine z_istore K (lv' := [(12, .int r97), (0, .ref bs), (1, .ref (a.1.2.2.2 + 69 * 0)), (2, .ref (a.1.2.2.2 + 69 * 1)), (6, .int v6), (7, .int v7), (8, .int v8), (9, .int v9), (10, .int v10), (11, .int v11)]) dL_law_658 (Nat.le_of_ble_eq_true rfl) rfl ?_
      refine z_iload K 4 rfl dL_law_660 ?_
      refine z_if_eq K (tgt := 736) dL_law_662 (by decide) ?_ ?_
      · refine z_iconst K ci_0 dL_law_736 ?_
        refine z_istore K (lv' := [(6, .int (0 : Int32)), (12, .int r97), (0, .ref bs), (1, .ref (a.1.2.2.2 + 69 * 0)), (2, .ref (a.1.2.2.2 + 69 * 1)), (7, .int v7), (8, .int v8), (9, .int v9), (10, .int v10), (11, .int v11)]) dL_law_737 (Nat.le_of_ble_eq_true rfl) rfl ?_
        refine z_iincN K (j := 9) (lv' := [(6, .int (0 : Int32)), (12, .int r97), (0, .ref bs), (1, .ref (a.1.2.2.2 + 69 * 0)), (2, .ref (a.1.2.2.2 + 69 * 1)), (7, .int v7), (8, .int v8), (9, .int v9), (10, .int v10)]) ci_1 rfl dL_law_739 (Nat.le_of_ble_eq_true rfl) rfl (fun y98 => ?_)
        refine z_goto K (tgt := 642) dL_law_742 (by decide) ?_
        refine z_sub [3, 4, 5, 1, 6, 7, 8, 9, 0] rfl ?_
        exact ih (0 : Int32) y98 s96
      · refine z_iload K 8 rfl dL_law_665 ?_
        refine z_iload K 9 rfl dL_law_667 ?_
        refine z_icmp_eq K (tgt := 693) dL_law_669 (by decide) ?_ ?_
        · refine z_sub [1, 2, 3, 5, 6, 7, 8, 9, 0] rfl ?_
          exact t_L_law_j693 F D K hd xs L hB hR hX hbl hbA hr1 v7 v8 v9 v10 ih v11 r97 s96
        · refine z_aload_n K 2 rfl dL_law_672 ?_
          refine z_iload K 8 rfl dL_law_673 ?_
          refine z_iload K 9 rfl dL_law_675 ?_
          refine z_iconst K ci_1 dL_law_677 ?_
          refine z_cTVi (As := [.int v10, .int v11, .int (1 : Int32)]) (rest := []) (X := (f_X11_two F v10 v11 (1 : Int32))) (by decide) hB K hR (t_X11_two (wt a.1 0) F (d - 1) (by omega) v10 v11 (1 : Int32) (sub 0 s96)) mf_X11_two ml_L_120 (Nat.le_of_ble_eq_true rfl) (by omega) rfl rfl rfl (Nat.le_of_ble_eq_true rfl) dL_law_678 (fun r110 s109 => ?_)
          refine z_aload_n K 2 rfl dL_law_681 ?_
          refine z_iload K 9 rfl dL_law_682 ?_
          refine z_iload K 8 rfl dL_law_684 ?_
          refine z_iconst K ci_1 dL_law_686 ?_
          refine z_cTVi (As := [.int v11, .int v10, .int (1 : Int32)]) (rest := [.int r110]) (X := (f_X11_two F v11 v10 (1 : Int32))) (by decide) hB K hR (t_X11_two (wt a.1 0) F (d - 1) (by omega) v11 v10 (1 : Int32) (sub 0 s109)) mf_X11_two ml_L_120 (Nat.le_of_ble_eq_true rfl) (by omega) rfl rfl rfl (Nat.le_of_ble_eq_true rfl) dL_law_687 (fun r112 s111 => ?_)
          refine z_icmp_ne K (tgt := 736) dL_law_690 (by decide) ?_ ?_
          · refine z_iconst K ci_0 dL_law_736 ?_
            refine z_istore K (lv' := [(6, .int (0 : Int32)), (12, .int r97), (0, .ref bs), (1, .ref (a.1.2.2.2 + 69 * 0)), (2, .ref (a.1.2.2.2 + 69 * 1)), (7, .int v7), (8, .int v8), (9, .int v9), (10, .int v10), (11, .int v11)]) dL_law_737 (Nat.le_of_ble_eq_true rfl) rfl ?_
            refine z_iincN K (j := 9) (lv' := [(6, .int (0 : Int32)), (12, .int r97), (0, .ref bs), (1, .ref (a.1.2.2.2 + 69 * 0)), (2, .ref (a.1.2.2.2 + 69 * 1)), (7, .int v7), (8, .int v8), (9, .int v9), (10, .int v10)]) ci_1 rfl dL_law_739 (Nat.le_of_ble_eq_true rfl) rfl (fun y113 => ?_)
            refine z_goto K (tgt := 642) dL_law_742 (by decide) ?_
            refine z_sub [3, 4, 5, 1, 6, 7, 8, 9, 0] rfl ?_
            exact ih (0 : Int32) y113 s111
          · refine z_sub [1, 2, 3, 5, 6, 7, 8, 9, 0] rfl ?_
            exact t_L_law_j693 F D K hd xs L hB hR hX hbl hbA hr1 v7 v8 v9 v10 ih v11 r97 s111
def f_L_law_L555 (F : Nat) (D : Nat) (xs : Nat → Int32) (L : Nat) (k751 : Int32 → Int32 → Int32 → zM → Option (Int32 × zM)) (v7 : Int32) : Nat → Int32 → Int32 → Int32 → Int32 → zM → Option (Int32 × zM)
  | 0, _, _, _, _, _ => none
  | n + 1, v6, v8, v9, v10, s =>
    if v10 < (8 : Int32) then
      bnd (inT 0 (f_X11_led F v10 (3 : Int32)) s) (fun r91 s90 =>
      lt ((v8 + r91)) (fun y92 =>
      bnd (inT 0 (f_X11_led F v10 (4 : Int32)) s90) (fun r94 s93 =>
      lt ((v9 + r94)) (fun y95 =>
      if v6 = 0 then
        f_L_law_L642 F D xs L (fun y115 s114 =>
          lt (v10 + (1 : Int32)) (fun y116 =>
          f_L_law_L555 F D xs L k751 v7 n y115 y92 y95 y116 s114)) v7 y92 y95 v10 F (0 : Int32) (0 : Int32) s93
      else
        bnd (inT 0 (f_X11_led F v10 (2 : Int32)) s93) (fun r118 s117 =>
        bnd (inT 0 (f_X11_led F v10 (3 : Int32)) s117) (fun r120 s119 =>
        bnd (inT 0 (f_X11_led F v10 (0 : Int32)) s119) (fun r122 s121 =>
        bnd (inT 0 (f_X11_led F v10 (1 : Int32)) s121) (fun r124 s123 =>
        bnd (inT 0 (f_X11_led F v10 (4 : Int32)) s123) (fun r126 s125 =>
        if (r118 + r120) = ((r122 + r124) + r126) then
          f_L_law_L642 F D xs L (fun y131 s130 =>
            lt (v10 + (1 : Int32)) (fun y132 =>
            f_L_law_L555 F D xs L k751 v7 n y131 y92 y95 y132 s130)) v7 y92 y95 v10 F (1 : Int32) (0 : Int32) s125
        else
          f_L_law_L642 F D xs L (fun y128 s127 =>
            lt (v10 + (1 : Int32)) (fun y129 =>
            f_L_law_L555 F D xs L k751 v7 n y128 y92 y95 y129 s127)) v7 y92 y95 v10 F (0 : Int32) (0 : Int32) s125)))))))))
    else
      k751 v6 v8 v9 s
set_option maxRecDepth 100000 in
set_option maxHeartbeats 4000000 in
theorem t_L_law_L555 {a : zA} {d : Nat} (F : Nat) (D : Nat) (K : zOK a code 13 RL (some .boolean) d) (hd : 2 * D + 9 ≤ d) (xs : Nat → Int32) (L : Nat) (hB : (141 : Nat) ≤ a.1.2.2.1 3) (hR : 141 ≤ a.2.2.2.1.cells ∧ 102862 ≤ a.2.2.2.1.slots) {bs : Nat} (hX : va_X bs L xs a.2.2.2.2.1 a.2.2.2.2.1.heap) (hbl : bs < a.2.2.2.2.1.heap.size) (hbA : bs < a.1.2.2.2) {G : Int32 → zM → State → Prop} (hr1 : ∀ (pc : Nat) (lv : List (Nat × Value)) (s : zM), decode code pc = .ok (.ireturn, 1) → zJ a 13 G (zKD2, false, 141, 102862) pc lv [.int 1] s (some (1, s))) {k751 : Int32 → Int32 → Int32 → zM → Option (Int32 × zM)} (v7 : Int32) (h751 : ∀ (v6 : Int32) (v8 : Int32) (v9 : Int32) (s : zM), zJ a 13 G (zKD2, false, 141, 102862) 751 [(0, .ref bs), (1, .ref (a.1.2.2.2 + 69 * 0)), (2, .ref (a.1.2.2.2 + 69 * 1)), (6, .int v6), (7, .int v7), (8, .int v8), (9, .int v9)] [] s (k751 v6 v8 v9 s)) : ∀ (n : Nat) (v6 : Int32) (v8 : Int32) (v9 : Int32) (v10 : Int32) (s : zM), zJ a 13 G (zKD2, false, 141, 102862) 555 [(0, .ref bs), (1, .ref (a.1.2.2.2 + 69 * 0)), (2, .ref (a.1.2.2.2 + 69 * 1)), (6, .int v6), (7, .int v7), (8, .int v8), (9, .int v9), (10, .int v10)] [] s (f_L_law_L555 F D xs L k751 v7 n v6 v8 v9 v10 s) := by
  intro n
  induction n with
  | zero => intros; exact z_none
  | succ n ih =>
    intro v6 v8 v9 v10 s
    rw [f_L_law_L555]
    refine z_iload K 7 rfl dL_law_555 ?_
    refine z_bipush K cb_8 dL_law_557 ?_
    refine z_icmp_ge K (tgt := 751) dL_law_559 (by decide) ?_ ?_
    · refine z_sub [0, 1, 2, 3, 4, 5, 6] rfl ?_
      exact h751 v6 v8 v9 s
    · refine z_iload K 5 rfl dL_law_562 ?_
      refine z_aload_n K 1 rfl dL_law_564 ?_
      refine z_iload K 7 rfl dL_law_565 ?_
      refine z_iconst K ci_3 dL_law_567 ?_
      refine z_cTVi (As := [.int v10, .int (3 : Int32)]) (rest := [.int v8]) (X := (f_X11_led F v10 (3 : Int32))) (by decide) hB K hR (t_X11_led (wt a.1 0) F (d - 1) (by omega) v10 (3 : Int32) (sub 0 s)) mf_X11_led ml_L_142 (Nat.le_of_ble_eq_true rfl) (by omega) rfl rfl rfl (Nat.le_of_ble_eq_true rfl) dL_law_568 (fun r91 s90 => ?_)
      refine z_iadd K dL_law_571 ?_
      refine z_topi (fun y92 => ?_)
      refine z_istore K (lv' := [(8, .int y92), (0, .ref bs), (1, .ref (a.1.2.2.2 + 69 * 0)), (2, .ref (a.1.2.2.2 + 69 * 1)), (6, .int v6), (7, .int v7), (9, .int v9), (10, .int v10)]) dL_law_572 (Nat.le_of_ble_eq_true rfl) rfl ?_
      refine z_iload K 6 rfl dL_law_574 ?_
      refine z_aload_n K 2 rfl dL_law_576 ?_
      refine z_iload K 7 rfl dL_law_577 ?_
      refine z_iconst K ci_4 dL_law_579 ?_
      refine z_cTVi (As := [.int v10, .int (4 : Int32)]) (rest := [.int v9]) (X := (f_X11_led F v10 (4 : Int32))) (by decide) hB K hR (t_X11_led (wt a.1 0) F (d - 1) (by omega) v10 (4 : Int32) (sub 0 s90)) mf_X11_led ml_L_142 (Nat.le_of_ble_eq_true rfl) (by omega) rfl rfl rfl (Nat.le_of_ble_eq_true rfl) dL_law_580 (fun r94 s93 => ?_)
      refine z_iadd K dL_law_583 ?_
      refine z_topi (fun y95 => ?_)
      refine z_istore K (lv' := [(9, .int y95), (8, .int y92), (0, .ref bs), (1, .ref (a.1.2.2.2 + 69 * 0)), (2, .ref (a.1.2.2.2 + 69 * 1)), (6, .int v6), (7, .int v7), (10, .int v10)]) dL_law_584 (Nat.le_of_ble_eq_true rfl) rfl ?_
      refine z_iload K 5 rfl dL_law_586 ?_
      refine z_if_eq K (tgt := 636) dL_law_588 (by decide) ?_ ?_
      · refine z_iconst K ci_0 dL_law_636 ?_
        refine z_istore K (lv' := [(6, .int (0 : Int32)), (9, .int y95), (8, .int y92), (0, .ref bs), (1, .ref (a.1.2.2.2 + 69 * 0)), (2, .ref (a.1.2.2.2 + 69 * 1)), (7, .int v7), (10, .int v10)]) dL_law_637 (Nat.le_of_ble_eq_true rfl) rfl ?_
        refine z_iconst K ci_0 dL_law_639 ?_
        refine z_istore K (lv' := [(11, .int (0 : Int32)), (6, .int (0 : Int32)), (9, .int y95), (8, .int y92), (0, .ref bs), (1, .ref (a.1.2.2.2 + 69 * 0)), (2, .ref (a.1.2.2.2 + 69 * 1)), (7, .int v7), (10, .int v10)]) dL_law_640 (Nat.le_of_ble_eq_true rfl) rfl ?_
        refine z_sub [4, 5, 6, 1, 7, 3, 2, 8, 0] rfl ?_
        refine t_L_law_L642 F D K hd xs L hB hR hX hbl hbA hr1 v7 y92 y95 v10 (fun y115 s114 => ?_) F (0 : Int32) (0 : Int32) s93
        refine z_iincN K (j := 7) (lv' := [(0, .ref bs), (1, .ref (a.1.2.2.2 + 69 * 0)), (2, .ref (a.1.2.2.2 + 69 * 1)), (6, .int y115), (7, .int v7), (8, .int y92), (9, .int y95)]) ci_1 rfl dL_law_745 (Nat.le_of_ble_eq_true rfl) rfl (fun y116 => ?_)
        refine z_goto K (tgt := 555) dL_law_748 (by decide) ?_
        refine z_sub [1, 2, 3, 4, 5, 6, 7, 0] rfl ?_
        exact ih y115 y92 y95 y116 s114
      · refine z_aload_n K 3 rfl dL_law_591 ?_
        refine z_iload K 7 rfl dL_law_592 ?_
        refine z_iconst K ci_2 dL_law_594 ?_
        refine z_cTVi (As := [.int v10, .int (2 : Int32)]) (rest := []) (X := (f_X11_led F v10 (2 : Int32))) (by decide) hB K hR (t_X11_led (wt a.1 0) F (d - 1) (by omega) v10 (2 : Int32) (sub 0 s93)) mf_X11_led ml_L_142 (Nat.le_of_ble_eq_true rfl) (by omega) rfl rfl rfl (Nat.le_of_ble_eq_true rfl) dL_law_595 (fun r118 s117 => ?_)
        refine z_aload_n K 3 rfl dL_law_598 ?_
        refine z_iload K 7 rfl dL_law_599 ?_
        refine z_iconst K ci_3 dL_law_601 ?_
        refine z_cTVi (As := [.int v10, .int (3 : Int32)]) (rest := [.int r118]) (X := (f_X11_led F v10 (3 : Int32))) (by decide) hB K hR (t_X11_led (wt a.1 0) F (d - 1) (by omega) v10 (3 : Int32) (sub 0 s117)) mf_X11_led ml_L_142 (Nat.le_of_ble_eq_true rfl) (by omega) rfl rfl rfl (Nat.le_of_ble_eq_true rfl) dL_law_602 (fun r120 s119 => ?_)
        refine z_iadd K dL_law_605 ?_
        refine z_aload_n K 3 rfl dL_law_606 ?_
        refine z_iload K 7 rfl dL_law_607 ?_
        refine z_iconst K ci_0 dL_law_609 ?_
        refine z_cTVi (As := [.int v10, .int (0 : Int32)]) (rest := [.int (r118 + r120)]) (X := (f_X11_led F v10 (0 : Int32))) (by decide) hB K hR (t_X11_led (wt a.1 0) F (d - 1) (by omega) v10 (0 : Int32) (sub 0 s119)) mf_X11_led ml_L_142 (Nat.le_of_ble_eq_true rfl) (by omega) rfl rfl rfl (Nat.le_of_ble_eq_true rfl) dL_law_610 (fun r122 s121 => ?_)
        refine z_aload_n K 3 rfl dL_law_613 ?_
        refine z_iload K 7 rfl dL_law_614 ?_
        refine z_iconst K ci_1 dL_law_616 ?_
        refine z_cTVi (As := [.int v10, .int (1 : Int32)]) (rest := [.int r122, .int (r118 + r120)]) (X := (f_X11_led F v10 (1 : Int32))) (by decide) hB K hR (t_X11_led (wt a.1 0) F (d - 1) (by omega) v10 (1 : Int32) (sub 0 s121)) mf_X11_led ml_L_142 (Nat.le_of_ble_eq_true rfl) (by omega) rfl rfl rfl (Nat.le_of_ble_eq_true rfl) dL_law_617 (fun r124 s123 => ?_)
        refine z_iadd K dL_law_620 ?_
        refine z_aload_n K 3 rfl dL_law_621 ?_
        refine z_iload K 7 rfl dL_law_622 ?_
        refine z_iconst K ci_4 dL_law_624 ?_
        refine z_cTVi (As := [.int v10, .int (4 : Int32)]) (rest := [.int (r122 + r124), .int (r118 + r120)]) (X := (f_X11_led F v10 (4 : Int32))) (by decide) hB K hR (t_X11_led (wt a.1 0) F (d - 1) (by omega) v10 (4 : Int32) (sub 0 s123)) mf_X11_led ml_L_142 (Nat.le_of_ble_eq_true rfl) (by omega) rfl rfl rfl (Nat.le_of_ble_eq_true rfl) dL_law_625 (fun r126 s125 => ?_)
        refine z_iadd K dL_law_628 ?_
        refine z_icmp_ne K (tgt := 636) dL_law_629 (by decide) ?_ ?_
        · refine z_iconst K ci_0 dL_law_636 ?_
          refine z_istore K (lv' := [(6, .int (0 : Int32)), (9, .int y95), (8, .int y92), (0, .ref bs), (1, .ref (a.1.2.2.2 + 69 * 0)), (2, .ref (a.1.2.2.2 + 69 * 1)), (7, .int v7), (10, .int v10)]) dL_law_637 (Nat.le_of_ble_eq_true rfl) rfl ?_
          refine z_iconst K ci_0 dL_law_639 ?_
          refine z_istore K (lv' := [(11, .int (0 : Int32)), (6, .int (0 : Int32)), (9, .int y95), (8, .int y92), (0, .ref bs), (1, .ref (a.1.2.2.2 + 69 * 0)), (2, .ref (a.1.2.2.2 + 69 * 1)), (7, .int v7), (10, .int v10)]) dL_law_640 (Nat.le_of_ble_eq_true rfl) rfl ?_
          refine z_sub [4, 5, 6, 1, 7, 3, 2, 8, 0] rfl ?_
          refine t_L_law_L642 F D K hd xs L hB hR hX hbl hbA hr1 v7 y92 y95 v10 (fun y128 s127 => ?_) F (0 : Int32) (0 : Int32) s125
          refine z_iincN K (j := 7) (lv' := [(0, .ref bs), (1, .ref (a.1.2.2.2 + 69 * 0)), (2, .ref (a.1.2.2.2 + 69 * 1)), (6, .int y128), (7, .int v7), (8, .int y92), (9, .int y95)]) ci_1 rfl dL_law_745 (Nat.le_of_ble_eq_true rfl) rfl (fun y129 => ?_)
          refine z_goto K (tgt := 555) dL_law_748 (by decide) ?_
          refine z_sub [1, 2, 3, 4, 5, 6, 7, 0] rfl ?_
          exact ih y128 y92 y95 y129 s127
        · refine z_iconst K ci_1 dL_law_632 ?_
          refine z_goto K (tgt := 637) dL_law_633 (by decide) ?_
          refine z_istore K (lv' := [(6, .int (1 : Int32)), (9, .int y95), (8, .int y92), (0, .ref bs), (1, .ref (a.1.2.2.2 + 69 * 0)), (2, .ref (a.1.2.2.2 + 69 * 1)), (7, .int v7), (10, .int v10)]) dL_law_637 (Nat.le_of_ble_eq_true rfl) rfl ?_
          refine z_iconst K ci_0 dL_law_639 ?_
          refine z_istore K (lv' := [(11, .int (0 : Int32)), (6, .int (1 : Int32)), (9, .int y95), (8, .int y92), (0, .ref bs), (1, .ref (a.1.2.2.2 + 69 * 0)), (2, .ref (a.1.2.2.2 + 69 * 1)), (7, .int v7), (10, .int v10)]) dL_law_640 (Nat.le_of_ble_eq_true rfl) rfl ?_
          refine z_sub [4, 5, 6, 1, 7, 3, 2, 8, 0] rfl ?_
          refine t_L_law_L642 F D K hd xs L hB hR hX hbl hbA hr1 v7 y92 y95 v10 (fun y131 s130 => ?_) F (1 : Int32) (0 : Int32) s125
          refine z_iincN K (j := 7) (lv' := [(0, .ref bs), (1, .ref (a.1.2.2.2 + 69 * 0)), (2, .ref (a.1.2.2.2 + 69 * 1)), (6, .int y131), (7, .int v7), (8, .int y92), (9, .int y95)]) ci_1 rfl dL_law_745 (Nat.le_of_ble_eq_true rfl) rfl (fun y132 => ?_)
          refine z_goto K (tgt := 555) dL_law_748 (by decide) ?_
          refine z_sub [1, 2, 3, 4, 5, 6, 7, 0] rfl ?_
          exact ih y131 y92 y95 y132 s130
def f_L_law_j800 (F : Nat) (D : Nat) (xs : Nat → Int32) (L : Nat) (k452 : Int32 → Int32 → zM → Option (Int32 × zM)) (v7 : Int32) (s : zM) : Option (Int32 × zM) :=
  bnd (inT 0 (f_X11_home F) s) (fun r147 s146 =>
  bnd (inT 0 (f_X11_strays F) s146) (fun r149 s148 =>
  bnd (inT 0 (f_J6_bitCount_0f7a4 r149) s148) (fun r151 s150 =>
  if r151 < r147 then
    lt (v7 + (2 : Int32)) (fun y152 =>
    k452 (0 : Int32) y152 s150)
  else
    bnd (inT 0 (f_X11_home F) s150) (fun r154 s153 =>
    bnd (inT 0 (f_X11_strays F) s153) (fun r156 s155 =>
    bnd (inT 0 (f_J6_bitCount_0f7a4 r156) s155) (fun r158 s157 =>
    if ((2 : Int32) * r154) < r158 then
      lt (v7 + (2 : Int32)) (fun y159 =>
      k452 (0 : Int32) y159 s157)
    else
      lt (v7 + (2 : Int32)) (fun y160 =>
      k452 (1 : Int32) y160 s157)))))))
set_option maxRecDepth 100000 in
set_option maxHeartbeats 4000000 in
theorem t_L_law_j800 {a : zA} {d : Nat} (F : Nat) (D : Nat) (K : zOK a code 13 RL (some .boolean) d) (hd : 2 * D + 9 ≤ d) (xs : Nat → Int32) (L : Nat) (hB : (141 : Nat) ≤ a.1.2.2.1 3) (hR : 141 ≤ a.2.2.2.1.cells ∧ 102862 ≤ a.2.2.2.1.slots) {bs : Nat} (hX : va_X bs L xs a.2.2.2.2.1 a.2.2.2.2.1.heap) (hbl : bs < a.2.2.2.2.1.heap.size) (hbA : bs < a.1.2.2.2) {G : Int32 → zM → State → Prop} (hr1 : ∀ (pc : Nat) (lv : List (Nat × Value)) (s : zM), decode code pc = .ok (.ireturn, 1) → zJ a 13 G (zKD2, false, 141, 102862) pc lv [.int 1] s (some (1, s))) {k452 : Int32 → Int32 → zM → Option (Int32 × zM)} (h452 : ∀ (v6 : Int32) (v7 : Int32) (s : zM), zJ a 13 G (zKD2, false, 141, 102862) 452 [(0, .ref bs), (1, .ref (a.1.2.2.2 + 69 * 0)), (2, .ref (a.1.2.2.2 + 69 * 1)), (6, .int v6), (7, .int v7)] [] s (k452 v6 v7 s)) (v7 : Int32) (s : zM) : zJ a 13 G (zKD2, false, 141, 102862) 800 [(0, .ref bs), (1, .ref (a.1.2.2.2 + 69 * 0)), (2, .ref (a.1.2.2.2 + 69 * 1)), (7, .int v7)] [] s (f_L_law_j800 F D xs L k452 v7 s) := by
  unfold f_L_law_j800
  refine z_aload_n K 1 rfl dL_law_800 ?_
  refine z_cTVi (As := []) (rest := []) (X := (f_X11_home F)) (by decide) hB K hR (t_X11_home (wt a.1 0) F (d - 1) (by omega) (sub 0 s)) mf_X11_home ml_L_178 (Nat.le_of_ble_eq_true rfl) (by omega) rfl rfl rfl (Nat.le_of_ble_eq_true rfl) dL_law_801 (fun r147 s146 => ?_)
  refine z_aload_n K 1 rfl dL_law_804 ?_
  refine z_cTVi (As := []) (rest := [.int r147]) (X := (f_X11_strays F)) (by decide) hB K hR (t_X11_strays (wt a.1 0) F (d - 1) (by omega) (sub 0 s146)) mf_X11_strays ml_L_155 (Nat.le_of_ble_eq_true rfl) (by omega) rfl rfl rfl (Nat.le_of_ble_eq_true rfl) dL_law_805 (fun r149 s148 => ?_)
  refine z_cTSi (As := [.int r149]) (rest := [.int r147]) (X := (f_J6_bitCount_0f7a4 r149)) (by decide) hB K hR (t_J6_bitCount_0f7a4 (wt a.1 0) (d - 1) (by omega) r149 (sub 0 s148)) mf_J6_bitCount_0f7a4 ml_L_181 (Nat.le_of_ble_eq_true rfl) (by omega) rfl rfl (Nat.le_of_ble_eq_true rfl) dL_law_808 (fun r151 s150 => ?_)
  refine z_icmp_gt K (tgt := 834) dL_law_811 (by decide) ?_ ?_
  · refine z_iconst K ci_0 dL_law_834 ?_
    refine z_istore K (lv' := [(6, .int (0 : Int32)), (0, .ref bs), (1, .ref (a.1.2.2.2 + 69 * 0)), (2, .ref (a.1.2.2.2 + 69 * 1)), (7, .int v7)]) dL_law_835 (Nat.le_of_ble_eq_true rfl) rfl ?_
    refine z_iincN K (j := 4) (lv' := [(6, .int (0 : Int32)), (0, .ref bs), (1, .ref (a.1.2.2.2 + 69 * 0)), (2, .ref (a.1.2.2.2 + 69 * 1))]) ci_2 rfl dL_law_837 (Nat.le_of_ble_eq_true rfl) rfl (fun y152 => ?_)
    refine z_goto K (tgt := 452) dL_law_840 (by decide) ?_
    refine z_sub [2, 3, 4, 1, 0] rfl ?_
    exact h452 (0 : Int32) y152 s150
  · refine z_iconst K ci_2 dL_law_814 ?_
    refine z_aload_n K 1 rfl dL_law_815 ?_
    refine z_cTVi (As := []) (rest := [.int (2 : Int32)]) (X := (f_X11_home F)) (by decide) hB K hR (t_X11_home (wt a.1 0) F (d - 1) (by omega) (sub 0 s150)) mf_X11_home ml_L_178 (Nat.le_of_ble_eq_true rfl) (by omega) rfl rfl rfl (Nat.le_of_ble_eq_true rfl) dL_law_816 (fun r154 s153 => ?_)
    refine z_imul K dL_law_819 ?_
    refine z_aload_n K 1 rfl dL_law_820 ?_
    refine z_cTVi (As := []) (rest := [.int ((2 : Int32) * r154)]) (X := (f_X11_strays F)) (by decide) hB K hR (t_X11_strays (wt a.1 0) F (d - 1) (by omega) (sub 0 s153)) mf_X11_strays ml_L_155 (Nat.le_of_ble_eq_true rfl) (by omega) rfl rfl rfl (Nat.le_of_ble_eq_true rfl) dL_law_821 (fun r156 s155 => ?_)
    refine z_cTSi (As := [.int r156]) (rest := [.int ((2 : Int32) * r154)]) (X := (f_J6_bitCount_0f7a4 r156)) (by decide) hB K hR (t_J6_bitCount_0f7a4 (wt a.1 0) (d - 1) (by omega) r156 (sub 0 s155)) mf_J6_bitCount_0f7a4 ml_L_181 (Nat.le_of_ble_eq_true rfl) (by omega) rfl rfl (Nat.le_of_ble_eq_true rfl) dL_law_824 (fun r158 s157 => ?_)
    refine z_icmp_lt K (tgt := 834) dL_law_827 (by decide) ?_ ?_
    · refine z_iconst K ci_0 dL_law_834 ?_
      refine z_istore K (lv' := [(6, .int (0 : Int32)), (0, .ref bs), (1, .ref (a.1.2.2.2 + 69 * 0)), (2, .ref (a.1.2.2.2 + 69 * 1)), (7, .int v7)]) dL_law_835 (Nat.le_of_ble_eq_true rfl) rfl ?_
      refine z_iincN K (j := 4) (lv' := [(6, .int (0 : Int32)), (0, .ref bs), (1, .ref (a.1.2.2.2 + 69 * 0)), (2, .ref (a.1.2.2.2 + 69 * 1))]) ci_2 rfl dL_law_837 (Nat.le_of_ble_eq_true rfl) rfl (fun y159 => ?_)
      refine z_goto K (tgt := 452) dL_law_840 (by decide) ?_
      refine z_sub [2, 3, 4, 1, 0] rfl ?_
      exact h452 (0 : Int32) y159 s157
    · refine z_iconst K ci_1 dL_law_830 ?_
      refine z_goto K (tgt := 835) dL_law_831 (by decide) ?_
      refine z_istore K (lv' := [(6, .int (1 : Int32)), (0, .ref bs), (1, .ref (a.1.2.2.2 + 69 * 0)), (2, .ref (a.1.2.2.2 + 69 * 1)), (7, .int v7)]) dL_law_835 (Nat.le_of_ble_eq_true rfl) rfl ?_
      refine z_iincN K (j := 4) (lv' := [(6, .int (1 : Int32)), (0, .ref bs), (1, .ref (a.1.2.2.2 + 69 * 0)), (2, .ref (a.1.2.2.2 + 69 * 1))]) ci_2 rfl dL_law_837 (Nat.le_of_ble_eq_true rfl) rfl (fun y160 => ?_)
      refine z_goto K (tgt := 452) dL_law_840 (by decide) ?_
      refine z_sub [2, 3, 4, 1, 0] rfl ?_
      exact h452 (1 : Int32) y160 s157
def f_L_law_j496 (F : Nat) (D : Nat) (xs : Nat → Int32) (L : Nat) (k452 : Int32 → Int32 → zM → Option (Int32 × zM)) (v7 : Int32) (s : zM) : Option (Int32 × zM) :=
  if zin v7 L = true then
    if zin (v7 + (1 : Int32)) L = true then
      bnd (inT 0 (f_L_act F D ((xs (v7).toNatClampNeg) >>> ((1 : Int32) &&& 31)) (xs ((v7 + (1 : Int32))).toNatClampNeg)) s) (fun r167 s166 =>
      if zin v7 L = true then
        if zin (v7 + (1 : Int32)) L = true then
          bnd (inT 1 (f_L_act F D ((xs (v7).toNatClampNeg) >>> ((1 : Int32) &&& 31)) (xs ((v7 + (1 : Int32))).toNatClampNeg)) s166) (fun r169 s168 =>
          if r167 = r169 then
            bnd (f_L_alike F s168) (fun r189 s188 =>
            if r189 = 0 then
              f_L_law_L555 F D xs L (fun y191 y192 y193 s190 =>
                if y191 = 0 then
                  lt (v7 + (2 : Int32)) (fun y194 =>
                  k452 (0 : Int32) y194 s190)
                else
                  if y192 = y193 then
                    bnd (inT 0 (f_X11_exchange F (0 : Int32)) s190) (fun r197 s196 =>
                    if r197 = (-2 : Int32) then
                      bnd (inT 0 (f_X11_exchange F (2 : Int32)) s196) (fun r204 s203 =>
                      bnd (inT 0 (f_X11_sum F) s203) (fun r206 s205 =>
                      if r204 = r206 then
                        f_L_law_j800 F D xs L k452 v7 s205
                      else
                        lt (v7 + (2 : Int32)) (fun y207 =>
                        k452 (0 : Int32) y207 s205)))
                    else
                      bnd (inT 0 (f_X11_exchange F (2 : Int32)) s196) (fun r199 s198 =>
                      bnd (inT 0 (f_X11_sum F) s198) (fun r201 s200 =>
                      if r199 < r201 then
                        f_L_law_j800 F D xs L k452 v7 s200
                      else
                        lt (v7 + (2 : Int32)) (fun y202 =>
                        k452 (0 : Int32) y202 s200))))
                  else
                    lt (v7 + (2 : Int32)) (fun y195 =>
                    k452 (0 : Int32) y195 s190)) v7 F (0 : Int32) (0 : Int32) (0 : Int32) (0 : Int32) s188
            else
              f_L_law_L555 F D xs L (fun y209 y210 y211 s208 =>
                if y209 = 0 then
                  lt (v7 + (2 : Int32)) (fun y212 =>
                  k452 (0 : Int32) y212 s208)
                else
                  if y210 = y211 then
                    bnd (inT 0 (f_X11_exchange F (0 : Int32)) s208) (fun r215 s214 =>
                    if r215 = (-2 : Int32) then
                      bnd (inT 0 (f_X11_exchange F (2 : Int32)) s214) (fun r222 s221 =>
                      bnd (inT 0 (f_X11_sum F) s221) (fun r224 s223 =>
                      if r222 = r224 then
                        f_L_law_j800 F D xs L k452 v7 s223
                      else
                        lt (v7 + (2 : Int32)) (fun y225 =>
                        k452 (0 : Int32) y225 s223)))
                    else
                      bnd (inT 0 (f_X11_exchange F (2 : Int32)) s214) (fun r217 s216 =>
                      bnd (inT 0 (f_X11_sum F) s216) (fun r219 s218 =>
                      if r217 < r219 then
                        f_L_law_j800 F D xs L k452 v7 s218
                      else
                        lt (v7 + (2 : Int32)) (fun y220 =>
                        k452 (0 : Int32) y220 s218))))
                  else
                    lt (v7 + (2 : Int32)) (fun y213 =>
                    k452 (0 : Int32) y213 s208)) v7 F (1 : Int32) (0 : Int32) (0 : Int32) (0 : Int32) s188)
          else
            f_L_law_L555 F D xs L (fun y171 y172 y173 s170 =>
              if y171 = 0 then
                lt (v7 + (2 : Int32)) (fun y174 =>
                k452 (0 : Int32) y174 s170)
              else
                if y172 = y173 then
                  bnd (inT 0 (f_X11_exchange F (0 : Int32)) s170) (fun r177 s176 =>
                  if r177 = (-2 : Int32) then
                    bnd (inT 0 (f_X11_exchange F (2 : Int32)) s176) (fun r184 s183 =>
                    bnd (inT 0 (f_X11_sum F) s183) (fun r186 s185 =>
                    if r184 = r186 then
                      f_L_law_j800 F D xs L k452 v7 s185
                    else
                      lt (v7 + (2 : Int32)) (fun y187 =>
                      k452 (0 : Int32) y187 s185)))
                  else
                    bnd (inT 0 (f_X11_exchange F (2 : Int32)) s176) (fun r179 s178 =>
                    bnd (inT 0 (f_X11_sum F) s178) (fun r181 s180 =>
                    if r179 < r181 then
                      f_L_law_j800 F D xs L k452 v7 s180
                    else
                      lt (v7 + (2 : Int32)) (fun y182 =>
                      k452 (0 : Int32) y182 s180))))
                else
                  lt (v7 + (2 : Int32)) (fun y175 =>
                  k452 (0 : Int32) y175 s170)) v7 F (0 : Int32) (0 : Int32) (0 : Int32) (0 : Int32) s168)
        else none
      else none)
    else none
  else none
set_option maxRecDepth 100000 in
set_option maxHeartbeats 4000000 in
theorem t_L_law_j496 {a : zA} {d : Nat} (F : Nat) (D : Nat) (K : zOK a code 13 RL (some .boolean) d) (hd : 2 * D + 9 ≤ d) (xs : Nat → Int32) (L : Nat) (hB : (141 : Nat) ≤ a.1.2.2.1 3) (hR : 141 ≤ a.2.2.2.1.cells ∧ 102862 ≤ a.2.2.2.1.slots) {bs : Nat} (hX : va_X bs L xs a.2.2.2.2.1 a.2.2.2.2.1.heap) (hbl : bs < a.2.2.2.2.1.heap.size) (hbA : bs < a.1.2.2.2) {G : Int32 → zM → State → Prop} (hr1 : ∀ (pc : Nat) (lv : List (Nat × Value)) (s : zM), decode code pc = .ok (.ireturn, 1) → zJ a 13 G (zKD2, false, 141, 102862) pc lv [.int 1] s (some (1, s))) {k452 : Int32 → Int32 → zM → Option (Int32 × zM)} (h452 : ∀ (v6 : Int32) (v7 : Int32) (s : zM), zJ a 13 G (zKD2, false, 141, 102862) 452 [(0, .ref bs), (1, .ref (a.1.2.2.2 + 69 * 0)), (2, .ref (a.1.2.2.2 + 69 * 1)), (6, .int v6), (7, .int v7)] [] s (k452 v6 v7 s)) (v7 : Int32) (s : zM) : zJ a 13 G (zKD2, false, 141, 102862) 496 [(0, .ref bs), (1, .ref (a.1.2.2.2 + 69 * 0)), (2, .ref (a.1.2.2.2 + 69 * 1)), (7, .int v7)] [] s (f_L_law_j496 F D xs L k452 v7 s) := by
  unfold f_L_law_j496
  refine z_aload_n K 1 rfl dL_law_496 ?_
  refine z_aload_n K 0 rfl dL_law_497 ?_
  refine z_iload K 3 rfl dL_law_498 ?_
  refine z_sld K hX hbl hbA dL_law_500 ?_
  refine z_iconst K ci_1 dL_law_501 ?_
  refine z_ishr K dL_law_502 ?_
  refine z_aload_n K 0 rfl dL_law_503 ?_
  refine z_iload K 3 rfl dL_law_504 ?_
  refine z_iconst K ci_1 dL_law_506 ?_
  refine z_iadd K dL_law_507 ?_
  refine z_sld K hX hbl hbA dL_law_508 ?_
  refine z_cTSi (As := [.ref ((wt a.1 0).2.2.2 + 0), .int ((xs (v7).toNatClampNeg) >>> ((1 : Int32) &&& 31)), .int (xs ((v7 + (1 : Int32))).toNatClampNeg)]) (rest := []) (X := (f_L_act F D ((xs (v7).toNatClampNeg) >>> ((1 : Int32) &&& 31)) (xs ((v7 + (1 : Int32))).toNatClampNeg))) (by decide) hB K hR (t_L_act (wt a.1 0) F D (d - 1) (by omega) ((xs (v7).toNatClampNeg) >>> ((1 : Int32) &&& 31)) (xs ((v7 + (1 : Int32))).toNatClampNeg) (sub 0 s)) mf_L_act ml_L_170 (Nat.le_of_ble_eq_true rfl) (by omega) rfl rfl (Nat.le_of_ble_eq_true rfl) dL_law_509 (fun r167 s166 => ?_)
  refine z_aload_n K 2 rfl dL_law_512 ?_
  refine z_aload_n K 0 rfl dL_law_513 ?_
  refine z_iload K 3 rfl dL_law_514 ?_
  refine z_sld K hX hbl hbA dL_law_516 ?_
  refine z_iconst K ci_1 dL_law_517 ?_
  refine z_ishr K dL_law_518 ?_
  refine z_aload_n K 0 rfl dL_law_519 ?_
  refine z_iload K 3 rfl dL_law_520 ?_
  refine z_iconst K ci_1 dL_law_522 ?_
  refine z_iadd K dL_law_523 ?_
  refine z_sld K hX hbl hbA dL_law_524 ?_
  refine z_cTSi (As := [.ref ((wt a.1 1).2.2.2 + 0), .int ((xs (v7).toNatClampNeg) >>> ((1 : Int32) &&& 31)), .int (xs ((v7 + (1 : Int32))).toNatClampNeg)]) (rest := [.int r167]) (X := (f_L_act F D ((xs (v7).toNatClampNeg) >>> ((1 : Int32) &&& 31)) (xs ((v7 + (1 : Int32))).toNatClampNeg))) (by decide) hB K hR (t_L_act (wt a.1 1) F D (d - 1) (by omega) ((xs (v7).toNatClampNeg) >>> ((1 : Int32) &&& 31)) (xs ((v7 + (1 : Int32))).toNatClampNeg) (sub 1 s166)) mf_L_act ml_L_170 (Nat.le_of_ble_eq_true rfl) (by omega) rfl rfl (Nat.le_of_ble_eq_true rfl) dL_law_525 (fun r169 s168 => ?_)
  refine z_icmp_ne K (tgt := 543) dL_law_528 (by decide) ?_ ?_
  · refine z_iconst K ci_0 dL_law_543 ?_
    refine z_istore K (lv' := [(6, .int (0 : Int32)), (0, .ref bs), (1, .ref (a.1.2.2.2 + 69 * 0)), (2, .ref (a.1.2.2.2 + 69 * 1)), (7, .int v7)]) dL_law_544 (Nat.le_of_ble_eq_true rfl) rfl ?_
    refine z_iconst K ci_0 dL_law_546 ?_
    refine z_istore K (lv' := [(8, .int (0 : Int32)), (6, .int (0 : Int32)), (0, .ref bs), (1, .ref (a.1.2.2.2 + 69 * 0)), (2, .ref (a.1.2.2.2 + 69 * 1)), (7, .int v7)]) dL_law_547 (Nat.le_of_ble_eq_true rfl) rfl ?_
    refine z_iconst K ci_0 dL_law_549 ?_
    refine z_istore K (lv' := [(9, .int (0 : Int32)), (8, .int (0 : Int32)), (6, .int (0 : Int32)), (0, .ref bs), (1, .ref (a.1.2.2.2 + 69 * 0)), (2, .ref (a.1.2.2.2 + 69 * 1)), (7, .int v7)]) dL_law_550 (Nat.le_of_ble_eq_true rfl) rfl ?_
    refine z_iconst K ci_0 dL_law_552 ?_
    refine z_istore K (lv' := [(10, .int (0 : Int32)), (9, .int (0 : Int32)), (8, .int (0 : Int32)), (6, .int (0 : Int32)), (0, .ref bs), (1, .ref (a.1.2.2.2 + 69 * 0)), (2, .ref (a.1.2.2.2 + 69 * 1)), (7, .int v7)]) dL_law_553 (Nat.le_of_ble_eq_true rfl) rfl ?_
    refine z_sub [4, 5, 6, 3, 7, 2, 1, 0] rfl ?_
    refine t_L_law_L555 F D K hd xs L hB hR hX hbl hbA hr1 v7 (fun y171 y172 y173 s170 => ?_) F (0 : Int32) (0 : Int32) (0 : Int32) (0 : Int32) s168
    refine z_iload K 3 rfl dL_law_751 ?_
    refine z_if_eq K (tgt := 834) dL_law_753 (by decide) ?_ ?_
    · refine z_iconst K ci_0 dL_law_834 ?_
      refine z_istore K (lv' := [(6, .int (0 : Int32)), (0, .ref bs), (1, .ref (a.1.2.2.2 + 69 * 0)), (2, .ref (a.1.2.2.2 + 69 * 1)), (7, .int v7), (8, .int y172), (9, .int y173)]) dL_law_835 (Nat.le_of_ble_eq_true rfl) rfl ?_
      refine z_iincN K (j := 4) (lv' := [(6, .int (0 : Int32)), (0, .ref bs), (1, .ref (a.1.2.2.2 + 69 * 0)), (2, .ref (a.1.2.2.2 + 69 * 1)), (8, .int y172), (9, .int y173)]) ci_2 rfl dL_law_837 (Nat.le_of_ble_eq_true rfl) rfl (fun y174 => ?_)
      refine z_goto K (tgt := 452) dL_law_840 (by decide) ?_
      refine z_sub [2, 3, 4, 1, 0] rfl ?_
      exact h452 (0 : Int32) y174 s170
    · refine z_iload K 5 rfl dL_law_756 ?_
      refine z_iload K 6 rfl dL_law_758 ?_
      refine z_icmp_ne K (tgt := 834) dL_law_760 (by decide) ?_ ?_
      · refine z_iconst K ci_0 dL_law_834 ?_
        refine z_istore K (lv' := [(6, .int (0 : Int32)), (0, .ref bs), (1, .ref (a.1.2.2.2 + 69 * 0)), (2, .ref (a.1.2.2.2 + 69 * 1)), (7, .int v7), (8, .int y172), (9, .int y173)]) dL_law_835 (Nat.le_of_ble_eq_true rfl) rfl ?_
        refine z_iincN K (j := 4) (lv' := [(6, .int (0 : Int32)), (0, .ref bs), (1, .ref (a.1.2.2.2 + 69 * 0)), (2, .ref (a.1.2.2.2 + 69 * 1)), (8, .int y172), (9, .int y173)]) ci_2 rfl dL_law_837 (Nat.le_of_ble_eq_true rfl) rfl (fun y175 => ?_)
        refine z_goto K (tgt := 452) dL_law_840 (by decide) ?_
        refine z_sub [2, 3, 4, 1, 0] rfl ?_
        exact h452 (0 : Int32) y175 s170
      · refine z_aload_n K 1 rfl dL_law_763 ?_
        refine z_iconst K ci_0 dL_law_764 ?_
        refine z_cTVi (As := [.int (0 : Int32)]) (rest := []) (X := (f_X11_exchange F (0 : Int32))) (by decide) hB K hR (t_X11_exchange (wt a.1 0) F (d - 1) (by omega) (0 : Int32) (sub 0 s170)) mf_X11_exchange ml_L_77 (Nat.le_of_ble_eq_true rfl) (by omega) rfl rfl rfl (Nat.le_of_ble_eq_true rfl) dL_law_765 (fun r177 s176 => ?_)
        refine z_bipush K cb_m2 dL_law_768 ?_
        refine z_icmp_ne K (tgt := 788) dL_law_770 (by decide) ?_ ?_
        · refine z_aload_n K 1 rfl dL_law_788 ?_
          refine z_iconst K ci_2 dL_law_789 ?_
          refine z_cTVi (As := [.int (2 : Int32)]) (rest := []) (X := (f_X11_exchange F (2 : Int32))) (by decide) hB K hR (t_X11_exchange (wt a.1 0) F (d - 1) (by omega) (2 : Int32) (sub 0 s176)) mf_X11_exchange ml_L_77 (Nat.le_of_ble_eq_true rfl) (by omega) rfl rfl rfl (Nat.le_of_ble_eq_true rfl) dL_law_790 (fun r179 s178 => ?_)
          refine z_aload_n K 1 rfl dL_law_793 ?_
          refine z_cTVi (As := []) (rest := [.int r179]) (X := (f_X11_sum F)) (by decide) hB K hR (t_X11_sum (wt a.1 0) F (d - 1) (by omega) (sub 0 s178)) mf_X11_sum ml_L_152 (Nat.le_of_ble_eq_true rfl) (by omega) rfl rfl rfl (Nat.le_of_ble_eq_true rfl) dL_law_794 (fun r181 s180 => ?_)
          refine z_icmp_ge K (tgt := 834) dL_law_797 (by decide) ?_ ?_
          · refine z_iconst K ci_0 dL_law_834 ?_
            refine z_istore K (lv' := [(6, .int (0 : Int32)), (0, .ref bs), (1, .ref (a.1.2.2.2 + 69 * 0)), (2, .ref (a.1.2.2.2 + 69 * 1)), (7, .int v7), (8, .int y172), (9, .int y173)]) dL_law_835 (Nat.le_of_ble_eq_true rfl) rfl ?_
            refine z_iincN K (j := 4) (lv' := [(6, .int (0 : Int32)), (0, .ref bs), (1, .ref (a.1.2.2.2 + 69 * 0)), (2, .ref (a.1.2.2.2 + 69 * 1)), (8, .int y172), (9, .int y173)]) ci_2 rfl dL_law_837 (Nat.le_of_ble_eq_true rfl) rfl (fun y182 => ?_)
            refine z_goto K (tgt := 452) dL_law_840 (by decide) ?_
            refine z_sub [2, 3, 4, 1, 0] rfl ?_
            exact h452 (0 : Int32) y182 s180
          · refine z_sub [0, 1, 2, 4] rfl ?_
            exact t_L_law_j800 F D K hd xs L hB hR hX hbl hbA hr1 h452 v7 s180
        · refine z_aload_n K 1 rfl dL_law_773 ?_
          refine z_iconst K ci_2 dL_law_774 ?_
          refine z_cTVi (As := [.int (2 : Int32)]) (rest := []) (X := (f_X11_exchange F (2 : Int32))) (by decide) hB K hR (t_X11_exchange (wt a.1 0) F (d - 1) (by omega) (2 : Int32) (sub 0 s176)) mf_X11_exchange ml_L_77 (Nat.le_of_ble_eq_true rfl) (by omega) rfl rfl rfl (Nat.le_of_ble_eq_true rfl) dL_law_775 (fun r184 s183 => ?_)
          refine z_aload_n K 1 rfl dL_law_778 ?_
          refine z_cTVi (As := []) (rest := [.int r184]) (X := (f_X11_sum F)) (by decide) hB K hR (t_X11_sum (wt a.1 0) F (d - 1) (by omega) (sub 0 s183)) mf_X11_sum ml_L_152 (Nat.le_of_ble_eq_true rfl) (by omega) rfl rfl rfl (Nat.le_of_ble_eq_true rfl) dL_law_779 (fun r186 s185 => ?_)
          refine z_icmp_ne K (tgt := 834) dL_law_782 (by decide) ?_ ?_
          · refine z_iconst K ci_0 dL_law_834 ?_
            refine z_istore K (lv' := [(6, .int (0 : Int32)), (0, .ref bs), (1, .ref (a.1.2.2.2 + 69 * 0)), (2, .ref (a.1.2.2.2 + 69 * 1)), (7, .int v7), (8, .int y172), (9, .int y173)]) dL_law_835 (Nat.le_of_ble_eq_true rfl) rfl ?_
            refine z_iincN K (j := 4) (lv' := [(6, .int (0 : Int32)), (0, .ref bs), (1, .ref (a.1.2.2.2 + 69 * 0)), (2, .ref (a.1.2.2.2 + 69 * 1)), (8, .int y172), (9, .int y173)]) ci_2 rfl dL_law_837 (Nat.le_of_ble_eq_true rfl) rfl (fun y187 => ?_)
            refine z_goto K (tgt := 452) dL_law_840 (by decide) ?_
            refine z_sub [2, 3, 4, 1, 0] rfl ?_
            exact h452 (0 : Int32) y187 s185
          · refine z_goto K (tgt := 800) dL_law_785 (by decide) ?_
            refine z_sub [0, 1, 2, 4] rfl ?_
            exact t_L_law_j800 F D K hd xs L hB hR hX hbl hbA hr1 h452 v7 s185
  · refine z_aload_n K 1 rfl dL_law_531 ?_
    refine z_aload_n K 2 rfl dL_law_532 ?_
    refine z_cXi (As := [.ref (a.1.2.2.2 + 69 * 0), .ref (a.1.2.2.2 + 69 * 1)]) (rest := []) K hR hX hbl hbA (t_L_alike a.1 F (d - 1) (by omega) hB s168) mf_L_alike ml_L_174 (Nat.le_of_ble_eq_true rfl) (by omega) rfl rfl (Nat.le_of_ble_eq_true rfl) dL_law_533 (fun r189 s188 => ?_)
    refine z_if_eq K (tgt := 543) dL_law_536 (by decide) ?_ ?_
    · refine z_iconst K ci_0 dL_law_543 ?_
      refine z_istore K (lv' := [(6, .int (0 : Int32)), (0, .ref bs), (1, .ref (a.1.2.2.2 + 69 * 0)), (2, .ref (a.1.2.2.2 + 69 * 1)), (7, .int v7)]) dL_law_544 (Nat.le_of_ble_eq_true rfl) rfl ?_
      refine z_iconst K ci_0 dL_law_546 ?_
      refine z_istore K (lv' := [(8, .int (0 : Int32)), (6, .int (0 : Int32)), (0, .ref bs), (1, .ref (a.1.2.2.2 + 69 * 0)), (2, .ref (a.1.2.2.2 + 69 * 1)), (7, .int v7)]) dL_law_547 (Nat.le_of_ble_eq_true rfl) rfl ?_
      refine z_iconst K ci_0 dL_law_549 ?_
      refine z_istore K (lv' := [(9, .int (0 : Int32)), (8, .int (0 : Int32)), (6, .int (0 : Int32)), (0, .ref bs), (1, .ref (a.1.2.2.2 + 69 * 0)), (2, .ref (a.1.2.2.2 + 69 * 1)), (7, .int v7)]) dL_law_550 (Nat.le_of_ble_eq_true rfl) rfl ?_
      refine z_iconst K ci_0 dL_law_552 ?_
      refine z_istore K (lv' := [(10, .int (0 : Int32)), (9, .int (0 : Int32)), (8, .int (0 : Int32)), (6, .int (0 : Int32)), (0, .ref bs), (1, .ref (a.1.2.2.2 + 69 * 0)), (2, .ref (a.1.2.2.2 + 69 * 1)), (7, .int v7)]) dL_law_553 (Nat.le_of_ble_eq_true rfl) rfl ?_
      refine z_sub [4, 5, 6, 3, 7, 2, 1, 0] rfl ?_
      refine t_L_law_L555 F D K hd xs L hB hR hX hbl hbA hr1 v7 (fun y191 y192 y193 s190 => ?_) F (0 : Int32) (0 : Int32) (0 : Int32) (0 : Int32) s188
      refine z_iload K 3 rfl dL_law_751 ?_
      refine z_if_eq K (tgt := 834) dL_law_753 (by decide) ?_ ?_
      · refine z_iconst K ci_0 dL_law_834 ?_
        refine z_istore K (lv' := [(6, .int (0 : Int32)), (0, .ref bs), (1, .ref (a.1.2.2.2 + 69 * 0)), (2, .ref (a.1.2.2.2 + 69 * 1)), (7, .int v7), (8, .int y192), (9, .int y193)]) dL_law_835 (Nat.le_of_ble_eq_true rfl) rfl ?_
        refine z_iincN K (j := 4) (lv' := [(6, .int (0 : Int32)), (0, .ref bs), (1, .ref (a.1.2.2.2 + 69 * 0)), (2, .ref (a.1.2.2.2 + 69 * 1)), (8, .int y192), (9, .int y193)]) ci_2 rfl dL_law_837 (Nat.le_of_ble_eq_true rfl) rfl (fun y194 => ?_)
        refine z_goto K (tgt := 452) dL_law_840 (by decide) ?_
        refine z_sub [2, 3, 4, 1, 0] rfl ?_
        exact h452 (0 : Int32) y194 s190
      · refine z_iload K 5 rfl dL_law_756 ?_
        refine z_iload K 6 rfl dL_law_758 ?_
        refine z_icmp_ne K (tgt := 834) dL_law_760 (by decide) ?_ ?_
        · refine z_iconst K ci_0 dL_law_834 ?_
          refine z_istore K (lv' := [(6, .int (0 : Int32)), (0, .ref bs), (1, .ref (a.1.2.2.2 + 69 * 0)), (2, .ref (a.1.2.2.2 + 69 * 1)), (7, .int v7), (8, .int y192), (9, .int y193)]) dL_law_835 (Nat.le_of_ble_eq_true rfl) rfl ?_
          refine z_iincN K (j := 4) (lv' := [(6, .int (0 : Int32)), (0, .ref bs), (1, .ref (a.1.2.2.2 + 69 * 0)), (2, .ref (a.1.2.2.2 + 69 * 1)), (8, .int y192), (9, .int y193)]) ci_2 rfl dL_law_837 (Nat.le_of_ble_eq_true rfl) rfl (fun y195 => ?_)
          refine z_goto K (tgt := 452) dL_law_840 (by decide) ?_
          refine z_sub [2, 3, 4, 1, 0] rfl ?_
          exact h452 (0 : Int32) y195 s190
        · refine z_aload_n K 1 rfl dL_law_763 ?_
          refine z_iconst K ci_0 dL_law_764 ?_
          refine z_cTVi (As := [.int (0 : Int32)]) (rest := []) (X := (f_X11_exchange F (0 : Int32))) (by decide) hB K hR (t_X11_exchange (wt a.1 0) F (d - 1) (by omega) (0 : Int32) (sub 0 s190)) mf_X11_exchange ml_L_77 (Nat.le_of_ble_eq_true rfl) (by omega) rfl rfl rfl (Nat.le_of_ble_eq_true rfl) dL_law_765 (fun r197 s196 => ?_)
          refine z_bipush K cb_m2 dL_law_768 ?_
          refine z_icmp_ne K (tgt := 788) dL_law_770 (by decide) ?_ ?_
          · refine z_aload_n K 1 rfl dL_law_788 ?_
            refine z_iconst K ci_2 dL_law_789 ?_
            refine z_cTVi (As := [.int (2 : Int32)]) (rest := []) (X := (f_X11_exchange F (2 : Int32))) (by decide) hB K hR (t_X11_exchange (wt a.1 0) F (d - 1) (by omega) (2 : Int32) (sub 0 s196)) mf_X11_exchange ml_L_77 (Nat.le_of_ble_eq_true rfl) (by omega) rfl rfl rfl (Nat.le_of_ble_eq_true rfl) dL_law_790 (fun r199 s198 => ?_)
            refine z_aload_n K 1 rfl dL_law_793 ?_
            refine z_cTVi (As := []) (rest := [.int r199]) (X := (f_X11_sum F)) (by decide) hB K hR (t_X11_sum (wt a.1 0) F (d - 1) (by omega) (sub 0 s198)) mf_X11_sum ml_L_152 (Nat.le_of_ble_eq_true rfl) (by omega) rfl rfl rfl (Nat.le_of_ble_eq_true rfl) dL_law_794 (fun r201 s200 => ?_)
            refine z_icmp_ge K (tgt := 834) dL_law_797 (by decide) ?_ ?_
            · refine z_iconst K ci_0 dL_law_834 ?_
              refine z_istore K (lv' := [(6, .int (0 : Int32)), (0, .ref bs), (1, .ref (a.1.2.2.2 + 69 * 0)), (2, .ref (a.1.2.2.2 + 69 * 1)), (7, .int v7), (8, .int y192), (9, .int y193)]) dL_law_835 (Nat.le_of_ble_eq_true rfl) rfl ?_
              refine z_iincN K (j := 4) (lv' := [(6, .int (0 : Int32)), (0, .ref bs), (1, .ref (a.1.2.2.2 + 69 * 0)), (2, .ref (a.1.2.2.2 + 69 * 1)), (8, .int y192), (9, .int y193)]) ci_2 rfl dL_law_837 (Nat.le_of_ble_eq_true rfl) rfl (fun y202 => ?_)
              refine z_goto K (tgt := 452) dL_law_840 (by decide) ?_
              refine z_sub [2, 3, 4, 1, 0] rfl ?_
              exact h452 (0 : Int32) y202 s200
            · refine z_sub [0, 1, 2, 4] rfl ?_
              exact t_L_law_j800 F D K hd xs L hB hR hX hbl hbA hr1 h452 v7 s200
          · refine z_aload_n K 1 rfl dL_law_773 ?_
            refine z_iconst K ci_2 dL_law_774 ?_
            refine z_cTVi (As := [.int (2 : Int32)]) (rest := []) (X := (f_X11_exchange F (2 : Int32))) (by decide) hB K hR (t_X11_exchange (wt a.1 0) F (d - 1) (by omega) (2 : Int32) (sub 0 s196)) mf_X11_exchange ml_L_77 (Nat.le_of_ble_eq_true rfl) (by omega) rfl rfl rfl (Nat.le_of_ble_eq_true rfl) dL_law_775 (fun r204 s203 => ?_)
            refine z_aload_n K 1 rfl dL_law_778 ?_
            refine z_cTVi (As := []) (rest := [.int r204]) (X := (f_X11_sum F)) (by decide) hB K hR (t_X11_sum (wt a.1 0) F (d - 1) (by omega) (sub 0 s203)) mf_X11_sum ml_L_152 (Nat.le_of_ble_eq_true rfl) (by omega) rfl rfl rfl (Nat.le_of_ble_eq_true rfl) dL_law_779 (fun r206 s205 => ?_)
            refine z_icmp_ne K (tgt := 834) dL_law_782 (by decide) ?_ ?_
            · refine z_iconst K ci_0 dL_law_834 ?_
              refine z_istore K (lv' := [(6, .int (0 : Int32)), (0, .ref bs), (1, .ref (a.1.2.2.2 + 69 * 0)), (2, .ref (a.1.2.2.2 + 69 * 1)), (7, .int v7), (8, .int y192), (9, .int y193)]) dL_law_835 (Nat.le_of_ble_eq_true rfl) rfl ?_
              refine z_iincN K (j := 4) (lv' := [(6, .int (0 : Int32)), (0, .ref bs), (1, .ref (a.1.2.2.2 + 69 * 0)), (2, .ref (a.1.2.2.2 + 69 * 1)), (8, .int y192), (9, .int y193)]) ci_2 rfl dL_law_837 (Nat.le_of_ble_eq_true rfl) rfl (fun y207 => ?_)
              refine z_goto K (tgt := 452) dL_law_840 (by decide) ?_
              refine z_sub [2, 3, 4, 1, 0] rfl ?_
              exact h452 (0 : Int32) y207 s205
            · refine z_goto K (tgt := 800) dL_law_785 (by decide) ?_
              refine z_sub [0, 1, 2, 4] rfl ?_
              exact t_L_law_j800 F D K hd xs L hB hR hX hbl hbA hr1 h452 v7 s205
    · refine z_iconst K ci_1 dL_law_539 ?_
      refine z_goto K (tgt := 544) dL_law_540 (by decide) ?_
      refine z_istore K (lv' := [(6, .int (1 : Int32)), (0, .ref bs), (1, .ref (a.1.2.2.2 + 69 * 0)), (2, .ref (a.1.2.2.2 + 69 * 1)), (7, .int v7)]) dL_law_544 (Nat.le_of_ble_eq_true rfl) rfl ?_
      refine z_iconst K ci_0 dL_law_546 ?_
      refine z_istore K (lv' := [(8, .int (0 : Int32)), (6, .int (1 : Int32)), (0, .ref bs), (1, .ref (a.1.2.2.2 + 69 * 0)), (2, .ref (a.1.2.2.2 + 69 * 1)), (7, .int v7)]) dL_law_547 (Nat.le_of_ble_eq_true rfl) rfl ?_
      refine z_iconst K ci_0 dL_law_549 ?_
      refine z_istore K (lv' := [(9, .int (0 : Int32)), (8, .int (0 : Int32)), (6, .int (1 : Int32)), (0, .ref bs), (1, .ref (a.1.2.2.2 + 69 * 0)), (2, .ref (a.1.2.2.2 + 69 * 1)), (7, .int v7)]) dL_law_550 (Nat.le_of_ble_eq_true rfl) rfl ?_
      refine z_iconst K ci_0 dL_law_552 ?_
      refine z_istore K (lv' := [(10, .int (0 : Int32)), (9, .int (0 : Int32)), (8, .int (0 : Int32)), (6, .int (1 : Int32)), (0, .ref bs), (1, .ref (a.1.2.2.2 + 69 * 0)), (2, .ref (a.1.2.2.2 + 69 * 1)), (7, .int v7)]) dL_law_553 (Nat.le_of_ble_eq_true rfl) rfl ?_
      refine z_sub [4, 5, 6, 3, 7, 2, 1, 0] rfl ?_
      refine t_L_law_L555 F D K hd xs L hB hR hX hbl hbA hr1 v7 (fun y209 y210 y211 s208 => ?_) F (1 : Int32) (0 : Int32) (0 : Int32) (0 : Int32) s188
      refine z_iload K 3 rfl dL_law_751 ?_
      refine z_if_eq K (tgt := 834) dL_law_753 (by decide) ?_ ?_
      · refine z_iconst K ci_0 dL_law_834 ?_
        refine z_istore K (lv' := [(6, .int (0 : Int32)), (0, .ref bs), (1, .ref (a.1.2.2.2 + 69 * 0)), (2, .ref (a.1.2.2.2 + 69 * 1)), (7, .int v7), (8, .int y210), (9, .int y211)]) dL_law_835 (Nat.le_of_ble_eq_true rfl) rfl ?_
        refine z_iincN K (j := 4) (lv' := [(6, .int (0 : Int32)), (0, .ref bs), (1, .ref (a.1.2.2.2 + 69 * 0)), (2, .ref (a.1.2.2.2 + 69 * 1)), (8, .int y210), (9, .int y211)]) ci_2 rfl dL_law_837 (Nat.le_of_ble_eq_true rfl) rfl (fun y212 => ?_)
        refine z_goto K (tgt := 452) dL_law_840 (by decide) ?_
        refine z_sub [2, 3, 4, 1, 0] rfl ?_
        exact h452 (0 : Int32) y212 s208
      · refine z_iload K 5 rfl dL_law_756 ?_
        refine z_iload K 6 rfl dL_law_758 ?_
        refine z_icmp_ne K (tgt := 834) dL_law_760 (by decide) ?_ ?_
        · refine z_iconst K ci_0 dL_law_834 ?_
          refine z_istore K (lv' := [(6, .int (0 : Int32)), (0, .ref bs), (1, .ref (a.1.2.2.2 + 69 * 0)), (2, .ref (a.1.2.2.2 + 69 * 1)), (7, .int v7), (8, .int y210), (9, .int y211)]) dL_law_835 (Nat.le_of_ble_eq_true rfl) rfl ?_
          refine z_iincN K (j := 4) (lv' := [(6, .int (0 : Int32)), (0, .ref bs), (1, .ref (a.1.2.2.2 + 69 * 0)), (2, .ref (a.1.2.2.2 + 69 * 1)), (8, .int y210), (9, .int y211)]) ci_2 rfl dL_law_837 (Nat.le_of_ble_eq_true rfl) rfl (fun y213 => ?_)
          refine z_goto K (tgt := 452) dL_law_840 (by decide) ?_
          refine z_sub [2, 3, 4, 1, 0] rfl ?_
          exact h452 (0 : Int32) y213 s208
        · refine z_aload_n K 1 rfl dL_law_763 ?_
          refine z_iconst K ci_0 dL_law_764 ?_
          refine z_cTVi (As := [.int (0 : Int32)]) (rest := []) (X := (f_X11_exchange F (0 : Int32))) (by decide) hB K hR (t_X11_exchange (wt a.1 0) F (d - 1) (by omega) (0 : Int32) (sub 0 s208)) mf_X11_exchange ml_L_77 (Nat.le_of_ble_eq_true rfl) (by omega) rfl rfl rfl (Nat.le_of_ble_eq_true rfl) dL_law_765 (fun r215 s214 => ?_)
          refine z_bipush K cb_m2 dL_law_768 ?_
          refine z_icmp_ne K (tgt := 788) dL_law_770 (by decide) ?_ ?_
          · refine z_aload_n K 1 rfl dL_law_788 ?_
            refine z_iconst K ci_2 dL_law_789 ?_
            refine z_cTVi (As := [.int (2 : Int32)]) (rest := []) (X := (f_X11_exchange F (2 : Int32))) (by decide) hB K hR (t_X11_exchange (wt a.1 0) F (d - 1) (by omega) (2 : Int32) (sub 0 s214)) mf_X11_exchange ml_L_77 (Nat.le_of_ble_eq_true rfl) (by omega) rfl rfl rfl (Nat.le_of_ble_eq_true rfl) dL_law_790 (fun r217 s216 => ?_)
            refine z_aload_n K 1 rfl dL_law_793 ?_
            refine z_cTVi (As := []) (rest := [.int r217]) (X := (f_X11_sum F)) (by decide) hB K hR (t_X11_sum (wt a.1 0) F (d - 1) (by omega) (sub 0 s216)) mf_X11_sum ml_L_152 (Nat.le_of_ble_eq_true rfl) (by omega) rfl rfl rfl (Nat.le_of_ble_eq_true rfl) dL_law_794 (fun r219 s218 => ?_)
            refine z_icmp_ge K (tgt := 834) dL_law_797 (by decide) ?_ ?_
            · refine z_iconst K ci_0 dL_law_834 ?_
              refine z_istore K (lv' := [(6, .int (0 : Int32)), (0, .ref bs), (1, .ref (a.1.2.2.2 + 69 * 0)), (2, .ref (a.1.2.2.2 + 69 * 1)), (7, .int v7), (8, .int y210), (9, .int y211)]) dL_law_835 (Nat.le_of_ble_eq_true rfl) rfl ?_
              refine z_iincN K (j := 4) (lv' := [(6, .int (0 : Int32)), (0, .ref bs), (1, .ref (a.1.2.2.2 + 69 * 0)), (2, .ref (a.1.2.2.2 + 69 * 1)), (8, .int y210), (9, .int y211)]) ci_2 rfl dL_law_837 (Nat.le_of_ble_eq_true rfl) rfl (fun y220 => ?_)
              refine z_goto K (tgt := 452) dL_law_840 (by decide) ?_
              refine z_sub [2, 3, 4, 1, 0] rfl ?_
              exact h452 (0 : Int32) y220 s218
            · refine z_sub [0, 1, 2, 4] rfl ?_
              exact t_L_law_j800 F D K hd xs L hB hR hX hbl hbA hr1 h452 v7 s218
          · refine z_aload_n K 1 rfl dL_law_773 ?_
            refine z_iconst K ci_2 dL_law_774 ?_
            refine z_cTVi (As := [.int (2 : Int32)]) (rest := []) (X := (f_X11_exchange F (2 : Int32))) (by decide) hB K hR (t_X11_exchange (wt a.1 0) F (d - 1) (by omega) (2 : Int32) (sub 0 s214)) mf_X11_exchange ml_L_77 (Nat.le_of_ble_eq_true rfl) (by omega) rfl rfl rfl (Nat.le_of_ble_eq_true rfl) dL_law_775 (fun r222 s221 => ?_)
            refine z_aload_n K 1 rfl dL_law_778 ?_
            refine z_cTVi (As := []) (rest := [.int r222]) (X := (f_X11_sum F)) (by decide) hB K hR (t_X11_sum (wt a.1 0) F (d - 1) (by omega) (sub 0 s221)) mf_X11_sum ml_L_152 (Nat.le_of_ble_eq_true rfl) (by omega) rfl rfl rfl (Nat.le_of_ble_eq_true rfl) dL_law_779 (fun r224 s223 => ?_)
            refine z_icmp_ne K (tgt := 834) dL_law_782 (by decide) ?_ ?_
            · refine z_iconst K ci_0 dL_law_834 ?_
              refine z_istore K (lv' := [(6, .int (0 : Int32)), (0, .ref bs), (1, .ref (a.1.2.2.2 + 69 * 0)), (2, .ref (a.1.2.2.2 + 69 * 1)), (7, .int v7), (8, .int y210), (9, .int y211)]) dL_law_835 (Nat.le_of_ble_eq_true rfl) rfl ?_
              refine z_iincN K (j := 4) (lv' := [(6, .int (0 : Int32)), (0, .ref bs), (1, .ref (a.1.2.2.2 + 69 * 0)), (2, .ref (a.1.2.2.2 + 69 * 1)), (8, .int y210), (9, .int y211)]) ci_2 rfl dL_law_837 (Nat.le_of_ble_eq_true rfl) rfl (fun y225 => ?_)
              refine z_goto K (tgt := 452) dL_law_840 (by decide) ?_
              refine z_sub [2, 3, 4, 1, 0] rfl ?_
              exact h452 (0 : Int32) y225 s223
            · refine z_goto K (tgt := 800) dL_law_785 (by decide) ?_
              refine z_sub [0, 1, 2, 4] rfl ?_
              exact t_L_law_j800 F D K hd xs L hB hR hX hbl hbA hr1 h452 v7 s223
def f_L_law_L452 (F : Nat) (D : Nat) (xs : Nat → Int32) (L : Nat) (k843 : Int32 → zM → Option (Int32 × zM)) : Nat → Int32 → Int32 → zM → Option (Int32 × zM)
  | 0, _, _, _ => none
  | n + 1, v6, v7, s =>
    if (v7 + (1 : Int32)) < (nI L) then
      if v7 < (29 : Int32) then
        if v6 = 0 then
          f_L_law_L555 F D xs L (fun y134 y135 y136 s133 =>
            if y134 = 0 then
              lt (v7 + (2 : Int32)) (fun y137 =>
              f_L_law_L452 F D xs L k843 n (0 : Int32) y137 s133)
            else
              if y135 = y136 then
                bnd (inT 0 (f_X11_exchange F (0 : Int32)) s133) (fun r140 s139 =>
                if r140 = (-2 : Int32) then
                  bnd (inT 0 (f_X11_exchange F (2 : Int32)) s139) (fun r162 s161 =>
                  bnd (inT 0 (f_X11_sum F) s161) (fun r164 s163 =>
                  if r162 = r164 then
                    f_L_law_j800 F D xs L (f_L_law_L452 F D xs L k843 n) v7 s163
                  else
                    lt (v7 + (2 : Int32)) (fun y165 =>
                    f_L_law_L452 F D xs L k843 n (0 : Int32) y165 s163)))
                else
                  bnd (inT 0 (f_X11_exchange F (2 : Int32)) s139) (fun r142 s141 =>
                  bnd (inT 0 (f_X11_sum F) s141) (fun r144 s143 =>
                  if r142 < r144 then
                    f_L_law_j800 F D xs L (f_L_law_L452 F D xs L k843 n) v7 s143
                  else
                    lt (v7 + (2 : Int32)) (fun y145 =>
                    f_L_law_L452 F D xs L k843 n (0 : Int32) y145 s143))))
              else
                lt (v7 + (2 : Int32)) (fun y138 =>
                f_L_law_L452 F D xs L k843 n (0 : Int32) y138 s133)) v7 F (0 : Int32) (0 : Int32) (0 : Int32) (0 : Int32) s
        else
          if zin (v7 + (1 : Int32)) L = true then
            if (xs ((v7 + (1 : Int32))).toNatClampNeg) = (-1 : Int32) then
              f_L_law_j496 F D xs L (f_L_law_L452 F D xs L k843 n) v7 s
            else
              if zin (v7 + (1 : Int32)) L = true then
                bnd (inT 1 (f_L_idle F D (xs ((v7 + (1 : Int32))).toNatClampNeg)) s) (fun r227 s226 =>
                if r227 = 0 then
                  f_L_law_L555 F D xs L (fun y229 y230 y231 s228 =>
                    if y229 = 0 then
                      lt (v7 + (2 : Int32)) (fun y232 =>
                      f_L_law_L452 F D xs L k843 n (0 : Int32) y232 s228)
                    else
                      if y230 = y231 then
                        bnd (inT 0 (f_X11_exchange F (0 : Int32)) s228) (fun r235 s234 =>
                        if r235 = (-2 : Int32) then
                          bnd (inT 0 (f_X11_exchange F (2 : Int32)) s234) (fun r242 s241 =>
                          bnd (inT 0 (f_X11_sum F) s241) (fun r244 s243 =>
                          if r242 = r244 then
                            f_L_law_j800 F D xs L (f_L_law_L452 F D xs L k843 n) v7 s243
                          else
                            lt (v7 + (2 : Int32)) (fun y245 =>
                            f_L_law_L452 F D xs L k843 n (0 : Int32) y245 s243)))
                        else
                          bnd (inT 0 (f_X11_exchange F (2 : Int32)) s234) (fun r237 s236 =>
                          bnd (inT 0 (f_X11_sum F) s236) (fun r239 s238 =>
                          if r237 < r239 then
                            f_L_law_j800 F D xs L (f_L_law_L452 F D xs L k843 n) v7 s238
                          else
                            lt (v7 + (2 : Int32)) (fun y240 =>
                            f_L_law_L452 F D xs L k843 n (0 : Int32) y240 s238))))
                      else
                        lt (v7 + (2 : Int32)) (fun y233 =>
                        f_L_law_L452 F D xs L k843 n (0 : Int32) y233 s228)) v7 F (0 : Int32) (0 : Int32) (0 : Int32) (0 : Int32) s226
                else
                  f_L_law_j496 F D xs L (f_L_law_L452 F D xs L k843 n) v7 s226)
              else none
          else none
      else
        k843 v6 s
    else
      k843 v6 s
set_option maxRecDepth 100000 in
set_option maxHeartbeats 4000000 in
theorem t_L_law_L452 {a : zA} {d : Nat} (F : Nat) (D : Nat) (K : zOK a code 13 RL (some .boolean) d) (hd : 2 * D + 9 ≤ d) (xs : Nat → Int32) (L : Nat) (hB : (141 : Nat) ≤ a.1.2.2.1 3) (hR : 141 ≤ a.2.2.2.1.cells ∧ 102862 ≤ a.2.2.2.1.slots) {bs : Nat} (hX : va_X bs L xs a.2.2.2.2.1 a.2.2.2.2.1.heap) (hbl : bs < a.2.2.2.2.1.heap.size) (hbA : bs < a.1.2.2.2) {G : Int32 → zM → State → Prop} (hr1 : ∀ (pc : Nat) (lv : List (Nat × Value)) (s : zM), decode code pc = .ok (.ireturn, 1) → zJ a 13 G (zKD2, false, 141, 102862) pc lv [.int 1] s (some (1, s))) {k843 : Int32 → zM → Option (Int32 × zM)} (h843 : ∀ (v6 : Int32) (s : zM), zJ a 13 G (zKD2, false, 141, 102862) 843 [(6, .int v6)] [] s (k843 v6 s)) : ∀ (n : Nat) (v6 : Int32) (v7 : Int32) (s : zM), zJ a 13 G (zKD2, false, 141, 102862) 452 [(0, .ref bs), (1, .ref (a.1.2.2.2 + 69 * 0)), (2, .ref (a.1.2.2.2 + 69 * 1)), (6, .int v6), (7, .int v7)] [] s (f_L_law_L452 F D xs L k843 n v6 v7 s) := by
  intro n
  induction n with
  | zero => intros; exact z_none
  | succ n ih =>
    intro v6 v7 s
    rw [f_L_law_L452]
    refine z_iload K 4 rfl dL_law_452 ?_
    refine z_iconst K ci_1 dL_law_454 ?_
    refine z_iadd K dL_law_455 ?_
    refine z_aload_n K 0 rfl dL_law_456 ?_
    refine z_slen K hX hbl hbA dL_law_457 ?_
    refine z_icmp_ge K (tgt := 843) dL_law_458 (by decide) ?_ ?_
    · refine z_sub [3] rfl ?_
      exact h843 v6 s
    · refine z_iload K 4 rfl dL_law_461 ?_
      refine z_bipush K cb_29 dL_law_463 ?_
      refine z_icmp_ge K (tgt := 843) dL_law_465 (by decide) ?_ ?_
      · refine z_sub [3] rfl ?_
        exact h843 v6 s
      · refine z_iload K 3 rfl dL_law_468 ?_
        refine z_if_eq K (tgt := 543) dL_law_470 (by decide) ?_ ?_
        · refine z_iconst K ci_0 dL_law_543 ?_
          refine z_istore K (lv' := [(6, .int (0 : Int32)), (0, .ref bs), (1, .ref (a.1.2.2.2 + 69 * 0)), (2, .ref (a.1.2.2.2 + 69 * 1)), (7, .int v7)]) dL_law_544 (Nat.le_of_ble_eq_true rfl) rfl ?_
          refine z_iconst K ci_0 dL_law_546 ?_
          refine z_istore K (lv' := [(8, .int (0 : Int32)), (6, .int (0 : Int32)), (0, .ref bs), (1, .ref (a.1.2.2.2 + 69 * 0)), (2, .ref (a.1.2.2.2 + 69 * 1)), (7, .int v7)]) dL_law_547 (Nat.le_of_ble_eq_true rfl) rfl ?_
          refine z_iconst K ci_0 dL_law_549 ?_
          refine z_istore K (lv' := [(9, .int (0 : Int32)), (8, .int (0 : Int32)), (6, .int (0 : Int32)), (0, .ref bs), (1, .ref (a.1.2.2.2 + 69 * 0)), (2, .ref (a.1.2.2.2 + 69 * 1)), (7, .int v7)]) dL_law_550 (Nat.le_of_ble_eq_true rfl) rfl ?_
          refine z_iconst K ci_0 dL_law_552 ?_
          refine z_istore K (lv' := [(10, .int (0 : Int32)), (9, .int (0 : Int32)), (8, .int (0 : Int32)), (6, .int (0 : Int32)), (0, .ref bs), (1, .ref (a.1.2.2.2 + 69 * 0)), (2, .ref (a.1.2.2.2 + 69 * 1)), (7, .int v7)]) dL_law_553 (Nat.le_of_ble_eq_true rfl) rfl ?_
          refine z_sub [4, 5, 6, 3, 7, 2, 1, 0] rfl ?_
          refine t_L_law_L555 F D K hd xs L hB hR hX hbl hbA hr1 v7 (fun y134 y135 y136 s133 => ?_) F (0 : Int32) (0 : Int32) (0 : Int32) (0 : Int32) s
          refine z_iload K 3 rfl dL_law_751 ?_
          refine z_if_eq K (tgt := 834) dL_law_753 (by decide) ?_ ?_
          · refine z_iconst K ci_0 dL_law_834 ?_
            refine z_istore K (lv' := [(6, .int (0 : Int32)), (0, .ref bs), (1, .ref (a.1.2.2.2 + 69 * 0)), (2, .ref (a.1.2.2.2 + 69 * 1)), (7, .int v7), (8, .int y135), (9, .int y136)]) dL_law_835 (Nat.le_of_ble_eq_true rfl) rfl ?_
            refine z_iincN K (j := 4) (lv' := [(6, .int (0 : Int32)), (0, .ref bs), (1, .ref (a.1.2.2.2 + 69 * 0)), (2, .ref (a.1.2.2.2 + 69 * 1)), (8, .int y135), (9, .int y136)]) ci_2 rfl dL_law_837 (Nat.le_of_ble_eq_true rfl) rfl (fun y137 => ?_)
            refine z_goto K (tgt := 452) dL_law_840 (by decide) ?_
            refine z_sub [2, 3, 4, 1, 0] rfl ?_
            exact ih (0 : Int32) y137 s133
          · refine z_iload K 5 rfl dL_law_756 ?_
            refine z_iload K 6 rfl dL_law_758 ?_
            refine z_icmp_ne K (tgt := 834) dL_law_760 (by decide) ?_ ?_
            · refine z_iconst K ci_0 dL_law_834 ?_
              refine z_istore K (lv' := [(6, .int (0 : Int32)), (0, .ref bs), (1, .ref (a.1.2.2.2 + 69 * 0)), (2, .ref (a.1.2.2.2 + 69 * 1)), (7, .int v7), (8, .int y135), (9, .int y136)]) dL_law_835 (Nat.le_of_ble_eq_true rfl) rfl ?_
              refine z_iincN K (j := 4) (lv' := [(6, .int (0 : Int32)), (0, .ref bs), (1, .ref (a.1.2.2.2 + 69 * 0)), (2, .ref (a.1.2.2.2 + 69 * 1)), (8, .int y135), (9, .int y136)]) ci_2 rfl dL_law_837 (Nat.le_of_ble_eq_true rfl) rfl (fun y138 => ?_)
              refine z_goto K (tgt := 452) dL_law_840 (by decide) ?_
              refine z_sub [2, 3, 4, 1, 0] rfl ?_
              exact ih (0 : Int32) y138 s133
            · refine z_aload_n K 1 rfl dL_law_763 ?_
              refine z_iconst K ci_0 dL_law_764 ?_
              refine z_cTVi (As := [.int (0 : Int32)]) (rest := []) (X := (f_X11_exchange F (0 : Int32))) (by decide) hB K hR (t_X11_exchange (wt a.1 0) F (d - 1) (by omega) (0 : Int32) (sub 0 s133)) mf_X11_exchange ml_L_77 (Nat.le_of_ble_eq_true rfl) (by omega) rfl rfl rfl (Nat.le_of_ble_eq_true rfl) dL_law_765 (fun r140 s139 => ?_)
              refine z_bipush K cb_m2 dL_law_768 ?_
              refine z_icmp_ne K (tgt := 788) dL_law_770 (by decide) ?_ ?_
              · refine z_aload_n K 1 rfl dL_law_788 ?_
                refine z_iconst K ci_2 dL_law_789 ?_
                refine z_cTVi (As := [.int (2 : Int32)]) (rest := []) (X := (f_X11_exchange F (2 : Int32))) (by decide) hB K hR (t_X11_exchange (wt a.1 0) F (d - 1) (by omega) (2 : Int32) (sub 0 s139)) mf_X11_exchange ml_L_77 (Nat.le_of_ble_eq_true rfl) (by omega) rfl rfl rfl (Nat.le_of_ble_eq_true rfl) dL_law_790 (fun r142 s141 => ?_)
                refine z_aload_n K 1 rfl dL_law_793 ?_
                refine z_cTVi (As := []) (rest := [.int r142]) (X := (f_X11_sum F)) (by decide) hB K hR (t_X11_sum (wt a.1 0) F (d - 1) (by omega) (sub 0 s141)) mf_X11_sum ml_L_152 (Nat.le_of_ble_eq_true rfl) (by omega) rfl rfl rfl (Nat.le_of_ble_eq_true rfl) dL_law_794 (fun r144 s143 => ?_)
                refine z_icmp_ge K (tgt := 834) dL_law_797 (by decide) ?_ ?_
                · refine z_iconst K ci_0 dL_law_834 ?_
                  refine z_istore K (lv' := [(6, .int (0 : Int32)), (0, .ref bs), (1, .ref (a.1.2.2.2 + 69 * 0)), (2, .ref (a.1.2.2.2 + 69 * 1)), (7, .int v7), (8, .int y135), (9, .int y136)]) dL_law_835 (Nat.le_of_ble_eq_true rfl) rfl ?_
                  refine z_iincN K (j := 4) (lv' := [(6, .int (0 : Int32)), (0, .ref bs), (1, .ref (a.1.2.2.2 + 69 * 0)), (2, .ref (a.1.2.2.2 + 69 * 1)), (8, .int y135), (9, .int y136)]) ci_2 rfl dL_law_837 (Nat.le_of_ble_eq_true rfl) rfl (fun y145 => ?_)
                  refine z_goto K (tgt := 452) dL_law_840 (by decide) ?_
                  refine z_sub [2, 3, 4, 1, 0] rfl ?_
                  exact ih (0 : Int32) y145 s143
                · refine z_sub [0, 1, 2, 4] rfl ?_
                  exact t_L_law_j800 F D K hd xs L hB hR hX hbl hbA hr1 ih v7 s143
              · refine z_aload_n K 1 rfl dL_law_773 ?_
                refine z_iconst K ci_2 dL_law_774 ?_
                refine z_cTVi (As := [.int (2 : Int32)]) (rest := []) (X := (f_X11_exchange F (2 : Int32))) (by decide) hB K hR (t_X11_exchange (wt a.1 0) F (d - 1) (by omega) (2 : Int32) (sub 0 s139)) mf_X11_exchange ml_L_77 (Nat.le_of_ble_eq_true rfl) (by omega) rfl rfl rfl (Nat.le_of_ble_eq_true rfl) dL_law_775 (fun r162 s161 => ?_)
                refine z_aload_n K 1 rfl dL_law_778 ?_
                refine z_cTVi (As := []) (rest := [.int r162]) (X := (f_X11_sum F)) (by decide) hB K hR (t_X11_sum (wt a.1 0) F (d - 1) (by omega) (sub 0 s161)) mf_X11_sum ml_L_152 (Nat.le_of_ble_eq_true rfl) (by omega) rfl rfl rfl (Nat.le_of_ble_eq_true rfl) dL_law_779 (fun r164 s163 => ?_)
                refine z_icmp_ne K (tgt := 834) dL_law_782 (by decide) ?_ ?_
                · refine z_iconst K ci_0 dL_law_834 ?_
                  refine z_istore K (lv' := [(6, .int (0 : Int32)), (0, .ref bs), (1, .ref (a.1.2.2.2 + 69 * 0)), (2, .ref (a.1.2.2.2 + 69 * 1)), (7, .int v7), (8, .int y135), (9, .int y136)]) dL_law_835 (Nat.le_of_ble_eq_true rfl) rfl ?_
                  refine z_iincN K (j := 4) (lv' := [(6, .int (0 : Int32)), (0, .ref bs), (1, .ref (a.1.2.2.2 + 69 * 0)), (2, .ref (a.1.2.2.2 + 69 * 1)), (8, .int y135), (9, .int y136)]) ci_2 rfl dL_law_837 (Nat.le_of_ble_eq_true rfl) rfl (fun y165 => ?_)
                  refine z_goto K (tgt := 452) dL_law_840 (by decide) ?_
                  refine z_sub [2, 3, 4, 1, 0] rfl ?_
                  exact ih (0 : Int32) y165 s163
                · refine z_goto K (tgt := 800) dL_law_785 (by decide) ?_
                  refine z_sub [0, 1, 2, 4] rfl ?_
                  exact t_L_law_j800 F D K hd xs L hB hR hX hbl hbA hr1 ih v7 s163
        · refine z_aload_n K 0 rfl dL_law_473 ?_
          refine z_iload K 4 rfl dL_law_474 ?_
          refine z_iconst K ci_1 dL_law_476 ?_
          refine z_iadd K dL_law_477 ?_
          refine z_sld K hX hbl hbA dL_law_478 ?_
          refine z_iconst K ci_m1 dL_law_479 ?_
          refine z_icmp_eq K (tgt := 496) dL_law_480 (by decide) ?_ ?_
          · refine z_sub [0, 1, 2, 4] rfl ?_
            exact t_L_law_j496 F D K hd xs L hB hR hX hbl hbA hr1 ih v7 s
          · refine z_aload_n K 2 rfl dL_law_483 ?_
            refine z_aload_n K 0 rfl dL_law_484 ?_
            refine z_iload K 4 rfl dL_law_485 ?_
            refine z_iconst K ci_1 dL_law_487 ?_
            refine z_iadd K dL_law_488 ?_
            refine z_sld K hX hbl hbA dL_law_489 ?_
            refine z_cTSi (As := [.ref ((wt a.1 1).2.2.2 + 0), .int (xs ((v7 + (1 : Int32))).toNatClampNeg)]) (rest := []) (X := (f_L_idle F D (xs ((v7 + (1 : Int32))).toNatClampNeg))) (by decide) hB K hR (t_L_idle (wt a.1 1) F D (d - 1) (by omega) (xs ((v7 + (1 : Int32))).toNatClampNeg) (sub 1 s)) mf_L_idle ml_L_166 (Nat.le_of_ble_eq_true rfl) (by omega) rfl rfl (Nat.le_of_ble_eq_true rfl) dL_law_490 (fun r227 s226 => ?_)
            refine z_if_eq K (tgt := 543) dL_law_493 (by decide) ?_ ?_
            · refine z_iconst K ci_0 dL_law_543 ?_
              refine z_istore K (lv' := [(6, .int (0 : Int32)), (0, .ref bs), (1, .ref (a.1.2.2.2 + 69 * 0)), (2, .ref (a.1.2.2.2 + 69 * 1)), (7, .int v7)]) dL_law_544 (Nat.le_of_ble_eq_true rfl) rfl ?_
              refine z_iconst K ci_0 dL_law_546 ?_
              refine z_istore K (lv' := [(8, .int (0 : Int32)), (6, .int (0 : Int32)), (0, .ref bs), (1, .ref (a.1.2.2.2 + 69 * 0)), (2, .ref (a.1.2.2.2 + 69 * 1)), (7, .int v7)]) dL_law_547 (Nat.le_of_ble_eq_true rfl) rfl ?_
              refine z_iconst K ci_0 dL_law_549 ?_
              refine z_istore K (lv' := [(9, .int (0 : Int32)), (8, .int (0 : Int32)), (6, .int (0 : Int32)), (0, .ref bs), (1, .ref (a.1.2.2.2 + 69 * 0)), (2, .ref (a.1.2.2.2 + 69 * 1)), (7, .int v7)]) dL_law_550 (Nat.le_of_ble_eq_true rfl) rfl ?_
              refine z_iconst K ci_0 dL_law_552 ?_
              refine z_istore K (lv' := [(10, .int (0 : Int32)), (9, .int (0 : Int32)), (8, .int (0 : Int32)), (6, .int (0 : Int32)), (0, .ref bs), (1, .ref (a.1.2.2.2 + 69 * 0)), (2, .ref (a.1.2.2.2 + 69 * 1)), (7, .int v7)]) dL_law_553 (Nat.le_of_ble_eq_true rfl) rfl ?_
              refine z_sub [4, 5, 6, 3, 7, 2, 1, 0] rfl ?_
              refine t_L_law_L555 F D K hd xs L hB hR hX hbl hbA hr1 v7 (fun y229 y230 y231 s228 => ?_) F (0 : Int32) (0 : Int32) (0 : Int32) (0 : Int32) s226
              refine z_iload K 3 rfl dL_law_751 ?_
              refine z_if_eq K (tgt := 834) dL_law_753 (by decide) ?_ ?_
              · refine z_iconst K ci_0 dL_law_834 ?_
                refine z_istore K (lv' := [(6, .int (0 : Int32)), (0, .ref bs), (1, .ref (a.1.2.2.2 + 69 * 0)), (2, .ref (a.1.2.2.2 + 69 * 1)), (7, .int v7), (8, .int y230), (9, .int y231)]) dL_law_835 (Nat.le_of_ble_eq_true rfl) rfl ?_
                refine z_iincN K (j := 4) (lv' := [(6, .int (0 : Int32)), (0, .ref bs), (1, .ref (a.1.2.2.2 + 69 * 0)), (2, .ref (a.1.2.2.2 + 69 * 1)), (8, .int y230), (9, .int y231)]) ci_2 rfl dL_law_837 (Nat.le_of_ble_eq_true rfl) rfl (fun y232 => ?_)
                refine z_goto K (tgt := 452) dL_law_840 (by decide) ?_
                refine z_sub [2, 3, 4, 1, 0] rfl ?_
                exact ih (0 : Int32) y232 s228
              · refine z_iload K 5 rfl dL_law_756 ?_
                refine z_iload K 6 rfl dL_law_758 ?_
                refine z_icmp_ne K (tgt := 834) dL_law_760 (by decide) ?_ ?_
                · refine z_iconst K ci_0 dL_law_834 ?_
                  refine z_istore K (lv' := [(6, .int (0 : Int32)), (0, .ref bs), (1, .ref (a.1.2.2.2 + 69 * 0)), (2, .ref (a.1.2.2.2 + 69 * 1)), (7, .int v7), (8, .int y230), (9, .int y231)]) dL_law_835 (Nat.le_of_ble_eq_true rfl) rfl ?_
                  refine z_iincN K (j := 4) (lv' := [(6, .int (0 : Int32)), (0, .ref bs), (1, .ref (a.1.2.2.2 + 69 * 0)), (2, .ref (a.1.2.2.2 + 69 * 1)), (8, .int y230), (9, .int y231)]) ci_2 rfl dL_law_837 (Nat.le_of_ble_eq_true rfl) rfl (fun y233 => ?_)
                  refine z_goto K (tgt := 452) dL_law_840 (by decide) ?_
                  refine z_sub [2, 3, 4, 1, 0] rfl ?_
                  exact ih (0 : Int32) y233 s228
                · refine z_aload_n K 1 rfl dL_law_763 ?_
                  refine z_iconst K ci_0 dL_law_764 ?_
                  refine z_cTVi (As := [.int (0 : Int32)]) (rest := []) (X := (f_X11_exchange F (0 : Int32))) (by decide) hB K hR (t_X11_exchange (wt a.1 0) F (d - 1) (by omega) (0 : Int32) (sub 0 s228)) mf_X11_exchange ml_L_77 (Nat.le_of_ble_eq_true rfl) (by omega) rfl rfl rfl (Nat.le_of_ble_eq_true rfl) dL_law_765 (fun r235 s234 => ?_)
                  refine z_bipush K cb_m2 dL_law_768 ?_
                  refine z_icmp_ne K (tgt := 788) dL_law_770 (by decide) ?_ ?_
                  · refine z_aload_n K 1 rfl dL_law_788 ?_
                    refine z_iconst K ci_2 dL_law_789 ?_
                    refine z_cTVi (As := [.int (2 : Int32)]) (rest := []) (X := (f_X11_exchange F (2 : Int32))) (by decide) hB K hR (t_X11_exchange (wt a.1 0) F (d - 1) (by omega) (2 : Int32) (sub 0 s234)) mf_X11_exchange ml_L_77 (Nat.le_of_ble_eq_true rfl) (by omega) rfl rfl rfl (Nat.le_of_ble_eq_true rfl) dL_law_790 (fun r237 s236 => ?_)
                    refine z_aload_n K 1 rfl dL_law_793 ?_
                    refine z_cTVi (As := []) (rest := [.int r237]) (X := (f_X11_sum F)) (by decide) hB K hR (t_X11_sum (wt a.1 0) F (d - 1) (by omega) (sub 0 s236)) mf_X11_sum ml_L_152 (Nat.le_of_ble_eq_true rfl) (by omega) rfl rfl rfl (Nat.le_of_ble_eq_true rfl) dL_law_794 (fun r239 s238 => ?_)
                    refine z_icmp_ge K (tgt := 834) dL_law_797 (by decide) ?_ ?_
                    · refine z_iconst K ci_0 dL_law_834 ?_
                      refine z_istore K (lv' := [(6, .int (0 : Int32)), (0, .ref bs), (1, .ref (a.1.2.2.2 + 69 * 0)), (2, .ref (a.1.2.2.2 + 69 * 1)), (7, .int v7), (8, .int y230), (9, .int y231)]) dL_law_835 (Nat.le_of_ble_eq_true rfl) rfl ?_
                      refine z_iincN K (j := 4) (lv' := [(6, .int (0 : Int32)), (0, .ref bs), (1, .ref (a.1.2.2.2 + 69 * 0)), (2, .ref (a.1.2.2.2 + 69 * 1)), (8, .int y230), (9, .int y231)]) ci_2 rfl dL_law_837 (Nat.le_of_ble_eq_true rfl) rfl (fun y240 => ?_)
                      refine z_goto K (tgt := 452) dL_law_840 (by decide) ?_
                      refine z_sub [2, 3, 4, 1, 0] rfl ?_
                      exact ih (0 : Int32) y240 s238
                    · refine z_sub [0, 1, 2, 4] rfl ?_
                      exact t_L_law_j800 F D K hd xs L hB hR hX hbl hbA hr1 ih v7 s238
                  · refine z_aload_n K 1 rfl dL_law_773 ?_
                    refine z_iconst K ci_2 dL_law_774 ?_
                    refine z_cTVi (As := [.int (2 : Int32)]) (rest := []) (X := (f_X11_exchange F (2 : Int32))) (by decide) hB K hR (t_X11_exchange (wt a.1 0) F (d - 1) (by omega) (2 : Int32) (sub 0 s234)) mf_X11_exchange ml_L_77 (Nat.le_of_ble_eq_true rfl) (by omega) rfl rfl rfl (Nat.le_of_ble_eq_true rfl) dL_law_775 (fun r242 s241 => ?_)
                    refine z_aload_n K 1 rfl dL_law_778 ?_
                    refine z_cTVi (As := []) (rest := [.int r242]) (X := (f_X11_sum F)) (by decide) hB K hR (t_X11_sum (wt a.1 0) F (d - 1) (by omega) (sub 0 s241)) mf_X11_sum ml_L_152 (Nat.le_of_ble_eq_true rfl) (by omega) rfl rfl rfl (Nat.le_of_ble_eq_true rfl) dL_law_779 (fun r244 s243 => ?_)
                    refine z_icmp_ne K (tgt := 834) dL_law_782 (by decide) ?_ ?_
                    · refine z_iconst K ci_0 dL_law_834 ?_
                      refine z_istore K (lv' := [(6, .int (0 : Int32)), (0, .ref bs), (1, .ref (a.1.2.2.2 + 69 * 0)), (2, .ref (a.1.2.2.2 + 69 * 1)), (7, .int v7), (8, .int y230), (9, .int y231)]) dL_law_835 (Nat.le_of_ble_eq_true rfl) rfl ?_
                      refine z_iincN K (j := 4) (lv' := [(6, .int (0 : Int32)), (0, .ref bs), (1, .ref (a.1.2.2.2 + 69 * 0)), (2, .ref (a.1.2.2.2 + 69 * 1)), (8, .int y230), (9, .int y231)]) ci_2 rfl dL_law_837 (Nat.le_of_ble_eq_true rfl) rfl (fun y245 => ?_)
                      refine z_goto K (tgt := 452) dL_law_840 (by decide) ?_
                      refine z_sub [2, 3, 4, 1, 0] rfl ?_
                      exact ih (0 : Int32) y245 s243
                    · refine z_goto K (tgt := 800) dL_law_785 (by decide) ?_
                      refine z_sub [0, 1, 2, 4] rfl ?_
                      exact t_L_law_j800 F D K hd xs L hB hR hX hbl hbA hr1 ih v7 s243
            · refine z_sub [0, 1, 2, 4] rfl ?_
              exact t_L_law_j496 F D K hd xs L hB hR hX hbl hbA hr1 ih v7 s226
def f_L_law (F : Nat) (D : Nat) (xs : Nat → Int32) (L : Nat) (s : zM) : Option (Int32 × zM) :=
  lt (zclr s 0 []) (fun s1 =>
  bnd (inT 0 (cal (f_X11_init F) (f_X12_init F)) s1) (fun _ s2 =>
  lt (zclr s2 69 []) (fun s3 =>
  bnd (inT 1 (cal (f_X11_init F) (f_X12_init F)) s3) (fun _ s4 =>
  lt (zclr s4 138 []) (fun s5 =>
  lt (zs s5 138 0 (0 : Int32)) (fun s6 =>
  lt (zs s6 138 1 (0 : Int32)) (fun s7 =>
  lt (zs s7 138 2 (0 : Int32)) (fun s8 =>
  lt (zs s8 138 3 (0 : Int32)) (fun s9 =>
  lt (zs s9 138 4 (0 : Int32)) (fun s10 =>
  lt (zs s10 138 5 (0 : Int32)) (fun s11 =>
  lt (zs s11 138 6 (0 : Int32)) (fun s12 =>
  lt (zs s12 138 7 (0 : Int32)) (fun s13 =>
  lt (zclr s13 139 []) (fun s14 =>
  lt (zs s14 139 0 (0 : Int32)) (fun s15 =>
  lt (zs s15 139 1 (0 : Int32)) (fun s16 =>
  lt (zs s16 139 2 (0 : Int32)) (fun s17 =>
  lt (zs s17 139 3 (0 : Int32)) (fun s18 =>
  lt (zs s18 139 4 (0 : Int32)) (fun s19 =>
  lt (zs s19 139 5 (0 : Int32)) (fun s20 =>
  lt (zs s20 139 6 (0 : Int32)) (fun s21 =>
  lt (zs s21 139 7 (0 : Int32)) (fun s22 =>
  lt (zclr s22 140 []) (fun s23 =>
  lt (zs s23 140 0 (0 : Int32)) (fun s24 =>
  lt (zs s24 140 1 (0 : Int32)) (fun s25 =>
  lt (zs s25 140 2 (0 : Int32)) (fun s26 =>
  lt (zs s26 140 3 (0 : Int32)) (fun s27 =>
  lt (zs s27 140 4 (0 : Int32)) (fun s28 =>
  lt (zs s28 140 5 (0 : Int32)) (fun s29 =>
  lt (zs s29 140 6 (0 : Int32)) (fun s30 =>
  lt (zs s30 140 7 (0 : Int32)) (fun s31 =>
  lt (zs s31 140 8 (0 : Int32)) (fun s32 =>
  lt (zs s32 140 9 (0 : Int32)) (fun s33 =>
  lt (zs s33 140 10 (0 : Int32)) (fun s34 =>
  lt (zs s34 140 11 (0 : Int32)) (fun s35 =>
  lt (zs s35 140 12 (0 : Int32)) (fun s36 =>
  lt (zs s36 140 13 (0 : Int32)) (fun s37 =>
  lt (zs s37 140 14 (0 : Int32)) (fun s38 =>
  lt (zs s38 140 15 (0 : Int32)) (fun s39 =>
  lt (zs s39 140 16 (0 : Int32)) (fun s40 =>
  lt (zs s40 140 17 (0 : Int32)) (fun s41 =>
  lt (zs s41 140 18 (0 : Int32)) (fun s42 =>
  lt (zs s42 140 19 (0 : Int32)) (fun s43 =>
  lt (zs s43 140 20 (0 : Int32)) (fun s44 =>
  lt (zs s44 140 21 (0 : Int32)) (fun s45 =>
  lt (zs s45 140 22 (0 : Int32)) (fun s46 =>
  lt (zs s46 140 23 (0 : Int32)) (fun s47 =>
  lt (zs s47 140 24 (0 : Int32)) (fun s48 =>
  lt (zs s48 140 25 (0 : Int32)) (fun s49 =>
  lt (zs s49 140 26 (0 : Int32)) (fun s50 =>
  lt (zs s50 140 27 (0 : Int32)) (fun s51 =>
  lt (zs s51 140 28 (0 : Int32)) (fun s52 =>
  lt (zs s52 140 29 (0 : Int32)) (fun s53 =>
  lt (zs s53 140 30 (0 : Int32)) (fun s54 =>
  lt (zs s54 140 31 (0 : Int32)) (fun s55 =>
  lt (zs s55 140 32 (0 : Int32)) (fun s56 =>
  lt (zs s56 140 33 (0 : Int32)) (fun s57 =>
  lt (zs s57 140 34 (0 : Int32)) (fun s58 =>
  lt (zs s58 140 35 (0 : Int32)) (fun s59 =>
  lt (zs s59 140 36 (0 : Int32)) (fun s60 =>
  lt (zs s60 140 37 (0 : Int32)) (fun s61 =>
  lt (zs s61 140 38 (0 : Int32)) (fun s62 =>
  lt (zs s62 140 39 (0 : Int32)) (fun s63 =>
  lt (zs s63 140 40 (0 : Int32)) (fun s64 =>
  lt (zs s64 140 41 (0 : Int32)) (fun s65 =>
  lt (zs s65 140 42 (0 : Int32)) (fun s66 =>
  lt (zs s66 140 43 (0 : Int32)) (fun s67 =>
  lt (zs s67 140 44 (0 : Int32)) (fun s68 =>
  lt (zs s68 140 45 (0 : Int32)) (fun s69 =>
  lt (zs s69 140 46 (0 : Int32)) (fun s70 =>
  lt (zs s70 140 47 (0 : Int32)) (fun s71 =>
  lt (zs s71 140 48 (0 : Int32)) (fun s72 =>
  lt (zs s72 140 49 (0 : Int32)) (fun s73 =>
  lt (zs s73 140 50 (0 : Int32)) (fun s74 =>
  lt (zs s74 140 51 (0 : Int32)) (fun s75 =>
  lt (zs s75 140 52 (0 : Int32)) (fun s76 =>
  lt (zs s76 140 53 (0 : Int32)) (fun s77 =>
  lt (zs s77 140 54 (0 : Int32)) (fun s78 =>
  lt (zs s78 140 55 (0 : Int32)) (fun s79 =>
  lt (zs s79 140 56 (0 : Int32)) (fun s80 =>
  lt (zs s80 140 57 (0 : Int32)) (fun s81 =>
  lt (zs s81 140 58 (0 : Int32)) (fun s82 =>
  lt (zs s82 140 59 (0 : Int32)) (fun s83 =>
  lt (zs s83 140 60 (0 : Int32)) (fun s84 =>
  lt (zs s84 140 61 (0 : Int32)) (fun s85 =>
  lt (zs s85 140 62 (0 : Int32)) (fun s86 =>
  lt (zs s86 140 63 (0 : Int32)) (fun s87 =>
  bnd (f_L_lay F D 0 xs L s87) (fun r89 s88 =>
  if r89 = 0 then
    f_L_law_L452 F D xs L (fun y247 s246 =>
      if y247 = 1 then some (1, s246) else none) F (0 : Int32) (9 : Int32) s88
  else
    bnd (f_L_lay F D 1 xs L s88) (fun r250 s249 =>
    if r250 = 0 then
      f_L_law_L452 F D xs L (fun y252 s251 =>
        if y252 = 1 then some (1, s251) else none) F (0 : Int32) (9 : Int32) s249
    else
      f_L_law_L452 F D xs L (fun y255 s254 =>
        if y255 = 1 then some (1, s254) else none) F (1 : Int32) (9 : Int32) s249)))))))))))))))))))))))))))))))))))))))))))))))))))))))))))))))))))))))))))))))))))))))))
set_option maxRecDepth 100000 in
set_option maxHeartbeats 4000000 in
theorem t_L_law {a : zA} {d : Nat} (F : Nat) (D : Nat) (K : zOK a code 13 RL (some .boolean) d) (hd : 2 * D + 9 ≤ d) (xs : Nat → Int32) (L : Nat) (hB : (141 : Nat) ≤ a.1.2.2.1 3) (hR : 141 ≤ a.2.2.2.1.cells ∧ 102862 ≤ a.2.2.2.1.slots) {bs : Nat} (hX : va_X bs L xs a.2.2.2.2.1 a.2.2.2.2.1.heap) (hbl : bs < a.2.2.2.2.1.heap.size) (hbA : bs < a.1.2.2.2) {G : Int32 → zM → State → Prop} (hr1 : ∀ (pc : Nat) (lv : List (Nat × Value)) (s : zM), decode code pc = .ok (.ireturn, 1) → zJ a 13 G (zKD2, false, 141, 102862) pc lv [.int 1] s (some (1, s))) (s : zM) : zJ a 13 G ([], true, 0, 0) 0 [(0, .ref bs)] [] s (f_L_law F D xs L s) := by
  unfold f_L_law
  refine z_newT0 K hB hR dL_law_0 ?_
  refine z_ltm (fun s1 => ?_)
  refine z_dup K rfl dL_law_3 ?_
  refine z_iniT0 (X := (cal (f_X11_init F) (f_X12_init F))) K hB hR (by omega) (zMt_cal (t_X11_init (wt a.1 0) F (d - 1) (by omega) (Nat.le_refl 69) (P := []) rfl (sub 0 s1))) mf_X11_init ml_L_161 (Nat.le_of_ble_eq_true rfl) (Nat.le_of_ble_eq_true rfl) dL_law_4 (fun s2 => ?_)
  refine z_astore_n K (lv' := [(1, .ref (a.1.2.2.2 + 69 * 0)), (0, .ref bs)]) dL_law_7 rfl (Nat.le_of_ble_eq_true rfl) rfl ?_
  refine z_newT1 K hB hR dL_law_8 ?_
  refine z_ltm (fun s3 => ?_)
  refine z_dup K rfl dL_law_11 ?_
  refine z_iniT1 (X := (cal (f_X11_init F) (f_X12_init F))) K hB hR (by omega) (zMt_cal (t_X11_init (wt a.1 1) F (d - 1) (by omega) (Nat.le_refl 69) (P := []) rfl (sub 1 s3))) mf_X11_init ml_L_161 (Nat.le_of_ble_eq_true rfl) (Nat.le_of_ble_eq_true rfl) dL_law_12 (fun s4 => ?_)
  refine z_astore_n K (lv' := [(2, .ref (a.1.2.2.2 + 69 * 1)), (1, .ref (a.1.2.2.2 + 69 * 0)), (0, .ref bs)]) dL_law_15 rfl (Nat.le_of_ble_eq_true rfl) rfl ?_
  refine z_bipush K cb_8 dL_law_16 ?_
  refine z_newA1 K hB hR dL_law_18 ?_
  refine z_ltm (fun s5 => ?_)
  refine z_dup K rfl dL_law_20 ?_
  refine z_iconst K ci_0 dL_law_21 ?_
  refine z_iconst K ci_0 dL_law_22 ?_
  refine z_iastL K arA1_138 (by decide) rfl dL_law_23 ?_
  refine z_ltm (fun s6 => ?_)
  refine z_dup K rfl dL_law_24 ?_
  refine z_iconst K ci_1 dL_law_25 ?_
  refine z_iconst K ci_0 dL_law_26 ?_
  refine z_iastL K arA1_138 (by decide) rfl dL_law_27 ?_
  refine z_ltm (fun s7 => ?_)
  refine z_dup K rfl dL_law_28 ?_
  refine z_iconst K ci_2 dL_law_29 ?_
  refine z_iconst K ci_0 dL_law_30 ?_
  refine z_iastL K arA1_138 (by decide) rfl dL_law_31 ?_
  refine z_ltm (fun s8 => ?_)
  refine z_dup K rfl dL_law_32 ?_
  refine z_iconst K ci_3 dL_law_33 ?_
  refine z_iconst K ci_0 dL_law_34 ?_
  refine z_iastL K arA1_138 (by decide) rfl dL_law_35 ?_
  refine z_ltm (fun s9 => ?_)
  refine z_dup K rfl dL_law_36 ?_
  refine z_iconst K ci_4 dL_law_37 ?_
  refine z_iconst K ci_0 dL_law_38 ?_
  refine z_iastL K arA1_138 (by decide) rfl dL_law_39 ?_
  refine z_ltm (fun s10 => ?_)
  refine z_dup K rfl dL_law_40 ?_
  refine z_iconst K ci_5 dL_law_41 ?_
  refine z_iconst K ci_0 dL_law_42 ?_
  refine z_iastL K arA1_138 (by decide) rfl dL_law_43 ?_
  refine z_ltm (fun s11 => ?_)
  refine z_dup K rfl dL_law_44 ?_
  refine z_bipush K cb_6 dL_law_45 ?_
  refine z_iconst K ci_0 dL_law_47 ?_
  refine z_iastL K arA1_138 (by decide) rfl dL_law_48 ?_
  refine z_ltm (fun s12 => ?_)
  refine z_dup K rfl dL_law_49 ?_
  refine z_bipush K cb_7 dL_law_50 ?_
  refine z_iconst K ci_0 dL_law_52 ?_
  refine z_iastL K arA1_138 (by decide) rfl dL_law_53 ?_
  refine z_ltm (fun s13 => ?_)
  refine z_astore_n K (lv' := [(3, .ref (a.1.2.2.2 + 138)), (2, .ref (a.1.2.2.2 + 69 * 1)), (1, .ref (a.1.2.2.2 + 69 * 0)), (0, .ref bs)]) dL_law_54 rfl (Nat.le_of_ble_eq_true rfl) rfl ?_
  refine z_bipush K cb_8 dL_law_55 ?_
  refine z_newA2 K hB hR dL_law_57 ?_
  refine z_ltm (fun s14 => ?_)
  refine z_dup K rfl dL_law_59 ?_
  refine z_iconst K ci_0 dL_law_60 ?_
  refine z_iconst K ci_0 dL_law_61 ?_
  refine z_iastL K arA2_139 (by decide) rfl dL_law_62 ?_
  refine z_ltm (fun s15 => ?_)
  refine z_dup K rfl dL_law_63 ?_
  refine z_iconst K ci_1 dL_law_64 ?_
  refine z_iconst K ci_0 dL_law_65 ?_
  refine z_iastL K arA2_139 (by decide) rfl dL_law_66 ?_
  refine z_ltm (fun s16 => ?_)
  refine z_dup K rfl dL_law_67 ?_
  refine z_iconst K ci_2 dL_law_68 ?_
  refine z_iconst K ci_0 dL_law_69 ?_
  refine z_iastL K arA2_139 (by decide) rfl dL_law_70 ?_
  refine z_ltm (fun s17 => ?_)
  refine z_dup K rfl dL_law_71 ?_
  refine z_iconst K ci_3 dL_law_72 ?_
  refine z_iconst K ci_0 dL_law_73 ?_
  refine z_iastL K arA2_139 (by decide) rfl dL_law_74 ?_
  refine z_ltm (fun s18 => ?_)
  refine z_dup K rfl dL_law_75 ?_
  refine z_iconst K ci_4 dL_law_76 ?_
  refine z_iconst K ci_0 dL_law_77 ?_
  refine z_iastL K arA2_139 (by decide) rfl dL_law_78 ?_
  refine z_ltm (fun s19 => ?_)
  refine z_dup K rfl dL_law_79 ?_
  refine z_iconst K ci_5 dL_law_80 ?_
  refine z_iconst K ci_0 dL_law_81 ?_
  refine z_iastL K arA2_139 (by decide) rfl dL_law_82 ?_
  refine z_ltm (fun s20 => ?_)
  refine z_dup K rfl dL_law_83 ?_
  refine z_bipush K cb_6 dL_law_84 ?_
  refine z_iconst K ci_0 dL_law_86 ?_
  refine z_iastL K arA2_139 (by decide) rfl dL_law_87 ?_
  refine z_ltm (fun s21 => ?_)
  refine z_dup K rfl dL_law_88 ?_
  refine z_bipush K cb_7 dL_law_89 ?_
  refine z_iconst K ci_0 dL_law_91 ?_
  refine z_iastL K arA2_139 (by decide) rfl dL_law_92 ?_
  refine z_ltm (fun s22 => ?_)
  refine z_astore K (lv' := [(4, .ref (a.1.2.2.2 + 139)), (3, .ref (a.1.2.2.2 + 138)), (2, .ref (a.1.2.2.2 + 69 * 1)), (1, .ref (a.1.2.2.2 + 69 * 0)), (0, .ref bs)]) dL_law_93 (Nat.le_of_ble_eq_true rfl) rfl ?_
  refine z_bipush K cb_64 dL_law_95 ?_
  refine z_newA3 K hB hR dL_law_97 ?_
  refine z_ltm (fun s23 => ?_)
  refine z_dup K rfl dL_law_99 ?_
  refine z_iconst K ci_0 dL_law_100 ?_
  refine z_iconst K ci_0 dL_law_101 ?_
  refine z_iastL K arA3_140 (by decide) rfl dL_law_102 ?_
  refine z_ltm (fun s24 => ?_)
  refine z_dup K rfl dL_law_103 ?_
  refine z_iconst K ci_1 dL_law_104 ?_
  refine z_iconst K ci_0 dL_law_105 ?_
  refine z_iastL K arA3_140 (by decide) rfl dL_law_106 ?_
  refine z_ltm (fun s25 => ?_)
  refine z_dup K rfl dL_law_107 ?_
  refine z_iconst K ci_2 dL_law_108 ?_
  refine z_iconst K ci_0 dL_law_109 ?_
  refine z_iastL K arA3_140 (by decide) rfl dL_law_110 ?_
  refine z_ltm (fun s26 => ?_)
  refine z_dup K rfl dL_law_111 ?_
  refine z_iconst K ci_3 dL_law_112 ?_
  refine z_iconst K ci_0 dL_law_113 ?_
  refine z_iastL K arA3_140 (by decide) rfl dL_law_114 ?_
  refine z_ltm (fun s27 => ?_)
  refine z_dup K rfl dL_law_115 ?_
  refine z_iconst K ci_4 dL_law_116 ?_
  refine z_iconst K ci_0 dL_law_117 ?_
  refine z_iastL K arA3_140 (by decide) rfl dL_law_118 ?_
  refine z_ltm (fun s28 => ?_)
  refine z_dup K rfl dL_law_119 ?_
  refine z_iconst K ci_5 dL_law_120 ?_
  refine z_iconst K ci_0 dL_law_121 ?_
  refine z_iastL K arA3_140 (by decide) rfl dL_law_122 ?_
  refine z_ltm (fun s29 => ?_)
  refine z_dup K rfl dL_law_123 ?_
  refine z_bipush K cb_6 dL_law_124 ?_
  refine z_iconst K ci_0 dL_law_126 ?_
  refine z_iastL K arA3_140 (by decide) rfl dL_law_127 ?_
  refine z_ltm (fun s30 => ?_)
  refine z_dup K rfl dL_law_128 ?_
  refine z_bipush K cb_7 dL_law_129 ?_
  refine z_iconst K ci_0 dL_law_131 ?_
  refine z_iastL K arA3_140 (by decide) rfl dL_law_132 ?_
  refine z_ltm (fun s31 => ?_)
  refine z_dup K rfl dL_law_133 ?_
  refine z_bipush K cb_8 dL_law_134 ?_
  refine z_iconst K ci_0 dL_law_136 ?_
  refine z_iastL K arA3_140 (by decide) rfl dL_law_137 ?_
  refine z_ltm (fun s32 => ?_)
  refine z_dup K rfl dL_law_138 ?_
  refine z_bipush K cb_9 dL_law_139 ?_
  refine z_iconst K ci_0 dL_law_141 ?_
  refine z_iastL K arA3_140 (by decide) rfl dL_law_142 ?_
  refine z_ltm (fun s33 => ?_)
  refine z_dup K rfl dL_law_143 ?_
  refine z_bipush K cb_10 dL_law_144 ?_
  refine z_iconst K ci_0 dL_law_146 ?_
  refine z_iastL K arA3_140 (by decide) rfl dL_law_147 ?_
  refine z_ltm (fun s34 => ?_)
  refine z_dup K rfl dL_law_148 ?_
  refine z_bipush K cb_11 dL_law_149 ?_
  refine z_iconst K ci_0 dL_law_151 ?_
  refine z_iastL K arA3_140 (by decide) rfl dL_law_152 ?_
  refine z_ltm (fun s35 => ?_)
  refine z_dup K rfl dL_law_153 ?_
  refine z_bipush K cb_12 dL_law_154 ?_
  refine z_iconst K ci_0 dL_law_156 ?_
  refine z_iastL K arA3_140 (by decide) rfl dL_law_157 ?_
  refine z_ltm (fun s36 => ?_)
  refine z_dup K rfl dL_law_158 ?_
  refine z_bipush K cb_13 dL_law_159 ?_
  refine z_iconst K ci_0 dL_law_161 ?_
  refine z_iastL K arA3_140 (by decide) rfl dL_law_162 ?_
  refine z_ltm (fun s37 => ?_)
  refine z_dup K rfl dL_law_163 ?_
  refine z_bipush K cb_14 dL_law_164 ?_
  refine z_iconst K ci_0 dL_law_166 ?_
  refine z_iastL K arA3_140 (by decide) rfl dL_law_167 ?_
  refine z_ltm (fun s38 => ?_)
  refine z_dup K rfl dL_law_168 ?_
  refine z_bipush K cb_15 dL_law_169 ?_
  refine z_iconst K ci_0 dL_law_171 ?_
  refine z_iastL K arA3_140 (by decide) rfl dL_law_172 ?_
  refine z_ltm (fun s39 => ?_)
  refine z_dup K rfl dL_law_173 ?_
  refine z_bipush K cb_16 dL_law_174 ?_
  refine z_iconst K ci_0 dL_law_176 ?_
  refine z_iastL K arA3_140 (by decide) rfl dL_law_177 ?_
  refine z_ltm (fun s40 => ?_)
  refine z_dup K rfl dL_law_178 ?_
  refine z_bipush K cb_17 dL_law_179 ?_
  refine z_iconst K ci_0 dL_law_181 ?_
  refine z_iastL K arA3_140 (by decide) rfl dL_law_182 ?_
  refine z_ltm (fun s41 => ?_)
  refine z_dup K rfl dL_law_183 ?_
  refine z_bipush K cb_18 dL_law_184 ?_
  refine z_iconst K ci_0 dL_law_186 ?_
  refine z_iastL K arA3_140 (by decide) rfl dL_law_187 ?_
  refine z_ltm (fun s42 => ?_)
  refine z_dup K rfl dL_law_188 ?_
  refine z_bipush K cb_19 dL_law_189 ?_
  refine z_iconst K ci_0 dL_law_191 ?_
  refine z_iastL K arA3_140 (by decide) rfl dL_law_192 ?_
  refine z_ltm (fun s43 => ?_)
  refine z_dup K rfl dL_law_193 ?_
  refine z_bipush K cb_20 dL_law_194 ?_
  refine z_iconst K ci_0 dL_law_196 ?_
  refine z_iastL K arA3_140 (by decide) rfl dL_law_197 ?_
  refine z_ltm (fun s44 => ?_)
  refine z_dup K rfl dL_law_198 ?_
  refine z_bipush K cb_21 dL_law_199 ?_
  refine z_iconst K ci_0 dL_law_201 ?_
  refine z_iastL K arA3_140 (by decide) rfl dL_law_202 ?_
  refine z_ltm (fun s45 => ?_)
  refine z_dup K rfl dL_law_203 ?_
  refine z_bipush K cb_22 dL_law_204 ?_
  refine z_iconst K ci_0 dL_law_206 ?_
  refine z_iastL K arA3_140 (by decide) rfl dL_law_207 ?_
  refine z_ltm (fun s46 => ?_)
  refine z_dup K rfl dL_law_208 ?_
  refine z_bipush K cb_23 dL_law_209 ?_
  refine z_iconst K ci_0 dL_law_211 ?_
  refine z_iastL K arA3_140 (by decide) rfl dL_law_212 ?_
  refine z_ltm (fun s47 => ?_)
  refine z_dup K rfl dL_law_213 ?_
  refine z_bipush K cb_24 dL_law_214 ?_
  refine z_iconst K ci_0 dL_law_216 ?_
  refine z_iastL K arA3_140 (by decide) rfl dL_law_217 ?_
  refine z_ltm (fun s48 => ?_)
  refine z_dup K rfl dL_law_218 ?_
  refine z_bipush K cb_25 dL_law_219 ?_
  refine z_iconst K ci_0 dL_law_221 ?_
  refine z_iastL K arA3_140 (by decide) rfl dL_law_222 ?_
  refine z_ltm (fun s49 => ?_)
  refine z_dup K rfl dL_law_223 ?_
  refine z_bipush K cb_26 dL_law_224 ?_
  refine z_iconst K ci_0 dL_law_226 ?_
  refine z_iastL K arA3_140 (by decide) rfl dL_law_227 ?_
  refine z_ltm (fun s50 => ?_)
  refine z_dup K rfl dL_law_228 ?_
  refine z_bipush K cb_27 dL_law_229 ?_
  refine z_iconst K ci_0 dL_law_231 ?_
  refine z_iastL K arA3_140 (by decide) rfl dL_law_232 ?_
  refine z_ltm (fun s51 => ?_)
  refine z_dup K rfl dL_law_233 ?_
  refine z_bipush K cb_28 dL_law_234 ?_
  refine z_iconst K ci_0 dL_law_236 ?_
  refine z_iastL K arA3_140 (by decide) rfl dL_law_237 ?_
  refine z_ltm (fun s52 => ?_)
  refine z_dup K rfl dL_law_238 ?_
  refine z_bipush K cb_29 dL_law_239 ?_
  refine z_iconst K ci_0 dL_law_241 ?_
  refine z_iastL K arA3_140 (by decide) rfl dL_law_242 ?_
  refine z_ltm (fun s53 => ?_)
  refine z_dup K rfl dL_law_243 ?_
  refine z_bipush K cb_30 dL_law_244 ?_
  refine z_iconst K ci_0 dL_law_246 ?_
  refine z_iastL K arA3_140 (by decide) rfl dL_law_247 ?_
  refine z_ltm (fun s54 => ?_)
  refine z_dup K rfl dL_law_248 ?_
  refine z_bipush K cb_31 dL_law_249 ?_
  refine z_iconst K ci_0 dL_law_251 ?_
  refine z_iastL K arA3_140 (by decide) rfl dL_law_252 ?_
  refine z_ltm (fun s55 => ?_)
  refine z_dup K rfl dL_law_253 ?_
  refine z_bipush K cb_32 dL_law_254 ?_
  refine z_iconst K ci_0 dL_law_256 ?_
  refine z_iastL K arA3_140 (by decide) rfl dL_law_257 ?_
  refine z_ltm (fun s56 => ?_)
  refine z_dup K rfl dL_law_258 ?_
  refine z_bipush K cb_33 dL_law_259 ?_
  refine z_iconst K ci_0 dL_law_261 ?_
  refine z_iastL K arA3_140 (by decide) rfl dL_law_262 ?_
  refine z_ltm (fun s57 => ?_)
  refine z_dup K rfl dL_law_263 ?_
  refine z_bipush K cb_34 dL_law_264 ?_
  refine z_iconst K ci_0 dL_law_266 ?_
  refine z_iastL K arA3_140 (by decide) rfl dL_law_267 ?_
  refine z_ltm (fun s58 => ?_)
  refine z_dup K rfl dL_law_268 ?_
  refine z_bipush K cb_35 dL_law_269 ?_
  refine z_iconst K ci_0 dL_law_271 ?_
  refine z_iastL K arA3_140 (by decide) rfl dL_law_272 ?_
  refine z_ltm (fun s59 => ?_)
  refine z_dup K rfl dL_law_273 ?_
  refine z_bipush K cb_36 dL_law_274 ?_
  refine z_iconst K ci_0 dL_law_276 ?_
  refine z_iastL K arA3_140 (by decide) rfl dL_law_277 ?_
  refine z_ltm (fun s60 => ?_)
  refine z_dup K rfl dL_law_278 ?_
  refine z_bipush K cb_37 dL_law_279 ?_
  refine z_iconst K ci_0 dL_law_281 ?_
  refine z_iastL K arA3_140 (by decide) rfl dL_law_282 ?_
  refine z_ltm (fun s61 => ?_)
  refine z_dup K rfl dL_law_283 ?_
  refine z_bipush K cb_38 dL_law_284 ?_
  refine z_iconst K ci_0 dL_law_286 ?_
  refine z_iastL K arA3_140 (by decide) rfl dL_law_287 ?_
  refine z_ltm (fun s62 => ?_)
  refine z_dup K rfl dL_law_288 ?_
  refine z_bipush K cb_39 dL_law_289 ?_
  refine z_iconst K ci_0 dL_law_291 ?_
  refine z_iastL K arA3_140 (by decide) rfl dL_law_292 ?_
  refine z_ltm (fun s63 => ?_)
  refine z_dup K rfl dL_law_293 ?_
  refine z_bipush K cb_40 dL_law_294 ?_
  refine z_iconst K ci_0 dL_law_296 ?_
  refine z_iastL K arA3_140 (by decide) rfl dL_law_297 ?_
  refine z_ltm (fun s64 => ?_)
  refine z_dup K rfl dL_law_298 ?_
  refine z_bipush K cb_41 dL_law_299 ?_
  refine z_iconst K ci_0 dL_law_301 ?_
  refine z_iastL K arA3_140 (by decide) rfl dL_law_302 ?_
  refine z_ltm (fun s65 => ?_)
  refine z_dup K rfl dL_law_303 ?_
  refine z_bipush K cb_42 dL_law_304 ?_
  refine z_iconst K ci_0 dL_law_306 ?_
  refine z_iastL K arA3_140 (by decide) rfl dL_law_307 ?_
  refine z_ltm (fun s66 => ?_)
  refine z_dup K rfl dL_law_308 ?_
  refine z_bipush K cb_43 dL_law_309 ?_
  refine z_iconst K ci_0 dL_law_311 ?_
  refine z_iastL K arA3_140 (by decide) rfl dL_law_312 ?_
  refine z_ltm (fun s67 => ?_)
  refine z_dup K rfl dL_law_313 ?_
  refine z_bipush K cb_44 dL_law_314 ?_
  refine z_iconst K ci_0 dL_law_316 ?_
  refine z_iastL K arA3_140 (by decide) rfl dL_law_317 ?_
  refine z_ltm (fun s68 => ?_)
  refine z_dup K rfl dL_law_318 ?_
  refine z_bipush K cb_45 dL_law_319 ?_
  refine z_iconst K ci_0 dL_law_321 ?_
  refine z_iastL K arA3_140 (by decide) rfl dL_law_322 ?_
  refine z_ltm (fun s69 => ?_)
  refine z_dup K rfl dL_law_323 ?_
  refine z_bipush K cb_46 dL_law_324 ?_
  refine z_iconst K ci_0 dL_law_326 ?_
  refine z_iastL K arA3_140 (by decide) rfl dL_law_327 ?_
  refine z_ltm (fun s70 => ?_)
  refine z_dup K rfl dL_law_328 ?_
  refine z_bipush K cb_47 dL_law_329 ?_
  refine z_iconst K ci_0 dL_law_331 ?_
  refine z_iastL K arA3_140 (by decide) rfl dL_law_332 ?_
  refine z_ltm (fun s71 => ?_)
  refine z_dup K rfl dL_law_333 ?_
  refine z_bipush K cb_48 dL_law_334 ?_
  refine z_iconst K ci_0 dL_law_336 ?_
  refine z_iastL K arA3_140 (by decide) rfl dL_law_337 ?_
  refine z_ltm (fun s72 => ?_)
  refine z_dup K rfl dL_law_338 ?_
  refine z_bipush K cb_49 dL_law_339 ?_
  refine z_iconst K ci_0 dL_law_341 ?_
  refine z_iastL K arA3_140 (by decide) rfl dL_law_342 ?_
  refine z_ltm (fun s73 => ?_)
  refine z_dup K rfl dL_law_343 ?_
  refine z_bipush K cb_50 dL_law_344 ?_
  refine z_iconst K ci_0 dL_law_346 ?_
  refine z_iastL K arA3_140 (by decide) rfl dL_law_347 ?_
  refine z_ltm (fun s74 => ?_)
  refine z_dup K rfl dL_law_348 ?_
  refine z_bipush K cb_51 dL_law_349 ?_
  refine z_iconst K ci_0 dL_law_351 ?_
  refine z_iastL K arA3_140 (by decide) rfl dL_law_352 ?_
  refine z_ltm (fun s75 => ?_)
  refine z_dup K rfl dL_law_353 ?_
  refine z_bipush K cb_52 dL_law_354 ?_
  refine z_iconst K ci_0 dL_law_356 ?_
  refine z_iastL K arA3_140 (by decide) rfl dL_law_357 ?_
  refine z_ltm (fun s76 => ?_)
  refine z_dup K rfl dL_law_358 ?_
  refine z_bipush K cb_53 dL_law_359 ?_
  refine z_iconst K ci_0 dL_law_361 ?_
  refine z_iastL K arA3_140 (by decide) rfl dL_law_362 ?_
  refine z_ltm (fun s77 => ?_)
  refine z_dup K rfl dL_law_363 ?_
  refine z_bipush K cb_54 dL_law_364 ?_
  refine z_iconst K ci_0 dL_law_366 ?_
  refine z_iastL K arA3_140 (by decide) rfl dL_law_367 ?_
  refine z_ltm (fun s78 => ?_)
  refine z_dup K rfl dL_law_368 ?_
  refine z_bipush K cb_55 dL_law_369 ?_
  refine z_iconst K ci_0 dL_law_371 ?_
  refine z_iastL K arA3_140 (by decide) rfl dL_law_372 ?_
  refine z_ltm (fun s79 => ?_)
  refine z_dup K rfl dL_law_373 ?_
  refine z_bipush K cb_56 dL_law_374 ?_
  refine z_iconst K ci_0 dL_law_376 ?_
  refine z_iastL K arA3_140 (by decide) rfl dL_law_377 ?_
  refine z_ltm (fun s80 => ?_)
  refine z_dup K rfl dL_law_378 ?_
  refine z_bipush K cb_57 dL_law_379 ?_
  refine z_iconst K ci_0 dL_law_381 ?_
  refine z_iastL K arA3_140 (by decide) rfl dL_law_382 ?_
  refine z_ltm (fun s81 => ?_)
  refine z_dup K rfl dL_law_383 ?_
  refine z_bipush K cb_58 dL_law_384 ?_
  refine z_iconst K ci_0 dL_law_386 ?_
  refine z_iastL K arA3_140 (by decide) rfl dL_law_387 ?_
  refine z_ltm (fun s82 => ?_)
  refine z_dup K rfl dL_law_388 ?_
  refine z_bipush K cb_59 dL_law_389 ?_
  refine z_iconst K ci_0 dL_law_391 ?_
  refine z_iastL K arA3_140 (by decide) rfl dL_law_392 ?_
  refine z_ltm (fun s83 => ?_)
  refine z_dup K rfl dL_law_393 ?_
  refine z_bipush K cb_60 dL_law_394 ?_
  refine z_iconst K ci_0 dL_law_396 ?_
  refine z_iastL K arA3_140 (by decide) rfl dL_law_397 ?_
  refine z_ltm (fun s84 => ?_)
  refine z_dup K rfl dL_law_398 ?_
  refine z_bipush K cb_61 dL_law_399 ?_
  refine z_iconst K ci_0 dL_law_401 ?_
  refine z_iastL K arA3_140 (by decide) rfl dL_law_402 ?_
  refine z_ltm (fun s85 => ?_)
  refine z_dup K rfl dL_law_403 ?_
  refine z_bipush K cb_62 dL_law_404 ?_
  refine z_iconst K ci_0 dL_law_406 ?_
  refine z_iastL K arA3_140 (by decide) rfl dL_law_407 ?_
  refine z_ltm (fun s86 => ?_)
  refine z_dup K rfl dL_law_408 ?_
  refine z_bipush K cb_63 dL_law_409 ?_
  refine z_iconst K ci_0 dL_law_411 ?_
  refine z_iastL K arA3_140 (by decide) rfl dL_law_412 ?_
  refine z_ltm (fun s87 => ?_)
  refine z_astore K (lv' := [(5, .ref (a.1.2.2.2 + 140)), (4, .ref (a.1.2.2.2 + 139)), (3, .ref (a.1.2.2.2 + 138)), (2, .ref (a.1.2.2.2 + 69 * 1)), (1, .ref (a.1.2.2.2 + 69 * 0)), (0, .ref bs)]) dL_law_413 (Nat.le_of_ble_eq_true rfl) rfl ?_
  refine z_aload_n K 4 rfl dL_law_415 ?_
  refine z_aload_n K 5 rfl dL_law_416 ?_
  refine z_aload_n K 2 rfl dL_law_417 ?_
  refine z_aload K 1 rfl dL_law_418 ?_
  refine z_aload K 0 rfl dL_law_420 ?_
  refine z_ph (KL' := zKD2) zA3_eq ?_
  refine z_cXi (As := [.ref (a.1.2.2.2 + 69 * 0), .ref bs, .ref (a.1.2.2.2 + 138), .ref (a.1.2.2.2 + 139), .ref (a.1.2.2.2 + 140)]) (rest := []) K hR hX hbl hbA (t_L_lay a.1 F D (d - 1) (by omega) 0 (by decide) xs L hB s87) mf_L_lay ml_L_162 (Nat.le_of_ble_eq_true rfl) (by omega) rfl rfl (Nat.le_of_ble_eq_true rfl) dL_law_422 (fun r89 s88 => ?_)
  refine z_if_eq K (tgt := 445) dL_law_425 (by decide) ?_ ?_
  · refine z_iconst K ci_0 dL_law_445 ?_
    refine z_istore K (lv' := [(6, .int (0 : Int32)), (5, .ref (a.1.2.2.2 + 140)), (4, .ref (a.1.2.2.2 + 139)), (3, .ref (a.1.2.2.2 + 138)), (2, .ref (a.1.2.2.2 + 69 * 1)), (1, .ref (a.1.2.2.2 + 69 * 0)), (0, .ref bs)]) dL_law_446 (Nat.le_of_ble_eq_true rfl) rfl ?_
    refine z_bipush K cb_9 dL_law_448 ?_
    refine z_istore K (lv' := [(7, .int (9 : Int32)), (6, .int (0 : Int32)), (5, .ref (a.1.2.2.2 + 140)), (4, .ref (a.1.2.2.2 + 139)), (3, .ref (a.1.2.2.2 + 138)), (2, .ref (a.1.2.2.2 + 69 * 1)), (1, .ref (a.1.2.2.2 + 69 * 0)), (0, .ref bs)]) dL_law_450 (Nat.le_of_ble_eq_true rfl) rfl ?_
    refine z_sub [7, 6, 5, 1, 0] rfl ?_
    refine t_L_law_L452 F D K hd xs L hB hR hX hbl hbA hr1 (fun y247 s246 => ?_) F (0 : Int32) (9 : Int32) s88
    refine z_iload K 0 rfl dL_law_843 ?_
    refine z_ite (fun hv248 => ?_) (fun _ => z_none)
    rw [hv248]
    exact hr1 _ _ _ dL_law_845
  · refine z_aload_n K 3 rfl dL_law_428 ?_
    refine z_aload_n K 5 rfl dL_law_429 ?_
    refine z_aload_n K 2 rfl dL_law_430 ?_
    refine z_aload K 1 rfl dL_law_431 ?_
    refine z_aload K 0 rfl dL_law_433 ?_
    refine z_cXi (As := [.ref (a.1.2.2.2 + 69 * 1), .ref bs, .ref (a.1.2.2.2 + 138), .ref (a.1.2.2.2 + 139), .ref (a.1.2.2.2 + 140)]) (rest := []) K hR hX hbl hbA (t_L_lay a.1 F D (d - 1) (by omega) 1 (by decide) xs L hB s88) mf_L_lay ml_L_162 (Nat.le_of_ble_eq_true rfl) (by omega) rfl rfl (Nat.le_of_ble_eq_true rfl) dL_law_435 (fun r250 s249 => ?_)
    refine z_if_eq K (tgt := 445) dL_law_438 (by decide) ?_ ?_
    · refine z_iconst K ci_0 dL_law_445 ?_
      refine z_istore K (lv' := [(6, .int (0 : Int32)), (5, .ref (a.1.2.2.2 + 140)), (4, .ref (a.1.2.2.2 + 139)), (3, .ref (a.1.2.2.2 + 138)), (2, .ref (a.1.2.2.2 + 69 * 1)), (1, .ref (a.1.2.2.2 + 69 * 0)), (0, .ref bs)]) dL_law_446 (Nat.le_of_ble_eq_true rfl) rfl ?_
      refine z_bipush K cb_9 dL_law_448 ?_
      refine z_istore K (lv' := [(7, .int (9 : Int32)), (6, .int (0 : Int32)), (5, .ref (a.1.2.2.2 + 140)), (4, .ref (a.1.2.2.2 + 139)), (3, .ref (a.1.2.2.2 + 138)), (2, .ref (a.1.2.2.2 + 69 * 1)), (1, .ref (a.1.2.2.2 + 69 * 0)), (0, .ref bs)]) dL_law_450 (Nat.le_of_ble_eq_true rfl) rfl ?_
      refine z_sub [7, 6, 5, 1, 0] rfl ?_
      refine t_L_law_L452 F D K hd xs L hB hR hX hbl hbA hr1 (fun y252 s251 => ?_) F (0 : Int32) (9 : Int32) s249
      refine z_iload K 0 rfl dL_law_843 ?_
      refine z_ite (fun hv253 => ?_) (fun _ => z_none)
      rw [hv253]
      exact hr1 _ _ _ dL_law_845
    · refine z_iconst K ci_1 dL_law_441 ?_
      refine z_goto K (tgt := 446) dL_law_442 (by decide) ?_
      refine z_istore K (lv' := [(6, .int (1 : Int32)), (5, .ref (a.1.2.2.2 + 140)), (4, .ref (a.1.2.2.2 + 139)), (3, .ref (a.1.2.2.2 + 138)), (2, .ref (a.1.2.2.2 + 69 * 1)), (1, .ref (a.1.2.2.2 + 69 * 0)), (0, .ref bs)]) dL_law_446 (Nat.le_of_ble_eq_true rfl) rfl ?_
      refine z_bipush K cb_9 dL_law_448 ?_
      refine z_istore K (lv' := [(7, .int (9 : Int32)), (6, .int (1 : Int32)), (5, .ref (a.1.2.2.2 + 140)), (4, .ref (a.1.2.2.2 + 139)), (3, .ref (a.1.2.2.2 + 138)), (2, .ref (a.1.2.2.2 + 69 * 1)), (1, .ref (a.1.2.2.2 + 69 * 0)), (0, .ref bs)]) dL_law_450 (Nat.le_of_ble_eq_true rfl) rfl ?_
      refine z_sub [7, 6, 5, 1, 0] rfl ?_
      refine t_L_law_L452 F D K hd xs L hB hR hX hbl hbA hr1 (fun y255 s254 => ?_) F (1 : Int32) (9 : Int32) s249
      refine z_iload K 0 rfl dL_law_843 ?_
      refine z_ite (fun hv256 => ?_) (fun _ => z_none)
      rw [hv256]
      exact hr1 _ _ _ dL_law_845
