def f_L_law_L18 (F : Nat) (D : Nat) (xs : Nat → Int32) (L : Nat) (k1364 : zM → Option (Int32 × zM)) : Nat → Int32 → zM → Option (Int32 × zM)
  | 0, _, _ => none
  | n + 1, v3, s =>
    if ((nI L) - (6 : Int32)) < v3 then
      k1364 s
    else
      if zin v3 L = true then
        if ((xs (v3).toNatClampNeg) &&& (63 : Int32)) = (0 : Int32) then
          if zin (v3 + (1 : Int32)) L = true then
            if zin (v3 + (2 : Int32)) L = true then
              bnd (f_X11_guest (xs ((v3 + (1 : Int32))).toNatClampNeg) (xs ((v3 + (2 : Int32))).toNatClampNeg) s) (fun r187 s186 =>
              if zin (v3 + (1 : Int32)) L = true then
                if zin (v3 + (2 : Int32)) L = true then
                  bnd (f_X12_guest F (xs ((v3 + (1 : Int32))).toNatClampNeg) (xs ((v3 + (2 : Int32))).toNatClampNeg) s186) (fun r189 s188 =>
                  if r187 = r189 then
                    lt (v3 + (6 : Int32)) (fun y190 =>
                    f_L_law_L18 F D xs L k1364 n y190 s188)
                  else
                    some (0, s188))
                else none
              else none)
            else none
          else none
        else
          if ((xs (v3).toNatClampNeg) &&& (63 : Int32)) = (1 : Int32) then
            if zin (v3 + (1 : Int32)) L = true then
              if zin (v3 + (2 : Int32)) L = true then
                if zin (v3 + (3 : Int32)) L = true then
                  bnd (f_X11_liking (xs ((v3 + (1 : Int32))).toNatClampNeg) (xs ((v3 + (2 : Int32))).toNatClampNeg) (xs ((v3 + (3 : Int32))).toNatClampNeg) s) (fun r182 s181 =>
                  if zin (v3 + (1 : Int32)) L = true then
                    if zin (v3 + (2 : Int32)) L = true then
                      if zin (v3 + (3 : Int32)) L = true then
                        bnd (f_X12_liking (xs ((v3 + (1 : Int32))).toNatClampNeg) (xs ((v3 + (2 : Int32))).toNatClampNeg) (xs ((v3 + (3 : Int32))).toNatClampNeg) s181) (fun r184 s183 =>
                        if r182 = r184 then
                          lt (v3 + (6 : Int32)) (fun y185 =>
                          f_L_law_L18 F D xs L k1364 n y185 s183)
                        else
                          some (0, s183))
                      else none
                    else none
                  else none)
                else none
              else none
            else none
          else
            if ((xs (v3).toNatClampNeg) &&& (63 : Int32)) = (2 : Int32) then
              if zin (v3 + (1 : Int32)) L = true then
                if zin (v3 + (2 : Int32)) L = true then
                  bnd (f_X11_sit (xs ((v3 + (1 : Int32))).toNatClampNeg) (xs ((v3 + (2 : Int32))).toNatClampNeg) s) (fun r177 s176 =>
                  if zin (v3 + (1 : Int32)) L = true then
                    if zin (v3 + (2 : Int32)) L = true then
                      bnd (f_X12_sit F (xs ((v3 + (1 : Int32))).toNatClampNeg) (xs ((v3 + (2 : Int32))).toNatClampNeg) s176) (fun r179 s178 =>
                      if r177 = r179 then
                        lt (v3 + (6 : Int32)) (fun y180 =>
                        f_L_law_L18 F D xs L k1364 n y180 s178)
                      else
                        some (0, s178))
                    else none
                  else none)
                else none
              else none
            else
              if ((xs (v3).toNatClampNeg) &&& (63 : Int32)) = (3 : Int32) then
                if zin (v3 + (1 : Int32)) L = true then
                  if zin (v3 + (2 : Int32)) L = true then
                    if zin (v3 + (3 : Int32)) L = true then
                      if zin (v3 + (4 : Int32)) L = true then
                        if zin (v3 + (5 : Int32)) L = true then
                          bnd (f_X11_feed F (xs ((v3 + (1 : Int32))).toNatClampNeg) (xs ((v3 + (2 : Int32))).toNatClampNeg) (xs ((v3 + (3 : Int32))).toNatClampNeg) (xs ((v3 + (4 : Int32))).toNatClampNeg) (xs ((v3 + (5 : Int32))).toNatClampNeg) s) (fun r172 s171 =>
                          if zin (v3 + (1 : Int32)) L = true then
                            if zin (v3 + (2 : Int32)) L = true then
                              if zin (v3 + (3 : Int32)) L = true then
                                if zin (v3 + (4 : Int32)) L = true then
                                  if zin (v3 + (5 : Int32)) L = true then
                                    bnd (f_X12_feed F (xs ((v3 + (1 : Int32))).toNatClampNeg) (xs ((v3 + (2 : Int32))).toNatClampNeg) (xs ((v3 + (3 : Int32))).toNatClampNeg) (xs ((v3 + (4 : Int32))).toNatClampNeg) (xs ((v3 + (5 : Int32))).toNatClampNeg) s171) (fun r174 s173 =>
                                    if r172 = r174 then
                                      lt (v3 + (6 : Int32)) (fun y175 =>
                                      f_L_law_L18 F D xs L k1364 n y175 s173)
                                    else
                                      some (0, s173))
                                  else none
                                else none
                              else none
                            else none
                          else none)
                        else none
                      else none
                    else none
                  else none
                else none
              else
                if ((xs (v3).toNatClampNeg) &&& (63 : Int32)) = (4 : Int32) then
                  if zin (v3 + (1 : Int32)) L = true then
                    bnd (f_X11_law F D (xs ((v3 + (1 : Int32))).toNatClampNeg) s) (fun r167 s166 =>
                    if zin (v3 + (1 : Int32)) L = true then
                      bnd (f_X12_law F (xs ((v3 + (1 : Int32))).toNatClampNeg) s166) (fun r169 s168 =>
                      if r167 = r169 then
                        lt (v3 + (6 : Int32)) (fun y170 =>
                        f_L_law_L18 F D xs L k1364 n y170 s168)
                      else
                        some (0, s168))
                    else none)
                  else none
                else
                  if ((xs (v3).toNatClampNeg) &&& (63 : Int32)) = (5 : Int32) then
                    if zin (v3 + (1 : Int32)) L = true then
                      if zin (v3 + (2 : Int32)) L = true then
                        if zin (v3 + (3 : Int32)) L = true then
                          bnd (f_X11_two F (xs ((v3 + (1 : Int32))).toNatClampNeg) (xs ((v3 + (2 : Int32))).toNatClampNeg) (xs ((v3 + (3 : Int32))).toNatClampNeg) s) (fun r162 s161 =>
                          if zin (v3 + (1 : Int32)) L = true then
                            if zin (v3 + (2 : Int32)) L = true then
                              if zin (v3 + (3 : Int32)) L = true then
                                bnd (f_X12_two F (xs ((v3 + (1 : Int32))).toNatClampNeg) (xs ((v3 + (2 : Int32))).toNatClampNeg) (xs ((v3 + (3 : Int32))).toNatClampNeg) s161) (fun r164 s163 =>
                                if r162 = r164 then
                                  lt (v3 + (6 : Int32)) (fun y165 =>
                                  f_L_law_L18 F D xs L k1364 n y165 s163)
                                else
                                  some (0, s163))
                              else none
                            else none
                          else none)
                        else none
                      else none
                    else none
                  else
                    if ((xs (v3).toNatClampNeg) &&& (63 : Int32)) = (6 : Int32) then
                      if zin (v3 + (1 : Int32)) L = true then
                        if zin (v3 + (2 : Int32)) L = true then
                          bnd (f_X11_worth F (xs ((v3 + (1 : Int32))).toNatClampNeg) (xs ((v3 + (2 : Int32))).toNatClampNeg) s) (fun r157 s156 =>
                          if zin (v3 + (1 : Int32)) L = true then
                            if zin (v3 + (2 : Int32)) L = true then
                              bnd (f_X12_worth F (xs ((v3 + (1 : Int32))).toNatClampNeg) (xs ((v3 + (2 : Int32))).toNatClampNeg) s156) (fun r159 s158 =>
                              if r157 = r159 then
                                lt (v3 + (6 : Int32)) (fun y160 =>
                                f_L_law_L18 F D xs L k1364 n y160 s158)
                              else
                                some (0, s158))
                            else none
                          else none)
                        else none
                      else none
                    else
                      if ((xs (v3).toNatClampNeg) &&& (63 : Int32)) = (7 : Int32) then
                        if zin (v3 + (1 : Int32)) L = true then
                          if zin (v3 + (2 : Int32)) L = true then
                            if zin (v3 + (3 : Int32)) L = true then
                              bnd (f_X11_rain (xs ((v3 + (1 : Int32))).toNatClampNeg) (xs ((v3 + (2 : Int32))).toNatClampNeg) (xs ((v3 + (3 : Int32))).toNatClampNeg) s) (fun r152 s151 =>
                              if zin (v3 + (1 : Int32)) L = true then
                                if zin (v3 + (2 : Int32)) L = true then
                                  if zin (v3 + (3 : Int32)) L = true then
                                    bnd (f_X12_rain (xs ((v3 + (1 : Int32))).toNatClampNeg) (xs ((v3 + (2 : Int32))).toNatClampNeg) (xs ((v3 + (3 : Int32))).toNatClampNeg) s151) (fun r154 s153 =>
                                    if r152 = r154 then
                                      lt (v3 + (6 : Int32)) (fun y155 =>
                                      f_L_law_L18 F D xs L k1364 n y155 s153)
                                    else
                                      some (0, s153))
                                  else none
                                else none
                              else none)
                            else none
                          else none
                        else none
                      else
                        if ((xs (v3).toNatClampNeg) &&& (63 : Int32)) = (8 : Int32) then
                          if zin (v3 + (1 : Int32)) L = true then
                            if zin (v3 + (2 : Int32)) L = true then
                              if zin (v3 + (3 : Int32)) L = true then
                                bnd (f_X11_soonest F (xs ((v3 + (1 : Int32))).toNatClampNeg) (xs ((v3 + (2 : Int32))).toNatClampNeg) (xs ((v3 + (3 : Int32))).toNatClampNeg) s) (fun r147 s146 =>
                                if zin (v3 + (1 : Int32)) L = true then
                                  if zin (v3 + (2 : Int32)) L = true then
                                    if zin (v3 + (3 : Int32)) L = true then
                                      bnd (f_X12_soonest F (xs ((v3 + (1 : Int32))).toNatClampNeg) (xs ((v3 + (2 : Int32))).toNatClampNeg) (xs ((v3 + (3 : Int32))).toNatClampNeg) s146) (fun r149 s148 =>
                                      if r147 = r149 then
                                        lt (v3 + (6 : Int32)) (fun y150 =>
                                        f_L_law_L18 F D xs L k1364 n y150 s148)
                                      else
                                        some (0, s148))
                                    else none
                                  else none
                                else none)
                              else none
                            else none
                          else none
                        else
                          if ((xs (v3).toNatClampNeg) &&& (63 : Int32)) = (9 : Int32) then
                            if zin (v3 + (1 : Int32)) L = true then
                              if zin (v3 + (2 : Int32)) L = true then
                                if zin (v3 + (3 : Int32)) L = true then
                                  bnd (f_X11_rumour F (xs ((v3 + (1 : Int32))).toNatClampNeg) (xs ((v3 + (2 : Int32))).toNatClampNeg) (xs ((v3 + (3 : Int32))).toNatClampNeg) s) (fun r142 s141 =>
                                  if zin (v3 + (1 : Int32)) L = true then
                                    if zin (v3 + (2 : Int32)) L = true then
                                      if zin (v3 + (3 : Int32)) L = true then
                                        bnd (f_X12_rumour F (xs ((v3 + (1 : Int32))).toNatClampNeg) (xs ((v3 + (2 : Int32))).toNatClampNeg) (xs ((v3 + (3 : Int32))).toNatClampNeg) s141) (fun r144 s143 =>
                                        if r142 = r144 then
                                          lt (v3 + (6 : Int32)) (fun y145 =>
                                          f_L_law_L18 F D xs L k1364 n y145 s143)
                                        else
                                          some (0, s143))
                                      else none
                                    else none
                                  else none)
                                else none
                              else none
                            else none
                          else
                            if ((xs (v3).toNatClampNeg) &&& (63 : Int32)) = (10 : Int32) then
                              if zin (v3 + (1 : Int32)) L = true then
                                if zin (v3 + (2 : Int32)) L = true then
                                  if zin (v3 + (3 : Int32)) L = true then
                                    bnd (f_X11_speech (xs ((v3 + (1 : Int32))).toNatClampNeg) (xs ((v3 + (2 : Int32))).toNatClampNeg) (xs ((v3 + (3 : Int32))).toNatClampNeg) s) (fun r137 s136 =>
                                    if zin (v3 + (1 : Int32)) L = true then
                                      if zin (v3 + (2 : Int32)) L = true then
                                        if zin (v3 + (3 : Int32)) L = true then
                                          bnd (f_X12_speech (xs ((v3 + (1 : Int32))).toNatClampNeg) (xs ((v3 + (2 : Int32))).toNatClampNeg) (xs ((v3 + (3 : Int32))).toNatClampNeg) s136) (fun r139 s138 =>
                                          if r137 = r139 then
                                            lt (v3 + (6 : Int32)) (fun y140 =>
                                            f_L_law_L18 F D xs L k1364 n y140 s138)
                                          else
                                            some (0, s138))
                                        else none
                                      else none
                                    else none)
                                  else none
                                else none
                              else none
                            else
                              if ((xs (v3).toNatClampNeg) &&& (63 : Int32)) = (11 : Int32) then
                                if zin (v3 + (1 : Int32)) L = true then
                                  if zin (v3 + (2 : Int32)) L = true then
                                    bnd (f_X11_heard F (xs ((v3 + (1 : Int32))).toNatClampNeg) (xs ((v3 + (2 : Int32))).toNatClampNeg) s) (fun r132 s131 =>
                                    if zin (v3 + (1 : Int32)) L = true then
                                      if zin (v3 + (2 : Int32)) L = true then
                                        bnd (f_X12_heard F (xs ((v3 + (1 : Int32))).toNatClampNeg) (xs ((v3 + (2 : Int32))).toNatClampNeg) s131) (fun r134 s133 =>
                                        if r132 = r134 then
                                          lt (v3 + (6 : Int32)) (fun y135 =>
                                          f_L_law_L18 F D xs L k1364 n y135 s133)
                                        else
                                          some (0, s133))
                                      else none
                                    else none)
                                  else none
                                else none
                              else
                                if ((xs (v3).toNatClampNeg) &&& (63 : Int32)) = (12 : Int32) then
                                  if zin (v3 + (1 : Int32)) L = true then
                                    if zin (v3 + (2 : Int32)) L = true then
                                      if zin (v3 + (3 : Int32)) L = true then
                                        bnd (f_X11_smuggled F D (xs ((v3 + (1 : Int32))).toNatClampNeg) (xs ((v3 + (2 : Int32))).toNatClampNeg) (xs ((v3 + (3 : Int32))).toNatClampNeg) s) (fun r127 s126 =>
                                        if zin (v3 + (1 : Int32)) L = true then
                                          if zin (v3 + (2 : Int32)) L = true then
                                            if zin (v3 + (3 : Int32)) L = true then
                                              bnd (f_X12_smuggled F (xs ((v3 + (1 : Int32))).toNatClampNeg) (xs ((v3 + (2 : Int32))).toNatClampNeg) (xs ((v3 + (3 : Int32))).toNatClampNeg) s126) (fun r129 s128 =>
                                              if (lg_cmp r127 r129) = 0 then
                                                lt (v3 + (6 : Int32)) (fun y130 =>
                                                f_L_law_L18 F D xs L k1364 n y130 s128)
                                              else
                                                some (0, s128))
                                            else none
                                          else none
                                        else none)
                                      else none
                                    else none
                                  else none
                                else
                                  if ((xs (v3).toNatClampNeg) &&& (63 : Int32)) = (13 : Int32) then
                                    bnd (f_X11_sum F s) (fun r122 s121 =>
                                    bnd (f_X12_sum F s121) (fun r124 s123 =>
                                    if r122 = r124 then
                                      lt (v3 + (6 : Int32)) (fun y125 =>
                                      f_L_law_L18 F D xs L k1364 n y125 s123)
                                    else
                                      some (0, s123)))
                                  else
                                    if ((xs (v3).toNatClampNeg) &&& (63 : Int32)) = (14 : Int32) then
                                      if zin (v3 + (1 : Int32)) L = true then
                                        if zin (v3 + (2 : Int32)) L = true then
                                          if zin (v3 + (3 : Int32)) L = true then
                                            bnd (f_X11_seating F D (xs ((v3 + (1 : Int32))).toNatClampNeg) (xs ((v3 + (2 : Int32))).toNatClampNeg) (xs ((v3 + (3 : Int32))).toNatClampNeg) s) (fun r117 s116 =>
                                            if zin (v3 + (1 : Int32)) L = true then
                                              if zin (v3 + (2 : Int32)) L = true then
                                                if zin (v3 + (3 : Int32)) L = true then
                                                  bnd (f_X12_seating F (xs ((v3 + (1 : Int32))).toNatClampNeg) (xs ((v3 + (2 : Int32))).toNatClampNeg) (xs ((v3 + (3 : Int32))).toNatClampNeg) s116) (fun r119 s118 =>
                                                  if r117 = r119 then
                                                    lt (v3 + (6 : Int32)) (fun y120 =>
                                                    f_L_law_L18 F D xs L k1364 n y120 s118)
                                                  else
                                                    some (0, s118))
                                                else none
                                              else none
                                            else none)
                                          else none
                                        else none
                                      else none
                                    else
                                      if ((xs (v3).toNatClampNeg) &&& (63 : Int32)) = (15 : Int32) then
                                        if zin (v3 + (1 : Int32)) L = true then
                                          bnd (f_X11_exchange F (xs ((v3 + (1 : Int32))).toNatClampNeg) s) (fun r112 s111 =>
                                          if zin (v3 + (1 : Int32)) L = true then
                                            bnd (f_X12_exchange F (xs ((v3 + (1 : Int32))).toNatClampNeg) s111) (fun r114 s113 =>
                                            if r112 = r114 then
                                              lt (v3 + (6 : Int32)) (fun y115 =>
                                              f_L_law_L18 F D xs L k1364 n y115 s113)
                                            else
                                              some (0, s113))
                                          else none)
                                        else none
                                      else
                                        if ((xs (v3).toNatClampNeg) &&& (63 : Int32)) = (16 : Int32) then
                                          bnd (f_X11_exchanges F s) (fun r107 s106 =>
                                          bnd (f_X12_exchanges F s106) (fun r109 s108 =>
                                          if r107 = r109 then
                                            lt (v3 + (6 : Int32)) (fun y110 =>
                                            f_L_law_L18 F D xs L k1364 n y110 s108)
                                          else
                                            some (0, s108)))
                                        else
                                          if ((xs (v3).toNatClampNeg) &&& (63 : Int32)) = (17 : Int32) then
                                            bnd (f_X11_strays F s) (fun r102 s101 =>
                                            bnd (f_X12_strays F s101) (fun r104 s103 =>
                                            if r102 = r104 then
                                              lt (v3 + (6 : Int32)) (fun y105 =>
                                              f_L_law_L18 F D xs L k1364 n y105 s103)
                                            else
                                              some (0, s103)))
                                          else
                                            if ((xs (v3).toNatClampNeg) &&& (63 : Int32)) = (18 : Int32) then
                                              bnd (f_X11_home F s) (fun r97 s96 =>
                                              bnd (f_X12_home F s96) (fun r99 s98 =>
                                              if r97 = r99 then
                                                lt (v3 + (6 : Int32)) (fun y100 =>
                                                f_L_law_L18 F D xs L k1364 n y100 s98)
                                              else
                                                some (0, s98)))
                                            else
                                              if ((xs (v3).toNatClampNeg) &&& (63 : Int32)) = (19 : Int32) then
                                                if zin (v3 + (1 : Int32)) L = true then
                                                  if zin (v3 + (2 : Int32)) L = true then
                                                    bnd (f_X11_heir (xs ((v3 + (1 : Int32))).toNatClampNeg) (xs ((v3 + (2 : Int32))).toNatClampNeg) s) (fun r92 s91 =>
                                                    if zin (v3 + (1 : Int32)) L = true then
                                                      if zin (v3 + (2 : Int32)) L = true then
                                                        bnd (f_X12_heir (xs ((v3 + (1 : Int32))).toNatClampNeg) (xs ((v3 + (2 : Int32))).toNatClampNeg) s91) (fun r94 s93 =>
                                                        if r92 = r94 then
                                                          lt (v3 + (6 : Int32)) (fun y95 =>
                                                          f_L_law_L18 F D xs L k1364 n y95 s93)
                                                        else
                                                          some (0, s93))
                                                      else none
                                                    else none)
                                                  else none
                                                else none
                                              else
                                                if ((xs (v3).toNatClampNeg) &&& (63 : Int32)) = (20 : Int32) then
                                                  if zin (v3 + (1 : Int32)) L = true then
                                                    bnd (f_X11_dies F (xs ((v3 + (1 : Int32))).toNatClampNeg) s) (fun r87 s86 =>
                                                    if zin (v3 + (1 : Int32)) L = true then
                                                      bnd (f_X12_dies F (xs ((v3 + (1 : Int32))).toNatClampNeg) s86) (fun r89 s88 =>
                                                      if r87 = r89 then
                                                        lt (v3 + (6 : Int32)) (fun y90 =>
                                                        f_L_law_L18 F D xs L k1364 n y90 s88)
                                                      else
                                                        some (0, s88))
                                                    else none)
                                                  else none
                                                else
                                                  if ((xs (v3).toNatClampNeg) &&& (63 : Int32)) = (21 : Int32) then
                                                    if zin (v3 + (1 : Int32)) L = true then
                                                      if zin (v3 + (2 : Int32)) L = true then
                                                        bnd (f_X11_knives (xs ((v3 + (1 : Int32))).toNatClampNeg) (xs ((v3 + (2 : Int32))).toNatClampNeg) s) (fun r82 s81 =>
                                                        if zin (v3 + (1 : Int32)) L = true then
                                                          if zin (v3 + (2 : Int32)) L = true then
                                                            bnd (f_X12_knives (xs ((v3 + (1 : Int32))).toNatClampNeg) (xs ((v3 + (2 : Int32))).toNatClampNeg) s81) (fun r84 s83 =>
                                                            if r82 = r84 then
                                                              lt (v3 + (6 : Int32)) (fun y85 =>
                                                              f_L_law_L18 F D xs L k1364 n y85 s83)
                                                            else
                                                              some (0, s83))
                                                          else none
                                                        else none)
                                                      else none
                                                    else none
                                                  else
                                                    if ((xs (v3).toNatClampNeg) &&& (63 : Int32)) = (22 : Int32) then
                                                      if zin (v3 + (1 : Int32)) L = true then
                                                        if zin (v3 + (2 : Int32)) L = true then
                                                          if zin (v3 + (3 : Int32)) L = true then
                                                            bnd (f_X11_put (xs ((v3 + (1 : Int32))).toNatClampNeg) (xs ((v3 + (2 : Int32))).toNatClampNeg) (xs ((v3 + (3 : Int32))).toNatClampNeg) s) (fun r77 s76 =>
                                                            if zin (v3 + (1 : Int32)) L = true then
                                                              if zin (v3 + (2 : Int32)) L = true then
                                                                if zin (v3 + (3 : Int32)) L = true then
                                                                  bnd (f_X12_put (xs ((v3 + (1 : Int32))).toNatClampNeg) (xs ((v3 + (2 : Int32))).toNatClampNeg) (xs ((v3 + (3 : Int32))).toNatClampNeg) s76) (fun r79 s78 =>
                                                                  if r77 = r79 then
                                                                    lt (v3 + (6 : Int32)) (fun y80 =>
                                                                    f_L_law_L18 F D xs L k1364 n y80 s78)
                                                                  else
                                                                    some (0, s78))
                                                                else none
                                                              else none
                                                            else none)
                                                          else none
                                                        else none
                                                      else none
                                                    else
                                                      if ((xs (v3).toNatClampNeg) &&& (63 : Int32)) = (23 : Int32) then
                                                        if zin (v3 + (1 : Int32)) L = true then
                                                          if zin (v3 + (2 : Int32)) L = true then
                                                            if zin (v3 + (3 : Int32)) L = true then
                                                              if zin (v3 + (4 : Int32)) L = true then
                                                                bnd (f_X11_counted (xs ((v3 + (1 : Int32))).toNatClampNeg) (xs ((v3 + (2 : Int32))).toNatClampNeg) (xs ((v3 + (3 : Int32))).toNatClampNeg) (xs ((v3 + (4 : Int32))).toNatClampNeg) s) (fun r72 s71 =>
                                                                if zin (v3 + (1 : Int32)) L = true then
                                                                  if zin (v3 + (2 : Int32)) L = true then
                                                                    if zin (v3 + (3 : Int32)) L = true then
                                                                      if zin (v3 + (4 : Int32)) L = true then
                                                                        bnd (f_X12_counted (xs ((v3 + (1 : Int32))).toNatClampNeg) (xs ((v3 + (2 : Int32))).toNatClampNeg) (xs ((v3 + (3 : Int32))).toNatClampNeg) (xs ((v3 + (4 : Int32))).toNatClampNeg) s71) (fun r74 s73 =>
                                                                        if r72 = r74 then
                                                                          lt (v3 + (6 : Int32)) (fun y75 =>
                                                                          f_L_law_L18 F D xs L k1364 n y75 s73)
                                                                        else
                                                                          some (0, s73))
                                                                      else none
                                                                    else none
                                                                  else none
                                                                else none)
                                                              else none
                                                            else none
                                                          else none
                                                        else none
                                                      else
                                                        if ((xs (v3).toNatClampNeg) &&& (63 : Int32)) = (24 : Int32) then
                                                          if zin (v3 + (1 : Int32)) L = true then
                                                            bnd (f_X11_missing F (xs ((v3 + (1 : Int32))).toNatClampNeg) s) (fun r67 s66 =>
                                                            if zin (v3 + (1 : Int32)) L = true then
                                                              bnd (f_X12_missing F (xs ((v3 + (1 : Int32))).toNatClampNeg) s66) (fun r69 s68 =>
                                                              if r67 = r69 then
                                                                lt (v3 + (6 : Int32)) (fun y70 =>
                                                                f_L_law_L18 F D xs L k1364 n y70 s68)
                                                              else
                                                                some (0, s68))
                                                            else none)
                                                          else none
                                                        else
                                                          if ((xs (v3).toNatClampNeg) &&& (63 : Int32)) = (25 : Int32) then
                                                            bnd (f_X11_wrong F s) (fun r62 s61 =>
                                                            bnd (f_X12_wrong F s61) (fun r64 s63 =>
                                                            if r62 = r64 then
                                                              lt (v3 + (6 : Int32)) (fun y65 =>
                                                              f_L_law_L18 F D xs L k1364 n y65 s63)
                                                            else
                                                              some (0, s63)))
                                                          else
                                                            if ((xs (v3).toNatClampNeg) &&& (63 : Int32)) = (26 : Int32) then
                                                              if zin (v3 + (1 : Int32)) L = true then
                                                                if zin (v3 + (2 : Int32)) L = true then
                                                                  bnd (f_X11_gives (xs ((v3 + (1 : Int32))).toNatClampNeg) (xs ((v3 + (2 : Int32))).toNatClampNeg) s) (fun r57 s56 =>
                                                                  if zin (v3 + (1 : Int32)) L = true then
                                                                    if zin (v3 + (2 : Int32)) L = true then
                                                                      bnd (f_X12_gives (xs ((v3 + (1 : Int32))).toNatClampNeg) (xs ((v3 + (2 : Int32))).toNatClampNeg) s56) (fun r59 s58 =>
                                                                      if r57 = r59 then
                                                                        lt (v3 + (6 : Int32)) (fun y60 =>
                                                                        f_L_law_L18 F D xs L k1364 n y60 s58)
                                                                      else
                                                                        some (0, s58))
                                                                    else none
                                                                  else none)
                                                                else none
                                                              else none
                                                            else
                                                              if ((xs (v3).toNatClampNeg) &&& (63 : Int32)) = (27 : Int32) then
                                                                if zin (v3 + (1 : Int32)) L = true then
                                                                  if zin (v3 + (2 : Int32)) L = true then
                                                                    if zin (v3 + (3 : Int32)) L = true then
                                                                      bnd (f_X11_passes F (xs ((v3 + (1 : Int32))).toNatClampNeg) (xs ((v3 + (2 : Int32))).toNatClampNeg) (xs ((v3 + (3 : Int32))).toNatClampNeg) s) (fun r52 s51 =>
                                                                      if zin (v3 + (1 : Int32)) L = true then
                                                                        if zin (v3 + (2 : Int32)) L = true then
                                                                          if zin (v3 + (3 : Int32)) L = true then
                                                                            bnd (f_X12_passes F (xs ((v3 + (1 : Int32))).toNatClampNeg) (xs ((v3 + (2 : Int32))).toNatClampNeg) (xs ((v3 + (3 : Int32))).toNatClampNeg) s51) (fun r54 s53 =>
                                                                            if r52 = r54 then
                                                                              lt (v3 + (6 : Int32)) (fun y55 =>
                                                                              f_L_law_L18 F D xs L k1364 n y55 s53)
                                                                            else
                                                                              some (0, s53))
                                                                          else none
                                                                        else none
                                                                      else none)
                                                                    else none
                                                                  else none
                                                                else none
                                                              else
                                                                if ((xs (v3).toNatClampNeg) &&& (63 : Int32)) = (28 : Int32) then
                                                                  if zin (v3 + (1 : Int32)) L = true then
                                                                    if zin (v3 + (2 : Int32)) L = true then
                                                                      bnd (f_X11_eats (xs ((v3 + (1 : Int32))).toNatClampNeg) (xs ((v3 + (2 : Int32))).toNatClampNeg) s) (fun r47 s46 =>
                                                                      if zin (v3 + (1 : Int32)) L = true then
                                                                        if zin (v3 + (2 : Int32)) L = true then
                                                                          bnd (f_X12_eats (xs ((v3 + (1 : Int32))).toNatClampNeg) (xs ((v3 + (2 : Int32))).toNatClampNeg) s46) (fun r49 s48 =>
                                                                          if r47 = r49 then
                                                                            lt (v3 + (6 : Int32)) (fun y50 =>
                                                                            f_L_law_L18 F D xs L k1364 n y50 s48)
                                                                          else
                                                                            some (0, s48))
                                                                        else none
                                                                      else none)
                                                                    else none
                                                                  else none
                                                                else
                                                                  if ((xs (v3).toNatClampNeg) &&& (63 : Int32)) = (29 : Int32) then
                                                                    if zin (v3 + (1 : Int32)) L = true then
                                                                      if zin (v3 + (2 : Int32)) L = true then
                                                                        bnd (f_X11_fed (xs ((v3 + (1 : Int32))).toNatClampNeg) (xs ((v3 + (2 : Int32))).toNatClampNeg) s) (fun r42 s41 =>
                                                                        if zin (v3 + (1 : Int32)) L = true then
                                                                          if zin (v3 + (2 : Int32)) L = true then
                                                                            bnd (f_X12_fed (xs ((v3 + (1 : Int32))).toNatClampNeg) (xs ((v3 + (2 : Int32))).toNatClampNeg) s41) (fun r44 s43 =>
                                                                            if r42 = r44 then
                                                                              lt (v3 + (6 : Int32)) (fun y45 =>
                                                                              f_L_law_L18 F D xs L k1364 n y45 s43)
                                                                            else
                                                                              some (0, s43))
                                                                          else none
                                                                        else none)
                                                                      else none
                                                                    else none
                                                                  else
                                                                    if ((xs (v3).toNatClampNeg) &&& (63 : Int32)) = (30 : Int32) then
                                                                      if zin (v3 + (1 : Int32)) L = true then
                                                                        if zin (v3 + (2 : Int32)) L = true then
                                                                          bnd (f_X11_led F (xs ((v3 + (1 : Int32))).toNatClampNeg) (xs ((v3 + (2 : Int32))).toNatClampNeg) s) (fun r37 s36 =>
                                                                          if zin (v3 + (1 : Int32)) L = true then
                                                                            if zin (v3 + (2 : Int32)) L = true then
                                                                              bnd (f_X12_led (xs ((v3 + (1 : Int32))).toNatClampNeg) (xs ((v3 + (2 : Int32))).toNatClampNeg) s36) (fun r39 s38 =>
                                                                              if r37 = r39 then
                                                                                lt (v3 + (6 : Int32)) (fun y40 =>
                                                                                f_L_law_L18 F D xs L k1364 n y40 s38)
                                                                              else
                                                                                some (0, s38))
                                                                            else none
                                                                          else none)
                                                                        else none
                                                                      else none
                                                                    else
                                                                      if ((xs (v3).toNatClampNeg) &&& (63 : Int32)) = (31 : Int32) then
                                                                        if zin (v3 + (1 : Int32)) L = true then
                                                                          bnd (f_X11_seed (xs ((v3 + (1 : Int32))).toNatClampNeg) s) (fun r32 s31 =>
                                                                          if zin (v3 + (1 : Int32)) L = true then
                                                                            bnd (f_X12_seed (xs ((v3 + (1 : Int32))).toNatClampNeg) s31) (fun r34 s33 =>
                                                                            if r32 = r34 then
                                                                              lt (v3 + (6 : Int32)) (fun y35 =>
                                                                              f_L_law_L18 F D xs L k1364 n y35 s33)
                                                                            else
                                                                              some (0, s33))
                                                                          else none)
                                                                        else none
                                                                      else
                                                                        if ((xs (v3).toNatClampNeg) &&& (63 : Int32)) = (32 : Int32) then
                                                                          if zin (v3 + (1 : Int32)) L = true then
                                                                            bnd (f_X11_draw F (xs ((v3 + (1 : Int32))).toNatClampNeg) s) (fun r27 s26 =>
                                                                            if zin (v3 + (1 : Int32)) L = true then
                                                                              bnd (f_X12_draw F (xs ((v3 + (1 : Int32))).toNatClampNeg) s26) (fun r29 s28 =>
                                                                              if r27 = r29 then
                                                                                lt (v3 + (6 : Int32)) (fun y30 =>
                                                                                f_L_law_L18 F D xs L k1364 n y30 s28)
                                                                              else
                                                                                some (0, s28))
                                                                            else none)
                                                                          else none
                                                                        else
                                                                          if ((xs (v3).toNatClampNeg) &&& (63 : Int32)) = (33 : Int32) then
                                                                            bnd (f_X11_keep F s) (fun r22 s21 =>
                                                                            bnd (f_X12_keep F s21) (fun r24 s23 =>
                                                                            if r22 = r24 then
                                                                              lt (v3 + (6 : Int32)) (fun y25 =>
                                                                              f_L_law_L18 F D xs L k1364 n y25 s23)
                                                                            else
                                                                              some (0, s23)))
                                                                          else
                                                                            if ((xs (v3).toNatClampNeg) &&& (63 : Int32)) = (34 : Int32) then
                                                                              bnd (f_X11_undo F s) (fun r17 s16 =>
                                                                              bnd (f_X12_undo F s16) (fun r19 s18 =>
                                                                              if r17 = r19 then
                                                                                lt (v3 + (6 : Int32)) (fun y20 =>
                                                                                f_L_law_L18 F D xs L k1364 n y20 s18)
                                                                              else
                                                                                some (0, s18)))
                                                                            else
                                                                              if ((xs (v3).toNatClampNeg) &&& (63 : Int32)) = (35 : Int32) then
                                                                                if zin (v3 + (1 : Int32)) L = true then
                                                                                  if zin (v3 + (2 : Int32)) L = true then
                                                                                    bnd (f_X11_check F (xs ((v3 + (1 : Int32))).toNatClampNeg) (xs ((v3 + (2 : Int32))).toNatClampNeg) s) (fun r12 s11 =>
                                                                                    if zin (v3 + (1 : Int32)) L = true then
                                                                                      if zin (v3 + (2 : Int32)) L = true then
                                                                                        bnd (f_X12_check F (xs ((v3 + (1 : Int32))).toNatClampNeg) (xs ((v3 + (2 : Int32))).toNatClampNeg) s11) (fun r14 s13 =>
                                                                                        if r12 = r14 then
                                                                                          lt (v3 + (6 : Int32)) (fun y15 =>
                                                                                          f_L_law_L18 F D xs L k1364 n y15 s13)
                                                                                        else
                                                                                          some (0, s13))
                                                                                      else none
                                                                                    else none)
                                                                                  else none
                                                                                else none
                                                                              else
                                                                                if ((xs (v3).toNatClampNeg) &&& (63 : Int32)) = (36 : Int32) then
                                                                                  if zin (v3 + (1 : Int32)) L = true then
                                                                                    bnd (f_X11_count (xs ((v3 + (1 : Int32))).toNatClampNeg) s) (fun r7 s6 =>
                                                                                    if zin (v3 + (1 : Int32)) L = true then
                                                                                      bnd (f_X12_count (xs ((v3 + (1 : Int32))).toNatClampNeg) s6) (fun r9 s8 =>
                                                                                      if r7 = r9 then
                                                                                        lt (v3 + (6 : Int32)) (fun y10 =>
                                                                                        f_L_law_L18 F D xs L k1364 n y10 s8)
                                                                                      else
                                                                                        some (0, s8))
                                                                                    else none)
                                                                                  else none
                                                                                else
                                                                                  lt (v3 + (6 : Int32)) (fun y5 =>
                                                                                  f_L_law_L18 F D xs L k1364 n y5 s)
      else none
set_option maxRecDepth 100000 in
set_option maxHeartbeats 4000000 in
theorem t_L_law_L18 {a : zA} {d : Nat} (F : Nat) (D : Nat) (K : zOK a code 4 RL (some .boolean) d) (hd : 2 * D + 9 ≤ d) (xs : Nat → Int32) (L : Nat) (hR : 121 ≤ a.2.2.2.1.cells ∧ 54011 ≤ a.2.2.2.1.slots) {bs : Nat} (hX : va_X bs L xs a.2.2.2.2.1 a.2.2.2.2.1.heap) (hbl : bs < a.2.2.2.2.1.heap.size) (hbA : bs < a.1.2.2.2) {G : Int32 → zM → State → Prop} (hr0 : ∀ (pc : Nat) (lv : List (Nat × Value)) (st : List Value) (s : zM), zJ a 4 G (zKD, false, 121, 54011) pc lv st s (some (0, s))) (hr1 : ∀ (pc : Nat) (lv : List (Nat × Value)) (s : zM), decode code pc = .ok (.ireturn, 1) → zJ a 4 G (zKD, false, 121, 54011) pc lv [.int 1] s (some (1, s))) {k1364 : zM → Option (Int32 × zM)} (h1364 : ∀ (s : zM), zJ a 4 G (zKD, false, 121, 54011) 1364 [] [] s (k1364 s)) : ∀ (n : Nat) (v3 : Int32) (s : zM), zJ a 4 G (zKD, false, 121, 54011) 18 [(0, .ref bs), (1, .ref (a.1.2.2.2 + 0)), (2, .ref (a.1.2.2.2 + 69)), (3, .int v3)] [] s (f_L_law_L18 F D xs L k1364 n v3 s) := by
  intro n
  induction n with
  | zero => intros; exact z_none
  | succ n ih =>
    intro v3 s
    rw [f_L_law_L18]
    refine z_iload_n K 3 rfl dL_law_18 ?_
    refine z_saload_n K 0 rfl dL_law_19 ?_
    refine z_slen K hX hbl hbA dL_law_20 ?_
    refine z_bipush K cb_6 dL_law_21 ?_
    refine z_isub K dL_law_23 ?_
    refine z_icmp_gt K (tgt := 1364) dL_law_24 (by decide) ?_ ?_
    · refine z_sub [] rfl ?_
      exact h1364 s
    · refine z_saload_n K 0 rfl dL_law_27 ?_
      refine z_iload_n K 3 rfl dL_law_28 ?_
      refine z_sld K hX hbl hbA dL_law_29 ?_
      refine z_bipush K cb_63 dL_law_30 ?_
      refine z_iand K dL_law_32 ?_
      refine z_ite (fun hs0 => ?_) (fun hs0 => ?_)
      · refine z_tswIn K (tgt := 196) (off := 163) dL_law_33 (by rw [hs0]; decide) (by rw [hs0]; decide) (by rw [hs0]; rfl) (by decide) ?_
        refine z_aload_n K 1 rfl dL_law_196 ?_
        refine z_saload_n K 0 rfl dL_law_197 ?_
        refine z_iload_n K 3 rfl dL_law_198 ?_
        refine z_iconst K ci_1 dL_law_199 ?_
        refine z_iadd K dL_law_200 ?_
        refine z_sld K hX hbl hbA dL_law_201 ?_
        refine z_saload_n K 0 rfl dL_law_202 ?_
        refine z_iload_n K 3 rfl dL_law_203 ?_
        refine z_iconst K ci_2 dL_law_204 ?_
        refine z_iadd K dL_law_205 ?_
        refine z_sld K hX hbl hbA dL_law_206 ?_
        refine z_lVi (As := [.int (xs ((v3 + (1 : Int32))).toNatClampNeg), .int (xs ((v3 + (2 : Int32))).toNatClampNeg)]) (rest := []) K hR (t_X11_guest a.1 (d - 1) (by omega) (xs ((v3 + (1 : Int32))).toNatClampNeg) (xs ((v3 + (2 : Int32))).toNatClampNeg) s) mf_X11_guest ml_L_13 (Nat.le_of_ble_eq_true rfl) (by omega) rfl rc_0 rfl (Nat.le_of_ble_eq_true rfl) dL_law_207 (fun r187 s186 => ?_)
        refine z_aload_n K 2 rfl dL_law_210 ?_
        refine z_saload_n K 0 rfl dL_law_211 ?_
        refine z_iload_n K 3 rfl dL_law_212 ?_
        refine z_iconst K ci_1 dL_law_213 ?_
        refine z_iadd K dL_law_214 ?_
        refine z_sld K hX hbl hbA dL_law_215 ?_
        refine z_saload_n K 0 rfl dL_law_216 ?_
        refine z_iload_n K 3 rfl dL_law_217 ?_
        refine z_iconst K ci_2 dL_law_218 ?_
        refine z_iadd K dL_law_219 ?_
        refine z_sld K hX hbl hbA dL_law_220 ?_
        refine z_lVi (As := [.int (xs ((v3 + (1 : Int32))).toNatClampNeg), .int (xs ((v3 + (2 : Int32))).toNatClampNeg)]) (rest := [.int r187]) K hR (t_X12_guest a.1 F (d - 1) (by omega) (xs ((v3 + (1 : Int32))).toNatClampNeg) (xs ((v3 + (2 : Int32))).toNatClampNeg) s186) mf_X12_guest ml_L_17 (Nat.le_of_ble_eq_true rfl) (by omega) rfl rc_69 rfl (Nat.le_of_ble_eq_true rfl) dL_law_221 (fun r189 s188 => ?_)
        refine z_icmp_eq K (tgt := 1358) dL_law_224 (by decide) ?_ ?_
        · refine z_iincN K (j := 3) (lv' := [(0, .ref bs), (1, .ref (a.1.2.2.2 + 0)), (2, .ref (a.1.2.2.2 + 69))]) ci_6 rfl dL_law_1358 (Nat.le_of_ble_eq_true rfl) rfl (fun y190 => ?_)
          refine z_goto K (tgt := 18) dL_law_1361 (by decide) ?_
          refine z_sub [1, 2, 3, 0] rfl ?_
          exact ih y190 s188
        · refine z_iconst K ci_0 dL_law_227 ?_
          exact hr0 _ _ _ _
      · refine z_ite (fun hs1 => ?_) (fun hs1 => ?_)
        · refine z_tswIn K (tgt := 229) (off := 196) dL_law_33 (by rw [hs1]; decide) (by rw [hs1]; decide) (by rw [hs1]; rfl) (by decide) ?_
          refine z_aload_n K 1 rfl dL_law_229 ?_
          refine z_saload_n K 0 rfl dL_law_230 ?_
          refine z_iload_n K 3 rfl dL_law_231 ?_
          refine z_iconst K ci_1 dL_law_232 ?_
          refine z_iadd K dL_law_233 ?_
          refine z_sld K hX hbl hbA dL_law_234 ?_
          refine z_saload_n K 0 rfl dL_law_235 ?_
          refine z_iload_n K 3 rfl dL_law_236 ?_
          refine z_iconst K ci_2 dL_law_237 ?_
          refine z_iadd K dL_law_238 ?_
          refine z_sld K hX hbl hbA dL_law_239 ?_
          refine z_saload_n K 0 rfl dL_law_240 ?_
          refine z_iload_n K 3 rfl dL_law_241 ?_
          refine z_iconst K ci_3 dL_law_242 ?_
          refine z_iadd K dL_law_243 ?_
          refine z_sld K hX hbl hbA dL_law_244 ?_
          refine z_lVi (As := [.int (xs ((v3 + (1 : Int32))).toNatClampNeg), .int (xs ((v3 + (2 : Int32))).toNatClampNeg), .int (xs ((v3 + (3 : Int32))).toNatClampNeg)]) (rest := []) K hR (t_X11_liking a.1 (d - 1) (by omega) (xs ((v3 + (1 : Int32))).toNatClampNeg) (xs ((v3 + (2 : Int32))).toNatClampNeg) (xs ((v3 + (3 : Int32))).toNatClampNeg) s) mf_X11_liking ml_L_18 (Nat.le_of_ble_eq_true rfl) (by omega) rfl rc_0 rfl (Nat.le_of_ble_eq_true rfl) dL_law_245 (fun r182 s181 => ?_)
          refine z_aload_n K 2 rfl dL_law_248 ?_
          refine z_saload_n K 0 rfl dL_law_249 ?_
          refine z_iload_n K 3 rfl dL_law_250 ?_
          refine z_iconst K ci_1 dL_law_251 ?_
          refine z_iadd K dL_law_252 ?_
          refine z_sld K hX hbl hbA dL_law_253 ?_
          refine z_saload_n K 0 rfl dL_law_254 ?_
          refine z_iload_n K 3 rfl dL_law_255 ?_
          refine z_iconst K ci_2 dL_law_256 ?_
          refine z_iadd K dL_law_257 ?_
          refine z_sld K hX hbl hbA dL_law_258 ?_
          refine z_saload_n K 0 rfl dL_law_259 ?_
          refine z_iload_n K 3 rfl dL_law_260 ?_
          refine z_iconst K ci_3 dL_law_261 ?_
          refine z_iadd K dL_law_262 ?_
          refine z_sld K hX hbl hbA dL_law_263 ?_
          refine z_lVi (As := [.int (xs ((v3 + (1 : Int32))).toNatClampNeg), .int (xs ((v3 + (2 : Int32))).toNatClampNeg), .int (xs ((v3 + (3 : Int32))).toNatClampNeg)]) (rest := [.int r182]) K hR (t_X12_liking a.1 (d - 1) (by omega) (xs ((v3 + (1 : Int32))).toNatClampNeg) (xs ((v3 + (2 : Int32))).toNatClampNeg) (xs ((v3 + (3 : Int32))).toNatClampNeg) s181) mf_X12_liking ml_L_22 (Nat.le_of_ble_eq_true rfl) (by omega) rfl rc_69 rfl (Nat.le_of_ble_eq_true rfl) dL_law_264 (fun r184 s183 => ?_)
          refine z_icmp_eq K (tgt := 1358) dL_law_267 (by decide) ?_ ?_
          · refine z_iincN K (j := 3) (lv' := [(0, .ref bs), (1, .ref (a.1.2.2.2 + 0)), (2, .ref (a.1.2.2.2 + 69))]) ci_6 rfl dL_law_1358 (Nat.le_of_ble_eq_true rfl) rfl (fun y185 => ?_)
            refine z_goto K (tgt := 18) dL_law_1361 (by decide) ?_
            refine z_sub [1, 2, 3, 0] rfl ?_
            exact ih y185 s183
          · refine z_iconst K ci_0 dL_law_270 ?_
            exact hr0 _ _ _ _
        · refine z_ite (fun hs2 => ?_) (fun hs2 => ?_)
          · refine z_tswIn K (tgt := 272) (off := 239) dL_law_33 (by rw [hs2]; decide) (by rw [hs2]; decide) (by rw [hs2]; rfl) (by decide) ?_
            refine z_aload_n K 1 rfl dL_law_272 ?_
            refine z_saload_n K 0 rfl dL_law_273 ?_
            refine z_iload_n K 3 rfl dL_law_274 ?_
            refine z_iconst K ci_1 dL_law_275 ?_
            refine z_iadd K dL_law_276 ?_
            refine z_sld K hX hbl hbA dL_law_277 ?_
            refine z_saload_n K 0 rfl dL_law_278 ?_
            refine z_iload_n K 3 rfl dL_law_279 ?_
            refine z_iconst K ci_2 dL_law_280 ?_
            refine z_iadd K dL_law_281 ?_
            refine z_sld K hX hbl hbA dL_law_282 ?_
            refine z_lVi (As := [.int (xs ((v3 + (1 : Int32))).toNatClampNeg), .int (xs ((v3 + (2 : Int32))).toNatClampNeg)]) (rest := []) K hR (t_X11_sit a.1 (d - 1) (by omega) (xs ((v3 + (1 : Int32))).toNatClampNeg) (xs ((v3 + (2 : Int32))).toNatClampNeg) s) mf_X11_sit ml_L_23 (Nat.le_of_ble_eq_true rfl) (by omega) rfl rc_0 rfl (Nat.le_of_ble_eq_true rfl) dL_law_283 (fun r177 s176 => ?_)
            refine z_aload_n K 2 rfl dL_law_286 ?_
            refine z_saload_n K 0 rfl dL_law_287 ?_
            refine z_iload_n K 3 rfl dL_law_288 ?_
            refine z_iconst K ci_1 dL_law_289 ?_
            refine z_iadd K dL_law_290 ?_
            refine z_sld K hX hbl hbA dL_law_291 ?_
            refine z_saload_n K 0 rfl dL_law_292 ?_
            refine z_iload_n K 3 rfl dL_law_293 ?_
            refine z_iconst K ci_2 dL_law_294 ?_
            refine z_iadd K dL_law_295 ?_
            refine z_sld K hX hbl hbA dL_law_296 ?_
            refine z_lVi (As := [.int (xs ((v3 + (1 : Int32))).toNatClampNeg), .int (xs ((v3 + (2 : Int32))).toNatClampNeg)]) (rest := [.int r177]) K hR (t_X12_sit a.1 F (d - 1) (by omega) (xs ((v3 + (1 : Int32))).toNatClampNeg) (xs ((v3 + (2 : Int32))).toNatClampNeg) s176) mf_X12_sit ml_L_27 (Nat.le_of_ble_eq_true rfl) (by omega) rfl rc_69 rfl (Nat.le_of_ble_eq_true rfl) dL_law_297 (fun r179 s178 => ?_)
            refine z_icmp_eq K (tgt := 1358) dL_law_300 (by decide) ?_ ?_
            · refine z_iincN K (j := 3) (lv' := [(0, .ref bs), (1, .ref (a.1.2.2.2 + 0)), (2, .ref (a.1.2.2.2 + 69))]) ci_6 rfl dL_law_1358 (Nat.le_of_ble_eq_true rfl) rfl (fun y180 => ?_)
              refine z_goto K (tgt := 18) dL_law_1361 (by decide) ?_
              refine z_sub [1, 2, 3, 0] rfl ?_
              exact ih y180 s178
            · refine z_iconst K ci_0 dL_law_303 ?_
              exact hr0 _ _ _ _
          · refine z_ite (fun hs3 => ?_) (fun hs3 => ?_)
            · refine z_tswIn K (tgt := 305) (off := 272) dL_law_33 (by rw [hs3]; decide) (by rw [hs3]; decide) (by rw [hs3]; rfl) (by decide) ?_
              refine z_aload_n K 1 rfl dL_law_305 ?_
              refine z_saload_n K 0 rfl dL_law_306 ?_
              refine z_iload_n K 3 rfl dL_law_307 ?_
              refine z_iconst K ci_1 dL_law_308 ?_
              refine z_iadd K dL_law_309 ?_
              refine z_sld K hX hbl hbA dL_law_310 ?_
              refine z_saload_n K 0 rfl dL_law_311 ?_
              refine z_iload_n K 3 rfl dL_law_312 ?_
              refine z_iconst K ci_2 dL_law_313 ?_
              refine z_iadd K dL_law_314 ?_
              refine z_sld K hX hbl hbA dL_law_315 ?_
              refine z_saload_n K 0 rfl dL_law_316 ?_
              refine z_iload_n K 3 rfl dL_law_317 ?_
              refine z_iconst K ci_3 dL_law_318 ?_
              refine z_iadd K dL_law_319 ?_
              refine z_sld K hX hbl hbA dL_law_320 ?_
              refine z_saload_n K 0 rfl dL_law_321 ?_
              refine z_iload_n K 3 rfl dL_law_322 ?_
              refine z_iconst K ci_4 dL_law_323 ?_
              refine z_iadd K dL_law_324 ?_
              refine z_sld K hX hbl hbA dL_law_325 ?_
              refine z_saload_n K 0 rfl dL_law_326 ?_
              refine z_iload_n K 3 rfl dL_law_327 ?_
              refine z_iconst K ci_5 dL_law_328 ?_
              refine z_iadd K dL_law_329 ?_
              refine z_sld K hX hbl hbA dL_law_330 ?_
              refine z_lVi (As := [.int (xs ((v3 + (1 : Int32))).toNatClampNeg), .int (xs ((v3 + (2 : Int32))).toNatClampNeg), .int (xs ((v3 + (3 : Int32))).toNatClampNeg), .int (xs ((v3 + (4 : Int32))).toNatClampNeg), .int (xs ((v3 + (5 : Int32))).toNatClampNeg)]) (rest := []) K hR (t_X11_feed a.1 F (d - 1) (by omega) (xs ((v3 + (1 : Int32))).toNatClampNeg) (xs ((v3 + (2 : Int32))).toNatClampNeg) (xs ((v3 + (3 : Int32))).toNatClampNeg) (xs ((v3 + (4 : Int32))).toNatClampNeg) (xs ((v3 + (5 : Int32))).toNatClampNeg) s) mf_X11_feed ml_L_28 (Nat.le_of_ble_eq_true rfl) (by omega) rfl rc_0 rfl (Nat.le_of_ble_eq_true rfl) dL_law_331 (fun r172 s171 => ?_)
              refine z_aload_n K 2 rfl dL_law_334 ?_
              refine z_saload_n K 0 rfl dL_law_335 ?_
              refine z_iload_n K 3 rfl dL_law_336 ?_
              refine z_iconst K ci_1 dL_law_337 ?_
              refine z_iadd K dL_law_338 ?_
              refine z_sld K hX hbl hbA dL_law_339 ?_
              refine z_saload_n K 0 rfl dL_law_340 ?_
              refine z_iload_n K 3 rfl dL_law_341 ?_
              refine z_iconst K ci_2 dL_law_342 ?_
              refine z_iadd K dL_law_343 ?_
              refine z_sld K hX hbl hbA dL_law_344 ?_
              refine z_saload_n K 0 rfl dL_law_345 ?_
              refine z_iload_n K 3 rfl dL_law_346 ?_
              refine z_iconst K ci_3 dL_law_347 ?_
              refine z_iadd K dL_law_348 ?_
              refine z_sld K hX hbl hbA dL_law_349 ?_
              refine z_saload_n K 0 rfl dL_law_350 ?_
              refine z_iload_n K 3 rfl dL_law_351 ?_
              refine z_iconst K ci_4 dL_law_352 ?_
              refine z_iadd K dL_law_353 ?_
              refine z_sld K hX hbl hbA dL_law_354 ?_
              refine z_saload_n K 0 rfl dL_law_355 ?_
              refine z_iload_n K 3 rfl dL_law_356 ?_
              refine z_iconst K ci_5 dL_law_357 ?_
              refine z_iadd K dL_law_358 ?_
              refine z_sld K hX hbl hbA dL_law_359 ?_
              refine z_lVi (As := [.int (xs ((v3 + (1 : Int32))).toNatClampNeg), .int (xs ((v3 + (2 : Int32))).toNatClampNeg), .int (xs ((v3 + (3 : Int32))).toNatClampNeg), .int (xs ((v3 + (4 : Int32))).toNatClampNeg), .int (xs ((v3 + (5 : Int32))).toNatClampNeg)]) (rest := [.int r172]) K hR (t_X12_feed a.1 F (d - 1) (by omega) (xs ((v3 + (1 : Int32))).toNatClampNeg) (xs ((v3 + (2 : Int32))).toNatClampNeg) (xs ((v3 + (3 : Int32))).toNatClampNeg) (xs ((v3 + (4 : Int32))).toNatClampNeg) (xs ((v3 + (5 : Int32))).toNatClampNeg) s171) mf_X12_feed ml_L_32 (Nat.le_of_ble_eq_true rfl) (by omega) rfl rc_69 rfl (Nat.le_of_ble_eq_true rfl) dL_law_360 (fun r174 s173 => ?_)
              refine z_icmp_eq K (tgt := 1358) dL_law_363 (by decide) ?_ ?_
              · refine z_iincN K (j := 3) (lv' := [(0, .ref bs), (1, .ref (a.1.2.2.2 + 0)), (2, .ref (a.1.2.2.2 + 69))]) ci_6 rfl dL_law_1358 (Nat.le_of_ble_eq_true rfl) rfl (fun y175 => ?_)
                refine z_goto K (tgt := 18) dL_law_1361 (by decide) ?_
                refine z_sub [1, 2, 3, 0] rfl ?_
                exact ih y175 s173
              · refine z_iconst K ci_0 dL_law_366 ?_
                exact hr0 _ _ _ _
            · refine z_ite (fun hs4 => ?_) (fun hs4 => ?_)
              · refine z_tswIn K (tgt := 368) (off := 335) dL_law_33 (by rw [hs4]; decide) (by rw [hs4]; decide) (by rw [hs4]; rfl) (by decide) ?_
                refine z_aload_n K 1 rfl dL_law_368 ?_
                refine z_saload_n K 0 rfl dL_law_369 ?_
                refine z_iload_n K 3 rfl dL_law_370 ?_
                refine z_iconst K ci_1 dL_law_371 ?_
                refine z_iadd K dL_law_372 ?_
                refine z_sld K hX hbl hbA dL_law_373 ?_
                refine z_lVi (As := [.int (xs ((v3 + (1 : Int32))).toNatClampNeg)]) (rest := []) K hR (t_X11_law a.1 F D (d - 1) (by omega) (xs ((v3 + (1 : Int32))).toNatClampNeg) s) mf_X11_law ml_L_33 (Nat.le_of_ble_eq_true rfl) (by omega) rfl rc_0 rfl (Nat.le_of_ble_eq_true rfl) dL_law_374 (fun r167 s166 => ?_)
                refine z_aload_n K 2 rfl dL_law_377 ?_
                refine z_saload_n K 0 rfl dL_law_378 ?_
                refine z_iload_n K 3 rfl dL_law_379 ?_
                refine z_iconst K ci_1 dL_law_380 ?_
                refine z_iadd K dL_law_381 ?_
                refine z_sld K hX hbl hbA dL_law_382 ?_
                refine z_lVi (As := [.int (xs ((v3 + (1 : Int32))).toNatClampNeg)]) (rest := [.int r167]) K hR (t_X12_law a.1 F (d - 1) (by omega) (xs ((v3 + (1 : Int32))).toNatClampNeg) s166) mf_X12_law ml_L_37 (Nat.le_of_ble_eq_true rfl) (by omega) rfl rc_69 rfl (Nat.le_of_ble_eq_true rfl) dL_law_383 (fun r169 s168 => ?_)
                refine z_icmp_eq K (tgt := 1358) dL_law_386 (by decide) ?_ ?_
                · refine z_iincN K (j := 3) (lv' := [(0, .ref bs), (1, .ref (a.1.2.2.2 + 0)), (2, .ref (a.1.2.2.2 + 69))]) ci_6 rfl dL_law_1358 (Nat.le_of_ble_eq_true rfl) rfl (fun y170 => ?_)
                  refine z_goto K (tgt := 18) dL_law_1361 (by decide) ?_
                  refine z_sub [1, 2, 3, 0] rfl ?_
                  exact ih y170 s168
                · refine z_iconst K ci_0 dL_law_389 ?_
                  exact hr0 _ _ _ _
              · refine z_ite (fun hs5 => ?_) (fun hs5 => ?_)
                · refine z_tswIn K (tgt := 391) (off := 358) dL_law_33 (by rw [hs5]; decide) (by rw [hs5]; decide) (by rw [hs5]; rfl) (by decide) ?_
                  refine z_aload_n K 1 rfl dL_law_391 ?_
                  refine z_saload_n K 0 rfl dL_law_392 ?_
                  refine z_iload_n K 3 rfl dL_law_393 ?_
                  refine z_iconst K ci_1 dL_law_394 ?_
                  refine z_iadd K dL_law_395 ?_
                  refine z_sld K hX hbl hbA dL_law_396 ?_
                  refine z_saload_n K 0 rfl dL_law_397 ?_
                  refine z_iload_n K 3 rfl dL_law_398 ?_
                  refine z_iconst K ci_2 dL_law_399 ?_
                  refine z_iadd K dL_law_400 ?_
                  refine z_sld K hX hbl hbA dL_law_401 ?_
                  refine z_saload_n K 0 rfl dL_law_402 ?_
                  refine z_iload_n K 3 rfl dL_law_403 ?_
                  refine z_iconst K ci_3 dL_law_404 ?_
                  refine z_iadd K dL_law_405 ?_
                  refine z_sld K hX hbl hbA dL_law_406 ?_
                  refine z_lVi (As := [.int (xs ((v3 + (1 : Int32))).toNatClampNeg), .int (xs ((v3 + (2 : Int32))).toNatClampNeg), .int (xs ((v3 + (3 : Int32))).toNatClampNeg)]) (rest := []) K hR (t_X11_two a.1 F (d - 1) (by omega) (xs ((v3 + (1 : Int32))).toNatClampNeg) (xs ((v3 + (2 : Int32))).toNatClampNeg) (xs ((v3 + (3 : Int32))).toNatClampNeg) s) mf_X11_two ml_L_38 (Nat.le_of_ble_eq_true rfl) (by omega) rfl rc_0 rfl (Nat.le_of_ble_eq_true rfl) dL_law_407 (fun r162 s161 => ?_)
                  refine z_aload_n K 2 rfl dL_law_410 ?_
                  refine z_saload_n K 0 rfl dL_law_411 ?_
                  refine z_iload_n K 3 rfl dL_law_412 ?_
                  refine z_iconst K ci_1 dL_law_413 ?_
                  refine z_iadd K dL_law_414 ?_
                  refine z_sld K hX hbl hbA dL_law_415 ?_
                  refine z_saload_n K 0 rfl dL_law_416 ?_
                  refine z_iload_n K 3 rfl dL_law_417 ?_
                  refine z_iconst K ci_2 dL_law_418 ?_
                  refine z_iadd K dL_law_419 ?_
                  refine z_sld K hX hbl hbA dL_law_420 ?_
                  refine z_saload_n K 0 rfl dL_law_421 ?_
                  refine z_iload_n K 3 rfl dL_law_422 ?_
                  refine z_iconst K ci_3 dL_law_423 ?_
                  refine z_iadd K dL_law_424 ?_
                  refine z_sld K hX hbl hbA dL_law_425 ?_
                  refine z_lVi (As := [.int (xs ((v3 + (1 : Int32))).toNatClampNeg), .int (xs ((v3 + (2 : Int32))).toNatClampNeg), .int (xs ((v3 + (3 : Int32))).toNatClampNeg)]) (rest := [.int r162]) K hR (t_X12_two a.1 F (d - 1) (by omega) (xs ((v3 + (1 : Int32))).toNatClampNeg) (xs ((v3 + (2 : Int32))).toNatClampNeg) (xs ((v3 + (3 : Int32))).toNatClampNeg) s161) mf_X12_two ml_L_42 (Nat.le_of_ble_eq_true rfl) (by omega) rfl rc_69 rfl (Nat.le_of_ble_eq_true rfl) dL_law_426 (fun r164 s163 => ?_)
                  refine z_icmp_eq K (tgt := 1358) dL_law_429 (by decide) ?_ ?_
                  · refine z_iincN K (j := 3) (lv' := [(0, .ref bs), (1, .ref (a.1.2.2.2 + 0)), (2, .ref (a.1.2.2.2 + 69))]) ci_6 rfl dL_law_1358 (Nat.le_of_ble_eq_true rfl) rfl (fun y165 => ?_)
                    refine z_goto K (tgt := 18) dL_law_1361 (by decide) ?_
                    refine z_sub [1, 2, 3, 0] rfl ?_
                    exact ih y165 s163
                  · refine z_iconst K ci_0 dL_law_432 ?_
                    exact hr0 _ _ _ _
                · refine z_ite (fun hs6 => ?_) (fun hs6 => ?_)
                  · refine z_tswIn K (tgt := 434) (off := 401) dL_law_33 (by rw [hs6]; decide) (by rw [hs6]; decide) (by rw [hs6]; rfl) (by decide) ?_
                    refine z_aload_n K 1 rfl dL_law_434 ?_
                    refine z_saload_n K 0 rfl dL_law_435 ?_
                    refine z_iload_n K 3 rfl dL_law_436 ?_
                    refine z_iconst K ci_1 dL_law_437 ?_
                    refine z_iadd K dL_law_438 ?_
                    refine z_sld K hX hbl hbA dL_law_439 ?_
                    refine z_saload_n K 0 rfl dL_law_440 ?_
                    refine z_iload_n K 3 rfl dL_law_441 ?_
                    refine z_iconst K ci_2 dL_law_442 ?_
                    refine z_iadd K dL_law_443 ?_
                    refine z_sld K hX hbl hbA dL_law_444 ?_
                    refine z_lVi (As := [.int (xs ((v3 + (1 : Int32))).toNatClampNeg), .int (xs ((v3 + (2 : Int32))).toNatClampNeg)]) (rest := []) K hR (t_X11_worth a.1 F (d - 1) (by omega) (xs ((v3 + (1 : Int32))).toNatClampNeg) (xs ((v3 + (2 : Int32))).toNatClampNeg) s) mf_X11_worth ml_L_43 (Nat.le_of_ble_eq_true rfl) (by omega) rfl rc_0 rfl (Nat.le_of_ble_eq_true rfl) dL_law_445 (fun r157 s156 => ?_)
                    refine z_aload_n K 2 rfl dL_law_448 ?_
                    refine z_saload_n K 0 rfl dL_law_449 ?_
                    refine z_iload_n K 3 rfl dL_law_450 ?_
                    refine z_iconst K ci_1 dL_law_451 ?_
                    refine z_iadd K dL_law_452 ?_
                    refine z_sld K hX hbl hbA dL_law_453 ?_
                    refine z_saload_n K 0 rfl dL_law_454 ?_
                    refine z_iload_n K 3 rfl dL_law_455 ?_
                    refine z_iconst K ci_2 dL_law_456 ?_
                    refine z_iadd K dL_law_457 ?_
                    refine z_sld K hX hbl hbA dL_law_458 ?_
                    refine z_lVi (As := [.int (xs ((v3 + (1 : Int32))).toNatClampNeg), .int (xs ((v3 + (2 : Int32))).toNatClampNeg)]) (rest := [.int r157]) K hR (t_X12_worth a.1 F (d - 1) (by omega) (xs ((v3 + (1 : Int32))).toNatClampNeg) (xs ((v3 + (2 : Int32))).toNatClampNeg) s156) mf_X12_worth ml_L_46 (Nat.le_of_ble_eq_true rfl) (by omega) rfl rc_69 rfl (Nat.le_of_ble_eq_true rfl) dL_law_459 (fun r159 s158 => ?_)
                    refine z_icmp_eq K (tgt := 1358) dL_law_462 (by decide) ?_ ?_
                    · refine z_iincN K (j := 3) (lv' := [(0, .ref bs), (1, .ref (a.1.2.2.2 + 0)), (2, .ref (a.1.2.2.2 + 69))]) ci_6 rfl dL_law_1358 (Nat.le_of_ble_eq_true rfl) rfl (fun y160 => ?_)
                      refine z_goto K (tgt := 18) dL_law_1361 (by decide) ?_
                      refine z_sub [1, 2, 3, 0] rfl ?_
                      exact ih y160 s158
                    · refine z_iconst K ci_0 dL_law_465 ?_
                      exact hr0 _ _ _ _
                  · refine z_ite (fun hs7 => ?_) (fun hs7 => ?_)
                    · refine z_tswIn K (tgt := 467) (off := 434) dL_law_33 (by rw [hs7]; decide) (by rw [hs7]; decide) (by rw [hs7]; rfl) (by decide) ?_
                      refine z_aload_n K 1 rfl dL_law_467 ?_
                      refine z_saload_n K 0 rfl dL_law_468 ?_
                      refine z_iload_n K 3 rfl dL_law_469 ?_
                      refine z_iconst K ci_1 dL_law_470 ?_
                      refine z_iadd K dL_law_471 ?_
                      refine z_sld K hX hbl hbA dL_law_472 ?_
                      refine z_saload_n K 0 rfl dL_law_473 ?_
                      refine z_iload_n K 3 rfl dL_law_474 ?_
                      refine z_iconst K ci_2 dL_law_475 ?_
                      refine z_iadd K dL_law_476 ?_
                      refine z_sld K hX hbl hbA dL_law_477 ?_
                      refine z_saload_n K 0 rfl dL_law_478 ?_
                      refine z_iload_n K 3 rfl dL_law_479 ?_
                      refine z_iconst K ci_3 dL_law_480 ?_
                      refine z_iadd K dL_law_481 ?_
                      refine z_sld K hX hbl hbA dL_law_482 ?_
                      refine z_lVi (As := [.int (xs ((v3 + (1 : Int32))).toNatClampNeg), .int (xs ((v3 + (2 : Int32))).toNatClampNeg), .int (xs ((v3 + (3 : Int32))).toNatClampNeg)]) (rest := []) K hR (t_X11_rain a.1 (d - 1) (by omega) (xs ((v3 + (1 : Int32))).toNatClampNeg) (xs ((v3 + (2 : Int32))).toNatClampNeg) (xs ((v3 + (3 : Int32))).toNatClampNeg) s) mf_X11_rain ml_L_47 (Nat.le_of_ble_eq_true rfl) (by omega) rfl rc_0 rfl (Nat.le_of_ble_eq_true rfl) dL_law_483 (fun r152 s151 => ?_)
                      refine z_aload_n K 2 rfl dL_law_486 ?_
                      refine z_saload_n K 0 rfl dL_law_487 ?_
                      refine z_iload_n K 3 rfl dL_law_488 ?_
                      refine z_iconst K ci_1 dL_law_489 ?_
                      refine z_iadd K dL_law_490 ?_
                      refine z_sld K hX hbl hbA dL_law_491 ?_
                      refine z_saload_n K 0 rfl dL_law_492 ?_
                      refine z_iload_n K 3 rfl dL_law_493 ?_
                      refine z_iconst K ci_2 dL_law_494 ?_
                      refine z_iadd K dL_law_495 ?_
                      refine z_sld K hX hbl hbA dL_law_496 ?_
                      refine z_saload_n K 0 rfl dL_law_497 ?_
                      refine z_iload_n K 3 rfl dL_law_498 ?_
                      refine z_iconst K ci_3 dL_law_499 ?_
                      refine z_iadd K dL_law_500 ?_
                      refine z_sld K hX hbl hbA dL_law_501 ?_
                      refine z_lVi (As := [.int (xs ((v3 + (1 : Int32))).toNatClampNeg), .int (xs ((v3 + (2 : Int32))).toNatClampNeg), .int (xs ((v3 + (3 : Int32))).toNatClampNeg)]) (rest := [.int r152]) K hR (t_X12_rain a.1 (d - 1) (by omega) (xs ((v3 + (1 : Int32))).toNatClampNeg) (xs ((v3 + (2 : Int32))).toNatClampNeg) (xs ((v3 + (3 : Int32))).toNatClampNeg) s151) mf_X12_rain ml_L_50 (Nat.le_of_ble_eq_true rfl) (by omega) rfl rc_69 rfl (Nat.le_of_ble_eq_true rfl) dL_law_502 (fun r154 s153 => ?_)
                      refine z_icmp_eq K (tgt := 1358) dL_law_505 (by decide) ?_ ?_
                      · refine z_iincN K (j := 3) (lv' := [(0, .ref bs), (1, .ref (a.1.2.2.2 + 0)), (2, .ref (a.1.2.2.2 + 69))]) ci_6 rfl dL_law_1358 (Nat.le_of_ble_eq_true rfl) rfl (fun y155 => ?_)
                        refine z_goto K (tgt := 18) dL_law_1361 (by decide) ?_
                        refine z_sub [1, 2, 3, 0] rfl ?_
                        exact ih y155 s153
                      · refine z_iconst K ci_0 dL_law_508 ?_
                        exact hr0 _ _ _ _
                    · refine z_ite (fun hs8 => ?_) (fun hs8 => ?_)
                      · refine z_tswIn K (tgt := 510) (off := 477) dL_law_33 (by rw [hs8]; decide) (by rw [hs8]; decide) (by rw [hs8]; rfl) (by decide) ?_
                        refine z_aload_n K 1 rfl dL_law_510 ?_
                        refine z_saload_n K 0 rfl dL_law_511 ?_
                        refine z_iload_n K 3 rfl dL_law_512 ?_
                        refine z_iconst K ci_1 dL_law_513 ?_
                        refine z_iadd K dL_law_514 ?_
                        refine z_sld K hX hbl hbA dL_law_515 ?_
                        refine z_saload_n K 0 rfl dL_law_516 ?_
                        refine z_iload_n K 3 rfl dL_law_517 ?_
                        refine z_iconst K ci_2 dL_law_518 ?_
                        refine z_iadd K dL_law_519 ?_
                        refine z_sld K hX hbl hbA dL_law_520 ?_
                        refine z_saload_n K 0 rfl dL_law_521 ?_
                        refine z_iload_n K 3 rfl dL_law_522 ?_
                        refine z_iconst K ci_3 dL_law_523 ?_
                        refine z_iadd K dL_law_524 ?_
                        refine z_sld K hX hbl hbA dL_law_525 ?_
                        refine z_lVi (As := [.int (xs ((v3 + (1 : Int32))).toNatClampNeg), .int (xs ((v3 + (2 : Int32))).toNatClampNeg), .int (xs ((v3 + (3 : Int32))).toNatClampNeg)]) (rest := []) K hR (t_X11_soonest a.1 F (d - 1) (by omega) (xs ((v3 + (1 : Int32))).toNatClampNeg) (xs ((v3 + (2 : Int32))).toNatClampNeg) (xs ((v3 + (3 : Int32))).toNatClampNeg) s) mf_X11_soonest ml_L_51 (Nat.le_of_ble_eq_true rfl) (by omega) rfl rc_0 rfl (Nat.le_of_ble_eq_true rfl) dL_law_526 (fun r147 s146 => ?_)
                        refine z_aload_n K 2 rfl dL_law_529 ?_
                        refine z_saload_n K 0 rfl dL_law_530 ?_
                        refine z_iload_n K 3 rfl dL_law_531 ?_
                        refine z_iconst K ci_1 dL_law_532 ?_
                        refine z_iadd K dL_law_533 ?_
                        refine z_sld K hX hbl hbA dL_law_534 ?_
                        refine z_saload_n K 0 rfl dL_law_535 ?_
                        refine z_iload_n K 3 rfl dL_law_536 ?_
                        refine z_iconst K ci_2 dL_law_537 ?_
                        refine z_iadd K dL_law_538 ?_
                        refine z_sld K hX hbl hbA dL_law_539 ?_
                        refine z_saload_n K 0 rfl dL_law_540 ?_
                        refine z_iload_n K 3 rfl dL_law_541 ?_
                        refine z_iconst K ci_3 dL_law_542 ?_
                        refine z_iadd K dL_law_543 ?_
                        refine z_sld K hX hbl hbA dL_law_544 ?_
                        refine z_lVi (As := [.int (xs ((v3 + (1 : Int32))).toNatClampNeg), .int (xs ((v3 + (2 : Int32))).toNatClampNeg), .int (xs ((v3 + (3 : Int32))).toNatClampNeg)]) (rest := [.int r147]) K hR (t_X12_soonest a.1 F (d - 1) (by omega) (xs ((v3 + (1 : Int32))).toNatClampNeg) (xs ((v3 + (2 : Int32))).toNatClampNeg) (xs ((v3 + (3 : Int32))).toNatClampNeg) s146) mf_X12_soonest ml_L_54 (Nat.le_of_ble_eq_true rfl) (by omega) rfl rc_69 rfl (Nat.le_of_ble_eq_true rfl) dL_law_545 (fun r149 s148 => ?_)
                        refine z_icmp_eq K (tgt := 1358) dL_law_548 (by decide) ?_ ?_
                        · refine z_iincN K (j := 3) (lv' := [(0, .ref bs), (1, .ref (a.1.2.2.2 + 0)), (2, .ref (a.1.2.2.2 + 69))]) ci_6 rfl dL_law_1358 (Nat.le_of_ble_eq_true rfl) rfl (fun y150 => ?_)
                          refine z_goto K (tgt := 18) dL_law_1361 (by decide) ?_
                          refine z_sub [1, 2, 3, 0] rfl ?_
                          exact ih y150 s148
                        · refine z_iconst K ci_0 dL_law_551 ?_
                          exact hr0 _ _ _ _
                      · refine z_ite (fun hs9 => ?_) (fun hs9 => ?_)
                        · refine z_tswIn K (tgt := 553) (off := 520) dL_law_33 (by rw [hs9]; decide) (by rw [hs9]; decide) (by rw [hs9]; rfl) (by decide) ?_
                          refine z_aload_n K 1 rfl dL_law_553 ?_
                          refine z_saload_n K 0 rfl dL_law_554 ?_
                          refine z_iload_n K 3 rfl dL_law_555 ?_
                          refine z_iconst K ci_1 dL_law_556 ?_
                          refine z_iadd K dL_law_557 ?_
                          refine z_sld K hX hbl hbA dL_law_558 ?_
                          refine z_saload_n K 0 rfl dL_law_559 ?_
                          refine z_iload_n K 3 rfl dL_law_560 ?_
                          refine z_iconst K ci_2 dL_law_561 ?_
                          refine z_iadd K dL_law_562 ?_
                          refine z_sld K hX hbl hbA dL_law_563 ?_
                          refine z_saload_n K 0 rfl dL_law_564 ?_
                          refine z_iload_n K 3 rfl dL_law_565 ?_
                          refine z_iconst K ci_3 dL_law_566 ?_
                          refine z_iadd K dL_law_567 ?_
                          refine z_sld K hX hbl hbA dL_law_568 ?_
                          refine z_lVi (As := [.int (xs ((v3 + (1 : Int32))).toNatClampNeg), .int (xs ((v3 + (2 : Int32))).toNatClampNeg), .int (xs ((v3 + (3 : Int32))).toNatClampNeg)]) (rest := []) K hR (t_X11_rumour a.1 F (d - 1) (by omega) (xs ((v3 + (1 : Int32))).toNatClampNeg) (xs ((v3 + (2 : Int32))).toNatClampNeg) (xs ((v3 + (3 : Int32))).toNatClampNeg) s) mf_X11_rumour ml_L_55 (Nat.le_of_ble_eq_true rfl) (by omega) rfl rc_0 rfl (Nat.le_of_ble_eq_true rfl) dL_law_569 (fun r142 s141 => ?_)
                          refine z_aload_n K 2 rfl dL_law_572 ?_
                          refine z_saload_n K 0 rfl dL_law_573 ?_
                          refine z_iload_n K 3 rfl dL_law_574 ?_
                          refine z_iconst K ci_1 dL_law_575 ?_
                          refine z_iadd K dL_law_576 ?_
                          refine z_sld K hX hbl hbA dL_law_577 ?_
                          refine z_saload_n K 0 rfl dL_law_578 ?_
                          refine z_iload_n K 3 rfl dL_law_579 ?_
                          refine z_iconst K ci_2 dL_law_580 ?_
                          refine z_iadd K dL_law_581 ?_
                          refine z_sld K hX hbl hbA dL_law_582 ?_
                          refine z_saload_n K 0 rfl dL_law_583 ?_
                          refine z_iload_n K 3 rfl dL_law_584 ?_
                          refine z_iconst K ci_3 dL_law_585 ?_
                          refine z_iadd K dL_law_586 ?_
                          refine z_sld K hX hbl hbA dL_law_587 ?_
                          refine z_lVi (As := [.int (xs ((v3 + (1 : Int32))).toNatClampNeg), .int (xs ((v3 + (2 : Int32))).toNatClampNeg), .int (xs ((v3 + (3 : Int32))).toNatClampNeg)]) (rest := [.int r142]) K hR (t_X12_rumour a.1 F (d - 1) (by omega) (xs ((v3 + (1 : Int32))).toNatClampNeg) (xs ((v3 + (2 : Int32))).toNatClampNeg) (xs ((v3 + (3 : Int32))).toNatClampNeg) s141) mf_X12_rumour ml_L_58 (Nat.le_of_ble_eq_true rfl) (by omega) rfl rc_69 rfl (Nat.le_of_ble_eq_true rfl) dL_law_588 (fun r144 s143 => ?_)
                          refine z_icmp_eq K (tgt := 1358) dL_law_591 (by decide) ?_ ?_
                          · refine z_iincN K (j := 3) (lv' := [(0, .ref bs), (1, .ref (a.1.2.2.2 + 0)), (2, .ref (a.1.2.2.2 + 69))]) ci_6 rfl dL_law_1358 (Nat.le_of_ble_eq_true rfl) rfl (fun y145 => ?_)
                            refine z_goto K (tgt := 18) dL_law_1361 (by decide) ?_
                            refine z_sub [1, 2, 3, 0] rfl ?_
                            exact ih y145 s143
                          · refine z_iconst K ci_0 dL_law_594 ?_
                            exact hr0 _ _ _ _
                        · refine z_ite (fun hs10 => ?_) (fun hs10 => ?_)
                          · refine z_tswIn K (tgt := 596) (off := 563) dL_law_33 (by rw [hs10]; decide) (by rw [hs10]; decide) (by rw [hs10]; rfl) (by decide) ?_
                            refine z_aload_n K 1 rfl dL_law_596 ?_
                            refine z_saload_n K 0 rfl dL_law_597 ?_
                            refine z_iload_n K 3 rfl dL_law_598 ?_
                            refine z_iconst K ci_1 dL_law_599 ?_
                            refine z_iadd K dL_law_600 ?_
                            refine z_sld K hX hbl hbA dL_law_601 ?_
                            refine z_saload_n K 0 rfl dL_law_602 ?_
                            refine z_iload_n K 3 rfl dL_law_603 ?_
                            refine z_iconst K ci_2 dL_law_604 ?_
                            refine z_iadd K dL_law_605 ?_
                            refine z_sld K hX hbl hbA dL_law_606 ?_
                            refine z_saload_n K 0 rfl dL_law_607 ?_
                            refine z_iload_n K 3 rfl dL_law_608 ?_
                            refine z_iconst K ci_3 dL_law_609 ?_
                            refine z_iadd K dL_law_610 ?_
                            refine z_sld K hX hbl hbA dL_law_611 ?_
                            refine z_lVi (As := [.int (xs ((v3 + (1 : Int32))).toNatClampNeg), .int (xs ((v3 + (2 : Int32))).toNatClampNeg), .int (xs ((v3 + (3 : Int32))).toNatClampNeg)]) (rest := []) K hR (t_X11_speech a.1 (d - 1) (by omega) (xs ((v3 + (1 : Int32))).toNatClampNeg) (xs ((v3 + (2 : Int32))).toNatClampNeg) (xs ((v3 + (3 : Int32))).toNatClampNeg) s) mf_X11_speech ml_L_59 (Nat.le_of_ble_eq_true rfl) (by omega) rfl rc_0 rfl (Nat.le_of_ble_eq_true rfl) dL_law_612 (fun r137 s136 => ?_)
                            refine z_aload_n K 2 rfl dL_law_615 ?_
                            refine z_saload_n K 0 rfl dL_law_616 ?_
                            refine z_iload_n K 3 rfl dL_law_617 ?_
                            refine z_iconst K ci_1 dL_law_618 ?_
                            refine z_iadd K dL_law_619 ?_
                            refine z_sld K hX hbl hbA dL_law_620 ?_
                            refine z_saload_n K 0 rfl dL_law_621 ?_
                            refine z_iload_n K 3 rfl dL_law_622 ?_
                            refine z_iconst K ci_2 dL_law_623 ?_
                            refine z_iadd K dL_law_624 ?_
                            refine z_sld K hX hbl hbA dL_law_625 ?_
                            refine z_saload_n K 0 rfl dL_law_626 ?_
                            refine z_iload_n K 3 rfl dL_law_627 ?_
                            refine z_iconst K ci_3 dL_law_628 ?_
                            refine z_iadd K dL_law_629 ?_
                            refine z_sld K hX hbl hbA dL_law_630 ?_
                            refine z_lVi (As := [.int (xs ((v3 + (1 : Int32))).toNatClampNeg), .int (xs ((v3 + (2 : Int32))).toNatClampNeg), .int (xs ((v3 + (3 : Int32))).toNatClampNeg)]) (rest := [.int r137]) K hR (t_X12_speech a.1 (d - 1) (by omega) (xs ((v3 + (1 : Int32))).toNatClampNeg) (xs ((v3 + (2 : Int32))).toNatClampNeg) (xs ((v3 + (3 : Int32))).toNatClampNeg) s136) mf_X12_speech ml_L_62 (Nat.le_of_ble_eq_true rfl) (by omega) rfl rc_69 rfl (Nat.le_of_ble_eq_true rfl) dL_law_631 (fun r139 s138 => ?_)
                            refine z_icmp_eq K (tgt := 1358) dL_law_634 (by decide) ?_ ?_
                            · refine z_iincN K (j := 3) (lv' := [(0, .ref bs), (1, .ref (a.1.2.2.2 + 0)), (2, .ref (a.1.2.2.2 + 69))]) ci_6 rfl dL_law_1358 (Nat.le_of_ble_eq_true rfl) rfl (fun y140 => ?_)
                              refine z_goto K (tgt := 18) dL_law_1361 (by decide) ?_
                              refine z_sub [1, 2, 3, 0] rfl ?_
                              exact ih y140 s138
                            · refine z_iconst K ci_0 dL_law_637 ?_
                              exact hr0 _ _ _ _
                          · refine z_ite (fun hs11 => ?_) (fun hs11 => ?_)
                            · refine z_tswIn K (tgt := 639) (off := 606) dL_law_33 (by rw [hs11]; decide) (by rw [hs11]; decide) (by rw [hs11]; rfl) (by decide) ?_
                              refine z_aload_n K 1 rfl dL_law_639 ?_
                              refine z_saload_n K 0 rfl dL_law_640 ?_
                              refine z_iload_n K 3 rfl dL_law_641 ?_
                              refine z_iconst K ci_1 dL_law_642 ?_
                              refine z_iadd K dL_law_643 ?_
                              refine z_sld K hX hbl hbA dL_law_644 ?_
                              refine z_saload_n K 0 rfl dL_law_645 ?_
                              refine z_iload_n K 3 rfl dL_law_646 ?_
                              refine z_iconst K ci_2 dL_law_647 ?_
                              refine z_iadd K dL_law_648 ?_
                              refine z_sld K hX hbl hbA dL_law_649 ?_
                              refine z_lVi (As := [.int (xs ((v3 + (1 : Int32))).toNatClampNeg), .int (xs ((v3 + (2 : Int32))).toNatClampNeg)]) (rest := []) K hR (t_X11_heard a.1 F (d - 1) (by omega) (xs ((v3 + (1 : Int32))).toNatClampNeg) (xs ((v3 + (2 : Int32))).toNatClampNeg) s) mf_X11_heard ml_L_63 (Nat.le_of_ble_eq_true rfl) (by omega) rfl rc_0 rfl (Nat.le_of_ble_eq_true rfl) dL_law_650 (fun r132 s131 => ?_)
                              refine z_aload_n K 2 rfl dL_law_653 ?_
                              refine z_saload_n K 0 rfl dL_law_654 ?_
                              refine z_iload_n K 3 rfl dL_law_655 ?_
                              refine z_iconst K ci_1 dL_law_656 ?_
                              refine z_iadd K dL_law_657 ?_
                              refine z_sld K hX hbl hbA dL_law_658 ?_
                              refine z_saload_n K 0 rfl dL_law_659 ?_
                              refine z_iload_n K 3 rfl dL_law_660 ?_
                              refine z_iconst K ci_2 dL_law_661 ?_
                              refine z_iadd K dL_law_662 ?_
                              refine z_sld K hX hbl hbA dL_law_663 ?_
                              refine z_lVi (As := [.int (xs ((v3 + (1 : Int32))).toNatClampNeg), .int (xs ((v3 + (2 : Int32))).toNatClampNeg)]) (rest := [.int r132]) K hR (t_X12_heard a.1 F (d - 1) (by omega) (xs ((v3 + (1 : Int32))).toNatClampNeg) (xs ((v3 + (2 : Int32))).toNatClampNeg) s131) mf_X12_heard ml_L_66 (Nat.le_of_ble_eq_true rfl) (by omega) rfl rc_69 rfl (Nat.le_of_ble_eq_true rfl) dL_law_664 (fun r134 s133 => ?_)
                              refine z_icmp_eq K (tgt := 1358) dL_law_667 (by decide) ?_ ?_
                              · refine z_iincN K (j := 3) (lv' := [(0, .ref bs), (1, .ref (a.1.2.2.2 + 0)), (2, .ref (a.1.2.2.2 + 69))]) ci_6 rfl dL_law_1358 (Nat.le_of_ble_eq_true rfl) rfl (fun y135 => ?_)
                                refine z_goto K (tgt := 18) dL_law_1361 (by decide) ?_
                                refine z_sub [1, 2, 3, 0] rfl ?_
                                exact ih y135 s133
                              · refine z_iconst K ci_0 dL_law_670 ?_
                                exact hr0 _ _ _ _
                            · refine z_ite (fun hs12 => ?_) (fun hs12 => ?_)
                              · refine z_tswIn K (tgt := 672) (off := 639) dL_law_33 (by rw [hs12]; decide) (by rw [hs12]; decide) (by rw [hs12]; rfl) (by decide) ?_
                                refine z_aload_n K 1 rfl dL_law_672 ?_
                                refine z_saload_n K 0 rfl dL_law_673 ?_
                                refine z_iload_n K 3 rfl dL_law_674 ?_
                                refine z_iconst K ci_1 dL_law_675 ?_
                                refine z_iadd K dL_law_676 ?_
                                refine z_sld K hX hbl hbA dL_law_677 ?_
                                refine z_saload_n K 0 rfl dL_law_678 ?_
                                refine z_iload_n K 3 rfl dL_law_679 ?_
                                refine z_iconst K ci_2 dL_law_680 ?_
                                refine z_iadd K dL_law_681 ?_
                                refine z_sld K hX hbl hbA dL_law_682 ?_
                                refine z_saload_n K 0 rfl dL_law_683 ?_
                                refine z_iload_n K 3 rfl dL_law_684 ?_
                                refine z_iconst K ci_3 dL_law_685 ?_
                                refine z_iadd K dL_law_686 ?_
                                refine z_sld K hX hbl hbA dL_law_687 ?_
                                refine z_lVl (As := [.int (xs ((v3 + (1 : Int32))).toNatClampNeg), .int (xs ((v3 + (2 : Int32))).toNatClampNeg), .int (xs ((v3 + (3 : Int32))).toNatClampNeg)]) (rest := []) K hR (t_X11_smuggled a.1 F D (d - 1) (by omega) (xs ((v3 + (1 : Int32))).toNatClampNeg) (xs ((v3 + (2 : Int32))).toNatClampNeg) (xs ((v3 + (3 : Int32))).toNatClampNeg) s) mf_X11_smuggled ml_L_67 (Nat.le_of_ble_eq_true rfl) (by omega) rfl rc_0 rfl (Nat.le_of_ble_eq_true rfl) dL_law_688 (fun r127 s126 => ?_)
                                refine z_aload_n K 2 rfl dL_law_691 ?_
                                refine z_saload_n K 0 rfl dL_law_692 ?_
                                refine z_iload_n K 3 rfl dL_law_693 ?_
                                refine z_iconst K ci_1 dL_law_694 ?_
                                refine z_iadd K dL_law_695 ?_
                                refine z_sld K hX hbl hbA dL_law_696 ?_
                                refine z_saload_n K 0 rfl dL_law_697 ?_
                                refine z_iload_n K 3 rfl dL_law_698 ?_
                                refine z_iconst K ci_2 dL_law_699 ?_
                                refine z_iadd K dL_law_700 ?_
                                refine z_sld K hX hbl hbA dL_law_701 ?_
                                refine z_saload_n K 0 rfl dL_law_702 ?_
                                refine z_iload_n K 3 rfl dL_law_703 ?_
                                refine z_iconst K ci_3 dL_law_704 ?_
                                refine z_iadd K dL_law_705 ?_
                                refine z_sld K hX hbl hbA dL_law_706 ?_
                                refine z_lVl (As := [.int (xs ((v3 + (1 : Int32))).toNatClampNeg), .int (xs ((v3 + (2 : Int32))).toNatClampNeg), .int (xs ((v3 + (3 : Int32))).toNatClampNeg)]) (rest := [.long r127]) K hR (t_X12_smuggled a.1 F (d - 1) (by omega) (xs ((v3 + (1 : Int32))).toNatClampNeg) (xs ((v3 + (2 : Int32))).toNatClampNeg) (xs ((v3 + (3 : Int32))).toNatClampNeg) s126) mf_X12_smuggled ml_L_71 (Nat.le_of_ble_eq_true rfl) (by omega) rfl rc_69 rfl (Nat.le_of_ble_eq_true rfl) dL_law_707 (fun r129 s128 => ?_)
                                refine z_lcmp K dL_law_710 ?_
                                refine z_if_eq K (tgt := 1358) dL_law_711 (by decide) ?_ ?_
                                · refine z_iincN K (j := 3) (lv' := [(0, .ref bs), (1, .ref (a.1.2.2.2 + 0)), (2, .ref (a.1.2.2.2 + 69))]) ci_6 rfl dL_law_1358 (Nat.le_of_ble_eq_true rfl) rfl (fun y130 => ?_)
                                  refine z_goto K (tgt := 18) dL_law_1361 (by decide) ?_
                                  refine z_sub [1, 2, 3, 0] rfl ?_
                                  exact ih y130 s128
                                · refine z_iconst K ci_0 dL_law_714 ?_
                                  exact hr0 _ _ _ _
                              · refine z_ite (fun hs13 => ?_) (fun hs13 => ?_)
                                · refine z_tswIn K (tgt := 716) (off := 683) dL_law_33 (by rw [hs13]; decide) (by rw [hs13]; decide) (by rw [hs13]; rfl) (by decide) ?_
                                  refine z_aload_n K 1 rfl dL_law_716 ?_
                                  refine z_lVi (As := []) (rest := []) K hR (t_X11_sum a.1 F (d - 1) (by omega) s) mf_X11_sum ml_L_72 (Nat.le_of_ble_eq_true rfl) (by omega) rfl rc_0 rfl (Nat.le_of_ble_eq_true rfl) dL_law_717 (fun r122 s121 => ?_)
                                  refine z_aload_n K 2 rfl dL_law_720 ?_
                                  refine z_lVi (As := []) (rest := [.int r122]) K hR (t_X12_sum a.1 F (d - 1) (by omega) s121) mf_X12_sum ml_L_76 (Nat.le_of_ble_eq_true rfl) (by omega) rfl rc_69 rfl (Nat.le_of_ble_eq_true rfl) dL_law_721 (fun r124 s123 => ?_)
                                  refine z_icmp_eq K (tgt := 1358) dL_law_724 (by decide) ?_ ?_
                                  · refine z_iincN K (j := 3) (lv' := [(0, .ref bs), (1, .ref (a.1.2.2.2 + 0)), (2, .ref (a.1.2.2.2 + 69))]) ci_6 rfl dL_law_1358 (Nat.le_of_ble_eq_true rfl) rfl (fun y125 => ?_)
                                    refine z_goto K (tgt := 18) dL_law_1361 (by decide) ?_
                                    refine z_sub [1, 2, 3, 0] rfl ?_
                                    exact ih y125 s123
                                  · refine z_iconst K ci_0 dL_law_727 ?_
                                    exact hr0 _ _ _ _
                                · refine z_ite (fun hs14 => ?_) (fun hs14 => ?_)
                                  · refine z_tswIn K (tgt := 729) (off := 696) dL_law_33 (by rw [hs14]; decide) (by rw [hs14]; decide) (by rw [hs14]; rfl) (by decide) ?_
                                    refine z_aload_n K 1 rfl dL_law_729 ?_
                                    refine z_saload_n K 0 rfl dL_law_730 ?_
                                    refine z_iload_n K 3 rfl dL_law_731 ?_
                                    refine z_iconst K ci_1 dL_law_732 ?_
                                    refine z_iadd K dL_law_733 ?_
                                    refine z_sld K hX hbl hbA dL_law_734 ?_
                                    refine z_saload_n K 0 rfl dL_law_735 ?_
                                    refine z_iload_n K 3 rfl dL_law_736 ?_
                                    refine z_iconst K ci_2 dL_law_737 ?_
                                    refine z_iadd K dL_law_738 ?_
                                    refine z_sld K hX hbl hbA dL_law_739 ?_
                                    refine z_saload_n K 0 rfl dL_law_740 ?_
                                    refine z_iload_n K 3 rfl dL_law_741 ?_
                                    refine z_iconst K ci_3 dL_law_742 ?_
                                    refine z_iadd K dL_law_743 ?_
                                    refine z_sld K hX hbl hbA dL_law_744 ?_
                                    refine z_lVi (As := [.int (xs ((v3 + (1 : Int32))).toNatClampNeg), .int (xs ((v3 + (2 : Int32))).toNatClampNeg), .int (xs ((v3 + (3 : Int32))).toNatClampNeg)]) (rest := []) K hR (t_X11_seating a.1 F D (d - 1) (by omega) (xs ((v3 + (1 : Int32))).toNatClampNeg) (xs ((v3 + (2 : Int32))).toNatClampNeg) (xs ((v3 + (3 : Int32))).toNatClampNeg) s) mf_X11_seating ml_L_77 (Nat.le_of_ble_eq_true rfl) (by omega) rfl rc_0 rfl (Nat.le_of_ble_eq_true rfl) dL_law_745 (fun r117 s116 => ?_)
                                    refine z_aload_n K 2 rfl dL_law_748 ?_
                                    refine z_saload_n K 0 rfl dL_law_749 ?_
                                    refine z_iload_n K 3 rfl dL_law_750 ?_
                                    refine z_iconst K ci_1 dL_law_751 ?_
                                    refine z_iadd K dL_law_752 ?_
                                    refine z_sld K hX hbl hbA dL_law_753 ?_
                                    refine z_saload_n K 0 rfl dL_law_754 ?_
                                    refine z_iload_n K 3 rfl dL_law_755 ?_
                                    refine z_iconst K ci_2 dL_law_756 ?_
                                    refine z_iadd K dL_law_757 ?_
                                    refine z_sld K hX hbl hbA dL_law_758 ?_
                                    refine z_saload_n K 0 rfl dL_law_759 ?_
                                    refine z_iload_n K 3 rfl dL_law_760 ?_
                                    refine z_iconst K ci_3 dL_law_761 ?_
                                    refine z_iadd K dL_law_762 ?_
                                    refine z_sld K hX hbl hbA dL_law_763 ?_
                                    refine z_lVi (As := [.int (xs ((v3 + (1 : Int32))).toNatClampNeg), .int (xs ((v3 + (2 : Int32))).toNatClampNeg), .int (xs ((v3 + (3 : Int32))).toNatClampNeg)]) (rest := [.int r117]) K hR (t_X12_seating a.1 F (d - 1) (by omega) (xs ((v3 + (1 : Int32))).toNatClampNeg) (xs ((v3 + (2 : Int32))).toNatClampNeg) (xs ((v3 + (3 : Int32))).toNatClampNeg) s116) mf_X12_seating ml_L_80 (Nat.le_of_ble_eq_true rfl) (by omega) rfl rc_69 rfl (Nat.le_of_ble_eq_true rfl) dL_law_764 (fun r119 s118 => ?_)
                                    refine z_icmp_eq K (tgt := 1358) dL_law_767 (by decide) ?_ ?_
                                    · refine z_iincN K (j := 3) (lv' := [(0, .ref bs), (1, .ref (a.1.2.2.2 + 0)), (2, .ref (a.1.2.2.2 + 69))]) ci_6 rfl dL_law_1358 (Nat.le_of_ble_eq_true rfl) rfl (fun y120 => ?_)
                                      refine z_goto K (tgt := 18) dL_law_1361 (by decide) ?_
                                      refine z_sub [1, 2, 3, 0] rfl ?_
                                      exact ih y120 s118
                                    · refine z_iconst K ci_0 dL_law_770 ?_
                                      exact hr0 _ _ _ _
                                  · refine z_ite (fun hs15 => ?_) (fun hs15 => ?_)
                                    · refine z_tswIn K (tgt := 772) (off := 739) dL_law_33 (by rw [hs15]; decide) (by rw [hs15]; decide) (by rw [hs15]; rfl) (by decide) ?_
                                      refine z_aload_n K 1 rfl dL_law_772 ?_
                                      refine z_saload_n K 0 rfl dL_law_773 ?_
                                      refine z_iload_n K 3 rfl dL_law_774 ?_
                                      refine z_iconst K ci_1 dL_law_775 ?_
                                      refine z_iadd K dL_law_776 ?_
                                      refine z_sld K hX hbl hbA dL_law_777 ?_
                                      refine z_lVi (As := [.int (xs ((v3 + (1 : Int32))).toNatClampNeg)]) (rest := []) K hR (t_X11_exchange a.1 F (d - 1) (by omega) (xs ((v3 + (1 : Int32))).toNatClampNeg) s) mf_X11_exchange ml_L_81 (Nat.le_of_ble_eq_true rfl) (by omega) rfl rc_0 rfl (Nat.le_of_ble_eq_true rfl) dL_law_778 (fun r112 s111 => ?_)
                                      refine z_aload_n K 2 rfl dL_law_781 ?_
                                      refine z_saload_n K 0 rfl dL_law_782 ?_
                                      refine z_iload_n K 3 rfl dL_law_783 ?_
                                      refine z_iconst K ci_1 dL_law_784 ?_
                                      refine z_iadd K dL_law_785 ?_
                                      refine z_sld K hX hbl hbA dL_law_786 ?_
                                      refine z_lVi (As := [.int (xs ((v3 + (1 : Int32))).toNatClampNeg)]) (rest := [.int r112]) K hR (t_X12_exchange a.1 F (d - 1) (by omega) (xs ((v3 + (1 : Int32))).toNatClampNeg) s111) mf_X12_exchange ml_L_84 (Nat.le_of_ble_eq_true rfl) (by omega) rfl rc_69 rfl (Nat.le_of_ble_eq_true rfl) dL_law_787 (fun r114 s113 => ?_)
                                      refine z_icmp_eq K (tgt := 1358) dL_law_790 (by decide) ?_ ?_
                                      · refine z_iincN K (j := 3) (lv' := [(0, .ref bs), (1, .ref (a.1.2.2.2 + 0)), (2, .ref (a.1.2.2.2 + 69))]) ci_6 rfl dL_law_1358 (Nat.le_of_ble_eq_true rfl) rfl (fun y115 => ?_)
                                        refine z_goto K (tgt := 18) dL_law_1361 (by decide) ?_
                                        refine z_sub [1, 2, 3, 0] rfl ?_
                                        exact ih y115 s113
                                      · refine z_iconst K ci_0 dL_law_793 ?_
                                        exact hr0 _ _ _ _
                                    · refine z_ite (fun hs16 => ?_) (fun hs16 => ?_)
                                      · refine z_tswIn K (tgt := 795) (off := 762) dL_law_33 (by rw [hs16]; decide) (by rw [hs16]; decide) (by rw [hs16]; rfl) (by decide) ?_
                                        refine z_aload_n K 1 rfl dL_law_795 ?_
                                        refine z_lVi (As := []) (rest := []) K hR (t_X11_exchanges a.1 F (d - 1) (by omega) s) mf_X11_exchanges ml_L_85 (Nat.le_of_ble_eq_true rfl) (by omega) rfl rc_0 rfl (Nat.le_of_ble_eq_true rfl) dL_law_796 (fun r107 s106 => ?_)
                                        refine z_aload_n K 2 rfl dL_law_799 ?_
                                        refine z_lVi (As := []) (rest := [.int r107]) K hR (t_X12_exchanges a.1 F (d - 1) (by omega) s106) mf_X12_exchanges ml_L_88 (Nat.le_of_ble_eq_true rfl) (by omega) rfl rc_69 rfl (Nat.le_of_ble_eq_true rfl) dL_law_800 (fun r109 s108 => ?_)
                                        refine z_icmp_eq K (tgt := 1358) dL_law_803 (by decide) ?_ ?_
                                        · refine z_iincN K (j := 3) (lv' := [(0, .ref bs), (1, .ref (a.1.2.2.2 + 0)), (2, .ref (a.1.2.2.2 + 69))]) ci_6 rfl dL_law_1358 (Nat.le_of_ble_eq_true rfl) rfl (fun y110 => ?_)
                                          refine z_goto K (tgt := 18) dL_law_1361 (by decide) ?_
                                          refine z_sub [1, 2, 3, 0] rfl ?_
                                          exact ih y110 s108
                                        · refine z_iconst K ci_0 dL_law_806 ?_
                                          exact hr0 _ _ _ _
                                      · refine z_ite (fun hs17 => ?_) (fun hs17 => ?_)
                                        · refine z_tswIn K (tgt := 808) (off := 775) dL_law_33 (by rw [hs17]; decide) (by rw [hs17]; decide) (by rw [hs17]; rfl) (by decide) ?_
                                          refine z_aload_n K 1 rfl dL_law_808 ?_
                                          refine z_lVi (As := []) (rest := []) K hR (t_X11_strays a.1 F (d - 1) (by omega) s) mf_X11_strays ml_L_89 (Nat.le_of_ble_eq_true rfl) (by omega) rfl rc_0 rfl (Nat.le_of_ble_eq_true rfl) dL_law_809 (fun r102 s101 => ?_)
                                          refine z_aload_n K 2 rfl dL_law_812 ?_
                                          refine z_lVi (As := []) (rest := [.int r102]) K hR (t_X12_strays a.1 F (d - 1) (by omega) s101) mf_X12_strays ml_L_92 (Nat.le_of_ble_eq_true rfl) (by omega) rfl rc_69 rfl (Nat.le_of_ble_eq_true rfl) dL_law_813 (fun r104 s103 => ?_)
                                          refine z_icmp_eq K (tgt := 1358) dL_law_816 (by decide) ?_ ?_
                                          · refine z_iincN K (j := 3) (lv' := [(0, .ref bs), (1, .ref (a.1.2.2.2 + 0)), (2, .ref (a.1.2.2.2 + 69))]) ci_6 rfl dL_law_1358 (Nat.le_of_ble_eq_true rfl) rfl (fun y105 => ?_)
                                            refine z_goto K (tgt := 18) dL_law_1361 (by decide) ?_
                                            refine z_sub [1, 2, 3, 0] rfl ?_
                                            exact ih y105 s103
                                          · refine z_iconst K ci_0 dL_law_819 ?_
                                            exact hr0 _ _ _ _
                                        · refine z_ite (fun hs18 => ?_) (fun hs18 => ?_)
                                          · refine z_tswIn K (tgt := 821) (off := 788) dL_law_33 (by rw [hs18]; decide) (by rw [hs18]; decide) (by rw [hs18]; rfl) (by decide) ?_
                                            refine z_aload_n K 1 rfl dL_law_821 ?_
                                            refine z_lVi (As := []) (rest := []) K hR (t_X11_home a.1 F (d - 1) (by omega) s) mf_X11_home ml_L_93 (Nat.le_of_ble_eq_true rfl) (by omega) rfl rc_0 rfl (Nat.le_of_ble_eq_true rfl) dL_law_822 (fun r97 s96 => ?_)
                                            refine z_aload_n K 2 rfl dL_law_825 ?_
                                            refine z_lVi (As := []) (rest := [.int r97]) K hR (t_X12_home a.1 F (d - 1) (by omega) s96) mf_X12_home ml_L_96 (Nat.le_of_ble_eq_true rfl) (by omega) rfl rc_69 rfl (Nat.le_of_ble_eq_true rfl) dL_law_826 (fun r99 s98 => ?_)
                                            refine z_icmp_eq K (tgt := 1358) dL_law_829 (by decide) ?_ ?_
                                            · refine z_iincN K (j := 3) (lv' := [(0, .ref bs), (1, .ref (a.1.2.2.2 + 0)), (2, .ref (a.1.2.2.2 + 69))]) ci_6 rfl dL_law_1358 (Nat.le_of_ble_eq_true rfl) rfl (fun y100 => ?_)
                                              refine z_goto K (tgt := 18) dL_law_1361 (by decide) ?_
                                              refine z_sub [1, 2, 3, 0] rfl ?_
                                              exact ih y100 s98
                                            · refine z_iconst K ci_0 dL_law_832 ?_
                                              exact hr0 _ _ _ _
                                          · refine z_ite (fun hs19 => ?_) (fun hs19 => ?_)
                                            · refine z_tswIn K (tgt := 834) (off := 801) dL_law_33 (by rw [hs19]; decide) (by rw [hs19]; decide) (by rw [hs19]; rfl) (by decide) ?_
                                              refine z_aload_n K 1 rfl dL_law_834 ?_
                                              refine z_saload_n K 0 rfl dL_law_835 ?_
                                              refine z_iload_n K 3 rfl dL_law_836 ?_
                                              refine z_iconst K ci_1 dL_law_837 ?_
                                              refine z_iadd K dL_law_838 ?_
                                              refine z_sld K hX hbl hbA dL_law_839 ?_
                                              refine z_saload_n K 0 rfl dL_law_840 ?_
                                              refine z_iload_n K 3 rfl dL_law_841 ?_
                                              refine z_iconst K ci_2 dL_law_842 ?_
                                              refine z_iadd K dL_law_843 ?_
                                              refine z_sld K hX hbl hbA dL_law_844 ?_
                                              refine z_lVi (As := [.int (xs ((v3 + (1 : Int32))).toNatClampNeg), .int (xs ((v3 + (2 : Int32))).toNatClampNeg)]) (rest := []) K hR (t_X11_heir a.1 (d - 1) (by omega) (xs ((v3 + (1 : Int32))).toNatClampNeg) (xs ((v3 + (2 : Int32))).toNatClampNeg) s) mf_X11_heir ml_L_97 (Nat.le_of_ble_eq_true rfl) (by omega) rfl rc_0 rfl (Nat.le_of_ble_eq_true rfl) dL_law_845 (fun r92 s91 => ?_)
                                              refine z_aload_n K 2 rfl dL_law_848 ?_
                                              refine z_saload_n K 0 rfl dL_law_849 ?_
                                              refine z_iload_n K 3 rfl dL_law_850 ?_
                                              refine z_iconst K ci_1 dL_law_851 ?_
                                              refine z_iadd K dL_law_852 ?_
                                              refine z_sld K hX hbl hbA dL_law_853 ?_
                                              refine z_saload_n K 0 rfl dL_law_854 ?_
                                              refine z_iload_n K 3 rfl dL_law_855 ?_
                                              refine z_iconst K ci_2 dL_law_856 ?_
                                              refine z_iadd K dL_law_857 ?_
                                              refine z_sld K hX hbl hbA dL_law_858 ?_
                                              refine z_lVi (As := [.int (xs ((v3 + (1 : Int32))).toNatClampNeg), .int (xs ((v3 + (2 : Int32))).toNatClampNeg)]) (rest := [.int r92]) K hR (t_X12_heir a.1 (d - 1) (by omega) (xs ((v3 + (1 : Int32))).toNatClampNeg) (xs ((v3 + (2 : Int32))).toNatClampNeg) s91) mf_X12_heir ml_L_100 (Nat.le_of_ble_eq_true rfl) (by omega) rfl rc_69 rfl (Nat.le_of_ble_eq_true rfl) dL_law_859 (fun r94 s93 => ?_)
                                              refine z_icmp_eq K (tgt := 1358) dL_law_862 (by decide) ?_ ?_
                                              · refine z_iincN K (j := 3) (lv' := [(0, .ref bs), (1, .ref (a.1.2.2.2 + 0)), (2, .ref (a.1.2.2.2 + 69))]) ci_6 rfl dL_law_1358 (Nat.le_of_ble_eq_true rfl) rfl (fun y95 => ?_)
                                                refine z_goto K (tgt := 18) dL_law_1361 (by decide) ?_
                                                refine z_sub [1, 2, 3, 0] rfl ?_
                                                exact ih y95 s93
                                              · refine z_iconst K ci_0 dL_law_865 ?_
                                                exact hr0 _ _ _ _
                                            · refine z_ite (fun hs20 => ?_) (fun hs20 => ?_)
                                              · refine z_tswIn K (tgt := 867) (off := 834) dL_law_33 (by rw [hs20]; decide) (by rw [hs20]; decide) (by rw [hs20]; rfl) (by decide) ?_
                                                refine z_aload_n K 1 rfl dL_law_867 ?_
                                                refine z_saload_n K 0 rfl dL_law_868 ?_
                                                refine z_iload_n K 3 rfl dL_law_869 ?_
                                                refine z_iconst K ci_1 dL_law_870 ?_
                                                refine z_iadd K dL_law_871 ?_
                                                refine z_sld K hX hbl hbA dL_law_872 ?_
                                                refine z_lVi (As := [.int (xs ((v3 + (1 : Int32))).toNatClampNeg)]) (rest := []) K hR (t_X11_dies a.1 F (d - 1) (by omega) (xs ((v3 + (1 : Int32))).toNatClampNeg) s) mf_X11_dies ml_L_101 (Nat.le_of_ble_eq_true rfl) (by omega) rfl rc_0 rfl (Nat.le_of_ble_eq_true rfl) dL_law_873 (fun r87 s86 => ?_)
                                                refine z_aload_n K 2 rfl dL_law_876 ?_
                                                refine z_saload_n K 0 rfl dL_law_877 ?_
                                                refine z_iload_n K 3 rfl dL_law_878 ?_
                                                refine z_iconst K ci_1 dL_law_879 ?_
                                                refine z_iadd K dL_law_880 ?_
                                                refine z_sld K hX hbl hbA dL_law_881 ?_
                                                refine z_lVi (As := [.int (xs ((v3 + (1 : Int32))).toNatClampNeg)]) (rest := [.int r87]) K hR (t_X12_dies a.1 F (d - 1) (by omega) (xs ((v3 + (1 : Int32))).toNatClampNeg) s86) mf_X12_dies ml_L_104 (Nat.le_of_ble_eq_true rfl) (by omega) rfl rc_69 rfl (Nat.le_of_ble_eq_true rfl) dL_law_882 (fun r89 s88 => ?_)
                                                refine z_icmp_eq K (tgt := 1358) dL_law_885 (by decide) ?_ ?_
                                                · refine z_iincN K (j := 3) (lv' := [(0, .ref bs), (1, .ref (a.1.2.2.2 + 0)), (2, .ref (a.1.2.2.2 + 69))]) ci_6 rfl dL_law_1358 (Nat.le_of_ble_eq_true rfl) rfl (fun y90 => ?_)
                                                  refine z_goto K (tgt := 18) dL_law_1361 (by decide) ?_
                                                  refine z_sub [1, 2, 3, 0] rfl ?_
                                                  exact ih y90 s88
                                                · refine z_iconst K ci_0 dL_law_888 ?_
                                                  exact hr0 _ _ _ _
                                              · refine z_ite (fun hs21 => ?_) (fun hs21 => ?_)
                                                · refine z_tswIn K (tgt := 890) (off := 857) dL_law_33 (by rw [hs21]; decide) (by rw [hs21]; decide) (by rw [hs21]; rfl) (by decide) ?_
                                                  refine z_aload_n K 1 rfl dL_law_890 ?_
                                                  refine z_saload_n K 0 rfl dL_law_891 ?_
                                                  refine z_iload_n K 3 rfl dL_law_892 ?_
                                                  refine z_iconst K ci_1 dL_law_893 ?_
                                                  refine z_iadd K dL_law_894 ?_
                                                  refine z_sld K hX hbl hbA dL_law_895 ?_
                                                  refine z_saload_n K 0 rfl dL_law_896 ?_
                                                  refine z_iload_n K 3 rfl dL_law_897 ?_
                                                  refine z_iconst K ci_2 dL_law_898 ?_
                                                  refine z_iadd K dL_law_899 ?_
                                                  refine z_sld K hX hbl hbA dL_law_900 ?_
                                                  refine z_lVi (As := [.int (xs ((v3 + (1 : Int32))).toNatClampNeg), .int (xs ((v3 + (2 : Int32))).toNatClampNeg)]) (rest := []) K hR (t_X11_knives a.1 (d - 1) (by omega) (xs ((v3 + (1 : Int32))).toNatClampNeg) (xs ((v3 + (2 : Int32))).toNatClampNeg) s) mf_X11_knives ml_L_105 (Nat.le_of_ble_eq_true rfl) (by omega) rfl rc_0 rfl (Nat.le_of_ble_eq_true rfl) dL_law_901 (fun r82 s81 => ?_)
                                                  refine z_aload_n K 2 rfl dL_law_904 ?_
                                                  refine z_saload_n K 0 rfl dL_law_905 ?_
                                                  refine z_iload_n K 3 rfl dL_law_906 ?_
                                                  refine z_iconst K ci_1 dL_law_907 ?_
                                                  refine z_iadd K dL_law_908 ?_
                                                  refine z_sld K hX hbl hbA dL_law_909 ?_
                                                  refine z_saload_n K 0 rfl dL_law_910 ?_
                                                  refine z_iload_n K 3 rfl dL_law_911 ?_
                                                  refine z_iconst K ci_2 dL_law_912 ?_
                                                  refine z_iadd K dL_law_913 ?_
                                                  refine z_sld K hX hbl hbA dL_law_914 ?_
                                                  refine z_lVi (As := [.int (xs ((v3 + (1 : Int32))).toNatClampNeg), .int (xs ((v3 + (2 : Int32))).toNatClampNeg)]) (rest := [.int r82]) K hR (t_X12_knives a.1 (d - 1) (by omega) (xs ((v3 + (1 : Int32))).toNatClampNeg) (xs ((v3 + (2 : Int32))).toNatClampNeg) s81) mf_X12_knives ml_L_108 (Nat.le_of_ble_eq_true rfl) (by omega) rfl rc_69 rfl (Nat.le_of_ble_eq_true rfl) dL_law_915 (fun r84 s83 => ?_)
                                                  refine z_icmp_eq K (tgt := 1358) dL_law_918 (by decide) ?_ ?_
                                                  · refine z_iincN K (j := 3) (lv' := [(0, .ref bs), (1, .ref (a.1.2.2.2 + 0)), (2, .ref (a.1.2.2.2 + 69))]) ci_6 rfl dL_law_1358 (Nat.le_of_ble_eq_true rfl) rfl (fun y85 => ?_)
                                                    refine z_goto K (tgt := 18) dL_law_1361 (by decide) ?_
                                                    refine z_sub [1, 2, 3, 0] rfl ?_
                                                    exact ih y85 s83
                                                  · refine z_iconst K ci_0 dL_law_921 ?_
                                                    exact hr0 _ _ _ _
                                                · refine z_ite (fun hs22 => ?_) (fun hs22 => ?_)
                                                  · refine z_tswIn K (tgt := 923) (off := 890) dL_law_33 (by rw [hs22]; decide) (by rw [hs22]; decide) (by rw [hs22]; rfl) (by decide) ?_
                                                    refine z_aload_n K 1 rfl dL_law_923 ?_
                                                    refine z_saload_n K 0 rfl dL_law_924 ?_
                                                    refine z_iload_n K 3 rfl dL_law_925 ?_
                                                    refine z_iconst K ci_1 dL_law_926 ?_
                                                    refine z_iadd K dL_law_927 ?_
                                                    refine z_sld K hX hbl hbA dL_law_928 ?_
                                                    refine z_saload_n K 0 rfl dL_law_929 ?_
                                                    refine z_iload_n K 3 rfl dL_law_930 ?_
                                                    refine z_iconst K ci_2 dL_law_931 ?_
                                                    refine z_iadd K dL_law_932 ?_
                                                    refine z_sld K hX hbl hbA dL_law_933 ?_
                                                    refine z_saload_n K 0 rfl dL_law_934 ?_
                                                    refine z_iload_n K 3 rfl dL_law_935 ?_
                                                    refine z_iconst K ci_3 dL_law_936 ?_
                                                    refine z_iadd K dL_law_937 ?_
                                                    refine z_sld K hX hbl hbA dL_law_938 ?_
                                                    refine z_lVi (As := [.int (xs ((v3 + (1 : Int32))).toNatClampNeg), .int (xs ((v3 + (2 : Int32))).toNatClampNeg), .int (xs ((v3 + (3 : Int32))).toNatClampNeg)]) (rest := []) K hR (t_X11_put a.1 (d - 1) (by omega) (xs ((v3 + (1 : Int32))).toNatClampNeg) (xs ((v3 + (2 : Int32))).toNatClampNeg) (xs ((v3 + (3 : Int32))).toNatClampNeg) s) mf_X11_put ml_L_109 (Nat.le_of_ble_eq_true rfl) (by omega) rfl rc_0 rfl (Nat.le_of_ble_eq_true rfl) dL_law_939 (fun r77 s76 => ?_)
                                                    refine z_aload_n K 2 rfl dL_law_942 ?_
                                                    refine z_saload_n K 0 rfl dL_law_943 ?_
                                                    refine z_iload_n K 3 rfl dL_law_944 ?_
                                                    refine z_iconst K ci_1 dL_law_945 ?_
                                                    refine z_iadd K dL_law_946 ?_
                                                    refine z_sld K hX hbl hbA dL_law_947 ?_
                                                    refine z_saload_n K 0 rfl dL_law_948 ?_
                                                    refine z_iload_n K 3 rfl dL_law_949 ?_
                                                    refine z_iconst K ci_2 dL_law_950 ?_
                                                    refine z_iadd K dL_law_951 ?_
                                                    refine z_sld K hX hbl hbA dL_law_952 ?_
                                                    refine z_saload_n K 0 rfl dL_law_953 ?_
                                                    refine z_iload_n K 3 rfl dL_law_954 ?_
                                                    refine z_iconst K ci_3 dL_law_955 ?_
                                                    refine z_iadd K dL_law_956 ?_
                                                    refine z_sld K hX hbl hbA dL_law_957 ?_
                                                    refine z_lVi (As := [.int (xs ((v3 + (1 : Int32))).toNatClampNeg), .int (xs ((v3 + (2 : Int32))).toNatClampNeg), .int (xs ((v3 + (3 : Int32))).toNatClampNeg)]) (rest := [.int r77]) K hR (t_X12_put a.1 (d - 1) (by omega) (xs ((v3 + (1 : Int32))).toNatClampNeg) (xs ((v3 + (2 : Int32))).toNatClampNeg) (xs ((v3 + (3 : Int32))).toNatClampNeg) s76) mf_X12_put ml_L_112 (Nat.le_of_ble_eq_true rfl) (by omega) rfl rc_69 rfl (Nat.le_of_ble_eq_true rfl) dL_law_958 (fun r79 s78 => ?_)
                                                    refine z_icmp_eq K (tgt := 1358) dL_law_961 (by decide) ?_ ?_
                                                    · refine z_iincN K (j := 3) (lv' := [(0, .ref bs), (1, .ref (a.1.2.2.2 + 0)), (2, .ref (a.1.2.2.2 + 69))]) ci_6 rfl dL_law_1358 (Nat.le_of_ble_eq_true rfl) rfl (fun y80 => ?_)
                                                      refine z_goto K (tgt := 18) dL_law_1361 (by decide) ?_
                                                      refine z_sub [1, 2, 3, 0] rfl ?_
                                                      exact ih y80 s78
                                                    · refine z_iconst K ci_0 dL_law_964 ?_
                                                      exact hr0 _ _ _ _
                                                  · refine z_ite (fun hs23 => ?_) (fun hs23 => ?_)
                                                    · refine z_tswIn K (tgt := 966) (off := 933) dL_law_33 (by rw [hs23]; decide) (by rw [hs23]; decide) (by rw [hs23]; rfl) (by decide) ?_
                                                      refine z_aload_n K 1 rfl dL_law_966 ?_
                                                      refine z_saload_n K 0 rfl dL_law_967 ?_
                                                      refine z_iload_n K 3 rfl dL_law_968 ?_
                                                      refine z_iconst K ci_1 dL_law_969 ?_
                                                      refine z_iadd K dL_law_970 ?_
                                                      refine z_sld K hX hbl hbA dL_law_971 ?_
                                                      refine z_saload_n K 0 rfl dL_law_972 ?_
                                                      refine z_iload_n K 3 rfl dL_law_973 ?_
                                                      refine z_iconst K ci_2 dL_law_974 ?_
                                                      refine z_iadd K dL_law_975 ?_
                                                      refine z_sld K hX hbl hbA dL_law_976 ?_
                                                      refine z_saload_n K 0 rfl dL_law_977 ?_
                                                      refine z_iload_n K 3 rfl dL_law_978 ?_
                                                      refine z_iconst K ci_3 dL_law_979 ?_
                                                      refine z_iadd K dL_law_980 ?_
                                                      refine z_sld K hX hbl hbA dL_law_981 ?_
                                                      refine z_saload_n K 0 rfl dL_law_982 ?_
                                                      refine z_iload_n K 3 rfl dL_law_983 ?_
                                                      refine z_iconst K ci_4 dL_law_984 ?_
                                                      refine z_iadd K dL_law_985 ?_
                                                      refine z_sld K hX hbl hbA dL_law_986 ?_
                                                      refine z_lVi (As := [.int (xs ((v3 + (1 : Int32))).toNatClampNeg), .int (xs ((v3 + (2 : Int32))).toNatClampNeg), .int (xs ((v3 + (3 : Int32))).toNatClampNeg), .int (xs ((v3 + (4 : Int32))).toNatClampNeg)]) (rest := []) K hR (t_X11_counted a.1 (d - 1) (by omega) (xs ((v3 + (1 : Int32))).toNatClampNeg) (xs ((v3 + (2 : Int32))).toNatClampNeg) (xs ((v3 + (3 : Int32))).toNatClampNeg) (xs ((v3 + (4 : Int32))).toNatClampNeg) s) mf_X11_counted ml_L_113 (Nat.le_of_ble_eq_true rfl) (by omega) rfl rc_0 rfl (Nat.le_of_ble_eq_true rfl) dL_law_987 (fun r72 s71 => ?_)
                                                      refine z_aload_n K 2 rfl dL_law_990 ?_
                                                      refine z_saload_n K 0 rfl dL_law_991 ?_
                                                      refine z_iload_n K 3 rfl dL_law_992 ?_
                                                      refine z_iconst K ci_1 dL_law_993 ?_
                                                      refine z_iadd K dL_law_994 ?_
                                                      refine z_sld K hX hbl hbA dL_law_995 ?_
                                                      refine z_saload_n K 0 rfl dL_law_996 ?_
                                                      refine z_iload_n K 3 rfl dL_law_997 ?_
                                                      refine z_iconst K ci_2 dL_law_998 ?_
                                                      refine z_iadd K dL_law_999 ?_
                                                      refine z_sld K hX hbl hbA dL_law_1000 ?_
                                                      refine z_saload_n K 0 rfl dL_law_1001 ?_
                                                      refine z_iload_n K 3 rfl dL_law_1002 ?_
                                                      refine z_iconst K ci_3 dL_law_1003 ?_
                                                      refine z_iadd K dL_law_1004 ?_
                                                      refine z_sld K hX hbl hbA dL_law_1005 ?_
                                                      refine z_saload_n K 0 rfl dL_law_1006 ?_
                                                      refine z_iload_n K 3 rfl dL_law_1007 ?_
                                                      refine z_iconst K ci_4 dL_law_1008 ?_
                                                      refine z_iadd K dL_law_1009 ?_
                                                      refine z_sld K hX hbl hbA dL_law_1010 ?_
                                                      refine z_lVi (As := [.int (xs ((v3 + (1 : Int32))).toNatClampNeg), .int (xs ((v3 + (2 : Int32))).toNatClampNeg), .int (xs ((v3 + (3 : Int32))).toNatClampNeg), .int (xs ((v3 + (4 : Int32))).toNatClampNeg)]) (rest := [.int r72]) K hR (t_X12_counted a.1 (d - 1) (by omega) (xs ((v3 + (1 : Int32))).toNatClampNeg) (xs ((v3 + (2 : Int32))).toNatClampNeg) (xs ((v3 + (3 : Int32))).toNatClampNeg) (xs ((v3 + (4 : Int32))).toNatClampNeg) s71) mf_X12_counted ml_L_117 (Nat.le_of_ble_eq_true rfl) (by omega) rfl rc_69 rfl (Nat.le_of_ble_eq_true rfl) dL_law_1011 (fun r74 s73 => ?_)
                                                      refine z_icmp_eq K (tgt := 1358) dL_law_1014 (by decide) ?_ ?_
                                                      · refine z_iincN K (j := 3) (lv' := [(0, .ref bs), (1, .ref (a.1.2.2.2 + 0)), (2, .ref (a.1.2.2.2 + 69))]) ci_6 rfl dL_law_1358 (Nat.le_of_ble_eq_true rfl) rfl (fun y75 => ?_)
                                                        refine z_goto K (tgt := 18) dL_law_1361 (by decide) ?_
                                                        refine z_sub [1, 2, 3, 0] rfl ?_
                                                        exact ih y75 s73
                                                      · refine z_iconst K ci_0 dL_law_1017 ?_
                                                        exact hr0 _ _ _ _
                                                    · refine z_ite (fun hs24 => ?_) (fun hs24 => ?_)
                                                      · refine z_tswIn K (tgt := 1019) (off := 986) dL_law_33 (by rw [hs24]; decide) (by rw [hs24]; decide) (by rw [hs24]; rfl) (by decide) ?_
                                                        refine z_aload_n K 1 rfl dL_law_1019 ?_
                                                        refine z_saload_n K 0 rfl dL_law_1020 ?_
                                                        refine z_iload_n K 3 rfl dL_law_1021 ?_
                                                        refine z_iconst K ci_1 dL_law_1022 ?_
                                                        refine z_iadd K dL_law_1023 ?_
                                                        refine z_sld K hX hbl hbA dL_law_1024 ?_
                                                        refine z_lVi (As := [.int (xs ((v3 + (1 : Int32))).toNatClampNeg)]) (rest := []) K hR (t_X11_missing a.1 F (d - 1) (by omega) (xs ((v3 + (1 : Int32))).toNatClampNeg) s) mf_X11_missing ml_L_118 (Nat.le_of_ble_eq_true rfl) (by omega) rfl rc_0 rfl (Nat.le_of_ble_eq_true rfl) dL_law_1025 (fun r67 s66 => ?_)
                                                        refine z_aload_n K 2 rfl dL_law_1028 ?_
                                                        refine z_saload_n K 0 rfl dL_law_1029 ?_
                                                        refine z_iload_n K 3 rfl dL_law_1030 ?_
                                                        refine z_iconst K ci_1 dL_law_1031 ?_
                                                        refine z_iadd K dL_law_1032 ?_
                                                        refine z_sld K hX hbl hbA dL_law_1033 ?_
                                                        refine z_lVi (As := [.int (xs ((v3 + (1 : Int32))).toNatClampNeg)]) (rest := [.int r67]) K hR (t_X12_missing a.1 F (d - 1) (by omega) (xs ((v3 + (1 : Int32))).toNatClampNeg) s66) mf_X12_missing ml_L_121 (Nat.le_of_ble_eq_true rfl) (by omega) rfl rc_69 rfl (Nat.le_of_ble_eq_true rfl) dL_law_1034 (fun r69 s68 => ?_)
                                                        refine z_icmp_eq K (tgt := 1358) dL_law_1037 (by decide) ?_ ?_
                                                        · refine z_iincN K (j := 3) (lv' := [(0, .ref bs), (1, .ref (a.1.2.2.2 + 0)), (2, .ref (a.1.2.2.2 + 69))]) ci_6 rfl dL_law_1358 (Nat.le_of_ble_eq_true rfl) rfl (fun y70 => ?_)
                                                          refine z_goto K (tgt := 18) dL_law_1361 (by decide) ?_
                                                          refine z_sub [1, 2, 3, 0] rfl ?_
                                                          exact ih y70 s68
                                                        · refine z_iconst K ci_0 dL_law_1040 ?_
                                                          exact hr0 _ _ _ _
                                                      · refine z_ite (fun hs25 => ?_) (fun hs25 => ?_)
                                                        · refine z_tswIn K (tgt := 1042) (off := 1009) dL_law_33 (by rw [hs25]; decide) (by rw [hs25]; decide) (by rw [hs25]; rfl) (by decide) ?_
                                                          refine z_aload_n K 1 rfl dL_law_1042 ?_
                                                          refine z_lVi (As := []) (rest := []) K hR (t_X11_wrong a.1 F (d - 1) (by omega) s) mf_X11_wrong ml_L_122 (Nat.le_of_ble_eq_true rfl) (by omega) rfl rc_0 rfl (Nat.le_of_ble_eq_true rfl) dL_law_1043 (fun r62 s61 => ?_)
                                                          refine z_aload_n K 2 rfl dL_law_1046 ?_
                                                          refine z_lVi (As := []) (rest := [.int r62]) K hR (t_X12_wrong a.1 F (d - 1) (by omega) s61) mf_X12_wrong ml_L_125 (Nat.le_of_ble_eq_true rfl) (by omega) rfl rc_69 rfl (Nat.le_of_ble_eq_true rfl) dL_law_1047 (fun r64 s63 => ?_)
                                                          refine z_icmp_eq K (tgt := 1358) dL_law_1050 (by decide) ?_ ?_
                                                          · refine z_iincN K (j := 3) (lv' := [(0, .ref bs), (1, .ref (a.1.2.2.2 + 0)), (2, .ref (a.1.2.2.2 + 69))]) ci_6 rfl dL_law_1358 (Nat.le_of_ble_eq_true rfl) rfl (fun y65 => ?_)
                                                            refine z_goto K (tgt := 18) dL_law_1361 (by decide) ?_
                                                            refine z_sub [1, 2, 3, 0] rfl ?_
                                                            exact ih y65 s63
                                                          · refine z_iconst K ci_0 dL_law_1053 ?_
                                                            exact hr0 _ _ _ _
                                                        · refine z_ite (fun hs26 => ?_) (fun hs26 => ?_)
                                                          · refine z_tswIn K (tgt := 1055) (off := 1022) dL_law_33 (by rw [hs26]; decide) (by rw [hs26]; decide) (by rw [hs26]; rfl) (by decide) ?_
                                                            refine z_aload_n K 1 rfl dL_law_1055 ?_
                                                            refine z_saload_n K 0 rfl dL_law_1056 ?_
                                                            refine z_iload_n K 3 rfl dL_law_1057 ?_
                                                            refine z_iconst K ci_1 dL_law_1058 ?_
                                                            refine z_iadd K dL_law_1059 ?_
                                                            refine z_sld K hX hbl hbA dL_law_1060 ?_
                                                            refine z_saload_n K 0 rfl dL_law_1061 ?_
                                                            refine z_iload_n K 3 rfl dL_law_1062 ?_
                                                            refine z_iconst K ci_2 dL_law_1063 ?_
                                                            refine z_iadd K dL_law_1064 ?_
                                                            refine z_sld K hX hbl hbA dL_law_1065 ?_
                                                            refine z_lVi (As := [.int (xs ((v3 + (1 : Int32))).toNatClampNeg), .int (xs ((v3 + (2 : Int32))).toNatClampNeg)]) (rest := []) K hR (t_X11_gives a.1 (d - 1) (by omega) (xs ((v3 + (1 : Int32))).toNatClampNeg) (xs ((v3 + (2 : Int32))).toNatClampNeg) s) mf_X11_gives ml_L_126 (Nat.le_of_ble_eq_true rfl) (by omega) rfl rc_0 rfl (Nat.le_of_ble_eq_true rfl) dL_law_1066 (fun r57 s56 => ?_)
                                                            refine z_aload_n K 2 rfl dL_law_1069 ?_
                                                            refine z_saload_n K 0 rfl dL_law_1070 ?_
                                                            refine z_iload_n K 3 rfl dL_law_1071 ?_
                                                            refine z_iconst K ci_1 dL_law_1072 ?_
                                                            refine z_iadd K dL_law_1073 ?_
                                                            refine z_sld K hX hbl hbA dL_law_1074 ?_
                                                            refine z_saload_n K 0 rfl dL_law_1075 ?_
                                                            refine z_iload_n K 3 rfl dL_law_1076 ?_
                                                            refine z_iconst K ci_2 dL_law_1077 ?_
                                                            refine z_iadd K dL_law_1078 ?_
                                                            refine z_sld K hX hbl hbA dL_law_1079 ?_
                                                            refine z_lVi (As := [.int (xs ((v3 + (1 : Int32))).toNatClampNeg), .int (xs ((v3 + (2 : Int32))).toNatClampNeg)]) (rest := [.int r57]) K hR (t_X12_gives a.1 (d - 1) (by omega) (xs ((v3 + (1 : Int32))).toNatClampNeg) (xs ((v3 + (2 : Int32))).toNatClampNeg) s56) mf_X12_gives ml_L_129 (Nat.le_of_ble_eq_true rfl) (by omega) rfl rc_69 rfl (Nat.le_of_ble_eq_true rfl) dL_law_1080 (fun r59 s58 => ?_)
                                                            refine z_icmp_eq K (tgt := 1358) dL_law_1083 (by decide) ?_ ?_
                                                            · refine z_iincN K (j := 3) (lv' := [(0, .ref bs), (1, .ref (a.1.2.2.2 + 0)), (2, .ref (a.1.2.2.2 + 69))]) ci_6 rfl dL_law_1358 (Nat.le_of_ble_eq_true rfl) rfl (fun y60 => ?_)
                                                              refine z_goto K (tgt := 18) dL_law_1361 (by decide) ?_
                                                              refine z_sub [1, 2, 3, 0] rfl ?_
                                                              exact ih y60 s58
                                                            · refine z_iconst K ci_0 dL_law_1086 ?_
                                                              exact hr0 _ _ _ _
                                                          · refine z_ite (fun hs27 => ?_) (fun hs27 => ?_)
                                                            · refine z_tswIn K (tgt := 1088) (off := 1055) dL_law_33 (by rw [hs27]; decide) (by rw [hs27]; decide) (by rw [hs27]; rfl) (by decide) ?_
                                                              refine z_aload_n K 1 rfl dL_law_1088 ?_
                                                              refine z_saload_n K 0 rfl dL_law_1089 ?_
                                                              refine z_iload_n K 3 rfl dL_law_1090 ?_
                                                              refine z_iconst K ci_1 dL_law_1091 ?_
                                                              refine z_iadd K dL_law_1092 ?_
                                                              refine z_sld K hX hbl hbA dL_law_1093 ?_
                                                              refine z_saload_n K 0 rfl dL_law_1094 ?_
                                                              refine z_iload_n K 3 rfl dL_law_1095 ?_
                                                              refine z_iconst K ci_2 dL_law_1096 ?_
                                                              refine z_iadd K dL_law_1097 ?_
                                                              refine z_sld K hX hbl hbA dL_law_1098 ?_
                                                              refine z_saload_n K 0 rfl dL_law_1099 ?_
                                                              refine z_iload_n K 3 rfl dL_law_1100 ?_
                                                              refine z_iconst K ci_3 dL_law_1101 ?_
                                                              refine z_iadd K dL_law_1102 ?_
                                                              refine z_sld K hX hbl hbA dL_law_1103 ?_
                                                              refine z_lVi (As := [.int (xs ((v3 + (1 : Int32))).toNatClampNeg), .int (xs ((v3 + (2 : Int32))).toNatClampNeg), .int (xs ((v3 + (3 : Int32))).toNatClampNeg)]) (rest := []) K hR (t_X11_passes a.1 F (d - 1) (by omega) (xs ((v3 + (1 : Int32))).toNatClampNeg) (xs ((v3 + (2 : Int32))).toNatClampNeg) (xs ((v3 + (3 : Int32))).toNatClampNeg) s) mf_X11_passes ml_L_130 (Nat.le_of_ble_eq_true rfl) (by omega) rfl rc_0 rfl (Nat.le_of_ble_eq_true rfl) dL_law_1104 (fun r52 s51 => ?_)
                                                              refine z_aload_n K 2 rfl dL_law_1107 ?_
                                                              refine z_saload_n K 0 rfl dL_law_1108 ?_
                                                              refine z_iload_n K 3 rfl dL_law_1109 ?_
                                                              refine z_iconst K ci_1 dL_law_1110 ?_
                                                              refine z_iadd K dL_law_1111 ?_
                                                              refine z_sld K hX hbl hbA dL_law_1112 ?_
                                                              refine z_saload_n K 0 rfl dL_law_1113 ?_
                                                              refine z_iload_n K 3 rfl dL_law_1114 ?_
                                                              refine z_iconst K ci_2 dL_law_1115 ?_
                                                              refine z_iadd K dL_law_1116 ?_
                                                              refine z_sld K hX hbl hbA dL_law_1117 ?_
                                                              refine z_saload_n K 0 rfl dL_law_1118 ?_
                                                              refine z_iload_n K 3 rfl dL_law_1119 ?_
                                                              refine z_iconst K ci_3 dL_law_1120 ?_
                                                              refine z_iadd K dL_law_1121 ?_
                                                              refine z_sld K hX hbl hbA dL_law_1122 ?_
                                                              refine z_lVi (As := [.int (xs ((v3 + (1 : Int32))).toNatClampNeg), .int (xs ((v3 + (2 : Int32))).toNatClampNeg), .int (xs ((v3 + (3 : Int32))).toNatClampNeg)]) (rest := [.int r52]) K hR (t_X12_passes a.1 F (d - 1) (by omega) (xs ((v3 + (1 : Int32))).toNatClampNeg) (xs ((v3 + (2 : Int32))).toNatClampNeg) (xs ((v3 + (3 : Int32))).toNatClampNeg) s51) mf_X12_passes ml_L_133 (Nat.le_of_ble_eq_true rfl) (by omega) rfl rc_69 rfl (Nat.le_of_ble_eq_true rfl) dL_law_1123 (fun r54 s53 => ?_)
                                                              refine z_icmp_eq K (tgt := 1358) dL_law_1126 (by decide) ?_ ?_
                                                              · refine z_iincN K (j := 3) (lv' := [(0, .ref bs), (1, .ref (a.1.2.2.2 + 0)), (2, .ref (a.1.2.2.2 + 69))]) ci_6 rfl dL_law_1358 (Nat.le_of_ble_eq_true rfl) rfl (fun y55 => ?_)
                                                                refine z_goto K (tgt := 18) dL_law_1361 (by decide) ?_
                                                                refine z_sub [1, 2, 3, 0] rfl ?_
                                                                exact ih y55 s53
                                                              · refine z_iconst K ci_0 dL_law_1129 ?_
                                                                exact hr0 _ _ _ _
                                                            · refine z_ite (fun hs28 => ?_) (fun hs28 => ?_)
                                                              · refine z_tswIn K (tgt := 1131) (off := 1098) dL_law_33 (by rw [hs28]; decide) (by rw [hs28]; decide) (by rw [hs28]; rfl) (by decide) ?_
                                                                refine z_aload_n K 1 rfl dL_law_1131 ?_
                                                                refine z_saload_n K 0 rfl dL_law_1132 ?_
                                                                refine z_iload_n K 3 rfl dL_law_1133 ?_
                                                                refine z_iconst K ci_1 dL_law_1134 ?_
                                                                refine z_iadd K dL_law_1135 ?_
                                                                refine z_sld K hX hbl hbA dL_law_1136 ?_
                                                                refine z_saload_n K 0 rfl dL_law_1137 ?_
                                                                refine z_iload_n K 3 rfl dL_law_1138 ?_
                                                                refine z_iconst K ci_2 dL_law_1139 ?_
                                                                refine z_iadd K dL_law_1140 ?_
                                                                refine z_sld K hX hbl hbA dL_law_1141 ?_
                                                                refine z_lVi (As := [.int (xs ((v3 + (1 : Int32))).toNatClampNeg), .int (xs ((v3 + (2 : Int32))).toNatClampNeg)]) (rest := []) K hR (t_X11_eats a.1 (d - 1) (by omega) (xs ((v3 + (1 : Int32))).toNatClampNeg) (xs ((v3 + (2 : Int32))).toNatClampNeg) s) mf_X11_eats ml_L_134 (Nat.le_of_ble_eq_true rfl) (by omega) rfl rc_0 rfl (Nat.le_of_ble_eq_true rfl) dL_law_1142 (fun r47 s46 => ?_)
                                                                refine z_aload_n K 2 rfl dL_law_1145 ?_
                                                                refine z_saload_n K 0 rfl dL_law_1146 ?_
                                                                refine z_iload_n K 3 rfl dL_law_1147 ?_
                                                                refine z_iconst K ci_1 dL_law_1148 ?_
                                                                refine z_iadd K dL_law_1149 ?_
                                                                refine z_sld K hX hbl hbA dL_law_1150 ?_
                                                                refine z_saload_n K 0 rfl dL_law_1151 ?_
                                                                refine z_iload_n K 3 rfl dL_law_1152 ?_
                                                                refine z_iconst K ci_2 dL_law_1153 ?_
                                                                refine z_iadd K dL_law_1154 ?_
                                                                refine z_sld K hX hbl hbA dL_law_1155 ?_
                                                                refine z_lVi (As := [.int (xs ((v3 + (1 : Int32))).toNatClampNeg), .int (xs ((v3 + (2 : Int32))).toNatClampNeg)]) (rest := [.int r47]) K hR (t_X12_eats a.1 (d - 1) (by omega) (xs ((v3 + (1 : Int32))).toNatClampNeg) (xs ((v3 + (2 : Int32))).toNatClampNeg) s46) mf_X12_eats ml_L_137 (Nat.le_of_ble_eq_true rfl) (by omega) rfl rc_69 rfl (Nat.le_of_ble_eq_true rfl) dL_law_1156 (fun r49 s48 => ?_)
                                                                refine z_icmp_eq K (tgt := 1358) dL_law_1159 (by decide) ?_ ?_
                                                                · refine z_iincN K (j := 3) (lv' := [(0, .ref bs), (1, .ref (a.1.2.2.2 + 0)), (2, .ref (a.1.2.2.2 + 69))]) ci_6 rfl dL_law_1358 (Nat.le_of_ble_eq_true rfl) rfl (fun y50 => ?_)
                                                                  refine z_goto K (tgt := 18) dL_law_1361 (by decide) ?_
                                                                  refine z_sub [1, 2, 3, 0] rfl ?_
                                                                  exact ih y50 s48
                                                                · refine z_iconst K ci_0 dL_law_1162 ?_
                                                                  exact hr0 _ _ _ _
                                                              · refine z_ite (fun hs29 => ?_) (fun hs29 => ?_)
                                                                · refine z_tswIn K (tgt := 1164) (off := 1131) dL_law_33 (by rw [hs29]; decide) (by rw [hs29]; decide) (by rw [hs29]; rfl) (by decide) ?_
                                                                  refine z_aload_n K 1 rfl dL_law_1164 ?_
                                                                  refine z_saload_n K 0 rfl dL_law_1165 ?_
                                                                  refine z_iload_n K 3 rfl dL_law_1166 ?_
                                                                  refine z_iconst K ci_1 dL_law_1167 ?_
                                                                  refine z_iadd K dL_law_1168 ?_
                                                                  refine z_sld K hX hbl hbA dL_law_1169 ?_
                                                                  refine z_saload_n K 0 rfl dL_law_1170 ?_
                                                                  refine z_iload_n K 3 rfl dL_law_1171 ?_
                                                                  refine z_iconst K ci_2 dL_law_1172 ?_
                                                                  refine z_iadd K dL_law_1173 ?_
                                                                  refine z_sld K hX hbl hbA dL_law_1174 ?_
                                                                  refine z_lVi (As := [.int (xs ((v3 + (1 : Int32))).toNatClampNeg), .int (xs ((v3 + (2 : Int32))).toNatClampNeg)]) (rest := []) K hR (t_X11_fed a.1 (d - 1) (by omega) (xs ((v3 + (1 : Int32))).toNatClampNeg) (xs ((v3 + (2 : Int32))).toNatClampNeg) s) mf_X11_fed ml_L_138 (Nat.le_of_ble_eq_true rfl) (by omega) rfl rc_0 rfl (Nat.le_of_ble_eq_true rfl) dL_law_1175 (fun r42 s41 => ?_)
                                                                  refine z_aload_n K 2 rfl dL_law_1178 ?_
                                                                  refine z_saload_n K 0 rfl dL_law_1179 ?_
                                                                  refine z_iload_n K 3 rfl dL_law_1180 ?_
                                                                  refine z_iconst K ci_1 dL_law_1181 ?_
                                                                  refine z_iadd K dL_law_1182 ?_
                                                                  refine z_sld K hX hbl hbA dL_law_1183 ?_
                                                                  refine z_saload_n K 0 rfl dL_law_1184 ?_
                                                                  refine z_iload_n K 3 rfl dL_law_1185 ?_
                                                                  refine z_iconst K ci_2 dL_law_1186 ?_
                                                                  refine z_iadd K dL_law_1187 ?_
                                                                  refine z_sld K hX hbl hbA dL_law_1188 ?_
                                                                  refine z_lVi (As := [.int (xs ((v3 + (1 : Int32))).toNatClampNeg), .int (xs ((v3 + (2 : Int32))).toNatClampNeg)]) (rest := [.int r42]) K hR (t_X12_fed a.1 (d - 1) (by omega) (xs ((v3 + (1 : Int32))).toNatClampNeg) (xs ((v3 + (2 : Int32))).toNatClampNeg) s41) mf_X12_fed ml_L_141 (Nat.le_of_ble_eq_true rfl) (by omega) rfl rc_69 rfl (Nat.le_of_ble_eq_true rfl) dL_law_1189 (fun r44 s43 => ?_)
                                                                  refine z_icmp_eq K (tgt := 1358) dL_law_1192 (by decide) ?_ ?_
                                                                  · refine z_iincN K (j := 3) (lv' := [(0, .ref bs), (1, .ref (a.1.2.2.2 + 0)), (2, .ref (a.1.2.2.2 + 69))]) ci_6 rfl dL_law_1358 (Nat.le_of_ble_eq_true rfl) rfl (fun y45 => ?_)
                                                                    refine z_goto K (tgt := 18) dL_law_1361 (by decide) ?_
                                                                    refine z_sub [1, 2, 3, 0] rfl ?_
                                                                    exact ih y45 s43
                                                                  · refine z_iconst K ci_0 dL_law_1195 ?_
                                                                    exact hr0 _ _ _ _
                                                                · refine z_ite (fun hs30 => ?_) (fun hs30 => ?_)
                                                                  · refine z_tswIn K (tgt := 1197) (off := 1164) dL_law_33 (by rw [hs30]; decide) (by rw [hs30]; decide) (by rw [hs30]; rfl) (by decide) ?_
                                                                    refine z_aload_n K 1 rfl dL_law_1197 ?_
                                                                    refine z_saload_n K 0 rfl dL_law_1198 ?_
                                                                    refine z_iload_n K 3 rfl dL_law_1199 ?_
                                                                    refine z_iconst K ci_1 dL_law_1200 ?_
                                                                    refine z_iadd K dL_law_1201 ?_
                                                                    refine z_sld K hX hbl hbA dL_law_1202 ?_
                                                                    refine z_saload_n K 0 rfl dL_law_1203 ?_
                                                                    refine z_iload_n K 3 rfl dL_law_1204 ?_
                                                                    refine z_iconst K ci_2 dL_law_1205 ?_
                                                                    refine z_iadd K dL_law_1206 ?_
                                                                    refine z_sld K hX hbl hbA dL_law_1207 ?_
                                                                    refine z_lVi (As := [.int (xs ((v3 + (1 : Int32))).toNatClampNeg), .int (xs ((v3 + (2 : Int32))).toNatClampNeg)]) (rest := []) K hR (t_X11_led a.1 F (d - 1) (by omega) (xs ((v3 + (1 : Int32))).toNatClampNeg) (xs ((v3 + (2 : Int32))).toNatClampNeg) s) mf_X11_led ml_L_142 (Nat.le_of_ble_eq_true rfl) (by omega) rfl rc_0 rfl (Nat.le_of_ble_eq_true rfl) dL_law_1208 (fun r37 s36 => ?_)
                                                                    refine z_aload_n K 2 rfl dL_law_1211 ?_
                                                                    refine z_saload_n K 0 rfl dL_law_1212 ?_
                                                                    refine z_iload_n K 3 rfl dL_law_1213 ?_
                                                                    refine z_iconst K ci_1 dL_law_1214 ?_
                                                                    refine z_iadd K dL_law_1215 ?_
                                                                    refine z_sld K hX hbl hbA dL_law_1216 ?_
                                                                    refine z_saload_n K 0 rfl dL_law_1217 ?_
                                                                    refine z_iload_n K 3 rfl dL_law_1218 ?_
                                                                    refine z_iconst K ci_2 dL_law_1219 ?_
                                                                    refine z_iadd K dL_law_1220 ?_
                                                                    refine z_sld K hX hbl hbA dL_law_1221 ?_
                                                                    refine z_lVi (As := [.int (xs ((v3 + (1 : Int32))).toNatClampNeg), .int (xs ((v3 + (2 : Int32))).toNatClampNeg)]) (rest := [.int r37]) K hR (t_X12_led a.1 (d - 1) (by omega) (xs ((v3 + (1 : Int32))).toNatClampNeg) (xs ((v3 + (2 : Int32))).toNatClampNeg) s36) mf_X12_led ml_L_145 (Nat.le_of_ble_eq_true rfl) (by omega) rfl rc_69 rfl (Nat.le_of_ble_eq_true rfl) dL_law_1222 (fun r39 s38 => ?_)
                                                                    refine z_icmp_eq K (tgt := 1358) dL_law_1225 (by decide) ?_ ?_
                                                                    · refine z_iincN K (j := 3) (lv' := [(0, .ref bs), (1, .ref (a.1.2.2.2 + 0)), (2, .ref (a.1.2.2.2 + 69))]) ci_6 rfl dL_law_1358 (Nat.le_of_ble_eq_true rfl) rfl (fun y40 => ?_)
                                                                      refine z_goto K (tgt := 18) dL_law_1361 (by decide) ?_
                                                                      refine z_sub [1, 2, 3, 0] rfl ?_
                                                                      exact ih y40 s38
                                                                    · refine z_iconst K ci_0 dL_law_1228 ?_
                                                                      exact hr0 _ _ _ _
                                                                  · refine z_ite (fun hs31 => ?_) (fun hs31 => ?_)
                                                                    · refine z_tswIn K (tgt := 1230) (off := 1197) dL_law_33 (by rw [hs31]; decide) (by rw [hs31]; decide) (by rw [hs31]; rfl) (by decide) ?_
                                                                      refine z_aload_n K 1 rfl dL_law_1230 ?_
                                                                      refine z_saload_n K 0 rfl dL_law_1231 ?_
                                                                      refine z_iload_n K 3 rfl dL_law_1232 ?_
                                                                      refine z_iconst K ci_1 dL_law_1233 ?_
                                                                      refine z_iadd K dL_law_1234 ?_
                                                                      refine z_sld K hX hbl hbA dL_law_1235 ?_
                                                                      refine z_lVi (As := [.int (xs ((v3 + (1 : Int32))).toNatClampNeg)]) (rest := []) K hR (t_X11_seed a.1 (d - 1) (by omega) (xs ((v3 + (1 : Int32))).toNatClampNeg) s) mf_X11_seed ml_L_146 (Nat.le_of_ble_eq_true rfl) (by omega) rfl rc_0 rfl (Nat.le_of_ble_eq_true rfl) dL_law_1236 (fun r32 s31 => ?_)
                                                                      refine z_aload_n K 2 rfl dL_law_1239 ?_
                                                                      refine z_saload_n K 0 rfl dL_law_1240 ?_
                                                                      refine z_iload_n K 3 rfl dL_law_1241 ?_
                                                                      refine z_iconst K ci_1 dL_law_1242 ?_
                                                                      refine z_iadd K dL_law_1243 ?_
                                                                      refine z_sld K hX hbl hbA dL_law_1244 ?_
                                                                      refine z_lVi (As := [.int (xs ((v3 + (1 : Int32))).toNatClampNeg)]) (rest := [.int r32]) K hR (t_X12_seed a.1 (d - 1) (by omega) (xs ((v3 + (1 : Int32))).toNatClampNeg) s31) mf_X12_seed ml_L_150 (Nat.le_of_ble_eq_true rfl) (by omega) rfl rc_69 rfl (Nat.le_of_ble_eq_true rfl) dL_law_1245 (fun r34 s33 => ?_)
                                                                      refine z_icmp_eq K (tgt := 1358) dL_law_1248 (by decide) ?_ ?_
                                                                      · refine z_iincN K (j := 3) (lv' := [(0, .ref bs), (1, .ref (a.1.2.2.2 + 0)), (2, .ref (a.1.2.2.2 + 69))]) ci_6 rfl dL_law_1358 (Nat.le_of_ble_eq_true rfl) rfl (fun y35 => ?_)
                                                                        refine z_goto K (tgt := 18) dL_law_1361 (by decide) ?_
                                                                        refine z_sub [1, 2, 3, 0] rfl ?_
                                                                        exact ih y35 s33
                                                                      · refine z_iconst K ci_0 dL_law_1251 ?_
                                                                        exact hr0 _ _ _ _
                                                                    · refine z_ite (fun hs32 => ?_) (fun hs32 => ?_)
                                                                      · refine z_tswIn K (tgt := 1253) (off := 1220) dL_law_33 (by rw [hs32]; decide) (by rw [hs32]; decide) (by rw [hs32]; rfl) (by decide) ?_
                                                                        refine z_aload_n K 1 rfl dL_law_1253 ?_
                                                                        refine z_saload_n K 0 rfl dL_law_1254 ?_
                                                                        refine z_iload_n K 3 rfl dL_law_1255 ?_
                                                                        refine z_iconst K ci_1 dL_law_1256 ?_
                                                                        refine z_iadd K dL_law_1257 ?_
                                                                        refine z_sld K hX hbl hbA dL_law_1258 ?_
                                                                        refine z_lVi (As := [.int (xs ((v3 + (1 : Int32))).toNatClampNeg)]) (rest := []) K hR (t_X11_draw a.1 F (d - 1) (by omega) (xs ((v3 + (1 : Int32))).toNatClampNeg) s) mf_X11_draw ml_L_151 (Nat.le_of_ble_eq_true rfl) (by omega) rfl rc_0 rfl (Nat.le_of_ble_eq_true rfl) dL_law_1259 (fun r27 s26 => ?_)
                                                                        refine z_aload_n K 2 rfl dL_law_1262 ?_
                                                                        refine z_saload_n K 0 rfl dL_law_1263 ?_
                                                                        refine z_iload_n K 3 rfl dL_law_1264 ?_
                                                                        refine z_iconst K ci_1 dL_law_1265 ?_
                                                                        refine z_iadd K dL_law_1266 ?_
                                                                        refine z_sld K hX hbl hbA dL_law_1267 ?_
                                                                        refine z_lVi (As := [.int (xs ((v3 + (1 : Int32))).toNatClampNeg)]) (rest := [.int r27]) K hR (t_X12_draw a.1 F (d - 1) (by omega) (xs ((v3 + (1 : Int32))).toNatClampNeg) s26) mf_X12_draw ml_L_154 (Nat.le_of_ble_eq_true rfl) (by omega) rfl rc_69 rfl (Nat.le_of_ble_eq_true rfl) dL_law_1268 (fun r29 s28 => ?_)
                                                                        refine z_icmp_eq K (tgt := 1358) dL_law_1271 (by decide) ?_ ?_
                                                                        · refine z_iincN K (j := 3) (lv' := [(0, .ref bs), (1, .ref (a.1.2.2.2 + 0)), (2, .ref (a.1.2.2.2 + 69))]) ci_6 rfl dL_law_1358 (Nat.le_of_ble_eq_true rfl) rfl (fun y30 => ?_)
                                                                          refine z_goto K (tgt := 18) dL_law_1361 (by decide) ?_
                                                                          refine z_sub [1, 2, 3, 0] rfl ?_
                                                                          exact ih y30 s28
                                                                        · refine z_iconst K ci_0 dL_law_1274 ?_
                                                                          exact hr0 _ _ _ _
                                                                      · refine z_ite (fun hs33 => ?_) (fun hs33 => ?_)
                                                                        · refine z_tswIn K (tgt := 1276) (off := 1243) dL_law_33 (by rw [hs33]; decide) (by rw [hs33]; decide) (by rw [hs33]; rfl) (by decide) ?_
                                                                          refine z_aload_n K 1 rfl dL_law_1276 ?_
                                                                          refine z_lVi (As := []) (rest := []) K hR (t_X11_keep a.1 F (d - 1) (by omega) s) mf_X11_keep ml_L_155 (Nat.le_of_ble_eq_true rfl) (by omega) rfl rc_0 rfl (Nat.le_of_ble_eq_true rfl) dL_law_1277 (fun r22 s21 => ?_)
                                                                          refine z_aload_n K 2 rfl dL_law_1280 ?_
                                                                          refine z_lVi (As := []) (rest := [.int r22]) K hR (t_X12_keep a.1 F (d - 1) (by omega) s21) mf_X12_keep ml_L_158 (Nat.le_of_ble_eq_true rfl) (by omega) rfl rc_69 rfl (Nat.le_of_ble_eq_true rfl) dL_law_1281 (fun r24 s23 => ?_)
                                                                          refine z_icmp_eq K (tgt := 1358) dL_law_1284 (by decide) ?_ ?_
                                                                          · refine z_iincN K (j := 3) (lv' := [(0, .ref bs), (1, .ref (a.1.2.2.2 + 0)), (2, .ref (a.1.2.2.2 + 69))]) ci_6 rfl dL_law_1358 (Nat.le_of_ble_eq_true rfl) rfl (fun y25 => ?_)
                                                                            refine z_goto K (tgt := 18) dL_law_1361 (by decide) ?_
                                                                            refine z_sub [1, 2, 3, 0] rfl ?_
                                                                            exact ih y25 s23
                                                                          · refine z_iconst K ci_0 dL_law_1287 ?_
                                                                            exact hr0 _ _ _ _
                                                                        · refine z_ite (fun hs34 => ?_) (fun hs34 => ?_)
                                                                          · refine z_tswIn K (tgt := 1289) (off := 1256) dL_law_33 (by rw [hs34]; decide) (by rw [hs34]; decide) (by rw [hs34]; rfl) (by decide) ?_
                                                                            refine z_aload_n K 1 rfl dL_law_1289 ?_
                                                                            refine z_lVi (As := []) (rest := []) K hR (t_X11_undo a.1 F (d - 1) (by omega) s) mf_X11_undo ml_L_159 (Nat.le_of_ble_eq_true rfl) (by omega) rfl rc_0 rfl (Nat.le_of_ble_eq_true rfl) dL_law_1290 (fun r17 s16 => ?_)
                                                                            refine z_aload_n K 2 rfl dL_law_1293 ?_
                                                                            refine z_lVi (As := []) (rest := [.int r17]) K hR (t_X12_undo a.1 F (d - 1) (by omega) s16) mf_X12_undo ml_L_163 (Nat.le_of_ble_eq_true rfl) (by omega) rfl rc_69 rfl (Nat.le_of_ble_eq_true rfl) dL_law_1294 (fun r19 s18 => ?_)
                                                                            refine z_icmp_eq K (tgt := 1358) dL_law_1297 (by decide) ?_ ?_
                                                                            · refine z_iincN K (j := 3) (lv' := [(0, .ref bs), (1, .ref (a.1.2.2.2 + 0)), (2, .ref (a.1.2.2.2 + 69))]) ci_6 rfl dL_law_1358 (Nat.le_of_ble_eq_true rfl) rfl (fun y20 => ?_)
                                                                              refine z_goto K (tgt := 18) dL_law_1361 (by decide) ?_
                                                                              refine z_sub [1, 2, 3, 0] rfl ?_
                                                                              exact ih y20 s18
                                                                            · refine z_iconst K ci_0 dL_law_1300 ?_
                                                                              exact hr0 _ _ _ _
                                                                          · refine z_ite (fun hs35 => ?_) (fun hs35 => ?_)
                                                                            · refine z_tswIn K (tgt := 1302) (off := 1269) dL_law_33 (by rw [hs35]; decide) (by rw [hs35]; decide) (by rw [hs35]; rfl) (by decide) ?_
                                                                              refine z_aload_n K 1 rfl dL_law_1302 ?_
                                                                              refine z_saload_n K 0 rfl dL_law_1303 ?_
                                                                              refine z_iload_n K 3 rfl dL_law_1304 ?_
                                                                              refine z_iconst K ci_1 dL_law_1305 ?_
                                                                              refine z_iadd K dL_law_1306 ?_
                                                                              refine z_sld K hX hbl hbA dL_law_1307 ?_
                                                                              refine z_saload_n K 0 rfl dL_law_1308 ?_
                                                                              refine z_iload_n K 3 rfl dL_law_1309 ?_
                                                                              refine z_iconst K ci_2 dL_law_1310 ?_
                                                                              refine z_iadd K dL_law_1311 ?_
                                                                              refine z_sld K hX hbl hbA dL_law_1312 ?_
                                                                              refine z_lVi (As := [.int (xs ((v3 + (1 : Int32))).toNatClampNeg), .int (xs ((v3 + (2 : Int32))).toNatClampNeg)]) (rest := []) K hR (t_X11_check a.1 F (d - 1) (by omega) (xs ((v3 + (1 : Int32))).toNatClampNeg) (xs ((v3 + (2 : Int32))).toNatClampNeg) s) mf_X11_check ml_L_164 (Nat.le_of_ble_eq_true rfl) (by omega) rfl rc_0 rfl (Nat.le_of_ble_eq_true rfl) dL_law_1313 (fun r12 s11 => ?_)
                                                                              refine z_aload_n K 2 rfl dL_law_1316 ?_
                                                                              refine z_saload_n K 0 rfl dL_law_1317 ?_
                                                                              refine z_iload_n K 3 rfl dL_law_1318 ?_
                                                                              refine z_iconst K ci_1 dL_law_1319 ?_
                                                                              refine z_iadd K dL_law_1320 ?_
                                                                              refine z_sld K hX hbl hbA dL_law_1321 ?_
                                                                              refine z_saload_n K 0 rfl dL_law_1322 ?_
                                                                              refine z_iload_n K 3 rfl dL_law_1323 ?_
                                                                              refine z_iconst K ci_2 dL_law_1324 ?_
                                                                              refine z_iadd K dL_law_1325 ?_
                                                                              refine z_sld K hX hbl hbA dL_law_1326 ?_
                                                                              refine z_lVi (As := [.int (xs ((v3 + (1 : Int32))).toNatClampNeg), .int (xs ((v3 + (2 : Int32))).toNatClampNeg)]) (rest := [.int r12]) K hR (t_X12_check a.1 F (d - 1) (by omega) (xs ((v3 + (1 : Int32))).toNatClampNeg) (xs ((v3 + (2 : Int32))).toNatClampNeg) s11) mf_X12_check ml_L_167 (Nat.le_of_ble_eq_true rfl) (by omega) rfl rc_69 rfl (Nat.le_of_ble_eq_true rfl) dL_law_1327 (fun r14 s13 => ?_)
                                                                              refine z_icmp_eq K (tgt := 1358) dL_law_1330 (by decide) ?_ ?_
                                                                              · refine z_iincN K (j := 3) (lv' := [(0, .ref bs), (1, .ref (a.1.2.2.2 + 0)), (2, .ref (a.1.2.2.2 + 69))]) ci_6 rfl dL_law_1358 (Nat.le_of_ble_eq_true rfl) rfl (fun y15 => ?_)
                                                                                refine z_goto K (tgt := 18) dL_law_1361 (by decide) ?_
                                                                                refine z_sub [1, 2, 3, 0] rfl ?_
                                                                                exact ih y15 s13
                                                                              · refine z_iconst K ci_0 dL_law_1333 ?_
                                                                                exact hr0 _ _ _ _
                                                                            · refine z_ite (fun hs36 => ?_) (fun hs36 => ?_)
                                                                              · refine z_tswIn K (tgt := 1335) (off := 1302) dL_law_33 (by rw [hs36]; decide) (by rw [hs36]; decide) (by rw [hs36]; rfl) (by decide) ?_
                                                                                refine z_aload_n K 1 rfl dL_law_1335 ?_
                                                                                refine z_saload_n K 0 rfl dL_law_1336 ?_
                                                                                refine z_iload_n K 3 rfl dL_law_1337 ?_
                                                                                refine z_iconst K ci_1 dL_law_1338 ?_
                                                                                refine z_iadd K dL_law_1339 ?_
                                                                                refine z_sld K hX hbl hbA dL_law_1340 ?_
                                                                                refine z_lVi (As := [.int (xs ((v3 + (1 : Int32))).toNatClampNeg)]) (rest := []) K hR (t_X11_count a.1 (d - 1) (by omega) (xs ((v3 + (1 : Int32))).toNatClampNeg) s) mf_X11_count ml_L_168 (Nat.le_of_ble_eq_true rfl) (by omega) rfl rc_0 rfl (Nat.le_of_ble_eq_true rfl) dL_law_1341 (fun r7 s6 => ?_)
                                                                                refine z_aload_n K 2 rfl dL_law_1344 ?_
                                                                                refine z_saload_n K 0 rfl dL_law_1345 ?_
                                                                                refine z_iload_n K 3 rfl dL_law_1346 ?_
                                                                                refine z_iconst K ci_1 dL_law_1347 ?_
                                                                                refine z_iadd K dL_law_1348 ?_
                                                                                refine z_sld K hX hbl hbA dL_law_1349 ?_
                                                                                refine z_lVi (As := [.int (xs ((v3 + (1 : Int32))).toNatClampNeg)]) (rest := [.int r7]) K hR (t_X12_count a.1 (d - 1) (by omega) (xs ((v3 + (1 : Int32))).toNatClampNeg) s6) mf_X12_count ml_L_171 (Nat.le_of_ble_eq_true rfl) (by omega) rfl rc_69 rfl (Nat.le_of_ble_eq_true rfl) dL_law_1350 (fun r9 s8 => ?_)
                                                                                refine z_icmp_eq K (tgt := 1358) dL_law_1353 (by decide) ?_ ?_
                                                                                · refine z_iincN K (j := 3) (lv' := [(0, .ref bs), (1, .ref (a.1.2.2.2 + 0)), (2, .ref (a.1.2.2.2 + 69))]) ci_6 rfl dL_law_1358 (Nat.le_of_ble_eq_true rfl) rfl (fun y10 => ?_)
                                                                                  refine z_goto K (tgt := 18) dL_law_1361 (by decide) ?_
                                                                                  refine z_sub [1, 2, 3, 0] rfl ?_
                                                                                  exact ih y10 s8
                                                                                · refine z_iconst K ci_0 dL_law_1356 ?_
                                                                                  exact hr0 _ _ _ _
                                                                              · have hsw : ((xs (v3).toNatClampNeg) &&& (63 : Int32)).toInt < 0 ∨ 36 < ((xs (v3).toNatClampNeg) &&& (63 : Int32)).toInt := by
                                                                                  have q0 := lv_neT hs0 (a := 0) rfl
                                                                                  have q1 := lv_neT hs1 (a := 1) rfl
                                                                                  have q2 := lv_neT hs2 (a := 2) rfl
                                                                                  have q3 := lv_neT hs3 (a := 3) rfl
                                                                                  have q4 := lv_neT hs4 (a := 4) rfl
                                                                                  have q5 := lv_neT hs5 (a := 5) rfl
                                                                                  have q6 := lv_neT hs6 (a := 6) rfl
                                                                                  have q7 := lv_neT hs7 (a := 7) rfl
                                                                                  have q8 := lv_neT hs8 (a := 8) rfl
                                                                                  have q9 := lv_neT hs9 (a := 9) rfl
                                                                                  have q10 := lv_neT hs10 (a := 10) rfl
                                                                                  have q11 := lv_neT hs11 (a := 11) rfl
                                                                                  have q12 := lv_neT hs12 (a := 12) rfl
                                                                                  have q13 := lv_neT hs13 (a := 13) rfl
                                                                                  have q14 := lv_neT hs14 (a := 14) rfl
                                                                                  have q15 := lv_neT hs15 (a := 15) rfl
                                                                                  have q16 := lv_neT hs16 (a := 16) rfl
                                                                                  have q17 := lv_neT hs17 (a := 17) rfl
                                                                                  have q18 := lv_neT hs18 (a := 18) rfl
                                                                                  have q19 := lv_neT hs19 (a := 19) rfl
                                                                                  have q20 := lv_neT hs20 (a := 20) rfl
                                                                                  have q21 := lv_neT hs21 (a := 21) rfl
                                                                                  have q22 := lv_neT hs22 (a := 22) rfl
                                                                                  have q23 := lv_neT hs23 (a := 23) rfl
                                                                                  have q24 := lv_neT hs24 (a := 24) rfl
                                                                                  have q25 := lv_neT hs25 (a := 25) rfl
                                                                                  have q26 := lv_neT hs26 (a := 26) rfl
                                                                                  have q27 := lv_neT hs27 (a := 27) rfl
                                                                                  have q28 := lv_neT hs28 (a := 28) rfl
                                                                                  have q29 := lv_neT hs29 (a := 29) rfl
                                                                                  have q30 := lv_neT hs30 (a := 30) rfl
                                                                                  have q31 := lv_neT hs31 (a := 31) rfl
                                                                                  have q32 := lv_neT hs32 (a := 32) rfl
                                                                                  have q33 := lv_neT hs33 (a := 33) rfl
                                                                                  have q34 := lv_neT hs34 (a := 34) rfl
                                                                                  have q35 := lv_neT hs35 (a := 35) rfl
                                                                                  have q36 := lv_neT hs36 (a := 36) rfl
                                                                                  omega
                                                                                refine z_tswOut K (tgt := 1358) dL_law_33 hsw (by decide) ?_
                                                                                refine z_iincN K (j := 3) (lv' := [(0, .ref bs), (1, .ref (a.1.2.2.2 + 0)), (2, .ref (a.1.2.2.2 + 69))]) ci_6 rfl dL_law_1358 (Nat.le_of_ble_eq_true rfl) rfl (fun y5 => ?_)
                                                                                refine z_goto K (tgt := 18) dL_law_1361 (by decide) ?_
                                                                                refine z_sub [1, 2, 3, 0] rfl ?_
                                                                                exact ih y5 s
def f_L_law (F : Nat) (D : Nat) (xs : Nat → Int32) (L : Nat) (s : zM) : Option (Int32 × zM) :=
  lt (zclr s 0 []) (fun s1 =>
  bnd (f_X11_init F s1) (fun _ s2 =>
  lt (zclr s2 69 [1, 2]) (fun s3 =>
  bnd (f_X12_init F s3) (fun _ s4 =>
  f_L_law_L18 F D xs L (fun s191 =>
    some (1, s191)) F (0 : Int32) s4))))
set_option maxRecDepth 100000 in
set_option maxHeartbeats 4000000 in
theorem t_L_law {a : zA} {d : Nat} (F : Nat) (D : Nat) (K : zOK a code 4 RL (some .boolean) d) (hd : 2 * D + 9 ≤ d) (xs : Nat → Int32) (L : Nat) (hR : 121 ≤ a.2.2.2.1.cells ∧ 54011 ≤ a.2.2.2.1.slots) {bs : Nat} (hX : va_X bs L xs a.2.2.2.2.1 a.2.2.2.2.1.heap) (hbl : bs < a.2.2.2.2.1.heap.size) (hbA : bs < a.1.2.2.2) {G : Int32 → zM → State → Prop} (hr0 : ∀ (pc : Nat) (lv : List (Nat × Value)) (st : List Value) (s : zM), zJ a 4 G (zKD, false, 121, 54011) pc lv st s (some (0, s))) (hr1 : ∀ (pc : Nat) (lv : List (Nat × Value)) (s : zM), decode code pc = .ok (.ireturn, 1) → zJ a 4 G (zKD, false, 121, 54011) pc lv [.int 1] s (some (1, s))) {P : List zK} (hP : P.length = 0) (s : zM) : zJ a 4 G (P ++ [], true, 0, 0) 0 [(0, .ref bs)] [] s (f_L_law F D xs L s) := by
  have hP0 : P = [] := List.length_eq_zero_iff.mp hP
  unfold f_L_law
  refine z_newQ (Q' := [.inr (10, [(4, 0), (4, 0), (4, 0), (4, 0), (4, 0), (4, 0), (4, 0), (4, 0), (4, 0), (0, 0), (0, 0), (0, 0)])]) (c' := 1) (sl' := 12) K hR hP (q := 0) rfl [] (ci := 10) rfl in_X11 tyX11_ok cl_L_7 is_X11 it_X11 (zNoL_nil _) rfl (by decide +kernel) rfl rfl rfl (Nat.le_of_ble_eq_true rfl) (Nat.le_of_ble_eq_true rfl) dL_law_0 ?_
  refine z_ltm (fun s1 => ?_)
  refine z_dup K rfl dL_law_3 ?_
  refine z_cIQ (As := []) (Q' := [.inr (10, [(1, 1), (1, 3), (1, 24), (1, 12), (1, 33), (1, 42), (1, 45), (1, 51), (1, 60), (0, 0), (0, 0), (0, 0)]), .inr (9, [(1, 2), (0, 0)]), .inl (0, 220), .inr (0, [(1, 4), (1, 5), (1, 6), (1, 7), (1, 8), (1, 9), (1, 10), (1, 11), (0, 0)]), .inl (0, 16), .inl (1, 16), .inl (0, 16), .inl (0, 16), .inl (0, 256), .inl (0, 40), .inl (1, 16), .inl (0, 16), .inr (1, [(1, 3), (1, 13), (1, 14), (1, 15), (2, 0), (0, 0)]), .inl (0, 10), .inl (0, 48000), .inl (0, 640), .inr (3, [(1, 17), (1, 18), (1, 19), (1, 20), (1, 21), (1, 22), (1, 23), (0, 0), (0, 0)]), .inl (0, 14), .inl (0, 14), .inl (0, 14), .inl (0, 14), .inl (0, 200), .inl (0, 200), .inl (0, 40), .inr (4, [(1, 1), (2, 0), (0, 0), (0, 0), (0, 0)]), .inr (3, [(1, 26), (1, 27), (1, 28), (1, 29), (1, 30), (1, 31), (1, 32), (0, 0), (0, 0)]), .inl (0, 14), .inl (0, 14), .inl (0, 14), .inl (0, 14), .inl (0, 200), .inl (0, 200), .inl (0, 40), .inr (5, [(1, 3), (1, 12), (1, 34), (1, 35), (1, 36), (1, 37), (1, 38), (1, 39), (1, 40), (1, 41), (0, 0), (0, 0)]), .inl (0, 10), .inl (0, 10), .inl (0, 10), .inl (0, 10), .inl (0, 10), .inl (0, 10), .inl (0, 16), .inl (0, 16), .inr (8, [(1, 3), (1, 12), (1, 43), (1, 44), (0, 0), (3, 0), (0, 0)]), .inl (0, 7), .inl (0, 7), .inr (6, [(1, 3), (1, 12), (0, 0), (0, 0), (0, 0), (1, 46), (1, 47), (1, 48), (1, 49), (1, 50), (0, 0), (0, 0), (0, 0), (0, 0)]), .inl (0, 7), .inl (0, 7), .inl (0, 49), .inl (0, 7), .inl (0, 7), .inr (2, [(1, 52), (1, 53), (1, 54), (1, 55), (1, 56), (1, 57), (1, 58), (1, 59), (0, 0)]), .inl (0, 40), .inl (0, 40), .inl (0, 20), .inl (0, 20), .inl (0, 20), .inl (0, 20), .inl (0, 42), .inl (0, 42), .inr (7, [(1, 61), (1, 62), (1, 63), (1, 64), (1, 65), (1, 66), (1, 67), (1, 68)]), .inl (0, 16), .inl (0, 16), .inl (0, 16), .inl (0, 256), .inl (0, 16), .inl (0, 16), .inl (0, 16), .inl (0, 256)]) (c' := 69) (sl' := 51391) (av := []) (rst := [.ref (a.1.2.2.2 + 0)]) K hR (t_X11_init a.1 F (d - 1) (by omega) (P := P ++ []) (by rw [List.length_append, hP]; rfl) s1) rfl mf_X11_init ml_L_9 (Nat.le_of_ble_eq_true rfl) (by omega) rfl rfl (Nat.le_of_ble_eq_true rfl) rfl rfl rfl (Nat.le_of_ble_eq_true rfl) (Nat.le_of_ble_eq_true rfl) dL_law_4 (fun s2 => ?_)
  refine z_astore_n K (lv' := [(1, .ref (a.1.2.2.2 + 0)), (0, .ref bs)]) dL_law_7 rfl (Nat.le_of_ble_eq_true rfl) rfl ?_
  refine z_newQ (Q' := [.inr (10, [(1, 1), (1, 3), (1, 24), (1, 12), (1, 33), (1, 42), (1, 45), (1, 51), (1, 60), (0, 0), (0, 0), (0, 0)]), .inr (9, [(1, 2), (0, 0)]), .inl (0, 220), .inr (0, [(1, 4), (1, 5), (1, 6), (1, 7), (1, 8), (1, 9), (1, 10), (1, 11), (0, 0)]), .inl (0, 16), .inl (1, 16), .inl (0, 16), .inl (0, 16), .inl (0, 256), .inl (0, 40), .inl (1, 16), .inl (0, 16), .inr (1, [(1, 3), (1, 13), (1, 14), (1, 15), (2, 0), (0, 0)]), .inl (0, 10), .inl (0, 48000), .inl (0, 640), .inr (3, [(1, 17), (1, 18), (1, 19), (1, 20), (1, 21), (1, 22), (1, 23), (0, 0), (0, 0)]), .inl (0, 14), .inl (0, 14), .inl (0, 14), .inl (0, 14), .inl (0, 200), .inl (0, 200), .inl (0, 40), .inr (4, [(1, 1), (2, 0), (0, 0), (0, 0), (0, 0)]), .inr (3, [(1, 26), (1, 27), (1, 28), (1, 29), (1, 30), (1, 31), (1, 32), (0, 0), (0, 0)]), .inl (0, 14), .inl (0, 14), .inl (0, 14), .inl (0, 14), .inl (0, 200), .inl (0, 200), .inl (0, 40), .inr (5, [(1, 3), (1, 12), (1, 34), (1, 35), (1, 36), (1, 37), (1, 38), (1, 39), (1, 40), (1, 41), (0, 0), (0, 0)]), .inl (0, 10), .inl (0, 10), .inl (0, 10), .inl (0, 10), .inl (0, 10), .inl (0, 10), .inl (0, 16), .inl (0, 16), .inr (8, [(1, 3), (1, 12), (1, 43), (1, 44), (0, 0), (3, 0), (0, 0)]), .inl (0, 7), .inl (0, 7), .inr (6, [(1, 3), (1, 12), (0, 0), (0, 0), (0, 0), (1, 46), (1, 47), (1, 48), (1, 49), (1, 50), (0, 0), (0, 0), (0, 0), (0, 0)]), .inl (0, 7), .inl (0, 7), .inl (0, 49), .inl (0, 7), .inl (0, 7), .inr (2, [(1, 52), (1, 53), (1, 54), (1, 55), (1, 56), (1, 57), (1, 58), (1, 59), (0, 0)]), .inl (0, 40), .inl (0, 40), .inl (0, 20), .inl (0, 20), .inl (0, 20), .inl (0, 20), .inl (0, 42), .inl (0, 42), .inr (7, [(1, 61), (1, 62), (1, 63), (1, 64), (1, 65), (1, 66), (1, 67), (1, 68)]), .inl (0, 16), .inl (0, 16), .inl (0, 16), .inl (0, 256), .inl (0, 16), .inl (0, 16), .inl (0, 16), .inl (0, 256), .inr (11, [(0, 0), (0, 0), (4, 0), (4, 0), (4, 0), (4, 0), (4, 0), (0, 0), (0, 0), (0, 0), (0, 0), (0, 0), (0, 0), (0, 0), (0, 0), (0, 0), (0, 0), (4, 0), (4, 0), (4, 0), (4, 0), (4, 0), (4, 0), (4, 0), (4, 0), (4, 0), (4, 0), (4, 0), (4, 0), (4, 0), (0, 0), (0, 0), (4, 0), (4, 0), (4, 0), (4, 0), (4, 0), (4, 0), (4, 0), (4, 0), (4, 0), (4, 0), (0, 0), (0, 0), (3, 1), (3, 2), (4, 0), (4, 0), (0, 0), (0, 0), (0, 0), (4, 0), (4, 0), (4, 0), (4, 0), (4, 0), (4, 0), (4, 0), (4, 0), (4, 0), (4, 0), (4, 0), (4, 0), (4, 0), (0, 0), (0, 0), (0, 0), (4, 0), (4, 0), (4, 0), (4, 0), (4, 0), (4, 0), (4, 0), (4, 0)])]) (c' := 70) (sl' := 51466) K hR hP (q := 69) rfl [1, 2] (ci := 11) rfl in_X12 tyX12_ok cl_L_10 is_X12 it_X12 (by subst hP0; decide +kernel) rfl (by decide +kernel) rfl rfl rfl (Nat.le_of_ble_eq_true rfl) (Nat.le_of_ble_eq_true rfl) dL_law_8 ?_
  refine z_ltm (fun s3 => ?_)
  refine z_dup K rfl dL_law_11 ?_
  refine z_cIQ (As := [.inr (10, [(1, 1), (1, 3), (1, 24), (1, 12), (1, 33), (1, 42), (1, 45), (1, 51), (1, 60), (0, 0), (0, 0), (0, 0)]), .inr (9, [(1, 2), (0, 0)]), .inl (0, 220), .inr (0, [(1, 4), (1, 5), (1, 6), (1, 7), (1, 8), (1, 9), (1, 10), (1, 11), (0, 0)]), .inl (0, 16), .inl (1, 16), .inl (0, 16), .inl (0, 16), .inl (0, 256), .inl (0, 40), .inl (1, 16), .inl (0, 16), .inr (1, [(1, 3), (1, 13), (1, 14), (1, 15), (2, 0), (0, 0)]), .inl (0, 10), .inl (0, 48000), .inl (0, 640), .inr (3, [(1, 17), (1, 18), (1, 19), (1, 20), (1, 21), (1, 22), (1, 23), (0, 0), (0, 0)]), .inl (0, 14), .inl (0, 14), .inl (0, 14), .inl (0, 14), .inl (0, 200), .inl (0, 200), .inl (0, 40), .inr (4, [(1, 1), (2, 0), (0, 0), (0, 0), (0, 0)]), .inr (3, [(1, 26), (1, 27), (1, 28), (1, 29), (1, 30), (1, 31), (1, 32), (0, 0), (0, 0)]), .inl (0, 14), .inl (0, 14), .inl (0, 14), .inl (0, 14), .inl (0, 200), .inl (0, 200), .inl (0, 40), .inr (5, [(1, 3), (1, 12), (1, 34), (1, 35), (1, 36), (1, 37), (1, 38), (1, 39), (1, 40), (1, 41), (0, 0), (0, 0)]), .inl (0, 10), .inl (0, 10), .inl (0, 10), .inl (0, 10), .inl (0, 10), .inl (0, 10), .inl (0, 16), .inl (0, 16), .inr (8, [(1, 3), (1, 12), (1, 43), (1, 44), (0, 0), (3, 0), (0, 0)]), .inl (0, 7), .inl (0, 7), .inr (6, [(1, 3), (1, 12), (0, 0), (0, 0), (0, 0), (1, 46), (1, 47), (1, 48), (1, 49), (1, 50), (0, 0), (0, 0), (0, 0), (0, 0)]), .inl (0, 7), .inl (0, 7), .inl (0, 49), .inl (0, 7), .inl (0, 7), .inr (2, [(1, 52), (1, 53), (1, 54), (1, 55), (1, 56), (1, 57), (1, 58), (1, 59), (0, 0)]), .inl (0, 40), .inl (0, 40), .inl (0, 20), .inl (0, 20), .inl (0, 20), .inl (0, 20), .inl (0, 42), .inl (0, 42), .inr (7, [(1, 61), (1, 62), (1, 63), (1, 64), (1, 65), (1, 66), (1, 67), (1, 68)]), .inl (0, 16), .inl (0, 16), .inl (0, 16), .inl (0, 256), .inl (0, 16), .inl (0, 16), .inl (0, 16), .inl (0, 256)]) (Q' := [.inr (10, [(1, 1), (1, 3), (1, 24), (1, 12), (1, 33), (1, 42), (1, 45), (1, 51), (1, 60), (0, 0), (0, 0), (0, 0)]), .inr (9, [(1, 2), (0, 0)]), .inl (0, 220), .inr (0, [(1, 4), (1, 5), (1, 6), (1, 7), (1, 8), (1, 9), (1, 10), (1, 11), (0, 0)]), .inl (0, 16), .inl (1, 16), .inl (0, 16), .inl (0, 16), .inl (0, 256), .inl (0, 40), .inl (1, 16), .inl (0, 16), .inr (1, [(1, 3), (1, 13), (1, 14), (1, 15), (2, 0), (0, 0)]), .inl (0, 10), .inl (0, 48000), .inl (0, 640), .inr (3, [(1, 17), (1, 18), (1, 19), (1, 20), (1, 21), (1, 22), (1, 23), (0, 0), (0, 0)]), .inl (0, 14), .inl (0, 14), .inl (0, 14), .inl (0, 14), .inl (0, 200), .inl (0, 200), .inl (0, 40), .inr (4, [(1, 1), (2, 0), (0, 0), (0, 0), (0, 0)]), .inr (3, [(1, 26), (1, 27), (1, 28), (1, 29), (1, 30), (1, 31), (1, 32), (0, 0), (0, 0)]), .inl (0, 14), .inl (0, 14), .inl (0, 14), .inl (0, 14), .inl (0, 200), .inl (0, 200), .inl (0, 40), .inr (5, [(1, 3), (1, 12), (1, 34), (1, 35), (1, 36), (1, 37), (1, 38), (1, 39), (1, 40), (1, 41), (0, 0), (0, 0)]), .inl (0, 10), .inl (0, 10), .inl (0, 10), .inl (0, 10), .inl (0, 10), .inl (0, 10), .inl (0, 16), .inl (0, 16), .inr (8, [(1, 3), (1, 12), (1, 43), (1, 44), (0, 0), (3, 0), (0, 0)]), .inl (0, 7), .inl (0, 7), .inr (6, [(1, 3), (1, 12), (0, 0), (0, 0), (0, 0), (1, 46), (1, 47), (1, 48), (1, 49), (1, 50), (0, 0), (0, 0), (0, 0), (0, 0)]), .inl (0, 7), .inl (0, 7), .inl (0, 49), .inl (0, 7), .inl (0, 7), .inr (2, [(1, 52), (1, 53), (1, 54), (1, 55), (1, 56), (1, 57), (1, 58), (1, 59), (0, 0)]), .inl (0, 40), .inl (0, 40), .inl (0, 20), .inl (0, 20), .inl (0, 20), .inl (0, 20), .inl (0, 42), .inl (0, 42), .inr (7, [(1, 61), (1, 62), (1, 63), (1, 64), (1, 65), (1, 66), (1, 67), (1, 68)]), .inl (0, 16), .inl (0, 16), .inl (0, 16), .inl (0, 256), .inl (0, 16), .inl (0, 16), .inl (0, 16), .inl (0, 256), .inr (11, [(0, 0), (0, 0), (1, 70), (1, 71), (1, 72), (1, 73), (1, 74), (0, 0), (0, 0), (0, 0), (0, 0), (0, 0), (0, 0), (0, 0), (0, 0), (0, 0), (0, 0), (1, 75), (1, 76), (1, 77), (1, 78), (1, 79), (1, 80), (1, 81), (1, 82), (1, 83), (1, 84), (1, 85), (1, 86), (1, 87), (0, 0), (0, 0), (1, 88), (1, 89), (1, 90), (1, 91), (1, 92), (1, 93), (1, 94), (1, 95), (1, 96), (1, 97), (0, 0), (0, 0), (3, 1), (3, 2), (1, 98), (1, 99), (0, 0), (0, 0), (0, 0), (1, 100), (1, 101), (1, 102), (1, 103), (1, 104), (1, 105), (1, 106), (1, 107), (1, 108), (1, 109), (1, 110), (1, 111), (1, 112), (0, 0), (0, 0), (0, 0), (1, 113), (1, 114), (1, 115), (1, 116), (1, 117), (1, 118), (1, 119), (1, 120)]), .inl (0, 16), .inl (0, 16), .inl (0, 256), .inl (0, 16), .inl (2, 220), .inl (0, 220), .inl (0, 220), .inl (0, 14), .inl (0, 14), .inl (0, 14), .inl (0, 14), .inl (0, 220), .inl (0, 14), .inl (0, 14), .inl (0, 14), .inl (0, 14), .inl (0, 220), .inl (0, 10), .inl (0, 10), .inl (0, 10), .inl (0, 10), .inl (0, 10), .inl (0, 10), .inl (0, 10), .inl (0, 16), .inl (0, 16), .inl (0, 7), .inl (0, 7), .inl (0, 7), .inl (0, 16), .inl (0, 40), .inl (0, 20), .inl (0, 20), .inl (0, 20), .inl (0, 20), .inl (0, 21), .inl (0, 21), .inl (0, 16), .inl (0, 16), .inl (0, 16), .inl (0, 16), .inl (0, 16), .inl (0, 256), .inl (0, 16), .inl (0, 40), .inl (0, 16), .inl (0, 16), .inl (0, 16), .inl (0, 16), .inl (0, 16), .inl (0, 256)]) (c' := 121) (sl' := 54011) (av := []) (rst := [.ref (a.1.2.2.2 + 69)]) K hR (t_X12_init a.1 F (d - 1) (by omega) (P := P ++ [.inr (10, [(1, 1), (1, 3), (1, 24), (1, 12), (1, 33), (1, 42), (1, 45), (1, 51), (1, 60), (0, 0), (0, 0), (0, 0)]), .inr (9, [(1, 2), (0, 0)]), .inl (0, 220), .inr (0, [(1, 4), (1, 5), (1, 6), (1, 7), (1, 8), (1, 9), (1, 10), (1, 11), (0, 0)]), .inl (0, 16), .inl (1, 16), .inl (0, 16), .inl (0, 16), .inl (0, 256), .inl (0, 40), .inl (1, 16), .inl (0, 16), .inr (1, [(1, 3), (1, 13), (1, 14), (1, 15), (2, 0), (0, 0)]), .inl (0, 10), .inl (0, 48000), .inl (0, 640), .inr (3, [(1, 17), (1, 18), (1, 19), (1, 20), (1, 21), (1, 22), (1, 23), (0, 0), (0, 0)]), .inl (0, 14), .inl (0, 14), .inl (0, 14), .inl (0, 14), .inl (0, 200), .inl (0, 200), .inl (0, 40), .inr (4, [(1, 1), (2, 0), (0, 0), (0, 0), (0, 0)]), .inr (3, [(1, 26), (1, 27), (1, 28), (1, 29), (1, 30), (1, 31), (1, 32), (0, 0), (0, 0)]), .inl (0, 14), .inl (0, 14), .inl (0, 14), .inl (0, 14), .inl (0, 200), .inl (0, 200), .inl (0, 40), .inr (5, [(1, 3), (1, 12), (1, 34), (1, 35), (1, 36), (1, 37), (1, 38), (1, 39), (1, 40), (1, 41), (0, 0), (0, 0)]), .inl (0, 10), .inl (0, 10), .inl (0, 10), .inl (0, 10), .inl (0, 10), .inl (0, 10), .inl (0, 16), .inl (0, 16), .inr (8, [(1, 3), (1, 12), (1, 43), (1, 44), (0, 0), (3, 0), (0, 0)]), .inl (0, 7), .inl (0, 7), .inr (6, [(1, 3), (1, 12), (0, 0), (0, 0), (0, 0), (1, 46), (1, 47), (1, 48), (1, 49), (1, 50), (0, 0), (0, 0), (0, 0), (0, 0)]), .inl (0, 7), .inl (0, 7), .inl (0, 49), .inl (0, 7), .inl (0, 7), .inr (2, [(1, 52), (1, 53), (1, 54), (1, 55), (1, 56), (1, 57), (1, 58), (1, 59), (0, 0)]), .inl (0, 40), .inl (0, 40), .inl (0, 20), .inl (0, 20), .inl (0, 20), .inl (0, 20), .inl (0, 42), .inl (0, 42), .inr (7, [(1, 61), (1, 62), (1, 63), (1, 64), (1, 65), (1, 66), (1, 67), (1, 68)]), .inl (0, 16), .inl (0, 16), .inl (0, 16), .inl (0, 256), .inl (0, 16), .inl (0, 16), .inl (0, 16), .inl (0, 256)]) (by rw [List.length_append, hP]; rfl) s3) rfl mf_X12_init ml_L_12 (Nat.le_of_ble_eq_true rfl) (by omega) rfl rfl (Nat.le_of_ble_eq_true rfl) rfl rfl rfl (Nat.le_of_ble_eq_true rfl) (Nat.le_of_ble_eq_true rfl) dL_law_12 (fun s4 => ?_)
  refine z_astore_n K (lv' := [(2, .ref (a.1.2.2.2 + 69)), (1, .ref (a.1.2.2.2 + 0)), (0, .ref bs)]) dL_law_15 rfl (Nat.le_of_ble_eq_true rfl) rfl ?_
  refine z_ph (KL' := zKD) (by subst hP0; rfl) ?_
  refine z_iconst K ci_0 dL_law_16 ?_
  refine z_istore_n K (lv' := [(3, .int (0 : Int32)), (2, .ref (a.1.2.2.2 + 69)), (1, .ref (a.1.2.2.2 + 0)), (0, .ref bs)]) dL_law_17 rfl (Nat.le_of_ble_eq_true rfl) rfl ?_
  refine z_sub [3, 2, 1, 0] rfl ?_
  refine t_L_law_L18 F D K hd xs L hR hX hbl hbA hr0 hr1 (fun s191 => ?_) F (0 : Int32) s4
  refine z_iconst K ci_1 dL_law_1364 ?_
  exact hr1 _ _ _ dL_law_1365
