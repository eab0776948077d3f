/-! ===== the shadow: the other reckoning's pure texts (no machine stands behind them) ===== -/
/-- how long a shadow row is -/
def zlenS (q : Nat) : Nat := [0, 16, 16, 256, 16, 220, 220, 220, 14, 14, 14, 14, 220, 14, 14, 14, 14, 220, 10, 10, 10, 10, 10, 10, 10, 16, 16, 7, 7, 7, 16, 40, 20, 20, 20, 20, 21, 21, 16, 16, 16, 16, 16, 256, 16, 40, 16, 16, 16, 16, 16, 256].getD (q - 69) 0
def f_X12_in (v0 : Int32) (v1 : Int32) (v2 : Int32) (s : zM) : Option (Int32 × zM) :=
  if v0 < v1 then
    some ((0 : Int32), s)
  else
    if v2 < v0 then
      some ((0 : Int32), s)
    else
      some ((1 : Int32), s)
def f_X12_size (v0 : Int32) (s : zM) : Option (Int32 × zM) :=
  if v0 < 0 then
    some ((-v0), s)
  else
    some (v0, s)
def f_X12_isSeat (v0 : Int32) (s : zM) : Option (Int32 × zM) :=
  if v0 < 0 then
    some ((0 : Int32), s)
  else
    if v0 < (40 : Int32) then
      some ((1 : Int32), s)
    else
      some ((0 : Int32), s)
def f_X12_isGuest (v1 : Int32) (s : zM) : Option (Int32 × zM) :=
  if v1 < 0 then
    some ((0 : Int32), s)
  else
    if v1 < (zg s 69 0) then
      some ((1 : Int32), s)
    else
      some ((0 : Int32), s)
def f_X12_sits (v1 : Int32) (s : zM) : Option (Int32 × zM) :=
  if zin v1 16 = true then
    if (zg s 71 (v1).toNatClampNeg) < 0 then
      some ((0 : Int32), s)
    else
      some ((1 : Int32), s)
  else none
def f_X12_guestAt_L2 (F : Nat) (k28 : zM → Option (Int32 × zM)) (v1 : Int32) : Nat → Int32 → zM → Option (Int32 × zM)
  | 0, _, _ => none
  | n + 1, v2, s =>
    if v2 < (zg s 69 0) then
      if zin v2 16 = true then
        if (zg s 71 (v2).toNatClampNeg) = v1 then
          some (v2, s)
        else
          lt (v2 + (1 : Int32)) (fun y1 =>
          f_X12_guestAt_L2 F k28 v1 n y1 s)
      else none
    else
      k28 s
def f_X12_guestAt (F : Nat) (v1 : Int32) (s : zM) : Option (Int32 × zM) :=
  f_X12_guestAt_L2 F (fun s2 =>
    some ((-1 : Int32), s2)) v1 F (0 : Int32) s
def f_X12_guest_j49 (F : Nat) (v1 : Int32) (v2 : Int32) (s : zM) : Option (Int32 × zM) :=
  if zin (zg s 69 0) 16 = true then
    lt (zs s 70 ((zg s 69 0)).toNatClampNeg v1) (fun s3 =>
    if zin (zg s3 69 0) 16 = true then
      lt (zs s3 71 ((zg s3 69 0)).toNatClampNeg v2) (fun s4 =>
      lt (zs s4 69 0 ((zg s4 69 0) + (1 : Int32))) (fun s5 =>
      some (((zg s5 69 0) - (1 : Int32)), s5)))
    else none)
  else none
def f_X12_guest_j21 (F : Nat) (v1 : Int32) (v2 : Int32) (s : zM) : Option (Int32 × zM) :=
  if (zg s 69 0) = (16 : Int32) then
    some ((-1 : Int32), s)
  else
    if v2 = (-1 : Int32) then
      f_X12_guest_j49 F v1 v2 s
    else
      bnd (f_X12_guestAt F v2 s) (fun r7 s6 =>
      if r7 = (-1 : Int32) then
        f_X12_guest_j49 F v1 v2 s6
      else
        some ((-2 : Int32), s6))
def f_X12_guest (F : Nat) (v1 : Int32) (v2 : Int32) (s : zM) : Option (Int32 × zM) :=
  bnd (f_X12_in v1 (0 : Int32) (1 : Int32) s) (fun r2 s1 =>
  if r2 = 0 then
    some ((-1 : Int32), s1)
  else
    if v2 = (-1 : Int32) then
      f_X12_guest_j21 F v1 v2 s1
    else
      bnd (f_X12_isSeat v2 s1) (fun r9 s8 =>
      if r9 = 0 then
        some ((-1 : Int32), s8)
      else
        f_X12_guest_j21 F v1 v2 s8))
def f_X12_liking (v1 : Int32) (v2 : Int32) (v3 : Int32) (s : zM) : Option (Int32 × zM) :=
  bnd (f_X12_isGuest v1 s) (fun r2 s1 =>
  if r2 = 0 then
    some ((0 : Int32), s1)
  else
    bnd (f_X12_isGuest v2 s1) (fun r4 s3 =>
    if r4 = 0 then
      some ((0 : Int32), s3)
    else
      if v1 = v2 then
        some ((0 : Int32), s3)
      else
        bnd (f_X12_in v3 (-9 : Int32) (9 : Int32) s3) (fun r6 s5 =>
        if r6 = 0 then
          some ((0 : Int32), s5)
        else
          if zin (((16 : Int32) * v1) + v2) 256 = true then
            lt (zs s5 72 ((((16 : Int32) * v1) + v2)).toNatClampNeg v3) (fun s7 =>
            some ((1 : Int32), s7))
          else none)))
def f_X12_sit (F : Nat) (v1 : Int32) (v2 : Int32) (s : zM) : Option (Int32 × zM) :=
  bnd (f_X12_isGuest v1 s) (fun r2 s1 =>
  if r2 = 0 then
    some ((0 : Int32), s1)
  else
    if zin v1 16 = true then
      if (zg s1 71 (v1).toNatClampNeg) = (-2 : Int32) then
        some ((0 : Int32), s1)
      else
        if v2 = (-1 : Int32) then
          if zin v1 16 = true then
            lt (zs s1 71 (v1).toNatClampNeg v2) (fun s3 =>
            some ((1 : Int32), s3))
          else none
        else
          bnd (f_X12_isSeat v2 s1) (fun r5 s4 =>
          if r5 = 0 then
            some ((0 : Int32), s4)
          else
            bnd (f_X12_guestAt F v2 s4) (fun r7 s6 =>
            if r7 = (-1 : Int32) then
              if zin v1 16 = true then
                lt (zs s6 71 (v1).toNatClampNeg v2) (fun s8 =>
                some ((1 : Int32), s8))
              else none
            else
              some ((0 : Int32), s6)))
    else none)
def f_X12_types_L2 (F : Nat) (k38 : zM → Option (Unit × zM)) (v1 : Int32) : Nat → Int32 → zM → Option (Unit × zM)
  | 0, _, _ => none
  | n + 1, v2, s =>
    if v2 < 0 then
      k38 s
    else
      if zin (zg s 69 7) 220 = true then
        lt (zs s 74 ((zg s 69 7)).toNatClampNeg (vp_nar .byte (((v1 >>> (((8 : Int32) * v2) &&& 31))).toInt8.toInt32))) (fun s1 =>
        lt (zs s1 69 7 ((zg s1 69 7) + (1 : Int32))) (fun s2 =>
        lt (v2 + (-1 : Int32)) (fun y3 =>
        f_X12_types_L2 F k38 v1 n y3 s2)))
      else none
def f_X12_types (F : Nat) (v1 : Int32) (s : zM) : Option (Unit × zM) :=
  f_X12_types_L2 F (fun s4 =>
    some ((), s4)) v1 F (3 : Int32) s
def f_X12_feed (F : Nat) (v1 : Int32) (v2 : Int32) (v3 : Int32) (v4 : Int32) (v5 : Int32) (s : zM) : Option (Int32 × zM) :=
  if (220 : Int32) < ((zg s 69 7) + (20 : Int32)) then
    some ((-1 : Int32), s)
  else
    bnd (f_X12_types F v1 s) (fun _ s1 =>
    bnd (f_X12_types F v2 s1) (fun _ s2 =>
    bnd (f_X12_types F v3 s2) (fun _ s3 =>
    bnd (f_X12_types F v4 s3) (fun _ s4 =>
    bnd (f_X12_types F v5 s4) (fun _ s5 =>
    some ((zg s5 69 7), s5))))))
def f_X12_here (s : zM) : Option (Int32 × zM) :=
  if (zg s 69 8) < (zg s 69 9) then
    if zin (zg s 69 8) 220 = true then
      some (((zg s 74 ((zg s 69 8)).toNatClampNeg) &&& (255 : Int32)), s)
    else none
  else
    some ((-1 : Int32), s)
def f_X12_isDigit (s : zM) : Option (Int32 × zM) :=
  bnd (f_X12_here s) (fun r2 s1 =>
  if r2 < (48 : Int32) then
    some ((0 : Int32), s1)
  else
    bnd (f_X12_here s1) (fun r4 s3 =>
    if (57 : Int32) < r4 then
      some ((0 : Int32), s3)
    else
      some ((1 : Int32), s3)))
def f_X12_wrongAt (v1 : Int32) (v2 : Int32) (s : zM) : Option (Int32 × zM) :=
  lt (zs s 69 10 (((-1000 : Int32) * v1) - v2)) (fun s1 =>
  some ((0 : Int32), s1))
def f_X12_takes (v1 : Int32) (s : zM) : Option (Int32 × zM) :=
  bnd (f_X12_here s) (fun r2 s1 =>
  if r2 = v1 then
    lt (zs s1 69 8 ((zg s1 69 8) + (1 : Int32))) (fun s3 =>
    some ((1 : Int32), s3))
  else
    bnd (f_X12_wrongAt (1 : Int32) (zg s1 69 8) s1) (fun r5 s4 =>
    if r5 = 0 then some (0, s4) else if r5 = 1 then some (1, s4) else none))
def f_X12_readsNumber_L10 (F : Nat) (k69 : zM → Option (Int32 × zM)) (v1 : Int32) : Nat → zM → Option (Int32 × zM)
  | 0, _ => none
  | n + 1, s =>
    bnd (f_X12_isDigit s) (fun r4 s3 =>
    if r4 = 0 then
      k69 s3
    else
      if (zg s3 69 8) = (v1 + (5 : Int32)) then
        bnd (f_X12_wrongAt (2 : Int32) (zg s3 69 8) s3) (fun r10 s9 =>
        if r10 = 0 then some (0, s9) else if r10 = 1 then some (1, s9) else none)
      else
        bnd (f_X12_here s3) (fun r6 s5 =>
        lt (zs s5 69 15 ((((10 : Int32) * (zg s3 69 15)) + r6) - (48 : Int32))) (fun s7 =>
        lt (zs s7 69 8 ((zg s7 69 8) + (1 : Int32))) (fun s8 =>
        f_X12_readsNumber_L10 F k69 v1 n s8))))
def f_X12_readsNumber (F : Nat) (s : zM) : Option (Int32 × zM) :=
  lt ((zg s 69 8)) (fun y1 =>
  lt (zs s 69 15 (0 : Int32)) (fun s2 =>
  f_X12_readsNumber_L10 F (fun s11 =>
    some ((1 : Int32), s11)) y1 F s2))
def f_X12_notes (v1 : Int32) (v2 : Int32) (s : zM) : Option (Unit × zM) :=
  if zin (zg s 69 12) 220 = true then
    lt (zs s 75 ((zg s 69 12)).toNatClampNeg (((1048576 : Int32) * v1) + v2)) (fun s1 =>
    lt (zs s1 69 12 ((zg s1 69 12) + (1 : Int32))) (fun s2 =>
    some ((), s2)))
  else none
def f_X12_opens (v1 : Int32) (s : zM) : Option (Int32 × zM) :=
  if (zg s 69 11) = (6 : Int32) then
    bnd (f_X12_wrongAt (5 : Int32) (zg s 69 8) s) (fun r6 s5 =>
    if r6 = 0 then some (0, s5) else if r6 = 1 then some (1, s5) else none)
  else
    lt (zs s 69 11 ((zg s 69 11) + (1 : Int32))) (fun s1 =>
    if zin (zg s1 69 13) 220 = true then
      lt (zs s1 76 ((zg s1 69 13)).toNatClampNeg ((1048576 : Int32) * v1)) (fun s2 =>
      lt (zs s2 69 13 ((zg s2 69 13) + (1 : Int32))) (fun s3 =>
      lt (zs s3 69 8 ((zg s3 69 8) + (1 : Int32))) (fun s4 =>
      some ((1 : Int32), s4))))
    else none)
def f_X12_top (s : zM) : Option (Int32 × zM) :=
  if (zg s 69 13) = 0 then
    some ((-1 : Int32), s)
  else
    if zin ((zg s 69 13) - (1 : Int32)) 220 = true then
      some (((zg s 76 (((zg s 69 13) - (1 : Int32))).toNatClampNeg) / (1048576 : Int32)), s)
    else none
def f_X12_factOf (v0 : Int32) (s : zM) : Option (Int32 × zM) :=
  if v0 = (97 : Int32) then
    some ((2 : Int32), s)
  else
    if v0 = (98 : Int32) then
      some ((3 : Int32), s)
    else
      if v0 = (99 : Int32) then
        some ((-1 : Int32), s)
      else
        if v0 = (100 : Int32) then
          some ((8 : Int32), s)
        else
          if v0 = (101 : Int32) then
            some ((-1 : Int32), s)
          else
            if v0 = (102 : Int32) then
              some ((0 : Int32), s)
            else
              if v0 = (103 : Int32) then
                some ((1 : Int32), s)
              else
                if v0 = (104 : Int32) then
                  some ((-1 : Int32), s)
                else
                  if v0 = (105 : Int32) then
                    some ((-1 : Int32), s)
                  else
                    if v0 = (106 : Int32) then
                      some ((-1 : Int32), s)
                    else
                      if v0 = (107 : Int32) then
                        some ((-1 : Int32), s)
                      else
                        if v0 = (108 : Int32) then
                          some ((6 : Int32), s)
                        else
                          if v0 = (109 : Int32) then
                            some ((7 : Int32), s)
                          else
                            if v0 = (110 : Int32) then
                              some ((-1 : Int32), s)
                            else
                              if v0 = (111 : Int32) then
                                some ((9 : Int32), s)
                              else
                                if v0 = (112 : Int32) then
                                  some ((-1 : Int32), s)
                                else
                                  if v0 = (113 : Int32) then
                                    some ((-1 : Int32), s)
                                  else
                                    if v0 = (114 : Int32) then
                                      some ((-1 : Int32), s)
                                    else
                                      if v0 = (115 : Int32) then
                                        some ((4 : Int32), s)
                                      else
                                        if v0 = (116 : Int32) then
                                          some ((5 : Int32), s)
                                        else
                                          some ((-1 : Int32), s)
def f_X12_sumSign (v0 : Int32) (s : zM) : Option (Int32 × zM) :=
  if v0 = (43 : Int32) then
    some ((2 : Int32), s)
  else
    if v0 = (45 : Int32) then
      some ((3 : Int32), s)
    else
      if v0 = (42 : Int32) then
        some ((4 : Int32), s)
      else
        if v0 = (47 : Int32) then
          some ((5 : Int32), s)
        else
          if v0 = (37 : Int32) then
            some ((6 : Int32), s)
          else
            some ((-1 : Int32), s)
def f_X12_closesSums_j37 (F : Nat) (k0 : zM → Option (Unit × zM)) (v1 : Int32) (s : zM) : Option (Unit × zM) :=
  bnd (f_X12_top s) (fun r6 s5 =>
  bnd (f_X12_notes r6 (0 : Int32) s5) (fun _ s7 =>
  lt (zs s7 69 13 ((zg s7 69 13) - (1 : Int32))) (fun s8 =>
  k0 s8)))
def f_X12_closesSums_j17 (F : Nat) (k59 : zM → Option (Unit × zM)) (k0 : zM → Option (Unit × zM)) (v1 : Int32) (s : zM) : Option (Unit × zM) :=
  if v1 = 0 then
    k59 s
  else
    bnd (f_X12_top s) (fun r4 s3 =>
    if r4 = (2 : Int32) then
      f_X12_closesSums_j37 F k0 v1 s3
    else
      bnd (f_X12_top s3) (fun r10 s9 =>
      if r10 = (3 : Int32) then
        f_X12_closesSums_j37 F k0 v1 s9
      else
        k59 s9))
def f_X12_closesSums_L0 (F : Nat) (k59 : zM → Option (Unit × zM)) (v1 : Int32) : Nat → zM → Option (Unit × zM)
  | 0, _ => none
  | n + 1, s =>
    bnd (f_X12_top s) (fun r2 s1 =>
    if r2 < (4 : Int32) then
      f_X12_closesSums_j17 F k59 (f_X12_closesSums_L0 F k59 v1 n) v1 s1
    else
      bnd (f_X12_top s1) (fun r12 s11 =>
      if (6 : Int32) < r12 then
        f_X12_closesSums_j17 F k59 (f_X12_closesSums_L0 F k59 v1 n) v1 s11
      else
        f_X12_closesSums_j37 F (f_X12_closesSums_L0 F k59 v1 n) v1 s11))
def f_X12_closesSums (F : Nat) (v1 : Int32) (s : zM) : Option (Unit × zM) :=
  f_X12_closesSums_L0 F (fun s13 =>
    some ((), s13)) v1 F s
def f_X12_readsFactor_L0 (F : Nat) (k18 : zM → Option (Int32 × zM)) : Nat → zM → Option (Int32 × zM)
  | 0, _ => none
  | n + 1, s =>
    bnd (f_X12_here s) (fun r2 s1 =>
    if r2 = (91 : Int32) then
      bnd (f_X12_opens (14 : Int32) s1) (fun r17 s16 =>
      if r17 = 0 then
        k18 s16
      else
        f_X12_readsFactor_L0 F k18 n s16)
    else
      bnd (f_X12_isDigit s1) (fun r4 s3 =>
      if r4 = 0 then
        bnd (f_X12_here s3) (fun r6 s5 =>
        bnd (f_X12_factOf r6 s5) (fun r8 s7 =>
        if r8 = (-1 : Int32) then
          bnd (f_X12_wrongAt (1 : Int32) (zg s7 69 8) s7) (fun r12 s11 =>
          if r12 = 0 then some (0, s11) else if r12 = 1 then some (1, s11) else none)
        else
          bnd (f_X12_notes (1 : Int32) r8 s7) (fun _ s9 =>
          lt (zs s9 69 8 ((zg s9 69 8) + (1 : Int32))) (fun s10 =>
          some ((1 : Int32), s10)))))
      else
        bnd (f_X12_readsNumber F s3) (fun r14 s13 =>
        if r14 = 0 then
          some ((0 : Int32), s13)
        else
          bnd (f_X12_notes (0 : Int32) (zg s13 69 15) s13) (fun _ s15 =>
          some ((1 : Int32), s15)))))
def f_X12_readsFactor (F : Nat) (s : zM) : Option (Int32 × zM) :=
  f_X12_readsFactor_L0 F (fun s18 =>
    some ((0 : Int32), s18)) F s
def f_X12_hasOpenSum_L2 (F : Nat) (k32 : zM → Option (Int32 × zM)) : Nat → Int32 → zM → Option (Int32 × zM)
  | 0, _, _ => none
  | n + 1, v2, s =>
    if v2 < (zg s 69 13) then
      if zin v2 220 = true then
        if ((zg s 76 (v2).toNatClampNeg) / (1048576 : Int32)) = (14 : Int32) then
          some ((1 : Int32), s)
        else
          lt (v2 + (1 : Int32)) (fun y1 =>
          f_X12_hasOpenSum_L2 F k32 n y1 s)
      else none
    else
      k32 s
def f_X12_hasOpenSum (F : Nat) (v1 : Int32) (s : zM) : Option (Int32 × zM) :=
  f_X12_hasOpenSum_L2 F (fun s2 =>
    some ((0 : Int32), s2)) F v1 s
def f_X12_readsSum_j138 (F : Nat) (v1 : Int32) (s : zM) : Option (Int32 × zM) :=
  bnd (f_X12_hasOpenSum F v1 s) (fun r11 s10 =>
  if r11 = 0 then
    bnd (f_X12_closesSums F (1 : Int32) s10) (fun _ s12 =>
    some ((1 : Int32), s12))
  else
    bnd (f_X12_wrongAt (1 : Int32) (zg s10 69 8) s10) (fun r14 s13 =>
    if r14 = 0 then some (0, s13) else if r14 = 1 then some (1, s13) else none))
def f_X12_readsSum_j38 (F : Nat) (k14 : zM → Option (Int32 × zM)) (v1 : Int32) (v2 : Int32) (w0 : Int32) (s : zM) : Option (Int32 × zM) :=
  bnd (f_X12_closesSums F w0 s) (fun _ s21 =>
  if zin (zg s21 69 13) 220 = true then
    lt (zs s21 76 ((zg s21 69 13)).toNatClampNeg ((1048576 : Int32) * v2)) (fun s22 =>
    lt (zs s22 69 13 ((zg s22 69 13) + (1 : Int32))) (fun s23 =>
    lt (zs s23 69 8 ((zg s23 69 8) + (1 : Int32))) (fun s24 =>
    bnd (f_X12_readsFactor F s24) (fun r26 s25 =>
    if r26 = 0 then
      some ((0 : Int32), s25)
    else
      k14 s25))))
  else none)
def f_X12_readsSum_L14 (F : Nat) (v1 : Int32) : Nat → zM → Option (Int32 × zM)
  | 0, _ => none
  | n + 1, s =>
    bnd (f_X12_here s) (fun r5 s4 =>
    bnd (f_X12_sumSign r5 s4) (fun r7 s6 =>
    if r7 = (-1 : Int32) then
      bnd (f_X12_here s6) (fun r9 s8 =>
      if r9 = (93 : Int32) then
        bnd (f_X12_hasOpenSum F v1 s8) (fun r16 s15 =>
        if r16 = 0 then
          f_X12_readsSum_j138 F v1 s15
        else
          bnd (f_X12_closesSums F (1 : Int32) s15) (fun _ s17 =>
          lt (zs s17 69 13 ((zg s17 69 13) - (1 : Int32))) (fun s18 =>
          lt (zs s18 69 11 ((zg s18 69 11) - (1 : Int32))) (fun s19 =>
          lt (zs s19 69 8 ((zg s19 69 8) + (1 : Int32))) (fun s20 =>
          f_X12_readsSum_L14 F v1 n s20)))))
      else
        f_X12_readsSum_j138 F v1 s8)
    else
      if r7 < (4 : Int32) then
        f_X12_readsSum_j38 F (f_X12_readsSum_L14 F v1 n) v1 r7 (1 : Int32) s6
      else
        f_X12_readsSum_j38 F (f_X12_readsSum_L14 F v1 n) v1 r7 (0 : Int32) s6))
def f_X12_readsSum (F : Nat) (s : zM) : Option (Int32 × zM) :=
  lt ((zg s 69 13)) (fun y1 =>
  bnd (f_X12_readsFactor F s) (fun r3 s2 =>
  if r3 = 0 then
    some ((0 : Int32), s2)
  else
    f_X12_readsSum_L14 F y1 F s2))
def f_X12_endsPiece_L0 (F : Nat) (k39 : zM → Option (Unit × zM)) : Nat → zM → Option (Unit × zM)
  | 0, _ => none
  | n + 1, s =>
    bnd (f_X12_top s) (fun r2 s1 =>
    if r2 = (10 : Int32) then
      bnd (f_X12_notes (10 : Int32) (0 : Int32) s1) (fun _ s3 =>
      lt (zs s3 69 13 ((zg s3 69 13) - (1 : Int32))) (fun s4 =>
      lt (zs s4 69 11 ((zg s4 69 11) - (1 : Int32))) (fun s5 =>
      f_X12_endsPiece_L0 F k39 n s5)))
    else
      k39 s1)
def f_X12_endsPiece (F : Nat) (s : zM) : Option (Unit × zM) :=
  f_X12_endsPiece_L0 F (fun s6 =>
    some ((), s6)) F s
def f_X12_lands_j22 (F : Nat) (k0 : zM → Option (Unit × zM)) (v1 : Int32) (s : zM) : Option (Unit × zM) :=
  if zin ((zg s 69 13) - (1 : Int32)) 220 = true then
    lt (((zg s 76 (((zg s 69 13) - (1 : Int32))).toNatClampNeg) - (zg s 76 (((zg s 69 13) - (1 : Int32))).toNatClampNeg) / (1048576 : Int32) * (1048576 : Int32))) (fun y3 =>
    if zin y3 220 = true then
      if zin y3 220 = true then
        lt (zs s 75 (y3).toNatClampNeg (((1048576 : Int32) * ((zg s 75 (y3).toNatClampNeg) / (1048576 : Int32))) + (zg s 69 12))) (fun s4 =>
        lt (zs s4 69 13 ((zg s4 69 13) - (1 : Int32))) (fun s5 =>
        k0 s5))
      else none
    else none)
  else none
def f_X12_lands_L0 (F : Nat) (k73 : zM → Option (Unit × zM)) (v1 : Int32) : Nat → zM → Option (Unit × zM)
  | 0, _ => none
  | n + 1, s =>
    bnd (f_X12_top s) (fun r2 s1 =>
    if r2 = (11 : Int32) then
      f_X12_lands_j22 F (f_X12_lands_L0 F k73 v1 n) v1 s1
    else
      if v1 = 0 then
        k73 s1
      else
        bnd (f_X12_top s1) (fun r7 s6 =>
        if r7 = (12 : Int32) then
          f_X12_lands_j22 F (f_X12_lands_L0 F k73 v1 n) v1 s6
        else
          k73 s6))
def f_X12_lands (F : Nat) (v1 : Int32) (s : zM) : Option (Unit × zM) :=
  f_X12_lands_L0 F (fun s8 =>
    some ((), s8)) v1 F s
def f_X12_jumps (v1 : Int32) (s : zM) : Option (Unit × zM) :=
  if zin (zg s 69 13) 220 = true then
    lt (zs s 76 ((zg s 69 13)).toNatClampNeg (((1048576 : Int32) * v1) + (zg s 69 12))) (fun s1 =>
    lt (zs s1 69 13 ((zg s1 69 13) + (1 : Int32))) (fun s2 =>
    bnd (f_X12_notes v1 (0 : Int32) s2) (fun _ s3 =>
    lt (zs s3 69 8 ((zg s3 69 8) + (1 : Int32))) (fun s4 =>
    some ((), s4)))))
  else none
def f_X12_readsCompared_j52 (F : Nat) (w0 : Int32) (s : zM) : Option (Int32 × zM) :=
  if w0 = (-1 : Int32) then
    bnd (f_X12_wrongAt (1 : Int32) (zg s 69 8) s) (fun r15 s14 =>
    if r15 = 0 then some (0, s14) else if r15 = 1 then some (1, s14) else none)
  else
    lt (zs s 69 8 ((zg s 69 8) + (1 : Int32))) (fun s9 =>
    bnd (f_X12_readsSum F s9) (fun r11 s10 =>
    if r11 = 0 then
      some ((0 : Int32), s10)
    else
      bnd (f_X12_notes w0 (0 : Int32) s10) (fun _ s12 =>
      bnd (f_X12_endsPiece F s12) (fun _ s13 =>
      some ((1 : Int32), s13)))))
def f_X12_readsCompared (F : Nat) (s : zM) : Option (Int32 × zM) :=
  bnd (f_X12_readsSum F s) (fun r2 s1 =>
  if r2 = 0 then
    some ((0 : Int32), s1)
  else
    bnd (f_X12_here s1) (fun r4 s3 =>
    if r4 = (60 : Int32) then
      f_X12_readsCompared_j52 F (7 : Int32) s3
    else
      bnd (f_X12_here s3) (fun r6 s5 =>
      if r6 = (62 : Int32) then
        f_X12_readsCompared_j52 F (8 : Int32) s5
      else
        bnd (f_X12_here s5) (fun r8 s7 =>
        if r8 = (61 : Int32) then
          f_X12_readsCompared_j52 F (9 : Int32) s7
        else
          f_X12_readsCompared_j52 F (-1 : Int32) s7))))
def f_X12_readsCondition_j58 (F : Nat) (k40 : zM → Option (Int32 × zM)) (s : zM) : Option (Int32 × zM) :=
  bnd (f_X12_here s) (fun r10 s9 =>
  if r10 = (33 : Int32) then
    bnd (f_X12_opens (10 : Int32) s9) (fun r14 s13 =>
    if r14 = 0 then
      some ((0 : Int32), s13)
    else
      k40 s13)
  else
    bnd (f_X12_opens (13 : Int32) s9) (fun r12 s11 =>
    if r12 = 0 then
      some ((0 : Int32), s11)
    else
      k40 s11))
def f_X12_readsCondition_L92 (F : Nat) (k152 : zM → Option (Int32 × zM)) : Nat → zM → Option (Int32 × zM)
  | 0, _ => none
  | n + 1, s =>
    bnd (f_X12_here s) (fun r20 s19 =>
    if r20 = (41 : Int32) then
      bnd (f_X12_lands F (1 : Int32) s19) (fun _ s21 =>
      lt (zs s21 69 13 ((zg s21 69 13) - (1 : Int32))) (fun s22 =>
      lt (zs s22 69 11 ((zg s22 69 11) - (1 : Int32))) (fun s23 =>
      lt (zs s23 69 8 ((zg s23 69 8) + (1 : Int32))) (fun s24 =>
      if (zg s24 69 13) = 0 then
        some ((1 : Int32), s24)
      else
        bnd (f_X12_endsPiece F s24) (fun _ s25 =>
        f_X12_readsCondition_L92 F k152 n s25)))))
    else
      k152 s19)
def f_X12_readsCondition_j195 (F : Nat) (k40 : zM → Option (Int32 × zM)) (w0 : Int32) (s : zM) : Option (Int32 × zM) :=
  bnd (f_X12_lands F w0 s) (fun _ s31 =>
  bnd (f_X12_here s31) (fun r33 s32 =>
  if r33 = (38 : Int32) then
    bnd (f_X12_jumps (11 : Int32) s32) (fun _ s35 =>
    k40 s35)
  else
    bnd (f_X12_jumps (12 : Int32) s32) (fun _ s34 =>
    k40 s34)))
def f_X12_readsCondition_j180 (F : Nat) (k40 : zM → Option (Int32 × zM)) (s : zM) : Option (Int32 × zM) :=
  bnd (f_X12_here s) (fun r30 s29 =>
  if r30 = (124 : Int32) then
    f_X12_readsCondition_j195 F k40 (1 : Int32) s29
  else
    f_X12_readsCondition_j195 F k40 (0 : Int32) s29)
def f_X12_readsCondition_L40 (F : Nat) : Nat → zM → Option (Int32 × zM)
  | 0, _ => none
  | n + 1, s =>
    bnd (f_X12_here s) (fun r8 s7 =>
    if r8 = (33 : Int32) then
      f_X12_readsCondition_j58 F (f_X12_readsCondition_L40 F n) s7
    else
      bnd (f_X12_here s7) (fun r16 s15 =>
      if r16 = (40 : Int32) then
        f_X12_readsCondition_j58 F (f_X12_readsCondition_L40 F n) s15
      else
        bnd (f_X12_readsCompared F s15) (fun r18 s17 =>
        if r18 = 0 then
          some ((0 : Int32), s17)
        else
          f_X12_readsCondition_L92 F (fun s26 =>
            bnd (f_X12_here s26) (fun r28 s27 =>
            if r28 = (38 : Int32) then
              f_X12_readsCondition_j180 F (f_X12_readsCondition_L40 F n) s27
            else
              bnd (f_X12_here s27) (fun r37 s36 =>
              if r37 = (124 : Int32) then
                f_X12_readsCondition_j180 F (f_X12_readsCondition_L40 F n) s36
              else
                bnd (f_X12_wrongAt (1 : Int32) (zg s36 69 8) s36) (fun r39 s38 =>
                if r39 = 0 then some (0, s38) else if r39 = 1 then some (1, s38) else none)))) F s17)))
def f_X12_readsCondition (F : Nat) (s : zM) : Option (Int32 × zM) :=
  bnd (f_X12_here s) (fun r2 s1 =>
  if r2 = (40 : Int32) then
    lt (zs s1 69 11 (0 : Int32)) (fun s3 =>
    lt (zs s3 69 13 (0 : Int32)) (fun s4 =>
    bnd (f_X12_opens (13 : Int32) s4) (fun r6 s5 =>
    if r6 = 0 then
      some ((0 : Int32), s5)
    else
      f_X12_readsCondition_L40 F F s5)))
  else
    bnd (f_X12_wrongAt (1 : Int32) (zg s1 69 8) s1) (fun r41 s40 =>
    if r41 = 0 then some (0, s40) else if r41 = 1 then some (1, s40) else none))
def f_X12_readsClause_j116 (F : Nat) (s : zM) : Option (Int32 × zM) :=
  if zin (zg s 69 14) 14 = true then
    lt (zs s 79 ((zg s 69 14)).toNatClampNeg (zg s 69 12)) (fun s8 =>
    bnd (f_X12_readsCondition F s8) (fun r10 s9 =>
    if r10 = 0 then
      some ((0 : Int32), s9)
    else
      if zin (zg s9 69 14) 14 = true then
        lt (zs s9 80 ((zg s9 69 14)).toNatClampNeg (zg s9 69 12)) (fun s11 =>
        lt (zs s11 69 14 ((zg s11 69 14) + (1 : Int32))) (fun s12 =>
        some ((1 : Int32), s12)))
      else none))
  else none
def f_X12_readsClause_j39 (F : Nat) (v1 : Int32) (s : zM) : Option (Int32 × zM) :=
  if (zg s 69 14) = (14 : Int32) then
    bnd (f_X12_wrongAt (4 : Int32) (zg s 69 8) s) (fun r16 s15 =>
    if r16 = 0 then some (0, s15) else if r16 = 1 then some (1, s15) else none)
  else
    if zin (zg s 69 14) 14 = true then
      lt (zs s 77 ((zg s 69 14)).toNatClampNeg v1) (fun s3 =>
      lt (zs s3 69 8 ((zg s3 69 8) + (1 : Int32))) (fun s4 =>
      if zin (zg s4 69 14) 14 = true then
        lt (zs s4 78 ((zg s4 69 14)).toNatClampNeg (zg s4 69 12)) (fun s5 =>
        lt (zs s5 69 11 (0 : Int32)) (fun s6 =>
        lt (zs s6 69 13 (0 : Int32)) (fun s7 =>
        if v1 = (112 : Int32) then
          f_X12_readsClause_j116 F s7
        else
          bnd (f_X12_readsSum F s7) (fun r14 s13 =>
          if r14 = 0 then
            some ((0 : Int32), s13)
          else
            f_X12_readsClause_j116 F s13))))
      else none))
    else none
def f_X12_readsClause (F : Nat) (s : zM) : Option (Int32 × zM) :=
  bnd (f_X12_here s) (fun r2 s1 =>
  if r2 = (112 : Int32) then
    f_X12_readsClause_j39 F r2 s1
  else
    if r2 = (119 : Int32) then
      f_X12_readsClause_j39 F r2 s1
    else
      if r2 = (104 : Int32) then
        f_X12_readsClause_j39 F r2 s1
      else
        if r2 = (118 : Int32) then
          f_X12_readsClause_j39 F r2 s1
        else
          bnd (f_X12_wrongAt (1 : Int32) (zg s1 69 8) s1) (fun r18 s17 =>
          if r18 = 0 then some (0, s17) else if r18 = 1 then some (1, s17) else none))
def f_X12_law_L46 (F : Nat) (k86 : Int32 → zM → Option (Int32 × zM)) : Nat → Int32 → zM → Option (Int32 × zM)
  | 0, _, _ => none
  | n + 1, v2, s =>
    if v2 = 0 then
      k86 v2 s
    else
      if (zg s 69 8) < (zg s 69 9) then
        bnd (f_X12_takes (59 : Int32) s) (fun r10 s9 =>
        if r10 = 0 then
          f_X12_law_L46 F k86 n (0 : Int32) s9
        else
          bnd (f_X12_readsClause F s9) (fun r12 s11 =>
          if r12 = 0 then
            f_X12_law_L46 F k86 n (0 : Int32) s11
          else
            f_X12_law_L46 F k86 n (1 : Int32) s11))
      else
        k86 v2 s
def f_X12_law_L110 (F : Nat) (k136 : zM → Option (Int32 × zM)) : Nat → Int32 → zM → Option (Int32 × zM)
  | 0, _, _ => none
  | n + 1, v3, s =>
    if v3 < (zg s 69 12) then
      if zin v3 220 = true then
        if zin v3 220 = true then
          lt (zs s 81 (v3).toNatClampNeg (zg s 75 (v3).toNatClampNeg)) (fun s17 =>
          lt (v3 + (1 : Int32)) (fun y18 =>
          f_X12_law_L110 F k136 n y18 s17))
        else none
      else none
    else
      k136 s
def f_X12_law_L138 (F : Nat) (k200 : zM → Option (Int32 × zM)) : Nat → Int32 → zM → Option (Int32 × zM)
  | 0, _, _ => none
  | n + 1, v3, s =>
    if v3 < (zg s 69 14) then
      if zin v3 14 = true then
        if zin v3 14 = true then
          lt (zs s 82 (v3).toNatClampNeg (zg s 77 (v3).toNatClampNeg)) (fun s20 =>
          if zin v3 14 = true then
            if zin v3 14 = true then
              lt (zs s20 83 (v3).toNatClampNeg (zg s20 78 (v3).toNatClampNeg)) (fun s21 =>
              if zin v3 14 = true then
                if zin v3 14 = true then
                  lt (zs s21 84 (v3).toNatClampNeg (zg s21 79 (v3).toNatClampNeg)) (fun s22 =>
                  if zin v3 14 = true then
                    if zin v3 14 = true then
                      lt (zs s22 85 (v3).toNatClampNeg (zg s22 80 (v3).toNatClampNeg)) (fun s23 =>
                      lt (v3 + (1 : Int32)) (fun y24 =>
                      f_X12_law_L138 F k200 n y24 s23))
                    else none
                  else none)
                else none
              else none)
            else none
          else none)
        else none
      else none
    else
      k200 s
def f_X12_law_j86 (F : Nat) (v2 : Int32) (s : zM) : Option (Int32 × zM) :=
  lt (zs s 69 7 (0 : Int32)) (fun s15 =>
  if v2 = 0 then
    some ((zg s15 69 10), s15)
  else
    lt (zs s15 69 16 (zg s15 69 14)) (fun s16 =>
    f_X12_law_L110 F (fun s19 =>
      f_X12_law_L138 F (fun s25 =>
        some ((zg s25 69 14), s25)) F (0 : Int32) s19) F (0 : Int32) s16))
def f_X12_law (F : Nat) (v1 : Int32) (s : zM) : Option (Int32 × zM) :=
  bnd (f_X12_in v1 (1 : Int32) (200 : Int32) s) (fun r2 s1 =>
  if r2 = 0 then
    some ((-1 : Int32), s1)
  else
    if (zg s1 69 7) < v1 then
      some ((-1 : Int32), s1)
    else
      lt (zs s1 69 8 (0 : Int32)) (fun s3 =>
      lt (zs s3 69 9 v1) (fun s4 =>
      lt (zs s4 69 12 (0 : Int32)) (fun s5 =>
      lt (zs s5 69 14 (0 : Int32)) (fun s6 =>
      bnd (f_X12_readsClause F s6) (fun r8 s7 =>
      f_X12_law_L46 F (fun y14 s13 =>
        f_X12_law_j86 F y14 s13) F r8 s7))))))
def f_X12_reckon (v0 : Int32) (v1 : Int32) (v2 : Int32) (s : zM) : Option (Int32 × zM) :=
  if v0 = (2 : Int32) then
    some ((v1 + v2), s)
  else
    if v0 = (3 : Int32) then
      some ((v1 - v2), s)
    else
      if v0 = (4 : Int32) then
        some ((v1 * v2), s)
      else
        if v0 = (5 : Int32) then
          if v2 = 0 then none else
          some ((v1 / v2), s)
        else
          if v0 = (6 : Int32) then
            if v2 = 0 then none else
            some ((v1 - v1 / v2 * v2), s)
          else
            if v0 = (7 : Int32) then
              if v1 < v2 then
                some ((1 : Int32), s)
              else
                some ((0 : Int32), s)
            else
              if v0 = (8 : Int32) then
                if v2 < v1 then
                  some ((1 : Int32), s)
                else
                  some ((0 : Int32), s)
              else
                if v1 = v2 then
                  some ((1 : Int32), s)
                else
                  some ((0 : Int32), s)
def f_X12_comesTo_j63 (F : Nat) (k16 : Int32 → Int32 → zM → Option (Int32 × zM)) (v2 : Int32) (v4 : Int32) (v3 : Int32) (v5 : Int32) (v6 : Int32) (v7 : Int32) (s : zM) : Option (Int32 × zM) :=
  if v6 = 0 then
    if zin v3 220 = true then
      lt (zs s 86 (v3).toNatClampNeg v7) (fun s7 =>
      lt ((v3 + (1 : Int32))) (fun y8 =>
      k16 y8 v5 s7))
    else none
  else
    if zin v7 10 = true then
      if zin v3 220 = true then
        lt (zs s 86 (v3).toNatClampNeg (zg s 87 (v7).toNatClampNeg)) (fun s5 =>
        lt ((v3 + (1 : Int32))) (fun y6 =>
        k16 y6 v5 s5))
      else none
    else none
def f_X12_comesTo_j155 (F : Nat) (k16 : Int32 → Int32 → zM → Option (Int32 × zM)) (v2 : Int32) (v4 : Int32) (v3 : Int32) (v5 : Int32) (v7 : Int32) (w0 : Int32) (w1 : Int32) (s : zM) : Option (Int32 × zM) :=
  if w1 = w0 then
    lt ((v4 + v7)) (fun y10 =>
    k16 v3 y10 s)
  else
    lt ((v3 - (1 : Int32))) (fun y9 =>
    k16 y9 v5 s)
def f_X12_comesTo_j135 (F : Nat) (k16 : Int32 → Int32 → zM → Option (Int32 × zM)) (v2 : Int32) (v4 : Int32) (v3 : Int32) (v5 : Int32) (v6 : Int32) (v7 : Int32) (s : zM) : Option (Int32 × zM) :=
  if zin (v3 - (1 : Int32)) 220 = true then
    if v6 = (12 : Int32) then
      f_X12_comesTo_j155 F k16 v2 v4 v3 v5 v7 (1 : Int32) (zg s 86 ((v3 - (1 : Int32))).toNatClampNeg) s
    else
      f_X12_comesTo_j155 F k16 v2 v4 v3 v5 v7 (0 : Int32) (zg s 86 ((v3 - (1 : Int32))).toNatClampNeg) s
  else none
def f_X12_comesTo_j203 (F : Nat) (k16 : Int32 → Int32 → zM → Option (Int32 × zM)) (v2 : Int32) (v4 : Int32) (v3 : Int32) (v5 : Int32) (v6 : Int32) (s : zM) : Option (Int32 × zM) :=
  if zin (v3 - (1 : Int32)) 220 = true then
    if zin v3 220 = true then
      bnd (f_X12_reckon v6 (zg s 86 ((v3 - (1 : Int32))).toNatClampNeg) (zg s 86 (v3).toNatClampNeg) s) (fun r13 s12 =>
      if zin (v3 - (1 : Int32)) 220 = true then
        lt (zs s12 86 ((v3 - (1 : Int32))).toNatClampNeg r13) (fun s14 =>
        k16 v3 v5 s14)
      else none)
    else none
  else none
def f_X12_comesTo_j192 (F : Nat) (k16 : Int32 → Int32 → zM → Option (Int32 × zM)) (v2 : Int32) (v4 : Int32) (v3 : Int32) (v5 : Int32) (v6 : Int32) (s : zM) : Option (Int32 × zM) :=
  if zin v3 220 = true then
    if (zg s 86 (v3).toNatClampNeg) = 0 then
      some ((0 : Int32), s)
    else
      f_X12_comesTo_j203 F k16 v2 v4 v3 v5 v6 s
  else none
def f_X12_comesTo_L16 (F : Nat) (k233 : zM → Option (Int32 × zM)) (v2 : Int32) (v4 : Int32) : Nat → Int32 → Int32 → zM → Option (Int32 × zM)
  | 0, _, _, _ => none
  | n + 1, v3, v5, s =>
    if v5 < v2 then
      if zin v5 220 = true then
        lt (((zg s 81 (v5).toNatClampNeg) / (1048576 : Int32))) (fun y2 =>
        if zin v5 220 = true then
          lt (((zg s 81 (v5).toNatClampNeg) - (zg s 81 (v5).toNatClampNeg) / (1048576 : Int32) * (1048576 : Int32))) (fun y3 =>
          lt ((v5 + (1 : Int32))) (fun y4 =>
          if y2 = 0 then
            f_X12_comesTo_j63 F (f_X12_comesTo_L16 F k233 v2 v4 n) v2 v4 v3 y4 y2 y3 s
          else
            if y2 = (1 : Int32) then
              f_X12_comesTo_j63 F (f_X12_comesTo_L16 F k233 v2 v4 n) v2 v4 v3 y4 y2 y3 s
            else
              if y2 = (10 : Int32) then
                if zin (v3 - (1 : Int32)) 220 = true then
                  if zin (v3 - (1 : Int32)) 220 = true then
                    lt (zs s 86 ((v3 - (1 : Int32))).toNatClampNeg ((1 : Int32) - (zg s 86 ((v3 - (1 : Int32))).toNatClampNeg))) (fun s15 =>
                    f_X12_comesTo_L16 F k233 v2 v4 n v3 y4 s15)
                  else none
                else none
              else
                if y2 = (11 : Int32) then
                  f_X12_comesTo_j135 F (f_X12_comesTo_L16 F k233 v2 v4 n) v2 v4 v3 y4 y2 y3 s
                else
                  if y2 = (12 : Int32) then
                    f_X12_comesTo_j135 F (f_X12_comesTo_L16 F k233 v2 v4 n) v2 v4 v3 y4 y2 y3 s
                  else
                    lt ((v3 - (1 : Int32))) (fun y11 =>
                    if y2 = (5 : Int32) then
                      f_X12_comesTo_j192 F (f_X12_comesTo_L16 F k233 v2 v4 n) v2 v4 y11 y4 y2 s
                    else
                      if y2 = (6 : Int32) then
                        f_X12_comesTo_j192 F (f_X12_comesTo_L16 F k233 v2 v4 n) v2 v4 y11 y4 y2 s
                      else
                        f_X12_comesTo_j203 F (f_X12_comesTo_L16 F k233 v2 v4 n) v2 v4 y11 y4 y2 s)))
        else none)
      else none
    else
      k233 s
def f_X12_comesTo (F : Nat) (v1 : Int32) (v2 : Int32) (s : zM) : Option (Int32 × zM) :=
  lt (((220 : Int32) * (v1 / (220 : Int32)))) (fun y1 =>
  f_X12_comesTo_L16 F (fun s16 =>
    if zin (0 : Int32) 220 = true then
      some ((zg s16 86 ((0 : Int32)).toNatClampNeg), s16)
    else none) v2 y1 F (0 : Int32) v1 s)
def f_X12_byLaw_L3 (F : Nat) (k97 : zM → Option (Int32 × zM)) (v1 : Int32) (v2 : Int32) (v3 : Int32) : Nat → Int32 → zM → Option (Int32 × zM)
  | 0, _, _ => none
  | n + 1, v4, s =>
    if v4 < (zg s 69 16) then
      if zin v4 14 = true then
        if (zg s 82 (v4).toNatClampNeg) = v1 then
          if zin v4 14 = true then
            if zin v4 14 = true then
              bnd (f_X12_comesTo F (zg s 84 (v4).toNatClampNeg) (zg s 85 (v4).toNatClampNeg) s) (fun r3 s2 =>
              if r3 = (1 : Int32) then
                if zin v4 14 = true then
                  if zin v4 14 = true then
                    bnd (f_X12_comesTo F (zg s2 83 (v4).toNatClampNeg) (zg s2 84 (v4).toNatClampNeg) s2) (fun r5 s4 =>
                    if r5 < v2 then
                      some (v2, s4)
                    else
                      if v3 < r5 then
                        some (v3, s4)
                      else
                        some (r5, s4))
                  else none
                else none
              else
                lt (v4 + (1 : Int32)) (fun y6 =>
                f_X12_byLaw_L3 F k97 v1 v2 v3 n y6 s2))
            else none
          else none
        else
          lt (v4 + (1 : Int32)) (fun y1 =>
          f_X12_byLaw_L3 F k97 v1 v2 v3 n y1 s)
      else none
    else
      k97 s
def f_X12_byLaw (F : Nat) (v1 : Int32) (v2 : Int32) (v3 : Int32) (s : zM) : Option (Int32 × zM) :=
  f_X12_byLaw_L3 F (fun s7 =>
    some ((0 : Int32), s7)) v1 v2 v3 F (0 : Int32) s
def f_X12_feelsOne_L2 (F : Nat) (k21 : zM → Option (Unit × zM)) (v1 : Int32) (v2 : Int32) : Nat → Int32 → zM → Option (Unit × zM)
  | 0, _, _ => none
  | n + 1, v3, s =>
    if v3 < (10 : Int32) then
      if zin v3 10 = true then
        lt (zs s 87 (v3).toNatClampNeg (0 : Int32)) (fun s1 =>
        lt (v3 + (1 : Int32)) (fun y2 =>
        f_X12_feelsOne_L2 F k21 v1 v2 n y2 s1))
      else none
    else
      k21 s
def f_X12_feelsOne (F : Nat) (v1 : Int32) (v2 : Int32) (s : zM) : Option (Unit × zM) :=
  f_X12_feelsOne_L2 F (fun s3 =>
    if zin (0 : Int32) 10 = true then
      lt (zs s3 87 ((0 : Int32)).toNatClampNeg v1) (fun s4 =>
      if zin v1 16 = true then
        if zin (2 : Int32) 10 = true then
          lt (zs s4 87 ((2 : Int32)).toNatClampNeg (zg s4 70 (v1).toNatClampNeg)) (fun s5 =>
          if zin (4 : Int32) 10 = true then
            lt (zs s5 87 ((4 : Int32)).toNatClampNeg v2) (fun s6 =>
            some ((), s6))
          else none)
        else none
      else none)
    else none) v1 v2 F (0 : Int32) s
def f_X12_feels (F : Nat) (v1 : Int32) (v2 : Int32) (s : zM) : Option (Unit × zM) :=
  if zin v1 16 = true then
    bnd (f_X12_feelsOne F v1 (zg s 71 (v1).toNatClampNeg) s) (fun _ s1 =>
    if zin (1 : Int32) 10 = true then
      lt (zs s1 87 ((1 : Int32)).toNatClampNeg v2) (fun s2 =>
      if zin v2 16 = true then
        if zin (3 : Int32) 10 = true then
          lt (zs s2 87 ((3 : Int32)).toNatClampNeg (zg s2 70 (v2).toNatClampNeg)) (fun s3 =>
          if zin v2 16 = true then
            if zin (5 : Int32) 10 = true then
              lt (zs s3 87 ((5 : Int32)).toNatClampNeg (zg s3 71 (v2).toNatClampNeg)) (fun s4 =>
              if zin (((16 : Int32) * v1) + v2) 256 = true then
                if zin (6 : Int32) 10 = true then
                  lt (zs s4 87 ((6 : Int32)).toNatClampNeg (zg s4 72 ((((16 : Int32) * v1) + v2)).toNatClampNeg)) (fun s5 =>
                  if zin (((16 : Int32) * v2) + v1) 256 = true then
                    if zin (7 : Int32) 10 = true then
                      lt (zs s5 87 ((7 : Int32)).toNatClampNeg (zg s5 72 ((((16 : Int32) * v2) + v1)).toNatClampNeg)) (fun s6 =>
                      if zin v1 16 = true then
                        if zin v2 16 = true then
                          bnd (f_X12_size (((zg s6 71 (v1).toNatClampNeg) / (2 : Int32)) - ((zg s6 71 (v2).toNatClampNeg) / (2 : Int32))) s6) (fun r8 s7 =>
                          if zin (8 : Int32) 10 = true then
                            lt (zs s7 87 ((8 : Int32)).toNatClampNeg r8) (fun s9 =>
                            if zin v1 16 = true then
                              if zin v2 16 = true then
                                if ((zg s9 71 (v1).toNatClampNeg) - (zg s9 71 (v1).toNatClampNeg) / (2 : Int32) * (2 : Int32)) = ((zg s9 71 (v2).toNatClampNeg) - (zg s9 71 (v2).toNatClampNeg) / (2 : Int32) * (2 : Int32)) then
                                  if zin (9 : Int32) 10 = true then
                                    lt (zs s9 87 ((9 : Int32)).toNatClampNeg (0 : Int32)) (fun s11 =>
                                    some ((), s11))
                                  else none
                                else
                                  if zin (9 : Int32) 10 = true then
                                    lt (zs s9 87 ((9 : Int32)).toNatClampNeg (1 : Int32)) (fun s10 =>
                                    some ((), s10))
                                  else none
                              else none
                            else none)
                          else none)
                        else none
                      else none)
                    else none
                  else none)
                else none
              else none)
            else none
          else none)
        else none
      else none)
    else none)
  else none
def f_X12_lets_L11 (F : Nat) (k67 : Int32 → zM → Option (Int32 × zM)) : Nat → Int32 → Int32 → zM → Option (Int32 × zM)
  | 0, _, _, _ => none
  | n + 1, v3, v4, s =>
    if v4 < (zg s 69 16) then
      if zin v4 14 = true then
        if (zg s 82 (v4).toNatClampNeg) = (112 : Int32) then
          if zin v4 14 = true then
            if zin v4 14 = true then
              bnd (f_X12_comesTo F (zg s 84 (v4).toNatClampNeg) (zg s 85 (v4).toNatClampNeg) s) (fun r3 s2 =>
              if r3 = (1 : Int32) then
                some ((1 : Int32), s2)
              else
                lt (v4 + (1 : Int32)) (fun y4 =>
                f_X12_lets_L11 F k67 n (1 : Int32) y4 s2))
            else none
          else none
        else
          lt (v4 + (1 : Int32)) (fun y5 =>
          f_X12_lets_L11 F k67 n v3 y5 s)
      else none
    else
      k67 v3 s
def f_X12_lets (F : Nat) (v1 : Int32) (v2 : Int32) (s : zM) : Option (Int32 × zM) :=
  bnd (f_X12_feels F v1 v2 s) (fun _ s1 =>
  f_X12_lets_L11 F (fun y7 s6 =>
    if y7 = 0 then
      some ((1 : Int32), s6)
    else
      some ((0 : Int32), s6)) F (0 : Int32) (0 : Int32) s1)
def f_X12_harmOf_j11 (F : Nat) (v1 : Int32) (v2 : Int32) (w0 : Int32) (s : zM) : Option (Int32 × zM) :=
  if v1 < v2 then
    bnd (f_X12_feels F w0 v2 s) (fun _ s4 =>
    bnd (f_X12_byLaw F (104 : Int32) (0 : Int32) (99 : Int32) s4) (fun r6 s5 =>
    some (r6, s5)))
  else
    bnd (f_X12_feels F w0 v1 s) (fun _ s1 =>
    bnd (f_X12_byLaw F (104 : Int32) (0 : Int32) (99 : Int32) s1) (fun r3 s2 =>
    some (r3, s2)))
def f_X12_harmOf (F : Nat) (v1 : Int32) (v2 : Int32) (s : zM) : Option (Int32 × zM) :=
  if v1 < v2 then
    f_X12_harmOf_j11 F v1 v2 v1 s
  else
    f_X12_harmOf_j11 F v1 v2 v2 s
def f_X12_seenBy (F : Nat) (v1 : Int32) (v2 : Int32) (s : zM) : Option (Int32 × zM) :=
  bnd (f_X12_feels F v1 v2 s) (fun _ s1 =>
  bnd (f_X12_byLaw F (118 : Int32) (0 : Int32) (1000 : Int32) s1) (fun r3 s2 =>
  some (r3, s2)))
def f_X12_worthOf (F : Nat) (v1 : Int32) (v2 : Int32) (s : zM) : Option (Int32 × zM) :=
  bnd (f_X12_feelsOne F v1 v2 s) (fun _ s1 =>
  bnd (f_X12_byLaw F (119 : Int32) (-99 : Int32) (99 : Int32) s1) (fun r3 s2 =>
  some (r3, s2)))
def f_X12_beside (v0 : Int32) (v1 : Int32) (s : zM) : Option (Int32 × zM) :=
  if v1 = (2 : Int32) then
    if (v0 - v0 / (2 : Int32) * (2 : Int32)) = 0 then
      lt ((v0 + (1 : Int32))) (fun y10 =>
      bnd (f_X12_isSeat y10 s) (fun r12 s11 =>
      if r12 = 0 then
        some ((-1 : Int32), s11)
      else
        some (y10, s11)))
    else
      lt ((v0 - (1 : Int32))) (fun y7 =>
      bnd (f_X12_isSeat y7 s) (fun r9 s8 =>
      if r9 = 0 then
        some ((-1 : Int32), s8)
      else
        some (y7, s8)))
  else
    if v1 = (1 : Int32) then
      lt ((v0 + (2 : Int32))) (fun y4 =>
      bnd (f_X12_isSeat y4 s) (fun r6 s5 =>
      if r6 = 0 then
        some ((-1 : Int32), s5)
      else
        some (y4, s5)))
    else
      lt ((v0 - (2 : Int32))) (fun y1 =>
      bnd (f_X12_isSeat y1 s) (fun r3 s2 =>
      if r3 = 0 then
        some ((-1 : Int32), s2)
      else
        some (y1, s2)))
def f_X12_areNext_L2 (F : Nat) (k29 : zM → Option (Int32 × zM)) (v0 : Int32) (v1 : Int32) : Nat → Int32 → zM → Option (Int32 × zM)
  | 0, _, _ => none
  | n + 1, v2, s =>
    if v2 < (3 : Int32) then
      if v1 = (-1 : Int32) then
        lt (v2 + (1 : Int32)) (fun y1 =>
        f_X12_areNext_L2 F k29 v0 v1 n y1 s)
      else
        bnd (f_X12_beside v0 v2 s) (fun r3 s2 =>
        if r3 = v1 then
          some ((1 : Int32), s2)
        else
          lt (v2 + (1 : Int32)) (fun y4 =>
          f_X12_areNext_L2 F k29 v0 v1 n y4 s2))
    else
      k29 s
def f_X12_areNext (F : Nat) (v0 : Int32) (v1 : Int32) (s : zM) : Option (Int32 × zM) :=
  f_X12_areNext_L2 F (fun s5 =>
    some ((0 : Int32), s5)) v0 v1 F (0 : Int32) s
def f_X12_sitNext (F : Nat) (v1 : Int32) (v2 : Int32) (s : zM) : Option (Int32 × zM) :=
  bnd (f_X12_sits v1 s) (fun r2 s1 =>
  if r2 = 0 then
    some ((0 : Int32), s1)
  else
    bnd (f_X12_sits v2 s1) (fun r4 s3 =>
    if r4 = 0 then
      some ((0 : Int32), s3)
    else
      if zin v1 16 = true then
        if zin v2 16 = true then
          bnd (f_X12_areNext F (zg s3 71 (v1).toNatClampNeg) (zg s3 71 (v2).toNatClampNeg) s3) (fun r6 s5 =>
          if r6 = 0 then
            some ((0 : Int32), s5)
          else
            some ((1 : Int32), s5))
        else none
      else none))
def f_X12_two_j65 (F : Nat) (v1 : Int32) (v2 : Int32) (v3 : Int32) (s : zM) : Option (Int32 × zM) :=
  if v3 = (1 : Int32) then
    bnd (f_X12_harmOf F v1 v2 s) (fun r16 s15 =>
    some (r16, s15))
  else
    if v3 = (2 : Int32) then
      bnd (f_X12_seenBy F v1 v2 s) (fun r14 s13 =>
      some (r14, s13))
    else
      bnd (f_X12_lets F v1 v2 s) (fun r12 s11 =>
      if r12 = 0 then
        some ((0 : Int32), s11)
      else
        some ((1 : Int32), s11))
def f_X12_two (F : Nat) (v1 : Int32) (v2 : Int32) (v3 : Int32) (s : zM) : Option (Int32 × zM) :=
  bnd (f_X12_isGuest v1 s) (fun r2 s1 =>
  if r2 = 0 then
    some ((-1 : Int32), s1)
  else
    bnd (f_X12_isGuest v2 s1) (fun r4 s3 =>
    if r4 = 0 then
      some ((-1 : Int32), s3)
    else
      if v1 = v2 then
        some ((-1 : Int32), s3)
      else
        bnd (f_X12_in v3 (0 : Int32) (2 : Int32) s3) (fun r6 s5 =>
        if r6 = 0 then
          some ((-1 : Int32), s5)
        else
          bnd (f_X12_sits v1 s5) (fun r8 s7 =>
          if r8 = 0 then
            some ((-2 : Int32), s7)
          else
            bnd (f_X12_sits v2 s7) (fun r10 s9 =>
            if r10 = 0 then
              some ((-2 : Int32), s9)
            else
              if v3 = (1 : Int32) then
                f_X12_two_j65 F v1 v2 v3 s9
              else
                bnd (f_X12_sitNext F v1 v2 s9) (fun r18 s17 =>
                if r18 = 0 then
                  some ((-2 : Int32), s17)
                else
                  f_X12_two_j65 F v1 v2 v3 s17))))))
def f_X12_worth (F : Nat) (v1 : Int32) (v2 : Int32) (s : zM) : Option (Int32 × zM) :=
  bnd (f_X12_isGuest v1 s) (fun r2 s1 =>
  if r2 = 0 then
    some ((-1000 : Int32), s1)
  else
    bnd (f_X12_isSeat v2 s1) (fun r4 s3 =>
    if r4 = 0 then
      some ((-1000 : Int32), s3)
    else
      bnd (f_X12_worthOf F v1 v2 s3) (fun r6 s5 =>
      some (r6, s5))))
def f_X12_isMinute (v0 : Int32) (s : zM) : Option (Int32 × zM) :=
  if v0 < 0 then
    some ((0 : Int32), s)
  else
    if (999 : Int32) < v0 then
      some ((0 : Int32), s)
    else
      some ((1 : Int32), s)
def f_X12_isPlace (v0 : Int32) (s : zM) : Option (Int32 × zM) :=
  if v0 < 0 then
    some ((0 : Int32), s)
  else
    if v0 < (20 : Int32) then
      some ((1 : Int32), s)
    else
      some ((0 : Int32), s)
def f_X12_rain (v1 : Int32) (v2 : Int32) (v3 : Int32) (s : zM) : Option (Int32 × zM) :=
  bnd (f_X12_isMinute v1 s) (fun r2 s1 =>
  if r2 = 0 then
    some ((-1 : Int32), s1)
  else
    bnd (f_X12_isPlace v2 s1) (fun r4 s3 =>
    if r4 = 0 then
      some ((-1 : Int32), s3)
    else
      bnd (f_X12_isPlace v3 s3) (fun r6 s5 =>
      if r6 = 0 then
        some ((-1 : Int32), s5)
      else
        if v3 < v2 then
          some ((-1 : Int32), s5)
        else
          if (zg s5 69 30) = (10 : Int32) then
            some ((-1 : Int32), s5)
          else
            if zin (zg s5 69 30) 10 = true then
              lt (zs s5 88 ((zg s5 69 30)).toNatClampNeg v1) (fun s7 =>
              if zin (zg s7 69 30) 10 = true then
                lt (zs s7 89 ((zg s7 69 30)).toNatClampNeg v2) (fun s8 =>
                if zin (zg s8 69 30) 10 = true then
                  lt (zs s8 90 ((zg s8 69 30)).toNatClampNeg v3) (fun s9 =>
                  lt (zs s9 69 30 ((zg s9 69 30) + (1 : Int32))) (fun s10 =>
                  some ((zg s10 69 30), s10)))
                else none)
              else none)
            else none)))
def f_X12_isWet_L2 (F : Nat) (k54 : zM → Option (Int32 × zM)) (v1 : Int32) (v2 : Int32) : Nat → Int32 → zM → Option (Int32 × zM)
  | 0, _, _ => none
  | n + 1, v3, s =>
    if v3 < (zg s 69 30) then
      if zin v3 10 = true then
        if v2 < (zg s 88 (v3).toNatClampNeg) then
          lt (v3 + (1 : Int32)) (fun y1 =>
          f_X12_isWet_L2 F k54 v1 v2 n y1 s)
        else
          if zin v1 16 = true then
            if zin v3 10 = true then
              if zin v3 10 = true then
                bnd (f_X12_in ((zg s 71 (v1).toNatClampNeg) / (2 : Int32)) (zg s 89 (v3).toNatClampNeg) (zg s 90 (v3).toNatClampNeg) s) (fun r3 s2 =>
                if r3 = 0 then
                  lt (v3 + (1 : Int32)) (fun y4 =>
                  f_X12_isWet_L2 F k54 v1 v2 n y4 s2)
                else
                  some ((1 : Int32), s2))
              else none
            else none
          else none
      else none
    else
      k54 s
def f_X12_isWet (F : Nat) (v1 : Int32) (v2 : Int32) (s : zM) : Option (Int32 × zM) :=
  f_X12_isWet_L2 F (fun s5 =>
    some ((0 : Int32), s5)) v1 v2 F (0 : Int32) s
def f_X12_laysPassing_L2 (F : Nat) (k30 : zM → Option (Unit × zM)) (v1 : Int32) (v2 : Int32) : Nat → Int32 → zM → Option (Unit × zM)
  | 0, _, _ => none
  | n + 1, v3, s =>
    if v3 < (16 : Int32) then
      if zin v3 16 = true then
        lt (zs s 94 (v3).toNatClampNeg (1000000000 : Int32)) (fun s1 =>
        if zin v3 16 = true then
          lt (zs s1 95 (v3).toNatClampNeg (-1 : Int32)) (fun s2 =>
          lt (v3 + (1 : Int32)) (fun y3 =>
          f_X12_laysPassing_L2 F k30 v1 v2 n y3 s2))
        else none)
      else none
    else
      k30 s
def f_X12_laysPassing_L75 (F : Nat) (k167 : zM → Option (Unit × zM)) (v3 : Int32) (v4 : Int32) : Nat → Int32 → zM → Option (Unit × zM)
  | 0, _, _ => none
  | n + 1, v5, s =>
    if v5 < (zg s 69 0) then
      if zin v5 16 = true then
        if (zg s 94 (v5).toNatClampNeg) < (1000000000 : Int32) then
          lt (v5 + (1 : Int32)) (fun y6 =>
          f_X12_laysPassing_L75 F k167 v3 v4 n y6 s)
        else
          bnd (f_X12_sitNext F v4 v5 s) (fun r8 s7 =>
          if r8 = 0 then
            lt (v5 + (1 : Int32)) (fun y9 =>
            f_X12_laysPassing_L75 F k167 v3 v4 n y9 s7)
          else
            bnd (f_X12_isWet F v4 v3 s7) (fun r11 s10 =>
            if r11 = 0 then
              bnd (f_X12_isWet F v5 v3 s10) (fun r14 s13 =>
              if r14 = 0 then
                bnd (f_X12_lets F v4 v5 s13) (fun r17 s16 =>
                if r17 = 0 then
                  lt (v5 + (1 : Int32)) (fun y21 =>
                  f_X12_laysPassing_L75 F k167 v3 v4 n y21 s16)
                else
                  if zin v5 16 = true then
                    lt (zs s16 94 (v5).toNatClampNeg (v3 + (1 : Int32))) (fun s18 =>
                    if zin v5 16 = true then
                      lt (zs s18 95 (v5).toNatClampNeg v4) (fun s19 =>
                      lt (v5 + (1 : Int32)) (fun y20 =>
                      f_X12_laysPassing_L75 F k167 v3 v4 n y20 s19))
                    else none)
                  else none)
              else
                lt (v5 + (1 : Int32)) (fun y15 =>
                f_X12_laysPassing_L75 F k167 v3 v4 n y15 s13))
            else
              lt (v5 + (1 : Int32)) (fun y12 =>
              f_X12_laysPassing_L75 F k167 v3 v4 n y12 s10)))
      else none
    else
      k167 s
def f_X12_laysPassing_L49 (F : Nat) (k173 : zM → Option (Unit × zM)) (v3 : Int32) : Nat → Int32 → zM → Option (Unit × zM)
  | 0, _, _ => none
  | n + 1, v4, s =>
    if v4 < (zg s 69 0) then
      if zin v4 16 = true then
        if v3 < (zg s 94 (v4).toNatClampNeg) then
          lt (v4 + (1 : Int32)) (fun y24 =>
          f_X12_laysPassing_L49 F k173 v3 n y24 s)
        else
          f_X12_laysPassing_L75 F (fun s22 =>
            lt (v4 + (1 : Int32)) (fun y23 =>
            f_X12_laysPassing_L49 F k173 v3 n y23 s22)) v3 v4 F (0 : Int32) s
      else none
    else
      k173 s
def f_X12_laysPassing_L39 (F : Nat) (k179 : zM → Option (Unit × zM)) : Nat → Int32 → zM → Option (Unit × zM)
  | 0, _, _ => none
  | n + 1, v3, s =>
    if v3 < (999 : Int32) then
      f_X12_laysPassing_L49 F (fun s25 =>
        lt (v3 + (1 : Int32)) (fun y26 =>
        f_X12_laysPassing_L39 F k179 n y26 s25)) v3 F (0 : Int32) s
    else
      k179 s
def f_X12_laysPassing (F : Nat) (v1 : Int32) (v2 : Int32) (s : zM) : Option (Unit × zM) :=
  f_X12_laysPassing_L2 F (fun s4 =>
    if zin v1 16 = true then
      lt (zs s4 94 (v1).toNatClampNeg v2) (fun s5 =>
      f_X12_laysPassing_L39 F (fun s27 =>
        some ((), s27)) F v2 s5)
    else none) v1 v2 F (0 : Int32) s
def f_X12_starts (v1 : Int32) (v2 : Int32) (s : zM) : Option (Int32 × zM) :=
  bnd (f_X12_isGuest v1 s) (fun r2 s1 =>
  if r2 = 0 then
    some ((0 : Int32), s1)
  else
    bnd (f_X12_sits v1 s1) (fun r4 s3 =>
    if r4 = 0 then
      some ((0 : Int32), s3)
    else
      bnd (f_X12_in v2 (0 : Int32) (99 : Int32) s3) (fun r6 s5 =>
      if r6 = 0 then
        some ((0 : Int32), s5)
      else
        some ((1 : Int32), s5))))
def f_X12_soonest (F : Nat) (v1 : Int32) (v2 : Int32) (v3 : Int32) (s : zM) : Option (Int32 × zM) :=
  bnd (f_X12_starts v1 v3 s) (fun r2 s1 =>
  if r2 = 0 then
    some ((-1 : Int32), s1)
  else
    bnd (f_X12_isGuest v2 s1) (fun r4 s3 =>
    if r4 = 0 then
      some ((-1 : Int32), s3)
    else
      bnd (f_X12_sits v2 s3) (fun r6 s5 =>
      if r6 = 0 then
        some ((-1 : Int32), s5)
      else
        bnd (f_X12_laysPassing F v1 v3 s5) (fun _ s7 =>
        if zin v2 16 = true then
          if (zg s7 94 (v2).toNatClampNeg) = (1000000000 : Int32) then
            some ((-2 : Int32), s7)
          else
            if zin v2 16 = true then
              some ((zg s7 94 (v2).toNatClampNeg), s7)
            else none
        else none))))
def f_X12_rumour_L90 (F : Nat) (k153 : Int32 → Int32 → zM → Option (Int32 × zM)) (v3 : Int32) : Nat → Int32 → Int32 → Int32 → zM → Option (Int32 × zM)
  | 0, _, _, _, _ => none
  | n + 1, v4, v5, v6, s =>
    if v6 < (zg s 69 0) then
      if zin v6 16 = true then
        if (zg s 94 (v6).toNatClampNeg) = (1000000000 : Int32) then
          lt (v6 + (1 : Int32)) (fun y10 =>
          f_X12_rumour_L90 F k153 v3 n v4 v5 y10 s)
        else
          lt ((v4 + (1 : Int32))) (fun y6 =>
          if zin v6 16 = true then
            if v5 < (zg s 94 (v6).toNatClampNeg) then
              if zin v6 16 = true then
                lt ((zg s 94 (v6).toNatClampNeg)) (fun y8 =>
                lt (v6 + (1 : Int32)) (fun y9 =>
                f_X12_rumour_L90 F k153 v3 n y6 y8 y9 s))
              else none
            else
              lt (v6 + (1 : Int32)) (fun y7 =>
              f_X12_rumour_L90 F k153 v3 n y6 v5 y7 s)
          else none)
      else none
    else
      k153 v4 v5 s
def f_X12_rumour_j32 (F : Nat) (v1 : Int32) (v2 : Int32) (v3 : Int32) (s : zM) : Option (Int32 × zM) :=
  bnd (f_X12_laysPassing F v1 v2 s) (fun _ s3 =>
  bnd (f_X12_in v3 (0 : Int32) (15 : Int32) s3) (fun r5 s4 =>
  if r5 = 0 then
    f_X12_rumour_L90 F (fun y12 y13 s11 =>
      if v3 = (-1 : Int32) then
        some (y12, s11)
      else
        some (y13, s11)) v3 F (0 : Int32) (0 : Int32) (0 : Int32) s4
  else
    if v3 = v1 then
      some ((-1 : Int32), s4)
    else
      if zin v3 16 = true then
        if (zg s4 94 (v3).toNatClampNeg) = (1000000000 : Int32) then
          some ((-2 : Int32), s4)
        else
          if zin v3 16 = true then
            some ((zg s4 95 (v3).toNatClampNeg), s4)
          else none
      else none))
def f_X12_rumour (F : Nat) (v1 : Int32) (v2 : Int32) (v3 : Int32) (s : zM) : Option (Int32 × zM) :=
  bnd (f_X12_starts v1 v2 s) (fun r2 s1 =>
  if r2 = 0 then
    some ((-3 : Int32), s1)
  else
    if v3 = (20 : Int32) then
      f_X12_rumour_j32 F v1 v2 v3 s1
    else
      bnd (f_X12_in v3 (-1 : Int32) ((zg s1 69 0) - (1 : Int32)) s1) (fun r15 s14 =>
      if r15 = 0 then
        some ((-3 : Int32), s14)
      else
        f_X12_rumour_j32 F v1 v2 v3 s14))
def f_X12_speech (v1 : Int32) (v2 : Int32) (v3 : Int32) (s : zM) : Option (Int32 × zM) :=
  bnd (f_X12_isPlace v1 s) (fun r2 s1 =>
  if r2 = 0 then
    some ((-1 : Int32), s1)
  else
    bnd (f_X12_isMinute v2 s1) (fun r4 s3 =>
    if r4 = 0 then
      some ((-1 : Int32), s3)
    else
      bnd (f_X12_in v3 (1 : Int32) (5 : Int32) s3) (fun r6 s5 =>
      if r6 = 0 then
        some ((-1 : Int32), s5)
      else
        if (zg s5 69 31) = (10 : Int32) then
          some ((-1 : Int32), s5)
        else
          if zin (zg s5 69 31) 10 = true then
            lt (zs s5 91 ((zg s5 69 31)).toNatClampNeg v1) (fun s7 =>
            if zin (zg s7 69 31) 10 = true then
              lt (zs s7 92 ((zg s7 69 31)).toNatClampNeg v2) (fun s8 =>
              if zin (zg s8 69 31) 10 = true then
                lt (zs s8 93 ((zg s8 69 31)).toNatClampNeg v3) (fun s9 =>
                lt (zs s9 69 31 ((zg s9 69 31) + (1 : Int32))) (fun s10 =>
                some ((zg s10 69 31), s10)))
              else none)
            else none)
          else none)))
def f_X12_heard_L21 (F : Nat) (k77 : Int32 → zM → Option (Int32 × zM)) (v1 : Int32) (v2 : Int32) : Nat → Int32 → Int32 → zM → Option (Int32 × zM)
  | 0, _, _, _ => none
  | n + 1, v3, v4, s =>
    if v4 < (zg s 69 31) then
      if zin v4 10 = true then
        bnd (f_X12_size ((v1 / (2 : Int32)) - (zg s 91 (v4).toNatClampNeg)) s) (fun r6 s5 =>
        if zin v4 10 = true then
          if zin v4 10 = true then
            if ((zg s5 93 (v4).toNatClampNeg) * (v2 - (zg s5 92 (v4).toNatClampNeg))) < r6 then
              lt (v4 + (1 : Int32)) (fun y7 =>
              f_X12_heard_L21 F k77 v1 v2 n v3 y7 s5)
            else
              lt ((v3 ||| ((1 : Int32) <<< (v4 &&& 31)))) (fun y8 =>
              lt (v4 + (1 : Int32)) (fun y9 =>
              f_X12_heard_L21 F k77 v1 v2 n y8 y9 s5))
          else none
        else none)
      else none
    else
      k77 v3 s
def f_X12_heard (F : Nat) (v1 : Int32) (v2 : Int32) (s : zM) : Option (Int32 × zM) :=
  bnd (f_X12_isSeat v1 s) (fun r2 s1 =>
  if r2 = 0 then
    some ((-1 : Int32), s1)
  else
    bnd (f_X12_isMinute v2 s1) (fun r4 s3 =>
    if r4 = 0 then
      some ((-1 : Int32), s3)
    else
      f_X12_heard_L21 F (fun y11 s10 =>
        some (y11, s10)) v1 v2 F (0 : Int32) (0 : Int32) s3))
def f_X12_walks_j143 (F : Nat) (k29 : Int32 → Int32 → Int32 → zM → Option (Int32 × zM)) (v2 : Int32) (v3 : Int32) (v5 : Int32) (v6 : Int32) (v7 : Int32) (v9 : Int32) (w0 : Int32) (w1 : Int32) (s : zM) : Option (Int32 × zM) :=
  if w1 = w0 then
    lt ((v6 ||| ((1 : Int32) <<< (v9 &&& 31)))) (fun y10 =>
    if zin v7 7 = true then
      bnd (f_X12_seenBy F (zg s 96 (v7).toNatClampNeg) v9 s) (fun r12 s11 =>
      lt (zsl s11 1 ((zgl s 1) * (((1000 : Int32) - r12)).toInt64)) (fun s13 =>
      if zin (v7 + (1 : Int32)) 7 = true then
        lt (zs s13 96 ((v7 + (1 : Int32))).toNatClampNeg v9) (fun s14 =>
        lt (v7 + (1 : Int32)) (fun y15 =>
        k29 v5 y10 y15 s14))
      else none))
    else none)
  else
    some ((0 : Int32), s)
def f_X12_walks_j130 (F : Nat) (k29 : Int32 → Int32 → Int32 → zM → Option (Int32 × zM)) (v2 : Int32) (v3 : Int32) (v5 : Int32) (v6 : Int32) (v7 : Int32) (v9 : Int32) (w0 : Int32) (s : zM) : Option (Int32 × zM) :=
  if v7 = (v3 - (1 : Int32)) then
    f_X12_walks_j143 F k29 v2 v3 v5 v6 v7 v9 (1 : Int32) w0 s
  else
    f_X12_walks_j143 F k29 v2 v3 v5 v6 v7 v9 (0 : Int32) w0 s
def f_X12_walks_j100 (F : Nat) (k29 : Int32 → Int32 → Int32 → zM → Option (Int32 × zM)) (v2 : Int32) (v3 : Int32) (v5 : Int32) (v6 : Int32) (v7 : Int32) (w0 : Int32) (s : zM) : Option (Int32 × zM) :=
  if w0 = (-1 : Int32) then
    some ((0 : Int32), s)
  else
    if ((v6 >>> (w0 &&& 31)) &&& (1 : Int32)) = (1 : Int32) then
      some ((0 : Int32), s)
    else
      if w0 = v2 then
        f_X12_walks_j130 F k29 v2 v3 v5 v6 v7 w0 (1 : Int32) s
      else
        f_X12_walks_j130 F k29 v2 v3 v5 v6 v7 w0 (0 : Int32) s
def f_X12_walks_L29 (F : Nat) (k201 : zM → Option (Int32 × zM)) (v2 : Int32) (v3 : Int32) : Nat → Int32 → Int32 → Int32 → zM → Option (Int32 × zM)
  | 0, _, _, _, _ => none
  | n + 1, v5, v6, v7, s =>
    if v7 < (6 : Int32) then
      if v7 < v3 then
        if zin v7 7 = true then
          if zin (zg s 96 (v7).toNatClampNeg) 16 = true then
            bnd (f_X12_beside (zg s 71 ((zg s 96 (v7).toNatClampNeg)).toNatClampNeg) (v5 - v5 / (3 : Int32) * (3 : Int32)) s) (fun r6 s5 =>
            lt ((v5 / (3 : Int32))) (fun y7 =>
            if r6 = (-1 : Int32) then
              f_X12_walks_j100 F (f_X12_walks_L29 F k201 v2 v3 n) v2 v3 y7 v6 v7 (-1 : Int32) s5
            else
              bnd (f_X12_guestAt F r6 s5) (fun r9 s8 =>
              f_X12_walks_j100 F (f_X12_walks_L29 F k201 v2 v3 n) v2 v3 y7 v6 v7 r9 s8)))
          else none
        else none
      else
        lt (zsl s 1 ((zgl s 1) * (1000 : Int64))) (fun s16 =>
        lt (v7 + (1 : Int32)) (fun y17 =>
        f_X12_walks_L29 F k201 v2 v3 n v5 v6 y17 s16))
    else
      k201 s
def f_X12_walks (F : Nat) (v1 : Int32) (v2 : Int32) (v3 : Int32) (v4 : Int32) (s : zM) : Option (Int32 × zM) :=
  lt (((1 : Int32) <<< (v1 &&& 31))) (fun y1 =>
  if zin (0 : Int32) 7 = true then
    lt (zs s 96 ((0 : Int32)).toNatClampNeg v1) (fun s2 =>
    lt (zs s2 69 42 v3) (fun s3 =>
    lt (zsl s3 1 (1 : Int64)) (fun s4 =>
    f_X12_walks_L29 F (fun s18 =>
      some ((1 : Int32), s18)) v2 v3 F v4 y1 (0 : Int32) s4)))
  else none)
def f_X12_isBetter_j19 (F : Nat) (s : zM) : Option (Int32 × zM) :=
  if (zg s 69 43) = 0 then
    some ((1 : Int32), s)
  else
    if 0 < (lg_cmp (zgl s 1) (zgl s 2)) then
      some ((1 : Int32), s)
    else
      some ((0 : Int32), s)
def f_X12_isBetter_L74 (F : Nat) (k124 : zM → Option (Int32 × zM)) : Nat → Int32 → zM → Option (Int32 × zM)
  | 0, _, _ => none
  | n + 1, v1, s =>
    if (zg s 69 42) < v1 then
      k124 s
    else
      if zin v1 7 = true then
        if zin v1 7 = true then
          if (zg s 96 (v1).toNatClampNeg) = (zg s 97 (v1).toNatClampNeg) then
            lt (v1 + (1 : Int32)) (fun y1 =>
            f_X12_isBetter_L74 F k124 n y1 s)
          else
            if zin v1 7 = true then
              if zin v1 7 = true then
                if (zg s 96 (v1).toNatClampNeg) < (zg s 97 (v1).toNatClampNeg) then
                  some ((1 : Int32), s)
                else
                  some ((0 : Int32), s)
              else none
            else none
        else none
      else none
def f_X12_isBetter (F : Nat) (s : zM) : Option (Int32 × zM) :=
  if (zg s 69 43) = 0 then
    f_X12_isBetter_j19 F s
  else
    if (lg_cmp (zgl s 1) (zgl s 2)) = 0 then
      if (zg s 69 42) = (zg s 69 43) then
        f_X12_isBetter_L74 F (fun s2 =>
          some ((0 : Int32), s2)) F (0 : Int32) s
      else
        if (zg s 69 42) < (zg s 69 43) then
          some ((1 : Int32), s)
        else
          some ((0 : Int32), s)
    else
      f_X12_isBetter_j19 F s
def f_X12_laysSmuggled_L72 (F : Nat) (k101 : zM → Option (Unit × zM)) (v1 : Int32) (v2 : Int32) (v3 : Int32) (v4 : Int32) (v5 : Int32) : Nat → Int32 → zM → Option (Unit × zM)
  | 0, _, _ => none
  | n + 1, v6, s =>
    if (zg s 69 42) < v6 then
      k101 s
    else
      if zin v6 7 = true then
        if zin v6 7 = true then
          lt (zs s 97 (v6).toNatClampNeg (zg s 96 (v6).toNatClampNeg)) (fun s10 =>
          lt (v6 + (1 : Int32)) (fun y11 =>
          f_X12_laysSmuggled_L72 F k101 v1 v2 v3 v4 v5 n y11 s10))
        else none
      else none
def f_X12_laysSmuggled_L24 (F : Nat) (k107 : zM → Option (Unit × zM)) (v1 : Int32) (v2 : Int32) (v3 : Int32) (v4 : Int32) : Nat → Int32 → zM → Option (Unit × zM)
  | 0, _, _ => none
  | n + 1, v5, s =>
    if v5 < v3 then
      bnd (f_X12_walks F v1 v2 v4 v5 s) (fun r4 s3 =>
      if r4 = 0 then
        lt (v5 + (1 : Int32)) (fun y5 =>
        f_X12_laysSmuggled_L24 F k107 v1 v2 v3 v4 n y5 s3)
      else
        bnd (f_X12_isBetter F s3) (fun r7 s6 =>
        if r7 = 0 then
          lt (v5 + (1 : Int32)) (fun y14 =>
          f_X12_laysSmuggled_L24 F k107 v1 v2 v3 v4 n y14 s6)
        else
          lt (zs s6 69 43 (zg s6 69 42)) (fun s8 =>
          lt (zsl s8 2 (zgl s8 1)) (fun s9 =>
          f_X12_laysSmuggled_L72 F (fun s12 =>
            lt (v5 + (1 : Int32)) (fun y13 =>
            f_X12_laysSmuggled_L24 F k107 v1 v2 v3 v4 n y13 s12)) v1 v2 v3 v4 v5 F (0 : Int32) s9))))
    else
      k107 s
def f_X12_laysSmuggled_L10 (F : Nat) (k113 : zM → Option (Unit × zM)) (v1 : Int32) (v2 : Int32) : Nat → Int32 → Int32 → zM → Option (Unit × zM)
  | 0, _, _, _ => none
  | n + 1, v3, v4, s =>
    if v4 < (7 : Int32) then
      lt (((3 : Int32) * v3)) (fun y2 =>
      f_X12_laysSmuggled_L24 F (fun s15 =>
        lt (v4 + (1 : Int32)) (fun y16 =>
        f_X12_laysSmuggled_L10 F k113 v1 v2 n y2 y16 s15)) v1 v2 y2 v4 F (0 : Int32) s)
    else
      k113 s
def f_X12_laysSmuggled (F : Nat) (v1 : Int32) (v2 : Int32) (s : zM) : Option (Unit × zM) :=
  lt (zs s 69 43 (0 : Int32)) (fun s1 =>
  f_X12_laysSmuggled_L10 F (fun s17 =>
    some ((), s17)) v1 v2 F (1 : Int32) (1 : Int32) s1)
def f_X12_gcd_L6 (F : Nat) (k31 : Int64 → zM → Option (Int64 × zM)) : Nat → Int64 → Int64 → zM → Option (Int64 × zM)
  | 0, _, _, _ => none
  | n + 1, v4, v6, s =>
    if (lg_cmp v6 (0 : Int64)) = 0 then
      k31 v4 s
    else
      if v6 = 0 then none else
      lt ((v4 - v4 / v6 * v6)) (fun y1 =>
      f_X12_gcd_L6 F k31 n v6 y1 s)
def f_X12_gcd (F : Nat) (v0 : Int64) (v2 : Int64) (s : zM) : Option (Int64 × zM) :=
  f_X12_gcd_L6 F (fun y3 s2 =>
    some (y3, s2)) F v0 v2 s
def f_X12_smuggled_j61 (F : Nat) (v1 : Int32) (v2 : Int32) (v3 : Int32) (s : zM) : Option (Int64 × zM) :=
  bnd (f_X12_laysSmuggled F v1 v2 s) (fun _ s11 =>
  if (zg s11 69 43) = 0 then
    some ((-2 : Int64), s11)
  else
    if v3 = (2 : Int32) then
      some (((zg s11 69 43)).toInt64, s11)
    else
      if (2 : Int32) < v3 then
        if (zg s11 69 43) < (v3 - (10 : Int32)) then
          some ((-1 : Int64), s11)
        else
          if zin (v3 - (10 : Int32)) 7 = true then
            some (((zg s11 97 ((v3 - (10 : Int32))).toNatClampNeg)).toInt64, s11)
          else none
      else
        bnd (f_X12_gcd F (zgl s11 2) (1000000000000000000 : Int64) s11) (fun r13 s12 =>
        if v3 = 0 then
          if r13 = 0 then none else
          some (((zgl s12 2) / r13), s12)
        else
          if r13 = 0 then none else
          some (((1000000000000000000 : Int64) / r13), s12)))
def f_X12_smuggled (F : Nat) (v1 : Int32) (v2 : Int32) (v3 : Int32) (s : zM) : Option (Int64 × zM) :=
  bnd (f_X12_isGuest v1 s) (fun r2 s1 =>
  if r2 = 0 then
    some ((-1 : Int64), s1)
  else
    bnd (f_X12_isGuest v2 s1) (fun r4 s3 =>
    if r4 = 0 then
      some ((-1 : Int64), s3)
    else
      if v1 = v2 then
        some ((-1 : Int64), s3)
      else
        bnd (f_X12_sits v1 s3) (fun r6 s5 =>
        if r6 = 0 then
          some ((-1 : Int64), s5)
        else
          bnd (f_X12_sits v2 s5) (fun r8 s7 =>
          if r8 = 0 then
            some ((-1 : Int64), s7)
          else
            bnd (f_X12_in v3 (0 : Int32) (2 : Int32) s7) (fun r10 s9 =>
            if r10 = 0 then
              bnd (f_X12_in v3 (10 : Int32) (16 : Int32) s9) (fun r15 s14 =>
              if r15 = 0 then
                some ((-1 : Int64), s14)
              else
                f_X12_smuggled_j61 F v1 v2 v3 s14)
            else
              f_X12_smuggled_j61 F v1 v2 v3 s9)))))
def f_X12_sumOf_L41 (F : Nat) (k96 : Int32 → zM → Option (Int32 × zM)) (v2 : Int32) : Nat → Int32 → Int32 → zM → Option (Int32 × zM)
  | 0, _, _, _ => none
  | n + 1, v1, v3, s =>
    if v3 < (zg s 69 0) then
      bnd (f_X12_sits v3 s) (fun r8 s7 =>
      if r8 = 0 then
        lt (v3 + (1 : Int32)) (fun y9 =>
        f_X12_sumOf_L41 F k96 v2 n v1 y9 s7)
      else
        if zin v2 16 = true then
          if zin v3 16 = true then
            bnd (f_X12_size (((zg s7 71 (v2).toNatClampNeg) / (2 : Int32)) - ((zg s7 71 (v3).toNatClampNeg) / (2 : Int32))) s7) (fun r11 s10 =>
            if r11 < (3 : Int32) then
              bnd (f_X12_harmOf F v2 v3 s10) (fun r14 s13 =>
              lt ((v1 + r14)) (fun y15 =>
              lt (v3 + (1 : Int32)) (fun y16 =>
              f_X12_sumOf_L41 F k96 v2 n y15 y16 s13)))
            else
              lt (v3 + (1 : Int32)) (fun y12 =>
              f_X12_sumOf_L41 F k96 v2 n v1 y12 s10))
          else none
        else none)
    else
      k96 v1 s
def f_X12_sumOf_L4 (F : Nat) (k102 : Int32 → zM → Option (Int32 × zM)) : Nat → Int32 → Int32 → zM → Option (Int32 × zM)
  | 0, _, _, _ => none
  | n + 1, v1, v2, s =>
    if v2 < (zg s 69 0) then
      bnd (f_X12_sits v2 s) (fun r2 s1 =>
      if r2 = 0 then
        lt (v2 + (1 : Int32)) (fun y20 =>
        f_X12_sumOf_L4 F k102 n v1 y20 s1)
      else
        if zin v2 16 = true then
          bnd (f_X12_worthOf F v2 (zg s1 71 (v2).toNatClampNeg) s1) (fun r4 s3 =>
          lt ((v1 - r4)) (fun y5 =>
          lt ((v2 + (1 : Int32))) (fun y6 =>
          f_X12_sumOf_L41 F (fun y18 s17 =>
            lt (v2 + (1 : Int32)) (fun y19 =>
            f_X12_sumOf_L4 F k102 n y18 y19 s17)) v2 F y5 y6 s3)))
        else none)
    else
      k102 v1 s
def f_X12_sumOf (F : Nat) (s : zM) : Option (Int32 × zM) :=
  f_X12_sumOf_L4 F (fun y22 s21 =>
    some (y22, s21)) F (0 : Int32) (0 : Int32) s
def f_X12_sum (F : Nat) (s : zM) : Option (Int32 × zM) :=
  bnd (f_X12_sumOf F s) (fun r2 s1 =>
  some (r2, s1))
def f_X12_bits_L4 (F : Nat) (k24 : Int32 → zM → Option (Int32 × zM)) (v0 : Int32) : Nat → Int32 → Int32 → zM → Option (Int32 × zM)
  | 0, _, _, _ => none
  | n + 1, v1, v2, s =>
    if v2 < (16 : Int32) then
      lt ((v1 + ((v0 >>> (v2 &&& 31)) &&& (1 : Int32)))) (fun y1 =>
      lt (v2 + (1 : Int32)) (fun y2 =>
      f_X12_bits_L4 F k24 v0 n y1 y2 s))
    else
      k24 v1 s
def f_X12_bits (F : Nat) (v0 : Int32) (s : zM) : Option (Int32 × zM) :=
  f_X12_bits_L4 F (fun y4 s3 =>
    some (y4, s3)) v0 F (0 : Int32) (0 : Int32) s
def f_X12_takesSeats_L53 (F : Nat) (k113 : Int32 → zM → Option (Int32 × zM)) (v1 : Int32) (v2 : Int32) (v3 : Int32) (v4 : Int32) : Nat → Int32 → zM → Option (Int32 × zM)
  | 0, _, _ => none
  | n + 1, v6, s =>
    if 0 < v6 then
      if zin (v6 - (1 : Int32)) 7 = true then
        if (zg s 98 ((v6 - (1 : Int32))).toNatClampNeg) < v4 then
          k113 v6 s
        else
          if zin (v6 - (1 : Int32)) 7 = true then
            if (zg s 98 ((v6 - (1 : Int32))).toNatClampNeg) = v4 then
              some ((0 : Int32), s)
            else
              if zin (v6 - (1 : Int32)) 7 = true then
                if zin v6 7 = true then
                  lt (zs s 98 (v6).toNatClampNeg (zg s 98 ((v6 - (1 : Int32))).toNatClampNeg)) (fun s6 =>
                  lt ((v6 - (1 : Int32))) (fun y7 =>
                  f_X12_takesSeats_L53 F k113 v1 v2 v3 v4 n y7 s6))
                else none
              else none
          else none
      else none
    else
      k113 v6 s
def f_X12_takesSeats_L2 (F : Nat) (k128 : zM → Option (Int32 × zM)) (v1 : Int32) (v2 : Int32) : Nat → Int32 → zM → Option (Int32 × zM)
  | 0, _, _ => none
  | n + 1, v3, s =>
    if v3 < v2 then
      if zin v3 220 = true then
        lt ((zg s 74 (v3).toNatClampNeg)) (fun y1 =>
        bnd (f_X12_isSeat y1 s) (fun r3 s2 =>
        if r3 = 0 then
          some ((0 : Int32), s2)
        else
          bnd (f_X12_guestAt F y1 s2) (fun r5 s4 =>
          if r5 = (-1 : Int32) then
            f_X12_takesSeats_L53 F (fun y9 s8 =>
              if zin y9 7 = true then
                lt (zs s8 98 (y9).toNatClampNeg y1) (fun s10 =>
                lt (v3 + (1 : Int32)) (fun y11 =>
                f_X12_takesSeats_L2 F k128 v1 v2 n y11 s10))
              else none) v1 v2 v3 y1 F v3 s4
          else
            if ((v1 >>> (r5 &&& 31)) &&& (1 : Int32)) = 0 then
              some ((0 : Int32), s4)
            else
              f_X12_takesSeats_L53 F (fun y13 s12 =>
                if zin y13 7 = true then
                  lt (zs s12 98 (y13).toNatClampNeg y1) (fun s14 =>
                  lt (v3 + (1 : Int32)) (fun y15 =>
                  f_X12_takesSeats_L2 F k128 v1 v2 n y15 s14))
                else none) v1 v2 v3 y1 F v3 s4)))
      else none
    else
      k128 s
def f_X12_takesSeats_L130 (F : Nat) (k164 : zM → Option (Int32 × zM)) (v1 : Int32) : Nat → Int32 → zM → Option (Int32 × zM)
  | 0, _, _ => none
  | n + 1, v3, s =>
    if v3 < (16 : Int32) then
      if ((v1 >>> (v3 &&& 31)) &&& (1 : Int32)) = (1 : Int32) then
        if zin v3 16 = true then
          if (zg s 71 (v3).toNatClampNeg) = (-2 : Int32) then
            some ((0 : Int32), s)
          else
            lt (v3 + (1 : Int32)) (fun y18 =>
            f_X12_takesSeats_L130 F k164 v1 n y18 s)
        else none
      else
        lt (v3 + (1 : Int32)) (fun y17 =>
        f_X12_takesSeats_L130 F k164 v1 n y17 s)
    else
      k164 s
def f_X12_takesSeats (F : Nat) (v1 : Int32) (v2 : Int32) (s : zM) : Option (Int32 × zM) :=
  f_X12_takesSeats_L2 F (fun s16 =>
    f_X12_takesSeats_L130 F (fun s19 =>
      some ((1 : Int32), s19)) v1 F (0 : Int32) s16) v1 v2 F (0 : Int32) s
def f_X12_seatsBy_j77 (F : Nat) (k61 : Int32 → Int32 → zM → Option (Unit × zM)) (v1 : Int32) (v2 : Int32) (v5 : Int32) (v6 : Int32) (v7 : Int32) (v8 : Int32) (v9 : Int32) (v10 : Int32) (v11 : Int32) (s : zM) : Option (Unit × zM) :=
  if ((v7 >>> (v11 &&& 31)) &&& (1 : Int32)) = (1 : Int32) then
    lt ((v11 + (1 : Int32))) (fun y6 =>
    k61 v10 y6 s)
  else
    lt ((v10 - (1 : Int32))) (fun y4 =>
    lt ((v11 + (1 : Int32))) (fun y5 =>
    k61 y4 y5 s))
def f_X12_seatsBy_L61 (F : Nat) (k108 : Int32 → zM → Option (Unit × zM)) (v1 : Int32) (v2 : Int32) (v5 : Int32) (v6 : Int32) (v7 : Int32) (v8 : Int32) (v9 : Int32) : Nat → Int32 → Int32 → zM → Option (Unit × zM)
  | 0, _, _, _ => none
  | n + 1, v10, v11, s =>
    if ((v7 >>> (v11 &&& 31)) &&& (1 : Int32)) = (1 : Int32) then
      f_X12_seatsBy_j77 F (f_X12_seatsBy_L61 F k108 v1 v2 v5 v6 v7 v8 v9 n) v1 v2 v5 v6 v7 v8 v9 v10 v11 s
    else
      if 0 < v10 then
        f_X12_seatsBy_j77 F (f_X12_seatsBy_L61 F k108 v1 v2 v5 v6 v7 v8 v9 n) v1 v2 v5 v6 v7 v8 v9 v10 v11 s
      else
        k108 v11 s
def f_X12_seatsBy_L16 (F : Nat) (k143 : zM → Option (Unit × zM)) (v1 : Int32) (v2 : Int32) : Nat → Int32 → Int32 → Int32 → Int32 → Int32 → zM → Option (Unit × zM)
  | 0, _, _, _, _, _, _ => none
  | n + 1, v5, v6, v7, v8, v9, s =>
    if v9 < (16 : Int32) then
      if ((v1 >>> (v9 &&& 31)) &&& (1 : Int32)) = 0 then
        lt (v9 + (1 : Int32)) (fun y13 =>
        f_X12_seatsBy_L16 F k143 v1 v2 n v5 v6 v7 v8 y13 s)
      else
        if (v2 - v8) = 0 then none else
        lt ((v6 / (v2 - v8))) (fun y1 =>
        if y1 = 0 then none else
        lt ((v5 / y1)) (fun y2 =>
        if y1 = 0 then none else
        lt ((v5 - v5 / y1 * y1)) (fun y3 =>
        f_X12_seatsBy_L61 F (fun y8 s7 =>
          lt ((v7 ||| ((1 : Int32) <<< (y8 &&& 31)))) (fun y9 =>
          if zin y8 7 = true then
            if zin v9 16 = true then
              lt (zs s7 71 (v9).toNatClampNeg (zg s7 98 (y8).toNatClampNeg)) (fun s10 =>
              lt ((v8 + (1 : Int32))) (fun y11 =>
              lt (v9 + (1 : Int32)) (fun y12 =>
              f_X12_seatsBy_L16 F k143 v1 v2 n y3 y1 y9 y11 y12 s10)))
            else none
          else none)) v1 v2 y3 y1 v7 v8 v9 F y2 (0 : Int32) s)))
    else
      k143 s
def f_X12_seatsBy (F : Nat) (v1 : Int32) (v2 : Int32) (v3 : Int32) (v4 : Int32) (s : zM) : Option (Unit × zM) :=
  f_X12_seatsBy_L16 F (fun s14 =>
    some ((), s14)) v1 v2 F v3 v4 (0 : Int32) (0 : Int32) (0 : Int32) s
def f_X12_seating_L95 (F : Nat) (k122 : zM → Option (Int32 × zM)) (v1 : Int32) (v2 : Int32) (v3 : Int32) : Nat → Int32 → zM → Option (Int32 × zM)
  | 0, _, _ => none
  | n + 1, v4, s =>
    if v4 < (16 : Int32) then
      if zin v4 16 = true then
        if zin v4 16 = true then
          lt (zs s 99 (v4).toNatClampNeg (zg s 71 (v4).toNatClampNeg)) (fun s14 =>
          lt (v4 + (1 : Int32)) (fun y15 =>
          f_X12_seating_L95 F k122 v1 v2 v3 n y15 s14))
        else none
      else none
    else
      k122 s
def f_X12_seating_L128 (F : Nat) (k147 : Int32 → zM → Option (Int32 × zM)) (v1 : Int32) (v2 : Int32) (v3 : Int32) : Nat → Int32 → Int32 → zM → Option (Int32 × zM)
  | 0, _, _, _ => none
  | n + 1, v4, v5, s =>
    if v2 < v5 then
      k147 v4 s
    else
      lt ((v4 * v5)) (fun y17 =>
      lt (v5 + (1 : Int32)) (fun y18 =>
      f_X12_seating_L128 F k147 v1 v2 v3 n y17 y18 s))
def f_X12_seating_L158 (F : Nat) (k205 : Int32 → Int32 → zM → Option (Int32 × zM)) (v1 : Int32) (v2 : Int32) (v3 : Int32) (v4 : Int32) : Nat → Int32 → Int32 → Int32 → zM → Option (Int32 × zM)
  | 0, _, _, _, _ => none
  | n + 1, v5, v6, v7, s =>
    if v7 < v4 then
      bnd (f_X12_seatsBy F v1 v2 v7 v4 s) (fun _ s21 =>
      bnd (f_X12_sumOf F s21) (fun r23 s22 =>
      if r23 < v6 then
        lt (v7 + (1 : Int32)) (fun y24 =>
        f_X12_seating_L158 F k205 v1 v2 v3 v4 n v7 r23 y24 s22)
      else
        lt (v7 + (1 : Int32)) (fun y25 =>
        f_X12_seating_L158 F k205 v1 v2 v3 v4 n v5 v6 y25 s22)))
    else
      k205 v5 v6 s
def f_X12_seating_L241 (F : Nat) (k274 : zM → Option (Int32 × zM)) (v3 : Int32) (v7 : Int32) : Nat → Int32 → zM → Option (Int32 × zM)
  | 0, _, _ => none
  | n + 1, v8, s =>
    if v8 < (16 : Int32) then
      if v3 = (16 : Int32) then
        k274 s
      else
        if zin v8 16 = true then
          if zin v8 16 = true then
            lt (zs s 71 (v8).toNatClampNeg (zg s 99 (v8).toNatClampNeg)) (fun s32 =>
            lt (v8 + (1 : Int32)) (fun y33 =>
            f_X12_seating_L241 F k274 v3 v7 n y33 s32))
          else none
        else none
    else
      k274 s
def f_X12_seating_j74 (F : Nat) (v1 : Int32) (v2 : Int32) (v3 : Int32) (s : zM) : Option (Int32 × zM) :=
  lt (zs s 69 7 (0 : Int32)) (fun s11 =>
  bnd (f_X12_takesSeats F v1 v2 s11) (fun r13 s12 =>
  if r13 = 0 then
    some ((-999999 : Int32), s12)
  else
    f_X12_seating_L95 F (fun s16 =>
      f_X12_seating_L128 F (fun y20 s19 =>
        f_X12_seating_L158 F (fun y27 y28 s26 =>
          bnd (f_X12_seatsBy F v1 v2 y27 y20 s26) (fun _ s29 =>
          bnd (f_X12_in v3 (0 : Int32) (15 : Int32) s29) (fun r31 s30 =>
          if r31 = 0 then
            f_X12_seating_L241 F (fun s34 =>
              some (y28, s34)) v3 y28 F (0 : Int32) s30
          else
            if zin v3 16 = true then
              lt ((zg s30 71 (v3).toNatClampNeg)) (fun y35 =>
              f_X12_seating_L241 F (fun s36 =>
                some (y35, s36)) v3 y35 F (0 : Int32) s30)
            else none))) v1 v2 v3 y20 F (0 : Int32) (1000000000 : Int32) (0 : Int32) s19) v1 v2 v3 F (1 : Int32) (2 : Int32) s16) v1 v2 v3 F (0 : Int32) s12))
def f_X12_seating (F : Nat) (v1 : Int32) (v2 : Int32) (v3 : Int32) (s : zM) : Option (Int32 × zM) :=
  bnd (f_X12_in v1 (1 : Int32) (((1 : Int32) <<< ((zg s 69 0) &&& 31)) - (1 : Int32)) s) (fun r2 s1 =>
  if r2 = 0 then
    some ((-1000000 : Int32), s1)
  else
    bnd (f_X12_in v2 (1 : Int32) (7 : Int32) s1) (fun r4 s3 =>
    if r4 = 0 then
      some ((-1000000 : Int32), s3)
    else
      bnd (f_X12_bits F v1 s3) (fun r6 s5 =>
      if r6 = v2 then
        if (zg s5 69 7) < v2 then
          some ((-1000000 : Int32), s5)
        else
          bnd (f_X12_in v3 (-1 : Int32) (16 : Int32) s5) (fun r8 s7 =>
          if r8 = 0 then
            some ((-1000000 : Int32), s7)
          else
            bnd (f_X12_in v3 (0 : Int32) (15 : Int32) s7) (fun r10 s9 =>
            if r10 = 0 then
              f_X12_seating_j74 F v1 v2 v3 s9
            else
              if ((v1 >>> (v3 &&& 31)) &&& (1 : Int32)) = 0 then
                some ((-1000000 : Int32), s9)
              else
                f_X12_seating_j74 F v1 v2 v3 s9))
      else
        some ((-1000000 : Int32), s5))))
def f_X12_changes (F : Nat) (v1 : Int32) (v2 : Int32) (s : zM) : Option (Unit × zM) :=
  bnd (f_X12_guestAt F v2 s) (fun r2 s1 =>
  if zin v1 16 = true then
    lt ((zg s1 71 (v1).toNatClampNeg)) (fun y3 =>
    if zin v1 16 = true then
      lt (zs s1 71 (v1).toNatClampNeg v2) (fun s4 =>
      if r2 = (-1 : Int32) then
        some ((), s4)
      else
        if zin r2 16 = true then
          lt (zs s4 71 (r2).toNatClampNeg y3) (fun s5 =>
          some ((), s5))
        else none)
    else none)
  else none)
def f_X12_laysExchange_j76 (F : Nat) (k46 : Int32 → Int32 → zM → Option (Int32 × zM)) (v2 : Int32) (v3 : Int32) (v1 : Int32) (v4 : Int32) (s : zM) : Option (Int32 × zM) :=
  bnd (f_X12_changes F v2 v4 s) (fun _ s10 =>
  bnd (f_X12_sumOf F s10) (fun r12 s11 =>
  bnd (f_X12_changes F v2 v3 s11) (fun _ s13 =>
  if r12 < v1 then
    lt (zs s13 69 48 v2) (fun s14 =>
    lt (zs s14 69 49 v4) (fun s15 =>
    lt (v4 + (1 : Int32)) (fun y16 =>
    k46 r12 y16 s15)))
  else
    lt (v4 + (1 : Int32)) (fun y17 =>
    k46 v1 y17 s13))))
def f_X12_laysExchange_L46 (F : Nat) (k124 : Int32 → zM → Option (Int32 × zM)) (v2 : Int32) (v3 : Int32) : Nat → Int32 → Int32 → zM → Option (Int32 × zM)
  | 0, _, _, _ => none
  | n + 1, v1, v4, s =>
    if v4 < (40 : Int32) then
      bnd (f_X12_guestAt F v4 s) (fun r9 s8 =>
      if r9 = (-1 : Int32) then
        f_X12_laysExchange_j76 F (f_X12_laysExchange_L46 F k124 v2 v3 n) v2 v3 v1 v4 s8
      else
        if v2 < r9 then
          f_X12_laysExchange_j76 F (f_X12_laysExchange_L46 F k124 v2 v3 n) v2 v3 v1 v4 s8
        else
          lt (v4 + (1 : Int32)) (fun y18 =>
          f_X12_laysExchange_L46 F k124 v2 v3 n v1 y18 s8))
    else
      k124 v1 s
def f_X12_laysExchange_L17 (F : Nat) (k130 : Int32 → zM → Option (Int32 × zM)) : Nat → Int32 → Int32 → zM → Option (Int32 × zM)
  | 0, _, _, _ => none
  | n + 1, v1, v2, s =>
    if v2 < (zg s 69 0) then
      bnd (f_X12_sits v2 s) (fun r6 s5 =>
      if r6 = 0 then
        lt (v2 + (1 : Int32)) (fun y22 =>
        f_X12_laysExchange_L17 F k130 n v1 y22 s5)
      else
        if zin v2 16 = true then
          lt ((zg s5 71 (v2).toNatClampNeg)) (fun y7 =>
          f_X12_laysExchange_L46 F (fun y20 s19 =>
            lt (v2 + (1 : Int32)) (fun y21 =>
            f_X12_laysExchange_L17 F k130 n y20 y21 s19)) v2 y7 F v1 (0 : Int32) s5)
        else none)
    else
      k130 v1 s
def f_X12_laysExchange (F : Nat) (s : zM) : Option (Int32 × zM) :=
  bnd (f_X12_sumOf F s) (fun r2 s1 =>
  lt (zs s1 69 48 (-1 : Int32)) (fun s3 =>
  lt (zs s3 69 49 (-1 : Int32)) (fun s4 =>
  f_X12_laysExchange_L17 F (fun y24 s23 =>
    some (y24, s23)) F r2 (0 : Int32) s4)))
def f_X12_exchange (F : Nat) (v1 : Int32) (s : zM) : Option (Int32 × zM) :=
  bnd (f_X12_in v1 (0 : Int32) (2 : Int32) s) (fun r2 s1 =>
  if r2 = 0 then
    some ((-1000000 : Int32), s1)
  else
    bnd (f_X12_laysExchange F s1) (fun r4 s3 =>
    if v1 = (2 : Int32) then
      some (r4, s3)
    else
      if (zg s3 69 48) = (-1 : Int32) then
        some ((-2 : Int32), s3)
      else
        if v1 = 0 then
          some ((zg s3 69 48), s3)
        else
          some ((zg s3 69 49), s3)))
def f_X12_exchanges_L7 (F : Nat) (k45 : Int32 → zM → Option (Int32 × zM)) : Nat → Int32 → zM → Option (Int32 × zM)
  | 0, _, _ => none
  | n + 1, v1, s =>
    if v1 < (50 : Int32) then
      if (zg s 69 48) = (-1 : Int32) then
        k45 v1 s
      else
        bnd (f_X12_changes F (zg s 69 48) (zg s 69 49) s) (fun _ s3 =>
        lt ((v1 + (1 : Int32))) (fun y4 =>
        bnd (f_X12_laysExchange F s3) (fun r6 s5 =>
        f_X12_exchanges_L7 F k45 n y4 s5)))
    else
      k45 v1 s
def f_X12_exchanges (F : Nat) (s : zM) : Option (Int32 × zM) :=
  bnd (f_X12_laysExchange F s) (fun r2 s1 =>
  f_X12_exchanges_L7 F (fun y8 s7 =>
    some (y8, s7)) F (0 : Int32) s1)
def f_X12_isStray (v1 : Int32) (s : zM) : Option (Int32 × zM) :=
  bnd (f_X12_sits v1 s) (fun r2 s1 =>
  if r2 = 0 then
    some ((0 : Int32), s1)
  else
    if zin v1 16 = true then
      if zin v1 16 = true then
        if ((zg s1 71 (v1).toNatClampNeg) - (zg s1 71 (v1).toNatClampNeg) / (2 : Int32) * (2 : Int32)) = (zg s1 70 (v1).toNatClampNeg) then
          some ((0 : Int32), s1)
        else
          some ((1 : Int32), s1)
      else none
    else none)
def f_X12_strays_L4 (F : Nat) (k36 : Int32 → zM → Option (Int32 × zM)) : Nat → Int32 → Int32 → zM → Option (Int32 × zM)
  | 0, _, _, _ => none
  | n + 1, v1, v2, s =>
    if v2 < (zg s 69 0) then
      bnd (f_X12_isStray v2 s) (fun r2 s1 =>
      if r2 = 0 then
        lt (v2 + (1 : Int32)) (fun y3 =>
        f_X12_strays_L4 F k36 n v1 y3 s1)
      else
        lt ((v1 ||| ((1 : Int32) <<< (v2 &&& 31)))) (fun y4 =>
        lt (v2 + (1 : Int32)) (fun y5 =>
        f_X12_strays_L4 F k36 n y4 y5 s1)))
    else
      k36 v1 s
def f_X12_strays (F : Nat) (s : zM) : Option (Int32 × zM) :=
  f_X12_strays_L4 F (fun y7 s6 =>
    some (y7, s6)) F (0 : Int32) (0 : Int32) s
def f_X12_home_j37 (F : Nat) (k6 : Int32 → Int32 → Int32 → zM → Option (Int32 × zM)) (v2 : Int32) (v3 : Int32) (w0 : Int32) (w1 : Int32) (s : zM) : Option (Int32 × zM) :=
  lt ((w1 + w0)) (fun y3 =>
  bnd (f_X12_isStray v3 s) (fun r5 s4 =>
  if r5 = 0 then
    lt ((v2 + (0 : Int32))) (fun y6 =>
    lt (v3 + (1 : Int32)) (fun y7 =>
    k6 y3 y6 y7 s4))
  else
    if zin v3 16 = true then
      if (zg s4 70 (v3).toNatClampNeg) = (1 : Int32) then
        lt ((v2 + (1 : Int32))) (fun y10 =>
        lt (v3 + (1 : Int32)) (fun y11 =>
        k6 y3 y10 y11 s4))
      else
        lt ((v2 + (0 : Int32))) (fun y8 =>
        lt (v3 + (1 : Int32)) (fun y9 =>
        k6 y3 y8 y9 s4))
    else none))
def f_X12_home_j36 (F : Nat) (k6 : Int32 → Int32 → Int32 → zM → Option (Int32 × zM)) (v2 : Int32) (v3 : Int32) (w0 : Int32) (s : zM) : Option (Int32 × zM) :=
  f_X12_home_j37 F k6 v2 v3 (0 : Int32) w0 s
def f_X12_home_L6 (F : Nat) (k71 : Int32 → Int32 → zM → Option (Int32 × zM)) : Nat → Int32 → Int32 → Int32 → zM → Option (Int32 × zM)
  | 0, _, _, _, _ => none
  | n + 1, v1, v2, v3, s =>
    if v3 < (zg s 69 0) then
      bnd (f_X12_isStray v3 s) (fun r2 s1 =>
      if r2 = 0 then
        f_X12_home_j36 F (f_X12_home_L6 F k71 n) v2 v3 v1 s1
      else
        if zin v3 16 = true then
          if (zg s1 70 (v3).toNatClampNeg) = 0 then
            f_X12_home_j37 F (f_X12_home_L6 F k71 n) v2 v3 (1 : Int32) v1 s1
          else
            f_X12_home_j36 F (f_X12_home_L6 F k71 n) v2 v3 v1 s1
        else none)
    else
      k71 v1 v2 s
def f_X12_home (F : Nat) (s : zM) : Option (Int32 × zM) :=
  f_X12_home_L6 F (fun y13 y14 s12 =>
    if y14 < y13 then
      some (y13, s12)
    else
      some (y14, s12)) F (0 : Int32) (0 : Int32) (0 : Int32) s
def f_X12_heir_j21 (v1 : Int32) (v2 : Int32) (s : zM) : Option (Int32 × zM) :=
  if v1 = v2 then
    some ((0 : Int32), s)
  else
    if zin v1 16 = true then
      lt (zs s 73 (v1).toNatClampNeg v2) (fun s3 =>
      some ((1 : Int32), s3))
    else none
def f_X12_heir (v1 : Int32) (v2 : Int32) (s : zM) : Option (Int32 × zM) :=
  bnd (f_X12_isGuest v1 s) (fun r2 s1 =>
  if r2 = 0 then
    some ((0 : Int32), s1)
  else
    if v2 = (-1 : Int32) then
      f_X12_heir_j21 v1 v2 s1
    else
      bnd (f_X12_isGuest v2 s1) (fun r5 s4 =>
      if r5 = 0 then
        some ((0 : Int32), s4)
      else
        f_X12_heir_j21 v1 v2 s4))
def f_X12_dies_L54 (F : Nat) (k98 : zM → Option (Int32 × zM)) (v2 : Int32) : Nat → Int32 → Int32 → zM → Option (Int32 × zM)
  | 0, _, _, _ => none
  | n + 1, v3, v4, s =>
    if v4 < (15 : Int32) then
      if v3 = (-1 : Int32) then
        k98 s
      else
        if zin v3 16 = true then
          if (zg s 71 (v3).toNatClampNeg) = (-1 : Int32) then
            if zin v3 16 = true then
              lt (zs s 71 (v3).toNatClampNeg v2) (fun s8 =>
              some (v3, s8))
            else none
          else
            if zin v3 16 = true then
              lt ((zg s 73 (v3).toNatClampNeg)) (fun y6 =>
              lt (v4 + (1 : Int32)) (fun y7 =>
              f_X12_dies_L54 F k98 v2 n y6 y7 s))
            else none
        else none
    else
      k98 s
def f_X12_dies (F : Nat) (v1 : Int32) (s : zM) : Option (Int32 × zM) :=
  bnd (f_X12_isGuest v1 s) (fun r2 s1 =>
  if r2 = 0 then
    some ((-1 : Int32), s1)
  else
    if zin v1 16 = true then
      if (zg s1 71 (v1).toNatClampNeg) = (-2 : Int32) then
        some ((-1 : Int32), s1)
      else
        if zin v1 16 = true then
          lt ((zg s1 71 (v1).toNatClampNeg)) (fun y3 =>
          if zin v1 16 = true then
            lt (zs s1 71 (v1).toNatClampNeg (-2 : Int32)) (fun s4 =>
            if y3 = (-1 : Int32) then
              some ((-2 : Int32), s4)
            else
              if zin v1 16 = true then
                lt ((zg s4 73 (v1).toNatClampNeg)) (fun y5 =>
                f_X12_dies_L54 F (fun s9 =>
                  some ((-2 : Int32), s9)) y3 F y5 (0 : Int32) s4)
              else none)
          else none)
        else none
    else none)
def f_X12_knives (v1 : Int32) (v2 : Int32) (s : zM) : Option (Int32 × zM) :=
  bnd (f_X12_isSeat v1 s) (fun r2 s1 =>
  if r2 = 0 then
    some ((0 : Int32), s1)
  else
    bnd (f_X12_in v2 (0 : Int32) (9 : Int32) s1) (fun r4 s3 =>
    if r4 = 0 then
      some ((0 : Int32), s3)
    else
      if zin v1 40 = true then
        lt (zs s3 100 (v1).toNatClampNeg v2) (fun s5 =>
        some ((1 : Int32), s5))
      else none))
def f_X12_put (v1 : Int32) (v2 : Int32) (v3 : Int32) (s : zM) : Option (Int32 × zM) :=
  bnd (f_X12_isSeat v1 s) (fun r2 s1 =>
  if r2 = 0 then
    some ((0 : Int32), s1)
  else
    bnd (f_X12_isSeat v2 s1) (fun r4 s3 =>
    if r4 = 0 then
      some ((0 : Int32), s3)
    else
      if v1 = v2 then
        some ((0 : Int32), s3)
      else
        if v3 < (1 : Int32) then
          some ((0 : Int32), s3)
        else
          if zin v1 40 = true then
            if (zg s3 100 (v1).toNatClampNeg) < v3 then
              some ((0 : Int32), s3)
            else
              if zin v2 40 = true then
                if (99 : Int32) < ((zg s3 100 (v2).toNatClampNeg) + v3) then
                  some ((0 : Int32), s3)
                else
                  if zin v1 40 = true then
                    if zin v1 40 = true then
                      lt (zs s3 100 (v1).toNatClampNeg ((zg s3 100 (v1).toNatClampNeg) - v3)) (fun s5 =>
                      if zin v2 40 = true then
                        if zin v2 40 = true then
                          lt (zs s5 100 (v2).toNatClampNeg ((zg s5 100 (v2).toNatClampNeg) + v3)) (fun s6 =>
                          some ((1 : Int32), s6))
                        else none
                      else none)
                    else none
                  else none
              else none
          else none))
def f_X12_counted (v1 : Int32) (v2 : Int32) (v3 : Int32) (v4 : Int32) (s : zM) : Option (Int32 × zM) :=
  bnd (f_X12_in v1 (0 : Int32) (1 : Int32) s) (fun r2 s1 =>
  if r2 = 0 then
    some ((-1 : Int32), s1)
  else
    bnd (f_X12_isPlace v2 s1) (fun r4 s3 =>
    if r4 = 0 then
      some ((-1 : Int32), s3)
    else
      bnd (f_X12_isPlace v3 s3) (fun r6 s5 =>
      if r6 = 0 then
        some ((-1 : Int32), s5)
      else
        if v3 < v2 then
          some ((-1 : Int32), s5)
        else
          bnd (f_X12_in v4 (0 : Int32) (999 : Int32) s5) (fun r8 s7 =>
          if r8 = 0 then
            some ((-1 : Int32), s7)
          else
            if (zg s7 69 50) = (20 : Int32) then
              some ((-1 : Int32), s7)
            else
              if zin (zg s7 69 50) 20 = true then
                lt (zs s7 101 ((zg s7 69 50)).toNatClampNeg v1) (fun s9 =>
                if zin (zg s9 69 50) 20 = true then
                  lt (zs s9 102 ((zg s9 69 50)).toNatClampNeg v2) (fun s10 =>
                  if zin (zg s10 69 50) 20 = true then
                    lt (zs s10 103 ((zg s10 69 50)).toNatClampNeg v3) (fun s11 =>
                    if zin (zg s11 69 50) 20 = true then
                      lt (zs s11 104 ((zg s11 69 50)).toNatClampNeg v4) (fun s12 =>
                      lt (zs s12 69 50 ((zg s12 69 50) + (1 : Int32))) (fun s13 =>
                      some ((zg s13 69 50), s13)))
                    else none)
                  else none)
                else none)
              else none))))
def f_X12_knivesFrom_L6 (F : Nat) (k34 : Int32 → zM → Option (Int32 × zM)) (v1 : Int32) (v3 : Int32) : Nat → Int32 → Int32 → zM → Option (Int32 × zM)
  | 0, _, _, _ => none
  | n + 1, v4, v5, s =>
    if v3 < v5 then
      k34 v4 s
    else
      if zin (((2 : Int32) * v5) + v1) 40 = true then
        lt ((v4 + (zg s 100 ((((2 : Int32) * v5) + v1)).toNatClampNeg))) (fun y1 =>
        lt (v5 + (1 : Int32)) (fun y2 =>
        f_X12_knivesFrom_L6 F k34 v1 v3 n y1 y2 s))
      else none
def f_X12_knivesFrom (F : Nat) (v1 : Int32) (v2 : Int32) (v3 : Int32) (s : zM) : Option (Int32 × zM) :=
  f_X12_knivesFrom_L6 F (fun y4 s3 =>
    some (y4, s3)) v1 v3 F (0 : Int32) v2 s
def f_X12_missing (F : Nat) (v1 : Int32) (s : zM) : Option (Int32 × zM) :=
  if v1 < 0 then
    some ((-100000 : Int32), s)
  else
    if v1 < (zg s 69 50) then
      if zin v1 20 = true then
        if zin v1 20 = true then
          if zin v1 20 = true then
            bnd (f_X12_knivesFrom F (zg s 101 (v1).toNatClampNeg) (zg s 102 (v1).toNatClampNeg) (zg s 103 (v1).toNatClampNeg) s) (fun r2 s1 =>
            if zin v1 20 = true then
              some ((r2 - (zg s1 104 (v1).toNatClampNeg)), s1)
            else none)
          else none
        else none
      else none
    else
      some ((-100000 : Int32), s)
def f_X12_joins_L54 (F : Nat) (k112 : zM → Option (Int32 × zM)) (v1 : Int32) (v4 : Int32) (v5 : Int32) : Nat → Int32 → zM → Option (Int32 × zM)
  | 0, _, _ => none
  | n + 1, v6, s =>
    if v6 < (21 : Int32) then
      if zin v6 21 = true then
        if (zg s 106 (v6).toNatClampNeg) = v5 then
          if zin v1 21 = true then
            if zin v6 21 = true then
              lt (zs s 106 (v6).toNatClampNeg (zg s 106 (v1).toNatClampNeg)) (fun s3 =>
              if zin v6 21 = true then
                if zin v6 21 = true then
                  lt (zs s3 105 (v6).toNatClampNeg ((zg s3 105 (v6).toNatClampNeg) + v4)) (fun s4 =>
                  lt (v6 + (1 : Int32)) (fun y5 =>
                  f_X12_joins_L54 F k112 v1 v4 v5 n y5 s4))
                else none
              else none)
            else none
          else none
        else
          lt (v6 + (1 : Int32)) (fun y6 =>
          f_X12_joins_L54 F k112 v1 v4 v5 n y6 s)
      else none
    else
      k112 s
def f_X12_joins (F : Nat) (v1 : Int32) (v2 : Int32) (v3 : Int32) (s : zM) : Option (Int32 × zM) :=
  if zin v1 21 = true then
    if zin v2 21 = true then
      lt ((((zg s 105 (v1).toNatClampNeg) + v3) - (zg s 105 (v2).toNatClampNeg))) (fun y1 =>
      if zin v1 21 = true then
        if zin v2 21 = true then
          if (zg s 106 (v1).toNatClampNeg) = (zg s 106 (v2).toNatClampNeg) then
            if y1 = 0 then
              some ((1 : Int32), s)
            else
              some ((0 : Int32), s)
          else
            if zin v2 21 = true then
              lt ((zg s 106 (v2).toNatClampNeg)) (fun y2 =>
              f_X12_joins_L54 F (fun s7 =>
                some ((1 : Int32), s7)) v1 y1 y2 F (0 : Int32) s)
            else none
        else none
      else none)
    else none
  else none
def f_X12_wrongOf_L2 (F : Nat) (k28 : zM → Option (Int32 × zM)) (v1 : Int32) : Nat → Int32 → zM → Option (Int32 × zM)
  | 0, _, _ => none
  | n + 1, v2, s =>
    if v2 < (21 : Int32) then
      if zin v2 21 = true then
        lt (zs s 106 (v2).toNatClampNeg v2) (fun s1 =>
        if zin v2 21 = true then
          lt (zs s1 105 (v2).toNatClampNeg (0 : Int32)) (fun s2 =>
          lt (v2 + (1 : Int32)) (fun y3 =>
          f_X12_wrongOf_L2 F k28 v1 n y3 s2))
        else none)
      else none
    else
      k28 s
def f_X12_wrongOf_L46 (F : Nat) (k99 : zM → Option (Int32 × zM)) (v1 : Int32) : Nat → Int32 → zM → Option (Int32 × zM)
  | 0, _, _ => none
  | n + 1, v2, s =>
    if v2 < (zg s 69 50) then
      if zin v2 20 = true then
        if (zg s 101 (v2).toNatClampNeg) = v1 then
          if zin v2 20 = true then
            if zin v2 20 = true then
              if zin v2 20 = true then
                bnd (f_X12_joins F (zg s 102 (v2).toNatClampNeg) ((zg s 103 (v2).toNatClampNeg) + (1 : Int32)) (zg s 104 (v2).toNatClampNeg) s) (fun r11 s10 =>
                if r11 = 0 then
                  some (v2, s10)
                else
                  lt (v2 + (1 : Int32)) (fun y12 =>
                  f_X12_wrongOf_L46 F k99 v1 n y12 s10))
              else none
            else none
          else none
        else
          lt (v2 + (1 : Int32)) (fun y9 =>
          f_X12_wrongOf_L46 F k99 v1 n y9 s)
      else none
    else
      k99 s
def f_X12_wrongOf (F : Nat) (v1 : Int32) (s : zM) : Option (Int32 × zM) :=
  f_X12_wrongOf_L2 F (fun s4 =>
    bnd (f_X12_knivesFrom F v1 (0 : Int32) (19 : Int32) s4) (fun r6 s5 =>
    bnd (f_X12_joins F (0 : Int32) (20 : Int32) r6 s5) (fun r8 s7 =>
    f_X12_wrongOf_L46 F (fun s13 =>
      some ((-1 : Int32), s13)) v1 F (0 : Int32) s7))) v1 F (0 : Int32) s
def f_X12_wrong (F : Nat) (s : zM) : Option (Int32 × zM) :=
  bnd (f_X12_wrongOf F (0 : Int32) s) (fun r2 s1 =>
  bnd (f_X12_wrongOf F (1 : Int32) s1) (fun r4 s3 =>
  if r2 = (-1 : Int32) then
    some (r4, s3)
  else
    if r4 = (-1 : Int32) then
      some (r2, s3)
    else
      if r4 < r2 then
        some (r4, s3)
      else
        some (r2, s3)))
def f_X12_isMany (v0 : Int32) (s : zM) : Option (Int32 × zM) :=
  if 0 < v0 then
    if v0 < (100 : Int32) then
      some ((1 : Int32), s)
    else
      some ((0 : Int32), s)
  else
    some ((0 : Int32), s)
def f_X12_gives (v1 : Int32) (v2 : Int32) (s : zM) : Option (Int32 × zM) :=
  bnd (f_X12_isGuest v1 s) (fun r2 s1 =>
  if r2 = 0 then
    some ((-1 : Int32), s1)
  else
    bnd (f_X12_isMany v2 s1) (fun r4 s3 =>
    if r4 = 0 then
      some ((-1 : Int32), s3)
    else
      bnd (f_X12_sits v1 s3) (fun r6 s5 =>
      if r6 = 0 then
        some ((-2 : Int32), s5)
      else
        if zin v1 16 = true then
          if (9999 : Int32) < ((zg s5 107 (v1).toNatClampNeg) + v2) then
            some ((-2 : Int32), s5)
          else
            if zin v1 16 = true then
              if zin v1 16 = true then
                lt (zs s5 107 (v1).toNatClampNeg ((zg s5 107 (v1).toNatClampNeg) + v2)) (fun s7 =>
                if zin v1 16 = true then
                  if zin v1 16 = true then
                    lt (zs s7 109 (v1).toNatClampNeg ((zg s7 109 (v1).toNatClampNeg) + v2)) (fun s8 =>
                    if zin v1 16 = true then
                      some ((zg s8 107 (v1).toNatClampNeg), s8)
                    else none)
                  else none
                else none)
              else none
            else none
        else none)))
def f_X12_mayPass (F : Nat) (v1 : Int32) (v2 : Int32) (v3 : Int32) (s : zM) : Option (Int32 × zM) :=
  bnd (f_X12_sitNext F v1 v2 s) (fun r2 s1 =>
  if r2 = 0 then
    some ((0 : Int32), s1)
  else
    bnd (f_X12_lets F v1 v2 s1) (fun r4 s3 =>
    if r4 = 0 then
      some ((0 : Int32), s3)
    else
      if zin v2 16 = true then
        if (9999 : Int32) < ((zg s3 107 (v2).toNatClampNeg) + v3) then
          some ((0 : Int32), s3)
        else
          if zin (((16 : Int32) * v1) + v2) 256 = true then
            if (9999 : Int32) < ((zg s3 112 ((((16 : Int32) * v1) + v2)).toNatClampNeg) + v3) then
              some ((0 : Int32), s3)
            else
              some ((1 : Int32), s3)
          else none
      else none))
def f_X12_hands (v1 : Int32) (v2 : Int32) (v3 : Int32) (s : zM) : Option (Unit × zM) :=
  if zin v1 16 = true then
    if zin v1 16 = true then
      lt (zs s 107 (v1).toNatClampNeg ((zg s 107 (v1).toNatClampNeg) - v3)) (fun s1 =>
      if zin v2 16 = true then
        if zin v2 16 = true then
          lt (zs s1 107 (v2).toNatClampNeg ((zg s1 107 (v2).toNatClampNeg) + v3)) (fun s2 =>
          if zin v1 16 = true then
            if zin v1 16 = true then
              lt (zs s2 111 (v1).toNatClampNeg ((zg s2 111 (v1).toNatClampNeg) + v3)) (fun s3 =>
              if zin v2 16 = true then
                if zin v2 16 = true then
                  lt (zs s3 110 (v2).toNatClampNeg ((zg s3 110 (v2).toNatClampNeg) + v3)) (fun s4 =>
                  if zin (((16 : Int32) * v1) + v2) 256 = true then
                    if zin (((16 : Int32) * v1) + v2) 256 = true then
                      lt (zs s4 112 ((((16 : Int32) * v1) + v2)).toNatClampNeg ((zg s4 112 ((((16 : Int32) * v1) + v2)).toNatClampNeg) + v3)) (fun s5 =>
                      some ((), s5))
                    else none
                  else none)
                else none
              else none)
            else none
          else none)
        else none
      else none)
    else none
  else none
def f_X12_passes (F : Nat) (v1 : Int32) (v2 : Int32) (v3 : Int32) (s : zM) : Option (Int32 × zM) :=
  bnd (f_X12_isGuest v1 s) (fun r2 s1 =>
  if r2 = 0 then
    some ((-1 : Int32), s1)
  else
    bnd (f_X12_isGuest v2 s1) (fun r4 s3 =>
    if r4 = 0 then
      some ((-1 : Int32), s3)
    else
      if v1 = v2 then
        some ((-1 : Int32), s3)
      else
        bnd (f_X12_isMany v3 s3) (fun r6 s5 =>
        if r6 = 0 then
          some ((-1 : Int32), s5)
        else
          bnd (f_X12_mayPass F v1 v2 v3 s5) (fun r8 s7 =>
          if r8 = 0 then
            some ((-2 : Int32), s7)
          else
            if zin v1 16 = true then
              if (zg s7 107 (v1).toNatClampNeg) < v3 then
                some ((-3 : Int32), s7)
              else
                bnd (f_X12_hands v1 v2 v3 s7) (fun _ s9 =>
                if zin v1 16 = true then
                  some ((zg s9 107 (v1).toNatClampNeg), s9)
                else none)
            else none))))
def f_X12_eats (v1 : Int32) (v2 : Int32) (s : zM) : Option (Int32 × zM) :=
  bnd (f_X12_isGuest v1 s) (fun r2 s1 =>
  if r2 = 0 then
    some ((-1 : Int32), s1)
  else
    bnd (f_X12_isMany v2 s1) (fun r4 s3 =>
    if r4 = 0 then
      some ((-1 : Int32), s3)
    else
      if zin v1 16 = true then
        if (zg s3 107 (v1).toNatClampNeg) < v2 then
          some ((-3 : Int32), s3)
        else
          if zin v1 16 = true then
            if zin v1 16 = true then
              lt (zs s3 107 (v1).toNatClampNeg ((zg s3 107 (v1).toNatClampNeg) - v2)) (fun s5 =>
              if zin v1 16 = true then
                if zin v1 16 = true then
                  lt (zs s5 108 (v1).toNatClampNeg ((zg s5 108 (v1).toNatClampNeg) + v2)) (fun s6 =>
                  if zin v1 16 = true then
                    some ((zg s6 107 (v1).toNatClampNeg), s6)
                  else none)
                else none
              else none)
            else none
          else none
      else none))
def f_X12_fed (v1 : Int32) (v2 : Int32) (s : zM) : Option (Int32 × zM) :=
  bnd (f_X12_isGuest v1 s) (fun r2 s1 =>
  if r2 = 0 then
    some ((-1 : Int32), s1)
  else
    bnd (f_X12_isGuest v2 s1) (fun r4 s3 =>
    if r4 = 0 then
      some ((-1 : Int32), s3)
    else
      if v1 = v2 then
        some ((-1 : Int32), s3)
      else
        if zin (((16 : Int32) * v1) + v2) 256 = true then
          some ((zg s3 112 ((((16 : Int32) * v1) + v2)).toNatClampNeg), s3)
        else none))
def f_X12_led (v1 : Int32) (v2 : Int32) (s : zM) : Option (Int32 × zM) :=
  bnd (f_X12_isGuest v1 s) (fun r2 s1 =>
  if r2 = 0 then
    some ((-1 : Int32), s1)
  else
    if v2 = (0 : Int32) then
      if zin v1 16 = true then
        some ((zg s1 107 (v1).toNatClampNeg), s1)
      else none
    else
      if v2 = (1 : Int32) then
        if zin v1 16 = true then
          some ((zg s1 108 (v1).toNatClampNeg), s1)
        else none
      else
        if v2 = (2 : Int32) then
          if zin v1 16 = true then
            some ((zg s1 109 (v1).toNatClampNeg), s1)
          else none
        else
          if v2 = (3 : Int32) then
            if zin v1 16 = true then
              some ((zg s1 110 (v1).toNatClampNeg), s1)
            else none
          else
            if v2 = (4 : Int32) then
              if zin v1 16 = true then
                some ((zg s1 111 (v1).toNatClampNeg), s1)
              else none
            else
              some ((-1 : Int32), s1))
def f_X12_seed (v1 : Int32) (s : zM) : Option (Int32 × zM) :=
  bnd (f_X12_in v1 (0 : Int32) (65535 : Int32) s) (fun r2 s1 =>
  if r2 = 0 then
    some ((0 : Int32), s1)
  else
    lt (zs s1 69 1 v1) (fun s3 =>
    some ((1 : Int32), s3)))
def f_X12_guestBeside (F : Nat) (v1 : Int32) (v2 : Int32) (s : zM) : Option (Int32 × zM) :=
  if zin v1 16 = true then
    bnd (f_X12_beside (zg s 71 (v1).toNatClampNeg) v2 s) (fun r2 s1 =>
    if r2 = (-1 : Int32) then
      some ((-1 : Int32), s1)
    else
      bnd (f_X12_guestAt F r2 s1) (fun r4 s3 =>
      some (r4, s3)))
  else none
def f_X12_draw_L16 (F : Nat) (k139 : Int32 → zM → Option (Int32 × zM)) (v1 : Int32) : Nat → Int32 → Int32 → zM → Option (Int32 × zM)
  | 0, _, _, _ => none
  | n + 1, v2, v3, s =>
    if v3 < v1 then
      lt (zs s 69 1 ((((25173 : Int32) * (zg s 69 1)) + (13849 : Int32)) - (((25173 : Int32) * (zg s 69 1)) + (13849 : Int32)) / (65536 : Int32) * (65536 : Int32))) (fun s3 =>
      lt (((zg s3 69 1) - (zg s3 69 1) / (16 : Int32) * (16 : Int32))) (fun y4 =>
      bnd (f_X12_isGuest y4 s3) (fun r6 s5 =>
      if r6 = 0 then
        lt (v3 + (1 : Int32)) (fun y7 =>
        f_X12_draw_L16 F k139 v1 n v2 y7 s5)
      else
        bnd (f_X12_sits y4 s5) (fun r9 s8 =>
        if r9 = 0 then
          lt (v3 + (1 : Int32)) (fun y20 =>
          f_X12_draw_L16 F k139 v1 n v2 y20 s8)
        else
          bnd (f_X12_guestBeside F y4 (((zg s8 69 1) / (16 : Int32)) - ((zg s8 69 1) / (16 : Int32)) / (3 : Int32) * (3 : Int32)) s8) (fun r11 s10 =>
          if r11 = (-1 : Int32) then
            lt (v3 + (1 : Int32)) (fun y12 =>
            f_X12_draw_L16 F k139 v1 n v2 y12 s10)
          else
            bnd (f_X12_mayPass F y4 r11 (1 : Int32) s10) (fun r14 s13 =>
            if r14 = 0 then
              lt (v3 + (1 : Int32)) (fun y15 =>
              f_X12_draw_L16 F k139 v1 n v2 y15 s13)
            else
              if zin y4 16 = true then
                if (zg s13 107 (y4).toNatClampNeg) < (1 : Int32) then
                  lt (v3 + (1 : Int32)) (fun y19 =>
                  f_X12_draw_L16 F k139 v1 n v2 y19 s13)
                else
                  bnd (f_X12_hands y4 r11 (1 : Int32) s13) (fun _ s16 =>
                  lt ((v2 + (1 : Int32))) (fun y17 =>
                  lt (v3 + (1 : Int32)) (fun y18 =>
                  f_X12_draw_L16 F k139 v1 n y17 y18 s16)))
              else none))))))
    else
      k139 v2 s
def f_X12_draw (F : Nat) (v1 : Int32) (s : zM) : Option (Int32 × zM) :=
  bnd (f_X12_in v1 (1 : Int32) (60 : Int32) s) (fun r2 s1 =>
  if r2 = 0 then
    some ((-1 : Int32), s1)
  else
    f_X12_draw_L16 F (fun y22 s21 =>
      some (y22, s21)) v1 F (0 : Int32) (0 : Int32) s1)
def f_X12_copies_L2 (F : Nat) (p : Nat) (q : Nat) (k19 : zM → Option (Unit × zM)) (v2 : Int32) : Nat → Int32 → zM → Option (Unit × zM)
  | 0, _, _ => none
  | n + 1, v3, s =>
    if v3 < v2 then
      if zin v3 (zlenS p) = true then
        if zin v3 (zlenS q) = true then
          lt (zs s q (v3).toNatClampNeg (zg s p (v3).toNatClampNeg)) (fun s1 =>
          lt (v3 + (1 : Int32)) (fun y2 =>
          f_X12_copies_L2 F p q k19 v2 n y2 s1))
        else none
      else none
    else
      k19 s
def f_X12_copies (F : Nat) (p : Nat) (q : Nat) (v2 : Int32) (s : zM) : Option (Unit × zM) :=
  f_X12_copies_L2 F p q (fun s3 =>
    some ((), s3)) v2 F (0 : Int32) s
def f_X12_keep_L130 (F : Nat) (k160 : Int32 → zM → Option (Int32 × zM)) : Nat → Int32 → Int32 → zM → Option (Int32 × zM)
  | 0, _, _, _ => none
  | n + 1, v1, v2, s =>
    if v2 < (zg s 69 0) then
      bnd (f_X12_sits v2 s) (fun r13 s12 =>
      if r13 = 0 then
        lt ((v1 + (0 : Int32))) (fun y14 =>
        lt (v2 + (1 : Int32)) (fun y15 =>
        f_X12_keep_L130 F k160 n y14 y15 s12))
      else
        lt ((v1 + (1 : Int32))) (fun y16 =>
        lt (v2 + (1 : Int32)) (fun y17 =>
        f_X12_keep_L130 F k160 n y16 y17 s12)))
    else
      k160 v1 s
def f_X12_keep (F : Nat) (s : zM) : Option (Int32 × zM) :=
  lt (zs s 69 64 (1 : Int32)) (fun s1 =>
  lt (zs s1 69 65 (zg s1 69 0)) (fun s2 =>
  lt (zs s2 69 66 (zg s2 69 1)) (fun s3 =>
  bnd (f_X12_copies F 71 113 (16 : Int32) s3) (fun _ s4 =>
  bnd (f_X12_copies F 100 114 (40 : Int32) s4) (fun _ s5 =>
  bnd (f_X12_copies F 107 115 (16 : Int32) s5) (fun _ s6 =>
  bnd (f_X12_copies F 108 116 (16 : Int32) s6) (fun _ s7 =>
  bnd (f_X12_copies F 109 117 (16 : Int32) s7) (fun _ s8 =>
  bnd (f_X12_copies F 110 118 (16 : Int32) s8) (fun _ s9 =>
  bnd (f_X12_copies F 111 119 (16 : Int32) s9) (fun _ s10 =>
  bnd (f_X12_copies F 112 120 (256 : Int32) s10) (fun _ s11 =>
  f_X12_keep_L130 F (fun y19 s18 =>
    some (y19, s18)) F (0 : Int32) (0 : Int32) s11)))))))))))
def f_X12_undo (F : Nat) (s : zM) : Option (Int32 × zM) :=
  if (zg s 69 64) = 0 then
    some ((0 : Int32), s)
  else
    if (zg s 69 0) = (zg s 69 65) then
      lt (zs s 69 1 (zg s 69 66)) (fun s1 =>
      bnd (f_X12_copies F 113 71 (16 : Int32) s1) (fun _ s2 =>
      bnd (f_X12_copies F 114 100 (40 : Int32) s2) (fun _ s3 =>
      bnd (f_X12_copies F 115 107 (16 : Int32) s3) (fun _ s4 =>
      bnd (f_X12_copies F 116 108 (16 : Int32) s4) (fun _ s5 =>
      bnd (f_X12_copies F 117 109 (16 : Int32) s5) (fun _ s6 =>
      bnd (f_X12_copies F 118 110 (16 : Int32) s6) (fun _ s7 =>
      bnd (f_X12_copies F 119 111 (16 : Int32) s7) (fun _ s8 =>
      bnd (f_X12_copies F 120 112 (256 : Int32) s8) (fun _ s9 =>
      some ((1 : Int32), s9))))))))))
    else
      some ((0 : Int32), s)
def f_X12_tapeNumber_L6 (F : Nat) (k37 : Int32 → zM → Option (Int32 × zM)) (v1 : Int32) : Nat → Int32 → Int32 → zM → Option (Int32 × zM)
  | 0, _, _, _ => none
  | n + 1, v2, v3, s =>
    if v3 < (((4 : Int32) * v1) + (4 : Int32)) then
      if zin v3 220 = true then
        lt (((v2 <<< ((8 : Int32) &&& 31)) ||| ((zg s 74 (v3).toNatClampNeg) &&& (255 : Int32)))) (fun y2 =>
        lt (v3 + (1 : Int32)) (fun y3 =>
        f_X12_tapeNumber_L6 F k37 v1 n y2 y3 s))
      else none
    else
      k37 v2 s
def f_X12_tapeNumber (F : Nat) (v1 : Int32) (s : zM) : Option (Int32 × zM) :=
  lt (((4 : Int32) * v1)) (fun y1 =>
  f_X12_tapeNumber_L6 F (fun y5 s4 =>
    some (y5, s4)) v1 F (0 : Int32) y1 s)
def f_X12_check_L39 (F : Nat) (k69 : zM → Option (Int32 × zM)) (v1 : Int32) (v2 : Int32) : Nat → Int32 → zM → Option (Int32 × zM)
  | 0, _, _ => none
  | n + 1, v3, s =>
    if v3 < v2 then
      bnd (f_X12_tapeNumber F v3 s) (fun r7 s6 =>
      bnd (f_X12_guestAt F (((2 : Int32) * v3) + v1) s6) (fun r9 s8 =>
      if r7 = r9 then
        lt (v3 + (1 : Int32)) (fun y10 =>
        f_X12_check_L39 F k69 v1 v2 n y10 s8)
      else
        some (v3, s8)))
    else
      k69 s
def f_X12_check (F : Nat) (v1 : Int32) (v2 : Int32) (s : zM) : Option (Int32 × zM) :=
  bnd (f_X12_in v1 (0 : Int32) (1 : Int32) s) (fun r2 s1 =>
  if r2 = 0 then
    some ((-2 : Int32), s1)
  else
    bnd (f_X12_in v2 (0 : Int32) (20 : Int32) s1) (fun r4 s3 =>
    if r4 = 0 then
      some ((-2 : Int32), s3)
    else
      if ((zg s3 69 7) / (4 : Int32)) < v2 then
        some ((-2 : Int32), s3)
      else
        lt (zs s3 69 7 (0 : Int32)) (fun s5 =>
        f_X12_check_L39 F (fun s11 =>
          some ((-1 : Int32), s11)) v1 v2 F (0 : Int32) s5)))
def f_X12_count (v1 : Int32) (s : zM) : Option (Int32 × zM) :=
  if v1 = (0 : Int32) then
    some ((zg s 69 0), s)
  else
    if v1 = (1 : Int32) then
      some ((zg s 69 16), s)
    else
      if v1 = (2 : Int32) then
        some ((zg s 69 7), s)
      else
        if v1 = (3 : Int32) then
          some ((zg s 69 30), s)
        else
          if v1 = (4 : Int32) then
            some ((zg s 69 31), s)
          else
            if v1 = (5 : Int32) then
              some ((zg s 69 50), s)
            else
              if v1 = (6 : Int32) then
                some ((zg s 69 1), s)
              else
                bnd (f_X12_in v1 (20 : Int32) ((19 : Int32) + (zg s 69 0)) s) (fun r2 s1 =>
                if r2 = 0 then
                  bnd (f_X12_in v1 (40 : Int32) (79 : Int32) s1) (fun r4 s3 =>
                  if r4 = 0 then
                    some ((-1 : Int32), s3)
                  else
                    if zin (v1 - (40 : Int32)) 40 = true then
                      some ((zg s3 100 ((v1 - (40 : Int32))).toNatClampNeg), s3)
                    else none)
                else
                  if zin (v1 - (20 : Int32)) 16 = true then
                    some ((zg s1 71 ((v1 - (20 : Int32))).toNatClampNeg), s1)
                  else none)
def f_X12_init_L427 (F : Nat) (k446 : zM → Option (Unit × zM)) : Nat → Int32 → zM → Option (Unit × zM)
  | 0, _, _ => none
  | n + 1, v1, s =>
    if v1 < (16 : Int32) then
      if zin v1 16 = true then
        lt (zs s 73 (v1).toNatClampNeg (-1 : Int32)) (fun s53 =>
        lt (v1 + (1 : Int32)) (fun y54 =>
        f_X12_init_L427 F k446 n y54 s53))
      else none
    else
      k446 s
def f_X12_init (F : Nat) (s : zM) : Option (Unit × zM) :=
  lt (zclr s 70 []) (fun s1 =>
  lt (zclr s1 71 []) (fun s2 =>
  lt (zclr s2 72 []) (fun s3 =>
  lt (zclr s3 73 []) (fun s4 =>
  lt (zclr s4 74 []) (fun s5 =>
  lt (zclr s5 75 []) (fun s6 =>
  lt (zclr s6 76 []) (fun s7 =>
  lt (zclr s7 77 []) (fun s8 =>
  lt (zclr s8 78 []) (fun s9 =>
  lt (zclr s9 79 []) (fun s10 =>
  lt (zclr s10 80 []) (fun s11 =>
  lt (zclr s11 81 []) (fun s12 =>
  lt (zclr s12 82 []) (fun s13 =>
  lt (zclr s13 83 []) (fun s14 =>
  lt (zclr s14 84 []) (fun s15 =>
  lt (zclr s15 85 []) (fun s16 =>
  lt (zclr s16 86 []) (fun s17 =>
  lt (zclr s17 87 []) (fun s18 =>
  lt (zclr s18 88 []) (fun s19 =>
  lt (zclr s19 89 []) (fun s20 =>
  lt (zclr s20 90 []) (fun s21 =>
  lt (zclr s21 91 []) (fun s22 =>
  lt (zclr s22 92 []) (fun s23 =>
  lt (zclr s23 93 []) (fun s24 =>
  lt (zclr s24 94 []) (fun s25 =>
  lt (zclr s25 95 []) (fun s26 =>
  lt (zclr s26 96 []) (fun s27 =>
  lt (zclr s27 97 []) (fun s28 =>
  lt (zclr s28 98 []) (fun s29 =>
  lt (zclr s29 99 []) (fun s30 =>
  lt (zclr s30 100 []) (fun s31 =>
  lt (zclr s31 101 []) (fun s32 =>
  lt (zclr s32 102 []) (fun s33 =>
  lt (zclr s33 103 []) (fun s34 =>
  lt (zclr s34 104 []) (fun s35 =>
  lt (zclr s35 105 []) (fun s36 =>
  lt (zclr s36 106 []) (fun s37 =>
  lt (zclr s37 107 []) (fun s38 =>
  lt (zclr s38 108 []) (fun s39 =>
  lt (zclr s39 109 []) (fun s40 =>
  lt (zclr s40 110 []) (fun s41 =>
  lt (zclr s41 111 []) (fun s42 =>
  lt (zclr s42 112 []) (fun s43 =>
  lt (zclr s43 113 []) (fun s44 =>
  lt (zclr s44 114 []) (fun s45 =>
  lt (zclr s45 115 []) (fun s46 =>
  lt (zclr s46 116 []) (fun s47 =>
  lt (zclr s47 117 []) (fun s48 =>
  lt (zclr s48 118 []) (fun s49 =>
  lt (zclr s49 119 []) (fun s50 =>
  lt (zclr s50 120 []) (fun s51 =>
  lt (zs s51 69 1 (1 : Int32)) (fun s52 =>
  f_X12_init_L427 F (fun s55 =>
    some ((), s55)) F (0 : Int32) s52))))))))))))))))))))))))))))))))))))))))))))))))))))
