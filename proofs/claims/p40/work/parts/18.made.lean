def f_X10_init (s : zM) : Option (Unit × zM) :=
  lt (zclr s 2 []) (fun s1 =>
  some ((), s1))
set_option maxRecDepth 100000 in
set_option maxHeartbeats 4000000 in
theorem t_X10_init (w : zWd) (d : Nat) (hd : 1 ≤ d) (hB : (69 : Nat) ≤ w.2.2.1 3) {P : List zK} (hP : P.length = 1) (s : zM) : zMt w yX10_init cX10_init 1 none d (P ++ [.inr (9, [(5, 0), (0, 0)])], true, 0, 0) (P ++ [.inr (9, [(1, 2), (0, 0)]), .inl (0, 220)], true, 1, 220) zrv [.ref (w.2.2.2 + 1)] s (f_X10_init s) := by
  refine zMt_of (by decide +kernel) (Nat.le_of_ble_eq_true rfl) cd_X10_init [(0, .ref (w.2.2.2 + 1))] rfl ?_
  rintro a rfl hin2 hRm K
  have K : zOK a cX10_init 1 RX10 none d := K
  have hin2 : a.2.2.2.2.2.2.2.2.1.name = "<init>" := hin2
  have hR : 1 ≤ a.2.2.2.1.cells ∧ 220 ≤ a.2.2.2.1.slots := by rw [hRm]; exact ⟨Nat.le_refl _, Nat.le_refl _⟩
  unfold f_X10_init
  refine z_aload_n K 0 rfl dX10_init_0 ?_
  refine z_objInit K ml_X10_3 jo_ins jo_cod (by omega) (Nat.le_of_ble_eq_true rfl) dX10_init_1 ?_
  refine z_aload_n K 0 rfl dX10_init_4 ?_
  refine z_sipush K cs_220 dX10_init_5 ?_
  refine z_newaQ (Q' := [.inr (9, [(5, 0), (0, 0)]), .inl (0, 220)]) (c' := 1) (sl' := 220) K hR (by omega) hP (q := 2) rfl (t := 0) (ty := .int) (atype := .int) (N := 220) rfl rfl (fun _ _ => rfl) rfl ac_int (by decide) rfl (by decide) rfl rfl rfl (Nat.le_of_ble_eq_true rfl) (Nat.le_of_ble_eq_true rfl) dX10_init_8 ?_
  refine z_ltm (fun s1 => ?_)
  refine z_putFQ (j := 0) (Q' := [.inr (9, [(1, 2), (0, 0)]), .inl (0, 220)]) K hin2 hP rfl ff_X10_11 rfl (fun _ => rfl) (fun _ => rfl) (Nat.le_of_ble_eq_true rfl) rfl rfl dX10_init_10 ?_
  exact z_vret K dX10_init_13
def f_X0_init_L71 (F : Nat) (k97 : zM → Option (Unit × zM)) : Nat → Int32 → zM → Option (Unit × zM)
  | 0, _, _ => none
  | n + 1, v1, s =>
    if v1 < (16 : Int32) then
      if zin v1 16 = true then
        lt (zs s 6 (v1).toNatClampNeg (-1 : Int32)) (fun s9 =>
        if zin v1 16 = true then
          lt (zs s9 7 (v1).toNatClampNeg (-1 : Int32)) (fun s10 =>
          lt (v1 + (1 : Int32)) (fun y11 =>
          f_X0_init_L71 F k97 n y11 s10))
        else none)
      else none
    else
      k97 s
set_option maxRecDepth 100000 in
set_option maxHeartbeats 4000000 in
theorem t_X0_init_L71 {a : zA} {d : Nat} (F : Nat) (K : zOK a cX0_init 2 RX0 none d) (hd : 1 ≤ d) (hB : (69 : Nat) ≤ a.1.2.2.1 3) {P : List zK} (hP : P.length = 3) {k97 : zM → Option (Unit × zM)} (h97 : ∀ (s : zM), zJ a 2 (zG a (P ++ [.inr (0, [(1, 4), (1, 5), (1, 6), (1, 7), (1, 8), (1, 9), (1, 10), (1, 11), (0, 0)]), .inl (0, 16), .inl (1, 16), .inl (0, 16), .inl (0, 16), .inl (0, 256), .inl (0, 40), .inl (1, 16), .inl (0, 16)], true, 8, 392) zrv) (P ++ [.inr (0, [(1, 4), (1, 5), (1, 6), (1, 7), (1, 8), (1, 9), (1, 10), (1, 11), (0, 0)]), .inl (0, 16), .inl (1, 16), .inl (0, 16), .inl (0, 16), .inl (0, 256), .inl (0, 40), .inl (1, 16), .inl (0, 16)], true, 8, 392) 97 [(0, .ref (a.1.2.2.2 + 3))] [] s (k97 s)) : ∀ (n : Nat) (v1 : Int32) (s : zM), zJ a 2 (zG a (P ++ [.inr (0, [(1, 4), (1, 5), (1, 6), (1, 7), (1, 8), (1, 9), (1, 10), (1, 11), (0, 0)]), .inl (0, 16), .inl (1, 16), .inl (0, 16), .inl (0, 16), .inl (0, 256), .inl (0, 40), .inl (1, 16), .inl (0, 16)], true, 8, 392) zrv) (P ++ [.inr (0, [(1, 4), (1, 5), (1, 6), (1, 7), (1, 8), (1, 9), (1, 10), (1, 11), (0, 0)]), .inl (0, 16), .inl (1, 16), .inl (0, 16), .inl (0, 16), .inl (0, 256), .inl (0, 40), .inl (1, 16), .inl (0, 16)], true, 8, 392) 71 [(0, .ref (a.1.2.2.2 + 3)), (1, .int v1)] [] s (f_X0_init_L71 F k97 n v1 s) := by
  intro n
  induction n with
  | zero => intros; exact z_none
  | succ n ih =>
    intro v1 s
    rw [f_X0_init_L71]
    refine z_iload_n K 1 rfl dX0_init_71 ?_
    refine z_bipush K cb_16 dX0_init_72 ?_
    refine z_icmp_ge K (tgt := 97) dX0_init_74 (by decide) ?_ ?_
    · refine z_sub [0] rfl ?_
      exact h97 s
    · refine z_aload_n K 0 rfl dX0_init_77 ?_
      refine z_getr K fd_X0_19 (zob_app (j := 0) hP rfl rfl rfl) dX0_init_78 ?_
      refine z_iload_n K 1 rfl dX0_init_81 ?_
      refine z_iconst K ci_m1 dX0_init_82 ?_
      refine z_iast K (zar_app (j := 3) hP rfl rfl) dX0_init_83 ?_
      refine z_ltm (fun s9 => ?_)
      refine z_aload_n K 0 rfl dX0_init_84 ?_
      refine z_getr K fd_X0_22 (zob_app (j := 0) hP rfl rfl rfl) dX0_init_85 ?_
      refine z_iload_n K 1 rfl dX0_init_88 ?_
      refine z_iconst K ci_m1 dX0_init_89 ?_
      refine z_iast K (zar_app (j := 4) hP rfl rfl) dX0_init_90 ?_
      refine z_ltm (fun s10 => ?_)
      refine z_iincN K (j := 1) (lv' := [(0, .ref (a.1.2.2.2 + 3))]) ci_1 rfl dX0_init_91 (Nat.le_of_ble_eq_true rfl) rfl (fun y11 => ?_)
      refine z_goto K (tgt := 71) dX0_init_94 (by decide) ?_
      refine z_sub [1, 0] rfl ?_
      exact ih y11 s10
def f_X0_init_L99 (F : Nat) (k118 : zM → Option (Unit × zM)) : Nat → Int32 → zM → Option (Unit × zM)
  | 0, _, _ => none
  | n + 1, v1, s =>
    if v1 < (40 : Int32) then
      if zin v1 40 = true then
        lt (zs s 9 (v1).toNatClampNeg (-1 : Int32)) (fun s13 =>
        lt (v1 + (1 : Int32)) (fun y14 =>
        f_X0_init_L99 F k118 n y14 s13))
      else none
    else
      k118 s
set_option maxRecDepth 100000 in
set_option maxHeartbeats 4000000 in
theorem t_X0_init_L99 {a : zA} {d : Nat} (F : Nat) (K : zOK a cX0_init 2 RX0 none d) (hd : 1 ≤ d) (hB : (69 : Nat) ≤ a.1.2.2.1 3) {P : List zK} (hP : P.length = 3) {k118 : zM → Option (Unit × zM)} (h118 : ∀ (s : zM), zJ a 2 (zG a (P ++ [.inr (0, [(1, 4), (1, 5), (1, 6), (1, 7), (1, 8), (1, 9), (1, 10), (1, 11), (0, 0)]), .inl (0, 16), .inl (1, 16), .inl (0, 16), .inl (0, 16), .inl (0, 256), .inl (0, 40), .inl (1, 16), .inl (0, 16)], true, 8, 392) zrv) (P ++ [.inr (0, [(1, 4), (1, 5), (1, 6), (1, 7), (1, 8), (1, 9), (1, 10), (1, 11), (0, 0)]), .inl (0, 16), .inl (1, 16), .inl (0, 16), .inl (0, 16), .inl (0, 256), .inl (0, 40), .inl (1, 16), .inl (0, 16)], true, 8, 392) 118 [] [] s (k118 s)) : ∀ (n : Nat) (v1 : Int32) (s : zM), zJ a 2 (zG a (P ++ [.inr (0, [(1, 4), (1, 5), (1, 6), (1, 7), (1, 8), (1, 9), (1, 10), (1, 11), (0, 0)]), .inl (0, 16), .inl (1, 16), .inl (0, 16), .inl (0, 16), .inl (0, 256), .inl (0, 40), .inl (1, 16), .inl (0, 16)], true, 8, 392) zrv) (P ++ [.inr (0, [(1, 4), (1, 5), (1, 6), (1, 7), (1, 8), (1, 9), (1, 10), (1, 11), (0, 0)]), .inl (0, 16), .inl (1, 16), .inl (0, 16), .inl (0, 16), .inl (0, 256), .inl (0, 40), .inl (1, 16), .inl (0, 16)], true, 8, 392) 99 [(0, .ref (a.1.2.2.2 + 3)), (1, .int v1)] [] s (f_X0_init_L99 F k118 n v1 s) := by
  intro n
  induction n with
  | zero => intros; exact z_none
  | succ n ih =>
    intro v1 s
    rw [f_X0_init_L99]
    refine z_iload_n K 1 rfl dX0_init_99 ?_
    refine z_bipush K cb_40 dX0_init_100 ?_
    refine z_icmp_ge K (tgt := 118) dX0_init_102 (by decide) ?_ ?_
    · refine z_sub [] rfl ?_
      exact h118 s
    · refine z_aload_n K 0 rfl dX0_init_105 ?_
      refine z_getr K fd_X0_30 (zob_app (j := 0) hP rfl rfl rfl) dX0_init_106 ?_
      refine z_iload_n K 1 rfl dX0_init_109 ?_
      refine z_iconst K ci_m1 dX0_init_110 ?_
      refine z_iast K (zar_app (j := 6) hP rfl rfl) dX0_init_111 ?_
      refine z_ltm (fun s13 => ?_)
      refine z_iincN K (j := 1) (lv' := [(0, .ref (a.1.2.2.2 + 3))]) ci_1 rfl dX0_init_112 (Nat.le_of_ble_eq_true rfl) rfl (fun y14 => ?_)
      refine z_goto K (tgt := 99) dX0_init_115 (by decide) ?_
      refine z_sub [1, 0] rfl ?_
      exact ih y14 s13
def f_X0_init (F : Nat) (s : zM) : Option (Unit × zM) :=
  lt (zclr s 4 []) (fun s1 =>
  lt (zclr s1 5 []) (fun s2 =>
  lt (zclr s2 6 []) (fun s3 =>
  lt (zclr s3 7 []) (fun s4 =>
  lt (zclr s4 8 []) (fun s5 =>
  lt (zclr s5 9 []) (fun s6 =>
  lt (zclr s6 10 []) (fun s7 =>
  lt (zclr s7 11 []) (fun s8 =>
  f_X0_init_L71 F (fun s12 =>
    f_X0_init_L99 F (fun s15 =>
      some ((), s15)) F (0 : Int32) s12) F (0 : Int32) s8))))))))
set_option maxRecDepth 100000 in
set_option maxHeartbeats 4000000 in
theorem t_X0_init (w : zWd) (F : Nat) (d : Nat) (hd : 1 ≤ d) (hB : (69 : Nat) ≤ w.2.2.1 3) {P : List zK} (hP : P.length = 3) (s : zM) : zMt w yX0_init cX0_init 2 none d (P ++ [.inr (0, [(5, 0), (5, 0), (5, 0), (5, 0), (5, 0), (5, 0), (5, 0), (5, 0), (0, 0)])], true, 0, 0) (P ++ [.inr (0, [(1, 4), (1, 5), (1, 6), (1, 7), (1, 8), (1, 9), (1, 10), (1, 11), (0, 0)]), .inl (0, 16), .inl (1, 16), .inl (0, 16), .inl (0, 16), .inl (0, 256), .inl (0, 40), .inl (1, 16), .inl (0, 16)], true, 8, 392) zrv [.ref (w.2.2.2 + 3)] s (f_X0_init F s) := by
  refine zMt_of (by decide +kernel) (Nat.le_of_ble_eq_true rfl) cd_X0_init [(0, .ref (w.2.2.2 + 3))] rfl ?_
  rintro a rfl hin2 hRm K
  have K : zOK a cX0_init 2 RX0 none d := K
  have hin2 : a.2.2.2.2.2.2.2.2.1.name = "<init>" := hin2
  have hR : 8 ≤ a.2.2.2.1.cells ∧ 392 ≤ a.2.2.2.1.slots := by rw [hRm]; exact ⟨Nat.le_refl _, Nat.le_refl _⟩
  unfold f_X0_init
  refine z_aload_n K 0 rfl dX0_init_0 ?_
  refine z_objInit K ml_X0_3 jo_ins jo_cod (by omega) (Nat.le_of_ble_eq_true rfl) dX0_init_1 ?_
  refine z_aload_n K 0 rfl dX0_init_4 ?_
  refine z_bipush K cb_16 dX0_init_5 ?_
  refine z_newaQ (Q' := [.inr (0, [(5, 0), (5, 0), (5, 0), (5, 0), (5, 0), (5, 0), (5, 0), (5, 0), (0, 0)]), .inl (0, 16)]) (c' := 1) (sl' := 16) K hR (by omega) hP (q := 4) rfl (t := 0) (ty := .int) (atype := .int) (N := 16) rfl rfl (fun _ _ => rfl) rfl ac_int (by decide) rfl (by decide) rfl rfl rfl (Nat.le_of_ble_eq_true rfl) (Nat.le_of_ble_eq_true rfl) dX0_init_7 ?_
  refine z_ltm (fun s1 => ?_)
  refine z_putFQ (j := 0) (Q' := [.inr (0, [(1, 4), (5, 0), (5, 0), (5, 0), (5, 0), (5, 0), (5, 0), (5, 0), (0, 0)]), .inl (0, 16)]) K hin2 hP rfl ff_X0_11 rfl (fun _ => rfl) (fun _ => rfl) (Nat.le_of_ble_eq_true rfl) rfl rfl dX0_init_9 ?_
  refine z_aload_n K 0 rfl dX0_init_12 ?_
  refine z_bipush K cb_16 dX0_init_13 ?_
  refine z_newaQ (Q' := [.inr (0, [(1, 4), (5, 0), (5, 0), (5, 0), (5, 0), (5, 0), (5, 0), (5, 0), (0, 0)]), .inl (0, 16), .inl (1, 16)]) (c' := 2) (sl' := 32) K hR (by omega) hP (q := 5) rfl (t := 1) (ty := .boolean) (atype := .boolean) (N := 16) rfl rfl (fun _ _ => rfl) rfl ac_boolean (by decide) rfl (by decide) rfl rfl rfl (Nat.le_of_ble_eq_true rfl) (Nat.le_of_ble_eq_true rfl) dX0_init_15 ?_
  refine z_ltm (fun s2 => ?_)
  refine z_putFQ (j := 0) (Q' := [.inr (0, [(1, 4), (1, 5), (5, 0), (5, 0), (5, 0), (5, 0), (5, 0), (5, 0), (0, 0)]), .inl (0, 16), .inl (1, 16)]) K hin2 hP rfl ff_X0_15 rfl (fun _ => rfl) (fun _ => rfl) (Nat.le_of_ble_eq_true rfl) rfl rfl dX0_init_17 ?_
  refine z_aload_n K 0 rfl dX0_init_20 ?_
  refine z_bipush K cb_16 dX0_init_21 ?_
  refine z_newaQ (Q' := [.inr (0, [(1, 4), (1, 5), (5, 0), (5, 0), (5, 0), (5, 0), (5, 0), (5, 0), (0, 0)]), .inl (0, 16), .inl (1, 16), .inl (0, 16)]) (c' := 3) (sl' := 48) K hR (by omega) hP (q := 6) rfl (t := 0) (ty := .int) (atype := .int) (N := 16) rfl rfl (fun _ _ => rfl) rfl ac_int (by decide) rfl (by decide) rfl rfl rfl (Nat.le_of_ble_eq_true rfl) (Nat.le_of_ble_eq_true rfl) dX0_init_23 ?_
  refine z_ltm (fun s3 => ?_)
  refine z_putFQ (j := 0) (Q' := [.inr (0, [(1, 4), (1, 5), (1, 6), (5, 0), (5, 0), (5, 0), (5, 0), (5, 0), (0, 0)]), .inl (0, 16), .inl (1, 16), .inl (0, 16)]) K hin2 hP rfl ff_X0_19 rfl (fun _ => rfl) (fun _ => rfl) (Nat.le_of_ble_eq_true rfl) rfl rfl dX0_init_25 ?_
  refine z_aload_n K 0 rfl dX0_init_28 ?_
  refine z_bipush K cb_16 dX0_init_29 ?_
  refine z_newaQ (Q' := [.inr (0, [(1, 4), (1, 5), (1, 6), (5, 0), (5, 0), (5, 0), (5, 0), (5, 0), (0, 0)]), .inl (0, 16), .inl (1, 16), .inl (0, 16), .inl (0, 16)]) (c' := 4) (sl' := 64) K hR (by omega) hP (q := 7) rfl (t := 0) (ty := .int) (atype := .int) (N := 16) rfl rfl (fun _ _ => rfl) rfl ac_int (by decide) rfl (by decide) rfl rfl rfl (Nat.le_of_ble_eq_true rfl) (Nat.le_of_ble_eq_true rfl) dX0_init_31 ?_
  refine z_ltm (fun s4 => ?_)
  refine z_putFQ (j := 0) (Q' := [.inr (0, [(1, 4), (1, 5), (1, 6), (1, 7), (5, 0), (5, 0), (5, 0), (5, 0), (0, 0)]), .inl (0, 16), .inl (1, 16), .inl (0, 16), .inl (0, 16)]) K hin2 hP rfl ff_X0_22 rfl (fun _ => rfl) (fun _ => rfl) (Nat.le_of_ble_eq_true rfl) rfl rfl dX0_init_33 ?_
  refine z_aload_n K 0 rfl dX0_init_36 ?_
  refine z_sipush K cs_256 dX0_init_37 ?_
  refine z_newaQ (Q' := [.inr (0, [(1, 4), (1, 5), (1, 6), (1, 7), (5, 0), (5, 0), (5, 0), (5, 0), (0, 0)]), .inl (0, 16), .inl (1, 16), .inl (0, 16), .inl (0, 16), .inl (0, 256)]) (c' := 5) (sl' := 320) K hR (by omega) hP (q := 8) rfl (t := 0) (ty := .int) (atype := .int) (N := 256) rfl rfl (fun _ _ => rfl) rfl ac_int (by decide) rfl (by decide) rfl rfl rfl (Nat.le_of_ble_eq_true rfl) (Nat.le_of_ble_eq_true rfl) dX0_init_40 ?_
  refine z_ltm (fun s5 => ?_)
  refine z_putFQ (j := 0) (Q' := [.inr (0, [(1, 4), (1, 5), (1, 6), (1, 7), (1, 8), (5, 0), (5, 0), (5, 0), (0, 0)]), .inl (0, 16), .inl (1, 16), .inl (0, 16), .inl (0, 16), .inl (0, 256)]) K hin2 hP rfl ff_X0_25 rfl (fun _ => rfl) (fun _ => rfl) (Nat.le_of_ble_eq_true rfl) rfl rfl dX0_init_42 ?_
  refine z_aload_n K 0 rfl dX0_init_45 ?_
  refine z_bipush K cb_40 dX0_init_46 ?_
  refine z_newaQ (Q' := [.inr (0, [(1, 4), (1, 5), (1, 6), (1, 7), (1, 8), (5, 0), (5, 0), (5, 0), (0, 0)]), .inl (0, 16), .inl (1, 16), .inl (0, 16), .inl (0, 16), .inl (0, 256), .inl (0, 40)]) (c' := 6) (sl' := 360) K hR (by omega) hP (q := 9) rfl (t := 0) (ty := .int) (atype := .int) (N := 40) rfl rfl (fun _ _ => rfl) rfl ac_int (by decide) rfl (by decide) rfl rfl rfl (Nat.le_of_ble_eq_true rfl) (Nat.le_of_ble_eq_true rfl) dX0_init_48 ?_
  refine z_ltm (fun s6 => ?_)
  refine z_putFQ (j := 0) (Q' := [.inr (0, [(1, 4), (1, 5), (1, 6), (1, 7), (1, 8), (1, 9), (5, 0), (5, 0), (0, 0)]), .inl (0, 16), .inl (1, 16), .inl (0, 16), .inl (0, 16), .inl (0, 256), .inl (0, 40)]) K hin2 hP rfl ff_X0_30 rfl (fun _ => rfl) (fun _ => rfl) (Nat.le_of_ble_eq_true rfl) rfl rfl dX0_init_50 ?_
  refine z_aload_n K 0 rfl dX0_init_53 ?_
  refine z_bipush K cb_16 dX0_init_54 ?_
  refine z_newaQ (Q' := [.inr (0, [(1, 4), (1, 5), (1, 6), (1, 7), (1, 8), (1, 9), (5, 0), (5, 0), (0, 0)]), .inl (0, 16), .inl (1, 16), .inl (0, 16), .inl (0, 16), .inl (0, 256), .inl (0, 40), .inl (1, 16)]) (c' := 7) (sl' := 376) K hR (by omega) hP (q := 10) rfl (t := 1) (ty := .boolean) (atype := .boolean) (N := 16) rfl rfl (fun _ _ => rfl) rfl ac_boolean (by decide) rfl (by decide) rfl rfl rfl (Nat.le_of_ble_eq_true rfl) (Nat.le_of_ble_eq_true rfl) dX0_init_56 ?_
  refine z_ltm (fun s7 => ?_)
  refine z_putFQ (j := 0) (Q' := [.inr (0, [(1, 4), (1, 5), (1, 6), (1, 7), (1, 8), (1, 9), (1, 10), (5, 0), (0, 0)]), .inl (0, 16), .inl (1, 16), .inl (0, 16), .inl (0, 16), .inl (0, 256), .inl (0, 40), .inl (1, 16)]) K hin2 hP rfl ff_X0_33 rfl (fun _ => rfl) (fun _ => rfl) (Nat.le_of_ble_eq_true rfl) rfl rfl dX0_init_58 ?_
  refine z_aload_n K 0 rfl dX0_init_61 ?_
  refine z_bipush K cb_16 dX0_init_62 ?_
  refine z_newaQ (Q' := [.inr (0, [(1, 4), (1, 5), (1, 6), (1, 7), (1, 8), (1, 9), (1, 10), (5, 0), (0, 0)]), .inl (0, 16), .inl (1, 16), .inl (0, 16), .inl (0, 16), .inl (0, 256), .inl (0, 40), .inl (1, 16), .inl (0, 16)]) (c' := 8) (sl' := 392) K hR (by omega) hP (q := 11) rfl (t := 0) (ty := .int) (atype := .int) (N := 16) rfl rfl (fun _ _ => rfl) rfl ac_int (by decide) rfl (by decide) rfl rfl rfl (Nat.le_of_ble_eq_true rfl) (Nat.le_of_ble_eq_true rfl) dX0_init_64 ?_
  refine z_ltm (fun s8 => ?_)
  refine z_putFQ (j := 0) (Q' := [.inr (0, [(1, 4), (1, 5), (1, 6), (1, 7), (1, 8), (1, 9), (1, 10), (1, 11), (0, 0)]), .inl (0, 16), .inl (1, 16), .inl (0, 16), .inl (0, 16), .inl (0, 256), .inl (0, 40), .inl (1, 16), .inl (0, 16)]) K hin2 hP rfl ff_X0_36 rfl (fun _ => rfl) (fun _ => rfl) (Nat.le_of_ble_eq_true rfl) rfl rfl dX0_init_66 ?_
  refine z_iconst K ci_0 dX0_init_69 ?_
  refine z_istore_n K (lv' := [(1, .int (0 : Int32)), (0, .ref (a.1.2.2.2 + 3))]) dX0_init_70 rfl (Nat.le_of_ble_eq_true rfl) rfl ?_
  refine z_sub [1, 0] rfl ?_
  refine t_X0_init_L71 F K hd hB hP (fun s12 => ?_) F (0 : Int32) s8
  refine z_iconst K ci_0 dX0_init_97 ?_
  refine z_istore_n K (lv' := [(1, .int (0 : Int32)), (0, .ref (a.1.2.2.2 + 3))]) dX0_init_98 rfl (Nat.le_of_ble_eq_true rfl) rfl ?_
  refine z_sub [1, 0] rfl ?_
  refine t_X0_init_L99 F K hd hB hP (fun s15 => ?_) F (0 : Int32) s12
  exact z_vret K dX0_init_118
def f_X3_init (i : Nat) (s : zM) : Option (Unit × zM) :=
  lt (zclr s (i + 1) []) (fun s1 =>
  lt (zclr s1 (i + 2) []) (fun s2 =>
  lt (zclr s2 (i + 3) []) (fun s3 =>
  lt (zclr s3 (i + 4) []) (fun s4 =>
  lt (zclr s4 (i + 5) []) (fun s5 =>
  lt (zclr s5 (i + 6) []) (fun s6 =>
  lt (zclr s6 (i + 7) []) (fun s7 =>
  some ((), s7))))))))
set_option maxRecDepth 100000 in
set_option maxHeartbeats 4000000 in
theorem t_X3_init (w : zWd) (d : Nat) (hd : 1 ≤ d) (i : Nat) (hB : (i + 30 : Nat) ≤ w.2.2.1 3) {P : List zK} (hP : P.length = i) (s : zM) : zMt w yX3_init cX3_init 1 none d (P ++ [.inr (3, [(5, 0), (5, 0), (5, 0), (5, 0), (5, 0), (5, 0), (5, 0), (0, 0), (0, 0)])], true, 0, 0) (P ++ [.inr (3, [(1, (i + 1)), (1, (i + 2)), (1, (i + 3)), (1, (i + 4)), (1, (i + 5)), (1, (i + 6)), (1, (i + 7)), (0, 0), (0, 0)]), .inl (0, 14), .inl (0, 14), .inl (0, 14), .inl (0, 14), .inl (0, 200), .inl (0, 200), .inl (0, 40)], true, 7, 496) zrv [.ref (w.2.2.2 + i)] s (f_X3_init i s) := by
  refine zMt_of (by decide +kernel) (Nat.le_of_ble_eq_true rfl) cd_X3_init [(0, .ref (w.2.2.2 + i))] rfl ?_
  rintro a rfl hin2 hRm K
  have K : zOK a cX3_init 1 RX3 none d := K
  have hin2 : a.2.2.2.2.2.2.2.2.1.name = "<init>" := hin2
  have hR : 7 ≤ a.2.2.2.1.cells ∧ 496 ≤ a.2.2.2.1.slots := by rw [hRm]; exact ⟨Nat.le_refl _, Nat.le_refl _⟩
  unfold f_X3_init
  refine z_aload_n K 0 rfl dX3_init_0 ?_
  refine z_objInit K ml_X3_1 jo_ins jo_cod (by omega) (Nat.le_of_ble_eq_true rfl) dX3_init_1 ?_
  refine z_aload_n K 0 rfl dX3_init_4 ?_
  refine z_bipush K cb_14 dX3_init_5 ?_
  refine z_newaQ (Q' := [.inr (3, [(5, 0), (5, 0), (5, 0), (5, 0), (5, 0), (5, 0), (5, 0), (0, 0), (0, 0)]), .inl (0, 14)]) (c' := 1) (sl' := 14) K hR (by omega) hP (q := (i + 1)) rfl (t := 0) (ty := .int) (atype := .int) (N := 14) rfl rfl (fun _ _ => rfl) rfl ac_int (by decide) rfl (by decide) rfl rfl rfl (Nat.le_of_ble_eq_true rfl) (Nat.le_of_ble_eq_true rfl) dX3_init_7 ?_
  refine z_ltm (fun s1 => ?_)
  refine z_putFQ (j := 0) (Q' := [.inr (3, [(1, (i + 1)), (5, 0), (5, 0), (5, 0), (5, 0), (5, 0), (5, 0), (0, 0), (0, 0)]), .inl (0, 14)]) K hin2 hP rfl ff_X3_9 rfl (fun _ => rfl) (fun _ => rfl) (Nat.le_of_ble_eq_true rfl) rfl rfl dX3_init_9 ?_
  refine z_aload_n K 0 rfl dX3_init_12 ?_
  refine z_bipush K cb_14 dX3_init_13 ?_
  refine z_newaQ (Q' := [.inr (3, [(1, (i + 1)), (5, 0), (5, 0), (5, 0), (5, 0), (5, 0), (5, 0), (0, 0), (0, 0)]), .inl (0, 14), .inl (0, 14)]) (c' := 2) (sl' := 28) K hR (by omega) hP (q := (i + 2)) rfl (t := 0) (ty := .int) (atype := .int) (N := 14) rfl rfl (fun _ _ => rfl) rfl ac_int (by decide) rfl (by decide) rfl rfl rfl (Nat.le_of_ble_eq_true rfl) (Nat.le_of_ble_eq_true rfl) dX3_init_15 ?_
  refine z_ltm (fun s2 => ?_)
  refine z_putFQ (j := 0) (Q' := [.inr (3, [(1, (i + 1)), (1, (i + 2)), (5, 0), (5, 0), (5, 0), (5, 0), (5, 0), (0, 0), (0, 0)]), .inl (0, 14), .inl (0, 14)]) K hin2 hP rfl ff_X3_13 rfl (fun _ => rfl) (fun _ => rfl) (Nat.le_of_ble_eq_true rfl) rfl rfl dX3_init_17 ?_
  refine z_aload_n K 0 rfl dX3_init_20 ?_
  refine z_bipush K cb_14 dX3_init_21 ?_
  refine z_newaQ (Q' := [.inr (3, [(1, (i + 1)), (1, (i + 2)), (5, 0), (5, 0), (5, 0), (5, 0), (5, 0), (0, 0), (0, 0)]), .inl (0, 14), .inl (0, 14), .inl (0, 14)]) (c' := 3) (sl' := 42) K hR (by omega) hP (q := (i + 3)) rfl (t := 0) (ty := .int) (atype := .int) (N := 14) rfl rfl (fun _ _ => rfl) rfl ac_int (by decide) rfl (by decide) rfl rfl rfl (Nat.le_of_ble_eq_true rfl) (Nat.le_of_ble_eq_true rfl) dX3_init_23 ?_
  refine z_ltm (fun s3 => ?_)
  refine z_putFQ (j := 0) (Q' := [.inr (3, [(1, (i + 1)), (1, (i + 2)), (1, (i + 3)), (5, 0), (5, 0), (5, 0), (5, 0), (0, 0), (0, 0)]), .inl (0, 14), .inl (0, 14), .inl (0, 14)]) K hin2 hP rfl ff_X3_16 rfl (fun _ => rfl) (fun _ => rfl) (Nat.le_of_ble_eq_true rfl) rfl rfl dX3_init_25 ?_
  refine z_aload_n K 0 rfl dX3_init_28 ?_
  refine z_bipush K cb_14 dX3_init_29 ?_
  refine z_newaQ (Q' := [.inr (3, [(1, (i + 1)), (1, (i + 2)), (1, (i + 3)), (5, 0), (5, 0), (5, 0), (5, 0), (0, 0), (0, 0)]), .inl (0, 14), .inl (0, 14), .inl (0, 14), .inl (0, 14)]) (c' := 4) (sl' := 56) K hR (by omega) hP (q := (i + 4)) rfl (t := 0) (ty := .int) (atype := .int) (N := 14) rfl rfl (fun _ _ => rfl) rfl ac_int (by decide) rfl (by decide) rfl rfl rfl (Nat.le_of_ble_eq_true rfl) (Nat.le_of_ble_eq_true rfl) dX3_init_31 ?_
  refine z_ltm (fun s4 => ?_)
  refine z_putFQ (j := 0) (Q' := [.inr (3, [(1, (i + 1)), (1, (i + 2)), (1, (i + 3)), (1, (i + 4)), (5, 0), (5, 0), (5, 0), (0, 0), (0, 0)]), .inl (0, 14), .inl (0, 14), .inl (0, 14), .inl (0, 14)]) K hin2 hP rfl ff_X3_19 rfl (fun _ => rfl) (fun _ => rfl) (Nat.le_of_ble_eq_true rfl) rfl rfl dX3_init_33 ?_
  refine z_aload_n K 0 rfl dX3_init_36 ?_
  refine z_sipush K cs_200 dX3_init_37 ?_
  refine z_newaQ (Q' := [.inr (3, [(1, (i + 1)), (1, (i + 2)), (1, (i + 3)), (1, (i + 4)), (5, 0), (5, 0), (5, 0), (0, 0), (0, 0)]), .inl (0, 14), .inl (0, 14), .inl (0, 14), .inl (0, 14), .inl (0, 200)]) (c' := 5) (sl' := 256) K hR (by omega) hP (q := (i + 5)) rfl (t := 0) (ty := .int) (atype := .int) (N := 200) rfl rfl (fun _ _ => rfl) rfl ac_int (by decide) rfl (by decide) rfl rfl rfl (Nat.le_of_ble_eq_true rfl) (Nat.le_of_ble_eq_true rfl) dX3_init_40 ?_
  refine z_ltm (fun s5 => ?_)
  refine z_putFQ (j := 0) (Q' := [.inr (3, [(1, (i + 1)), (1, (i + 2)), (1, (i + 3)), (1, (i + 4)), (1, (i + 5)), (5, 0), (5, 0), (0, 0), (0, 0)]), .inl (0, 14), .inl (0, 14), .inl (0, 14), .inl (0, 14), .inl (0, 200)]) K hin2 hP rfl ff_X3_22 rfl (fun _ => rfl) (fun _ => rfl) (Nat.le_of_ble_eq_true rfl) rfl rfl dX3_init_42 ?_
  refine z_aload_n K 0 rfl dX3_init_45 ?_
  refine z_sipush K cs_200 dX3_init_46 ?_
  refine z_newaQ (Q' := [.inr (3, [(1, (i + 1)), (1, (i + 2)), (1, (i + 3)), (1, (i + 4)), (1, (i + 5)), (5, 0), (5, 0), (0, 0), (0, 0)]), .inl (0, 14), .inl (0, 14), .inl (0, 14), .inl (0, 14), .inl (0, 200), .inl (0, 200)]) (c' := 6) (sl' := 456) K hR (by omega) hP (q := (i + 6)) rfl (t := 0) (ty := .int) (atype := .int) (N := 200) rfl rfl (fun _ _ => rfl) rfl ac_int (by decide) rfl (by decide) rfl rfl rfl (Nat.le_of_ble_eq_true rfl) (Nat.le_of_ble_eq_true rfl) dX3_init_49 ?_
  refine z_ltm (fun s6 => ?_)
  refine z_putFQ (j := 0) (Q' := [.inr (3, [(1, (i + 1)), (1, (i + 2)), (1, (i + 3)), (1, (i + 4)), (1, (i + 5)), (1, (i + 6)), (5, 0), (0, 0), (0, 0)]), .inl (0, 14), .inl (0, 14), .inl (0, 14), .inl (0, 14), .inl (0, 200), .inl (0, 200)]) K hin2 hP rfl ff_X3_25 rfl (fun _ => rfl) (fun _ => rfl) (Nat.le_of_ble_eq_true rfl) rfl rfl dX3_init_51 ?_
  refine z_aload_n K 0 rfl dX3_init_54 ?_
  refine z_bipush K cb_40 dX3_init_55 ?_
  refine z_newaQ (Q' := [.inr (3, [(1, (i + 1)), (1, (i + 2)), (1, (i + 3)), (1, (i + 4)), (1, (i + 5)), (1, (i + 6)), (5, 0), (0, 0), (0, 0)]), .inl (0, 14), .inl (0, 14), .inl (0, 14), .inl (0, 14), .inl (0, 200), .inl (0, 200), .inl (0, 40)]) (c' := 7) (sl' := 496) K hR (by omega) hP (q := (i + 7)) rfl (t := 0) (ty := .int) (atype := .int) (N := 40) rfl rfl (fun _ _ => rfl) rfl ac_int (by decide) rfl (by decide) rfl rfl rfl (Nat.le_of_ble_eq_true rfl) (Nat.le_of_ble_eq_true rfl) dX3_init_57 ?_
  refine z_ltm (fun s7 => ?_)
  refine z_putFQ (j := 0) (Q' := [.inr (3, [(1, (i + 1)), (1, (i + 2)), (1, (i + 3)), (1, (i + 4)), (1, (i + 5)), (1, (i + 6)), (1, (i + 7)), (0, 0), (0, 0)]), .inl (0, 14), .inl (0, 14), .inl (0, 14), .inl (0, 14), .inl (0, 200), .inl (0, 200), .inl (0, 40)]) K hin2 hP rfl ff_X3_28 rfl (fun _ => rfl) (fun _ => rfl) (Nat.le_of_ble_eq_true rfl) rfl rfl dX3_init_59 ?_
  exact z_vret K dX3_init_62
def f_X1_init (s : zM) : Option (Unit × zM) :=
  lt (zclr s 13 []) (fun s1 =>
  lt (zclr s1 14 []) (fun s2 =>
  lt (zclr s2 15 []) (fun s3 =>
  lt (zclr s3 16 []) (fun s4 =>
  bnd (f_X3_init 16 s4) (fun _ s5 =>
  lt (zs s5 12 4 (nI 16)) (fun s6 =>
  lt (zs s6 12 5 (1 : Int32)) (fun s7 =>
  some ((), s7))))))))
set_option maxRecDepth 100000 in
set_option maxHeartbeats 4000000 in
theorem t_X1_init (w : zWd) (d : Nat) (hd : 2 ≤ d) (hB : (69 : Nat) ≤ w.2.2.1 3) {P : List zK} (hP : P.length = 12) (s : zM) : zMt w yX1_init cX1_init 2 none d (P ++ [.inr (1, [(5, 0), (5, 0), (5, 0), (5, 0), (5, 0), (0, 0)])], true, 0, 0) (P ++ [.inr (1, [(1, 3), (1, 13), (1, 14), (1, 15), (2, 0), (0, 0)]), .inl (0, 10), .inl (0, 48000), .inl (0, 640), .inr (3, [(1, 17), (1, 18), (1, 19), (1, 20), (1, 21), (1, 22), (1, 23), (0, 0), (0, 0)]), .inl (0, 14), .inl (0, 14), .inl (0, 14), .inl (0, 14), .inl (0, 200), .inl (0, 200), .inl (0, 40)], true, 11, 49155) zrv [.ref (w.2.2.2 + 12), .ref (w.2.2.2 + 3)] s (f_X1_init s) := by
  refine zMt_of (by decide +kernel) (Nat.le_of_ble_eq_true rfl) cd_X1_init [(0, .ref (w.2.2.2 + 12)), (1, .ref (w.2.2.2 + 3))] rfl ?_
  rintro a rfl hin2 hRm K
  have K : zOK a cX1_init 2 RX1 none d := K
  have hin2 : a.2.2.2.2.2.2.2.2.1.name = "<init>" := hin2
  have hR : 11 ≤ a.2.2.2.1.cells ∧ 49155 ≤ a.2.2.2.1.slots := by rw [hRm]; exact ⟨Nat.le_refl _, Nat.le_refl _⟩
  unfold f_X1_init
  refine z_aload_n K 0 rfl dX1_init_0 ?_
  refine z_objInit K ml_X1_7 jo_ins jo_cod (by omega) (Nat.le_of_ble_eq_true rfl) dX1_init_1 ?_
  refine z_aload_n K 0 rfl dX1_init_4 ?_
  refine z_bipush K cb_10 dX1_init_5 ?_
  refine z_newaQ (Q' := [.inr (1, [(5, 0), (5, 0), (5, 0), (5, 0), (5, 0), (0, 0)]), .inl (0, 10)]) (c' := 1) (sl' := 10) K hR (by omega) hP (q := 13) rfl (t := 0) (ty := .int) (atype := .int) (N := 10) rfl rfl (fun _ _ => rfl) rfl ac_int (by decide) rfl (by decide) rfl rfl rfl (Nat.le_of_ble_eq_true rfl) (Nat.le_of_ble_eq_true rfl) dX1_init_7 ?_
  refine z_ltm (fun s1 => ?_)
  refine z_putFQ (j := 0) (Q' := [.inr (1, [(5, 0), (1, 13), (5, 0), (5, 0), (5, 0), (0, 0)]), .inl (0, 10)]) K hin2 hP rfl ff_X1_13 rfl (fun _ => rfl) (fun _ => rfl) (Nat.le_of_ble_eq_true rfl) rfl rfl dX1_init_9 ?_
  refine z_aload_n K 0 rfl dX1_init_12 ?_
  refine z_ldc K cst_X1_19 dX1_init_13 ?_
  refine z_newaQ (Q' := [.inr (1, [(5, 0), (1, 13), (5, 0), (5, 0), (5, 0), (0, 0)]), .inl (0, 10), .inl (0, 48000)]) (c' := 2) (sl' := 48010) K hR (by omega) hP (q := 14) rfl (t := 0) (ty := .int) (atype := .int) (N := 48000) rfl rfl (fun _ _ => rfl) rfl ac_int (by decide) rfl (by decide) rfl rfl rfl (Nat.le_of_ble_eq_true rfl) (Nat.le_of_ble_eq_true rfl) dX1_init_15 ?_
  refine z_ltm (fun s2 => ?_)
  refine z_putFQ (j := 0) (Q' := [.inr (1, [(5, 0), (1, 13), (1, 14), (5, 0), (5, 0), (0, 0)]), .inl (0, 10), .inl (0, 48000)]) K hin2 hP rfl ff_X1_20 rfl (fun _ => rfl) (fun _ => rfl) (Nat.le_of_ble_eq_true rfl) rfl rfl dX1_init_17 ?_
  refine z_aload_n K 0 rfl dX1_init_20 ?_
  refine z_sipush K cs_640 dX1_init_21 ?_
  refine z_newaQ (Q' := [.inr (1, [(5, 0), (1, 13), (1, 14), (5, 0), (5, 0), (0, 0)]), .inl (0, 10), .inl (0, 48000), .inl (0, 640)]) (c' := 3) (sl' := 48650) K hR (by omega) hP (q := 15) rfl (t := 0) (ty := .int) (atype := .int) (N := 640) rfl rfl (fun _ _ => rfl) rfl ac_int (by decide) rfl (by decide) rfl rfl rfl (Nat.le_of_ble_eq_true rfl) (Nat.le_of_ble_eq_true rfl) dX1_init_24 ?_
  refine z_ltm (fun s3 => ?_)
  refine z_putFQ (j := 0) (Q' := [.inr (1, [(5, 0), (1, 13), (1, 14), (1, 15), (5, 0), (0, 0)]), .inl (0, 10), .inl (0, 48000), .inl (0, 640)]) K hin2 hP rfl ff_X1_23 rfl (fun _ => rfl) (fun _ => rfl) (Nat.le_of_ble_eq_true rfl) rfl rfl dX1_init_26 ?_
  refine z_aload_n K 0 rfl dX1_init_29 ?_
  refine z_newQ (Q' := [.inr (1, [(5, 0), (1, 13), (1, 14), (1, 15), (5, 0), (0, 0)]), .inl (0, 10), .inl (0, 48000), .inl (0, 640), .inr (3, [(5, 0), (5, 0), (5, 0), (5, 0), (5, 0), (5, 0), (5, 0), (0, 0), (0, 0)])]) (c' := 4) (sl' := 48659) K hR (by omega) hP (q := 16) rfl [] (ci := 3) rfl in_X3 tyX3_ok cl_X1_26 is_X3 it_X3 (zNoL_nil _) rfl (by decide +kernel) rfl rfl rfl (Nat.le_of_ble_eq_true rfl) (Nat.le_of_ble_eq_true rfl) dX1_init_30 ?_
  refine z_ltm (fun s4 => ?_)
  refine z_dup K rfl dX1_init_33 ?_
  refine z_cIQ (As := [.inr (1, [(5, 0), (1, 13), (1, 14), (1, 15), (5, 0), (0, 0)]), .inl (0, 10), .inl (0, 48000), .inl (0, 640)]) (Q' := [.inr (1, [(5, 0), (1, 13), (1, 14), (1, 15), (5, 0), (0, 0)]), .inl (0, 10), .inl (0, 48000), .inl (0, 640), .inr (3, [(1, 17), (1, 18), (1, 19), (1, 20), (1, 21), (1, 22), (1, 23), (0, 0), (0, 0)]), .inl (0, 14), .inl (0, 14), .inl (0, 14), .inl (0, 14), .inl (0, 200), .inl (0, 200), .inl (0, 40)]) (c' := 11) (sl' := 49155) (av := []) (rst := [.ref (a.1.2.2.2 + 16), .ref (a.1.2.2.2 + 12)]) K hR (t_X3_init a.1 (d - 1) (by omega) 16 (by omega) (P := P ++ [.inr (1, [(5, 0), (1, 13), (1, 14), (1, 15), (5, 0), (0, 0)]), .inl (0, 10), .inl (0, 48000), .inl (0, 640)]) (by rw [List.length_append, hP]; rfl) s4) rfl mf_X3_init ml_X1_28 (Nat.le_of_ble_eq_true rfl) (by omega) rfl rfl (Nat.le_of_ble_eq_true rfl) rfl rfl rfl (Nat.le_of_ble_eq_true rfl) (Nat.le_of_ble_eq_true rfl) dX1_init_34 (fun s5 => ?_)
  refine z_putNQ (j := 0) (Q' := [.inr (1, [(5, 0), (1, 13), (1, 14), (1, 15), (2, 0), (0, 0)]), .inl (0, 10), .inl (0, 48000), .inl (0, 640), .inr (3, [(1, 17), (1, 18), (1, 19), (1, 20), (1, 21), (1, 22), (1, 23), (0, 0), (0, 0)]), .inl (0, 14), .inl (0, 14), .inl (0, 14), .inl (0, 14), .inl (0, 200), .inl (0, 200), .inl (0, 40)]) K hP rfl (Nat.le_of_ble_eq_true rfl) fw_X1_29 rfl (Nat.le_of_ble_eq_true rfl) rfl rfl dX1_init_37 ?_
  refine z_ltm (fun s6 => ?_)
  refine z_aload_n K 0 rfl dX1_init_40 ?_
  refine z_iconst K ci_1 dX1_init_41 ?_
  refine z_puti K fw_X1_33 (zob_app (j := 0) hP rfl rfl rfl) dX1_init_42 ?_
  refine z_ltm (fun s7 => ?_)
  refine z_aload_n K 0 rfl dX1_init_45 ?_
  refine z_aload_n K 1 rfl dX1_init_46 ?_
  refine z_putFQ (j := 0) (Q' := [.inr (1, [(1, 3), (1, 13), (1, 14), (1, 15), (2, 0), (0, 0)]), .inl (0, 10), .inl (0, 48000), .inl (0, 640), .inr (3, [(1, 17), (1, 18), (1, 19), (1, 20), (1, 21), (1, 22), (1, 23), (0, 0), (0, 0)]), .inl (0, 14), .inl (0, 14), .inl (0, 14), .inl (0, 14), .inl (0, 200), .inl (0, 200), .inl (0, 40)]) K hin2 hP rfl ff_X1_37 rfl (fun _ => rfl) (fun _ => rfl) (Nat.le_of_ble_eq_true rfl) rfl rfl dX1_init_47 ?_
  exact z_vret K dX1_init_50
def f_X4_init (s : zM) : Option (Unit × zM) :=
  lt (zclr s 25 []) (fun s1 =>
  bnd (f_X3_init 25 s1) (fun _ s2 =>
  lt (zs s2 24 1 (nI 25)) (fun s3 =>
  some ((), s3))))
set_option maxRecDepth 100000 in
set_option maxHeartbeats 4000000 in
theorem t_X4_init (w : zWd) (d : Nat) (hd : 2 ≤ d) (hB : (69 : Nat) ≤ w.2.2.1 3) {P : List zK} (hP : P.length = 24) (s : zM) : zMt w yX4_init cX4_init 2 none d (P ++ [.inr (4, [(5, 0), (5, 0), (0, 0), (0, 0), (0, 0)])], true, 0, 0) (P ++ [.inr (4, [(1, 1), (2, 0), (0, 0), (0, 0), (0, 0)]), .inr (3, [(1, 26), (1, 27), (1, 28), (1, 29), (1, 30), (1, 31), (1, 32), (0, 0), (0, 0)]), .inl (0, 14), .inl (0, 14), .inl (0, 14), .inl (0, 14), .inl (0, 200), .inl (0, 200), .inl (0, 40)], true, 8, 505) zrv [.ref (w.2.2.2 + 24), .ref (w.2.2.2 + 1)] s (f_X4_init s) := by
  refine zMt_of (by decide +kernel) (Nat.le_of_ble_eq_true rfl) cd_X4_init [(0, .ref (w.2.2.2 + 24)), (1, .ref (w.2.2.2 + 1))] rfl ?_
  rintro a rfl hin2 hRm K
  have K : zOK a cX4_init 2 RX4 none d := K
  have hin2 : a.2.2.2.2.2.2.2.2.1.name = "<init>" := hin2
  have hR : 8 ≤ a.2.2.2.1.cells ∧ 505 ≤ a.2.2.2.1.slots := by rw [hRm]; exact ⟨Nat.le_refl _, Nat.le_refl _⟩
  unfold f_X4_init
  refine z_aload_n K 0 rfl dX4_init_0 ?_
  refine z_objInit K ml_X4_3 jo_ins jo_cod (by omega) (Nat.le_of_ble_eq_true rfl) dX4_init_1 ?_
  refine z_aload_n K 0 rfl dX4_init_4 ?_
  refine z_newQ (Q' := [.inr (4, [(5, 0), (5, 0), (0, 0), (0, 0), (0, 0)]), .inr (3, [(5, 0), (5, 0), (5, 0), (5, 0), (5, 0), (5, 0), (5, 0), (0, 0), (0, 0)])]) (c' := 1) (sl' := 9) K hR (by omega) hP (q := 25) rfl [] (ci := 3) rfl in_X3 tyX3_ok cl_X4_9 is_X3 it_X3 (zNoL_nil _) rfl (by decide +kernel) rfl rfl rfl (Nat.le_of_ble_eq_true rfl) (Nat.le_of_ble_eq_true rfl) dX4_init_5 ?_
  refine z_ltm (fun s1 => ?_)
  refine z_dup K rfl dX4_init_8 ?_
  refine z_cIQ (As := [.inr (4, [(5, 0), (5, 0), (0, 0), (0, 0), (0, 0)])]) (Q' := [.inr (4, [(5, 0), (5, 0), (0, 0), (0, 0), (0, 0)]), .inr (3, [(1, 26), (1, 27), (1, 28), (1, 29), (1, 30), (1, 31), (1, 32), (0, 0), (0, 0)]), .inl (0, 14), .inl (0, 14), .inl (0, 14), .inl (0, 14), .inl (0, 200), .inl (0, 200), .inl (0, 40)]) (c' := 8) (sl' := 505) (av := []) (rst := [.ref (a.1.2.2.2 + 25), .ref (a.1.2.2.2 + 24)]) K hR (t_X3_init a.1 (d - 1) (by omega) 25 (by omega) (P := P ++ [.inr (4, [(5, 0), (5, 0), (0, 0), (0, 0), (0, 0)])]) (by rw [List.length_append, hP]; rfl) s1) rfl mf_X3_init ml_X4_11 (Nat.le_of_ble_eq_true rfl) (by omega) rfl rfl (Nat.le_of_ble_eq_true rfl) rfl rfl rfl (Nat.le_of_ble_eq_true rfl) (Nat.le_of_ble_eq_true rfl) dX4_init_9 (fun s2 => ?_)
  refine z_putNQ (j := 0) (Q' := [.inr (4, [(5, 0), (2, 0), (0, 0), (0, 0), (0, 0)]), .inr (3, [(1, 26), (1, 27), (1, 28), (1, 29), (1, 30), (1, 31), (1, 32), (0, 0), (0, 0)]), .inl (0, 14), .inl (0, 14), .inl (0, 14), .inl (0, 14), .inl (0, 200), .inl (0, 200), .inl (0, 40)]) K hP rfl (Nat.le_of_ble_eq_true rfl) fw_X4_12 rfl (Nat.le_of_ble_eq_true rfl) rfl rfl dX4_init_12 ?_
  refine z_ltm (fun s3 => ?_)
  refine z_aload_n K 0 rfl dX4_init_15 ?_
  refine z_aload_n K 1 rfl dX4_init_16 ?_
  refine z_putFQ (j := 0) (Q' := [.inr (4, [(1, 1), (2, 0), (0, 0), (0, 0), (0, 0)]), .inr (3, [(1, 26), (1, 27), (1, 28), (1, 29), (1, 30), (1, 31), (1, 32), (0, 0), (0, 0)]), .inl (0, 14), .inl (0, 14), .inl (0, 14), .inl (0, 14), .inl (0, 200), .inl (0, 200), .inl (0, 40)]) K hin2 hP rfl ff_X4_18 rfl (fun _ => rfl) (fun _ => rfl) (Nat.le_of_ble_eq_true rfl) rfl rfl dX4_init_17 ?_
  exact z_vret K dX4_init_20
def f_X5_init (s : zM) : Option (Unit × zM) :=
  lt (zclr s 34 []) (fun s1 =>
  lt (zclr s1 35 []) (fun s2 =>
  lt (zclr s2 36 []) (fun s3 =>
  lt (zclr s3 37 []) (fun s4 =>
  lt (zclr s4 38 []) (fun s5 =>
  lt (zclr s5 39 []) (fun s6 =>
  lt (zclr s6 40 []) (fun s7 =>
  lt (zclr s7 41 []) (fun s8 =>
  some ((), s8)))))))))
set_option maxRecDepth 100000 in
set_option maxHeartbeats 4000000 in
theorem t_X5_init (w : zWd) (d : Nat) (hd : 1 ≤ d) (hB : (69 : Nat) ≤ w.2.2.1 3) {P : List zK} (hP : P.length = 33) (s : zM) : zMt w yX5_init cX5_init 3 none d (P ++ [.inr (5, [(5, 0), (5, 0), (5, 0), (5, 0), (5, 0), (5, 0), (5, 0), (5, 0), (5, 0), (5, 0), (0, 0), (0, 0)])], true, 0, 0) (P ++ [.inr (5, [(1, 3), (1, 12), (1, 34), (1, 35), (1, 36), (1, 37), (1, 38), (1, 39), (1, 40), (1, 41), (0, 0), (0, 0)]), .inl (0, 10), .inl (0, 10), .inl (0, 10), .inl (0, 10), .inl (0, 10), .inl (0, 10), .inl (0, 16), .inl (0, 16)], true, 8, 92) zrv [.ref (w.2.2.2 + 33), .ref (w.2.2.2 + 3), .ref (w.2.2.2 + 12)] s (f_X5_init s) := by
  refine zMt_of (by decide +kernel) (Nat.le_of_ble_eq_true rfl) cd_X5_init [(0, .ref (w.2.2.2 + 33)), (1, .ref (w.2.2.2 + 3)), (2, .ref (w.2.2.2 + 12))] rfl ?_
  rintro a rfl hin2 hRm K
  have K : zOK a cX5_init 3 RX5 none d := K
  have hin2 : a.2.2.2.2.2.2.2.2.1.name = "<init>" := hin2
  have hR : 8 ≤ a.2.2.2.1.cells ∧ 92 ≤ a.2.2.2.1.slots := by rw [hRm]; exact ⟨Nat.le_refl _, Nat.le_refl _⟩
  unfold f_X5_init
  refine z_aload_n K 0 rfl dX5_init_0 ?_
  refine z_objInit K ml_X5_3 jo_ins jo_cod (by omega) (Nat.le_of_ble_eq_true rfl) dX5_init_1 ?_
  refine z_aload_n K 0 rfl dX5_init_4 ?_
  refine z_bipush K cb_10 dX5_init_5 ?_
  refine z_newaQ (Q' := [.inr (5, [(5, 0), (5, 0), (5, 0), (5, 0), (5, 0), (5, 0), (5, 0), (5, 0), (5, 0), (5, 0), (0, 0), (0, 0)]), .inl (0, 10)]) (c' := 1) (sl' := 10) K hR (by omega) hP (q := 34) rfl (t := 0) (ty := .int) (atype := .int) (N := 10) rfl rfl (fun _ _ => rfl) rfl ac_int (by decide) rfl (by decide) rfl rfl rfl (Nat.le_of_ble_eq_true rfl) (Nat.le_of_ble_eq_true rfl) dX5_init_7 ?_
  refine z_ltm (fun s1 => ?_)
  refine z_putFQ (j := 0) (Q' := [.inr (5, [(5, 0), (5, 0), (1, 34), (5, 0), (5, 0), (5, 0), (5, 0), (5, 0), (5, 0), (5, 0), (0, 0), (0, 0)]), .inl (0, 10)]) K hin2 hP rfl ff_X5_11 rfl (fun _ => rfl) (fun _ => rfl) (Nat.le_of_ble_eq_true rfl) rfl rfl dX5_init_9 ?_
  refine z_aload_n K 0 rfl dX5_init_12 ?_
  refine z_bipush K cb_10 dX5_init_13 ?_
  refine z_newaQ (Q' := [.inr (5, [(5, 0), (5, 0), (1, 34), (5, 0), (5, 0), (5, 0), (5, 0), (5, 0), (5, 0), (5, 0), (0, 0), (0, 0)]), .inl (0, 10), .inl (0, 10)]) (c' := 2) (sl' := 20) K hR (by omega) hP (q := 35) rfl (t := 0) (ty := .int) (atype := .int) (N := 10) rfl rfl (fun _ _ => rfl) rfl ac_int (by decide) rfl (by decide) rfl rfl rfl (Nat.le_of_ble_eq_true rfl) (Nat.le_of_ble_eq_true rfl) dX5_init_15 ?_
  refine z_ltm (fun s2 => ?_)
  refine z_putFQ (j := 0) (Q' := [.inr (5, [(5, 0), (5, 0), (1, 34), (1, 35), (5, 0), (5, 0), (5, 0), (5, 0), (5, 0), (5, 0), (0, 0), (0, 0)]), .inl (0, 10), .inl (0, 10)]) K hin2 hP rfl ff_X5_15 rfl (fun _ => rfl) (fun _ => rfl) (Nat.le_of_ble_eq_true rfl) rfl rfl dX5_init_17 ?_
  refine z_aload_n K 0 rfl dX5_init_20 ?_
  refine z_bipush K cb_10 dX5_init_21 ?_
  refine z_newaQ (Q' := [.inr (5, [(5, 0), (5, 0), (1, 34), (1, 35), (5, 0), (5, 0), (5, 0), (5, 0), (5, 0), (5, 0), (0, 0), (0, 0)]), .inl (0, 10), .inl (0, 10), .inl (0, 10)]) (c' := 3) (sl' := 30) K hR (by omega) hP (q := 36) rfl (t := 0) (ty := .int) (atype := .int) (N := 10) rfl rfl (fun _ _ => rfl) rfl ac_int (by decide) rfl (by decide) rfl rfl rfl (Nat.le_of_ble_eq_true rfl) (Nat.le_of_ble_eq_true rfl) dX5_init_23 ?_
  refine z_ltm (fun s3 => ?_)
  refine z_putFQ (j := 0) (Q' := [.inr (5, [(5, 0), (5, 0), (1, 34), (1, 35), (1, 36), (5, 0), (5, 0), (5, 0), (5, 0), (5, 0), (0, 0), (0, 0)]), .inl (0, 10), .inl (0, 10), .inl (0, 10)]) K hin2 hP rfl ff_X5_18 rfl (fun _ => rfl) (fun _ => rfl) (Nat.le_of_ble_eq_true rfl) rfl rfl dX5_init_25 ?_
  refine z_aload_n K 0 rfl dX5_init_28 ?_
  refine z_bipush K cb_10 dX5_init_29 ?_
  refine z_newaQ (Q' := [.inr (5, [(5, 0), (5, 0), (1, 34), (1, 35), (1, 36), (5, 0), (5, 0), (5, 0), (5, 0), (5, 0), (0, 0), (0, 0)]), .inl (0, 10), .inl (0, 10), .inl (0, 10), .inl (0, 10)]) (c' := 4) (sl' := 40) K hR (by omega) hP (q := 37) rfl (t := 0) (ty := .int) (atype := .int) (N := 10) rfl rfl (fun _ _ => rfl) rfl ac_int (by decide) rfl (by decide) rfl rfl rfl (Nat.le_of_ble_eq_true rfl) (Nat.le_of_ble_eq_true rfl) dX5_init_31 ?_
  refine z_ltm (fun s4 => ?_)
  refine z_putFQ (j := 0) (Q' := [.inr (5, [(5, 0), (5, 0), (1, 34), (1, 35), (1, 36), (1, 37), (5, 0), (5, 0), (5, 0), (5, 0), (0, 0), (0, 0)]), .inl (0, 10), .inl (0, 10), .inl (0, 10), .inl (0, 10)]) K hin2 hP rfl ff_X5_21 rfl (fun _ => rfl) (fun _ => rfl) (Nat.le_of_ble_eq_true rfl) rfl rfl dX5_init_33 ?_
  refine z_aload_n K 0 rfl dX5_init_36 ?_
  refine z_bipush K cb_10 dX5_init_37 ?_
  refine z_newaQ (Q' := [.inr (5, [(5, 0), (5, 0), (1, 34), (1, 35), (1, 36), (1, 37), (5, 0), (5, 0), (5, 0), (5, 0), (0, 0), (0, 0)]), .inl (0, 10), .inl (0, 10), .inl (0, 10), .inl (0, 10), .inl (0, 10)]) (c' := 5) (sl' := 50) K hR (by omega) hP (q := 38) rfl (t := 0) (ty := .int) (atype := .int) (N := 10) rfl rfl (fun _ _ => rfl) rfl ac_int (by decide) rfl (by decide) rfl rfl rfl (Nat.le_of_ble_eq_true rfl) (Nat.le_of_ble_eq_true rfl) dX5_init_39 ?_
  refine z_ltm (fun s5 => ?_)
  refine z_putFQ (j := 0) (Q' := [.inr (5, [(5, 0), (5, 0), (1, 34), (1, 35), (1, 36), (1, 37), (1, 38), (5, 0), (5, 0), (5, 0), (0, 0), (0, 0)]), .inl (0, 10), .inl (0, 10), .inl (0, 10), .inl (0, 10), .inl (0, 10)]) K hin2 hP rfl ff_X5_24 rfl (fun _ => rfl) (fun _ => rfl) (Nat.le_of_ble_eq_true rfl) rfl rfl dX5_init_41 ?_
  refine z_aload_n K 0 rfl dX5_init_44 ?_
  refine z_bipush K cb_10 dX5_init_45 ?_
  refine z_newaQ (Q' := [.inr (5, [(5, 0), (5, 0), (1, 34), (1, 35), (1, 36), (1, 37), (1, 38), (5, 0), (5, 0), (5, 0), (0, 0), (0, 0)]), .inl (0, 10), .inl (0, 10), .inl (0, 10), .inl (0, 10), .inl (0, 10), .inl (0, 10)]) (c' := 6) (sl' := 60) K hR (by omega) hP (q := 39) rfl (t := 0) (ty := .int) (atype := .int) (N := 10) rfl rfl (fun _ _ => rfl) rfl ac_int (by decide) rfl (by decide) rfl rfl rfl (Nat.le_of_ble_eq_true rfl) (Nat.le_of_ble_eq_true rfl) dX5_init_47 ?_
  refine z_ltm (fun s6 => ?_)
  refine z_putFQ (j := 0) (Q' := [.inr (5, [(5, 0), (5, 0), (1, 34), (1, 35), (1, 36), (1, 37), (1, 38), (1, 39), (5, 0), (5, 0), (0, 0), (0, 0)]), .inl (0, 10), .inl (0, 10), .inl (0, 10), .inl (0, 10), .inl (0, 10), .inl (0, 10)]) K hin2 hP rfl ff_X5_27 rfl (fun _ => rfl) (fun _ => rfl) (Nat.le_of_ble_eq_true rfl) rfl rfl dX5_init_49 ?_
  refine z_aload_n K 0 rfl dX5_init_52 ?_
  refine z_bipush K cb_16 dX5_init_53 ?_
  refine z_newaQ (Q' := [.inr (5, [(5, 0), (5, 0), (1, 34), (1, 35), (1, 36), (1, 37), (1, 38), (1, 39), (5, 0), (5, 0), (0, 0), (0, 0)]), .inl (0, 10), .inl (0, 10), .inl (0, 10), .inl (0, 10), .inl (0, 10), .inl (0, 10), .inl (0, 16)]) (c' := 7) (sl' := 76) K hR (by omega) hP (q := 40) rfl (t := 0) (ty := .int) (atype := .int) (N := 16) rfl rfl (fun _ _ => rfl) rfl ac_int (by decide) rfl (by decide) rfl rfl rfl (Nat.le_of_ble_eq_true rfl) (Nat.le_of_ble_eq_true rfl) dX5_init_55 ?_
  refine z_ltm (fun s7 => ?_)
  refine z_putFQ (j := 0) (Q' := [.inr (5, [(5, 0), (5, 0), (1, 34), (1, 35), (1, 36), (1, 37), (1, 38), (1, 39), (1, 40), (5, 0), (0, 0), (0, 0)]), .inl (0, 10), .inl (0, 10), .inl (0, 10), .inl (0, 10), .inl (0, 10), .inl (0, 10), .inl (0, 16)]) K hin2 hP rfl ff_X5_32 rfl (fun _ => rfl) (fun _ => rfl) (Nat.le_of_ble_eq_true rfl) rfl rfl dX5_init_57 ?_
  refine z_aload_n K 0 rfl dX5_init_60 ?_
  refine z_bipush K cb_16 dX5_init_61 ?_
  refine z_newaQ (Q' := [.inr (5, [(5, 0), (5, 0), (1, 34), (1, 35), (1, 36), (1, 37), (1, 38), (1, 39), (1, 40), (5, 0), (0, 0), (0, 0)]), .inl (0, 10), .inl (0, 10), .inl (0, 10), .inl (0, 10), .inl (0, 10), .inl (0, 10), .inl (0, 16), .inl (0, 16)]) (c' := 8) (sl' := 92) K hR (by omega) hP (q := 41) rfl (t := 0) (ty := .int) (atype := .int) (N := 16) rfl rfl (fun _ _ => rfl) rfl ac_int (by decide) rfl (by decide) rfl rfl rfl (Nat.le_of_ble_eq_true rfl) (Nat.le_of_ble_eq_true rfl) dX5_init_63 ?_
  refine z_ltm (fun s8 => ?_)
  refine z_putFQ (j := 0) (Q' := [.inr (5, [(5, 0), (5, 0), (1, 34), (1, 35), (1, 36), (1, 37), (1, 38), (1, 39), (1, 40), (1, 41), (0, 0), (0, 0)]), .inl (0, 10), .inl (0, 10), .inl (0, 10), .inl (0, 10), .inl (0, 10), .inl (0, 10), .inl (0, 16), .inl (0, 16)]) K hin2 hP rfl ff_X5_35 rfl (fun _ => rfl) (fun _ => rfl) (Nat.le_of_ble_eq_true rfl) rfl rfl dX5_init_65 ?_
  refine z_aload_n K 0 rfl dX5_init_68 ?_
  refine z_aload_n K 1 rfl dX5_init_69 ?_
  refine z_putFQ (j := 0) (Q' := [.inr (5, [(1, 3), (5, 0), (1, 34), (1, 35), (1, 36), (1, 37), (1, 38), (1, 39), (1, 40), (1, 41), (0, 0), (0, 0)]), .inl (0, 10), .inl (0, 10), .inl (0, 10), .inl (0, 10), .inl (0, 10), .inl (0, 10), .inl (0, 16), .inl (0, 16)]) K hin2 hP rfl ff_X5_38 rfl (fun _ => rfl) (fun _ => rfl) (Nat.le_of_ble_eq_true rfl) rfl rfl dX5_init_70 ?_
  refine z_aload_n K 0 rfl dX5_init_73 ?_
  refine z_aload_n K 2 rfl dX5_init_74 ?_
  refine z_putFQ (j := 0) (Q' := [.inr (5, [(1, 3), (1, 12), (1, 34), (1, 35), (1, 36), (1, 37), (1, 38), (1, 39), (1, 40), (1, 41), (0, 0), (0, 0)]), .inl (0, 10), .inl (0, 10), .inl (0, 10), .inl (0, 10), .inl (0, 10), .inl (0, 10), .inl (0, 16), .inl (0, 16)]) K hin2 hP rfl ff_X5_42 rfl (fun _ => rfl) (fun _ => rfl) (Nat.le_of_ble_eq_true rfl) rfl rfl dX5_init_75 ?_
  exact z_vret K dX5_init_78
def f_X9_init (s : zM) : Option (Unit × zM) :=
  lt (zclr s 43 []) (fun s1 =>
  lt (zclr s1 44 []) (fun s2 =>
  some ((), s2)))
set_option maxRecDepth 100000 in
set_option maxHeartbeats 4000000 in
theorem t_X9_init (w : zWd) (d : Nat) (hd : 1 ≤ d) (hB : (69 : Nat) ≤ w.2.2.1 3) {P : List zK} (hP : P.length = 42) (s : zM) : zMt w yX9_init cX9_init 3 none d (P ++ [.inr (8, [(5, 0), (5, 0), (5, 0), (5, 0), (0, 0), (3, 0), (0, 0)])], true, 0, 0) (P ++ [.inr (8, [(1, 3), (1, 12), (1, 43), (1, 44), (0, 0), (3, 0), (0, 0)]), .inl (0, 7), .inl (0, 7)], true, 2, 14) zrv [.ref (w.2.2.2 + 42), .ref (w.2.2.2 + 3), .ref (w.2.2.2 + 12)] s (f_X9_init s) := by
  refine zMt_of (by decide +kernel) (Nat.le_of_ble_eq_true rfl) cd_X9_init [(0, .ref (w.2.2.2 + 42)), (1, .ref (w.2.2.2 + 3)), (2, .ref (w.2.2.2 + 12))] rfl ?_
  rintro a rfl hin2 hRm K
  have K : zOK a cX9_init 3 RX9 none d := K
  have hin2 : a.2.2.2.2.2.2.2.2.1.name = "<init>" := hin2
  have hR : 2 ≤ a.2.2.2.1.cells ∧ 14 ≤ a.2.2.2.1.slots := by rw [hRm]; exact ⟨Nat.le_refl _, Nat.le_refl _⟩
  unfold f_X9_init
  refine z_aload_n K 0 rfl dX9_init_0 ?_
  refine z_objInit K ml_X9_3 jo_ins jo_cod (by omega) (Nat.le_of_ble_eq_true rfl) dX9_init_1 ?_
  refine z_aload_n K 0 rfl dX9_init_4 ?_
  refine z_bipush K cb_7 dX9_init_5 ?_
  refine z_newaQ (Q' := [.inr (8, [(5, 0), (5, 0), (5, 0), (5, 0), (0, 0), (3, 0), (0, 0)]), .inl (0, 7)]) (c' := 1) (sl' := 7) K hR (by omega) hP (q := 43) rfl (t := 0) (ty := .int) (atype := .int) (N := 7) rfl rfl (fun _ _ => rfl) rfl ac_int (by decide) rfl (by decide) rfl rfl rfl (Nat.le_of_ble_eq_true rfl) (Nat.le_of_ble_eq_true rfl) dX9_init_7 ?_
  refine z_ltm (fun s1 => ?_)
  refine z_putFQ (j := 0) (Q' := [.inr (8, [(5, 0), (5, 0), (1, 43), (5, 0), (0, 0), (3, 0), (0, 0)]), .inl (0, 7)]) K hin2 hP rfl ff_X9_11 rfl (fun _ => rfl) (fun _ => rfl) (Nat.le_of_ble_eq_true rfl) rfl rfl dX9_init_9 ?_
  refine z_aload_n K 0 rfl dX9_init_12 ?_
  refine z_bipush K cb_7 dX9_init_13 ?_
  refine z_newaQ (Q' := [.inr (8, [(5, 0), (5, 0), (1, 43), (5, 0), (0, 0), (3, 0), (0, 0)]), .inl (0, 7), .inl (0, 7)]) (c' := 2) (sl' := 14) K hR (by omega) hP (q := 44) rfl (t := 0) (ty := .int) (atype := .int) (N := 7) rfl rfl (fun _ _ => rfl) rfl ac_int (by decide) rfl (by decide) rfl rfl rfl (Nat.le_of_ble_eq_true rfl) (Nat.le_of_ble_eq_true rfl) dX9_init_15 ?_
  refine z_ltm (fun s2 => ?_)
  refine z_putFQ (j := 0) (Q' := [.inr (8, [(5, 0), (5, 0), (1, 43), (1, 44), (0, 0), (3, 0), (0, 0)]), .inl (0, 7), .inl (0, 7)]) K hin2 hP rfl ff_X9_15 rfl (fun _ => rfl) (fun _ => rfl) (Nat.le_of_ble_eq_true rfl) rfl rfl dX9_init_17 ?_
  refine z_aload_n K 0 rfl dX9_init_20 ?_
  refine z_aload_n K 1 rfl dX9_init_21 ?_
  refine z_putFQ (j := 0) (Q' := [.inr (8, [(1, 3), (5, 0), (1, 43), (1, 44), (0, 0), (3, 0), (0, 0)]), .inl (0, 7), .inl (0, 7)]) K hin2 hP rfl ff_X9_18 rfl (fun _ => rfl) (fun _ => rfl) (Nat.le_of_ble_eq_true rfl) rfl rfl dX9_init_22 ?_
  refine z_aload_n K 0 rfl dX9_init_25 ?_
  refine z_aload_n K 2 rfl dX9_init_26 ?_
  refine z_putFQ (j := 0) (Q' := [.inr (8, [(1, 3), (1, 12), (1, 43), (1, 44), (0, 0), (3, 0), (0, 0)]), .inl (0, 7), .inl (0, 7)]) K hin2 hP rfl ff_X9_22 rfl (fun _ => rfl) (fun _ => rfl) (Nat.le_of_ble_eq_true rfl) rfl rfl dX9_init_27 ?_
  exact z_vret K dX9_init_30
def f_X6_init (s : zM) : Option (Unit × zM) :=
  lt (zs s 45 2 (-1 : Int32)) (fun s1 =>
  lt (zs s1 45 3 (-1 : Int32)) (fun s2 =>
  lt (zclr s2 46 []) (fun s3 =>
  lt (zclr s3 47 []) (fun s4 =>
  lt (zclr s4 48 []) (fun s5 =>
  lt (zclr s5 49 []) (fun s6 =>
  lt (zclr s6 50 []) (fun s7 =>
  some ((), s7))))))))
set_option maxRecDepth 100000 in
set_option maxHeartbeats 4000000 in
theorem t_X6_init (w : zWd) (d : Nat) (hd : 1 ≤ d) (hB : (69 : Nat) ≤ w.2.2.1 3) {P : List zK} (hP : P.length = 45) (s : zM) : zMt w yX6_init cX6_init 3 none d (P ++ [.inr (6, [(5, 0), (5, 0), (0, 0), (0, 0), (0, 0), (5, 0), (5, 0), (5, 0), (5, 0), (5, 0), (0, 0), (0, 0), (0, 0), (0, 0)])], true, 0, 0) (P ++ [.inr (6, [(1, 3), (1, 12), (0, 0), (0, 0), (0, 0), (1, 46), (1, 47), (1, 48), (1, 49), (1, 50), (0, 0), (0, 0), (0, 0), (0, 0)]), .inl (0, 7), .inl (0, 7), .inl (0, 49), .inl (0, 7), .inl (0, 7)], true, 5, 77) zrv [.ref (w.2.2.2 + 45), .ref (w.2.2.2 + 3), .ref (w.2.2.2 + 12)] s (f_X6_init s) := by
  refine zMt_of (by decide +kernel) (Nat.le_of_ble_eq_true rfl) cd_X6_init [(0, .ref (w.2.2.2 + 45)), (1, .ref (w.2.2.2 + 3)), (2, .ref (w.2.2.2 + 12))] rfl ?_
  rintro a rfl hin2 hRm K
  have K : zOK a cX6_init 3 RX6 none d := K
  have hin2 : a.2.2.2.2.2.2.2.2.1.name = "<init>" := hin2
  have hR : 5 ≤ a.2.2.2.1.cells ∧ 77 ≤ a.2.2.2.1.slots := by rw [hRm]; exact ⟨Nat.le_refl _, Nat.le_refl _⟩
  unfold f_X6_init
  refine z_aload_n K 0 rfl dX6_init_0 ?_
  refine z_objInit K ml_X6_3 jo_ins jo_cod (by omega) (Nat.le_of_ble_eq_true rfl) dX6_init_1 ?_
  refine z_aload_n K 0 rfl dX6_init_4 ?_
  refine z_iconst K ci_m1 dX6_init_5 ?_
  refine z_puti K fw_X6_9 (zob_app (j := 0) hP rfl rfl rfl) dX6_init_6 ?_
  refine z_ltm (fun s1 => ?_)
  refine z_aload_n K 0 rfl dX6_init_9 ?_
  refine z_iconst K ci_m1 dX6_init_10 ?_
  refine z_puti K fw_X6_15 (zob_app (j := 0) hP rfl rfl rfl) dX6_init_11 ?_
  refine z_ltm (fun s2 => ?_)
  refine z_aload_n K 0 rfl dX6_init_14 ?_
  refine z_bipush K cb_7 dX6_init_15 ?_
  refine z_newaQ (Q' := [.inr (6, [(5, 0), (5, 0), (0, 0), (0, 0), (0, 0), (5, 0), (5, 0), (5, 0), (5, 0), (5, 0), (0, 0), (0, 0), (0, 0), (0, 0)]), .inl (0, 7)]) (c' := 1) (sl' := 7) K hR (by omega) hP (q := 46) rfl (t := 0) (ty := .int) (atype := .int) (N := 7) rfl rfl (fun _ _ => rfl) rfl ac_int (by decide) rfl (by decide) rfl rfl rfl (Nat.le_of_ble_eq_true rfl) (Nat.le_of_ble_eq_true rfl) dX6_init_17 ?_
  refine z_ltm (fun s3 => ?_)
  refine z_putFQ (j := 0) (Q' := [.inr (6, [(5, 0), (5, 0), (0, 0), (0, 0), (0, 0), (1, 46), (5, 0), (5, 0), (5, 0), (5, 0), (0, 0), (0, 0), (0, 0), (0, 0)]), .inl (0, 7)]) K hin2 hP rfl ff_X6_18 rfl (fun _ => rfl) (fun _ => rfl) (Nat.le_of_ble_eq_true rfl) rfl rfl dX6_init_19 ?_
  refine z_aload_n K 0 rfl dX6_init_22 ?_
  refine z_bipush K cb_7 dX6_init_23 ?_
  refine z_newaQ (Q' := [.inr (6, [(5, 0), (5, 0), (0, 0), (0, 0), (0, 0), (1, 46), (5, 0), (5, 0), (5, 0), (5, 0), (0, 0), (0, 0), (0, 0), (0, 0)]), .inl (0, 7), .inl (0, 7)]) (c' := 2) (sl' := 14) K hR (by omega) hP (q := 47) rfl (t := 0) (ty := .int) (atype := .int) (N := 7) rfl rfl (fun _ _ => rfl) rfl ac_int (by decide) rfl (by decide) rfl rfl rfl (Nat.le_of_ble_eq_true rfl) (Nat.le_of_ble_eq_true rfl) dX6_init_25 ?_
  refine z_ltm (fun s4 => ?_)
  refine z_putFQ (j := 0) (Q' := [.inr (6, [(5, 0), (5, 0), (0, 0), (0, 0), (0, 0), (1, 46), (1, 47), (5, 0), (5, 0), (5, 0), (0, 0), (0, 0), (0, 0), (0, 0)]), .inl (0, 7), .inl (0, 7)]) K hin2 hP rfl ff_X6_22 rfl (fun _ => rfl) (fun _ => rfl) (Nat.le_of_ble_eq_true rfl) rfl rfl dX6_init_27 ?_
  refine z_aload_n K 0 rfl dX6_init_30 ?_
  refine z_bipush K cb_49 dX6_init_31 ?_
  refine z_newaQ (Q' := [.inr (6, [(5, 0), (5, 0), (0, 0), (0, 0), (0, 0), (1, 46), (1, 47), (5, 0), (5, 0), (5, 0), (0, 0), (0, 0), (0, 0), (0, 0)]), .inl (0, 7), .inl (0, 7), .inl (0, 49)]) (c' := 3) (sl' := 63) K hR (by omega) hP (q := 48) rfl (t := 0) (ty := .int) (atype := .int) (N := 49) rfl rfl (fun _ _ => rfl) rfl ac_int (by decide) rfl (by decide) rfl rfl rfl (Nat.le_of_ble_eq_true rfl) (Nat.le_of_ble_eq_true rfl) dX6_init_33 ?_
  refine z_ltm (fun s5 => ?_)
  refine z_putFQ (j := 0) (Q' := [.inr (6, [(5, 0), (5, 0), (0, 0), (0, 0), (0, 0), (1, 46), (1, 47), (1, 48), (5, 0), (5, 0), (0, 0), (0, 0), (0, 0), (0, 0)]), .inl (0, 7), .inl (0, 7), .inl (0, 49)]) K hin2 hP rfl ff_X6_25 rfl (fun _ => rfl) (fun _ => rfl) (Nat.le_of_ble_eq_true rfl) rfl rfl dX6_init_35 ?_
  refine z_aload_n K 0 rfl dX6_init_38 ?_
  refine z_bipush K cb_7 dX6_init_39 ?_
  refine z_newaQ (Q' := [.inr (6, [(5, 0), (5, 0), (0, 0), (0, 0), (0, 0), (1, 46), (1, 47), (1, 48), (5, 0), (5, 0), (0, 0), (0, 0), (0, 0), (0, 0)]), .inl (0, 7), .inl (0, 7), .inl (0, 49), .inl (0, 7)]) (c' := 4) (sl' := 70) K hR (by omega) hP (q := 49) rfl (t := 0) (ty := .int) (atype := .int) (N := 7) rfl rfl (fun _ _ => rfl) rfl ac_int (by decide) rfl (by decide) rfl rfl rfl (Nat.le_of_ble_eq_true rfl) (Nat.le_of_ble_eq_true rfl) dX6_init_41 ?_
  refine z_ltm (fun s6 => ?_)
  refine z_putFQ (j := 0) (Q' := [.inr (6, [(5, 0), (5, 0), (0, 0), (0, 0), (0, 0), (1, 46), (1, 47), (1, 48), (1, 49), (5, 0), (0, 0), (0, 0), (0, 0), (0, 0)]), .inl (0, 7), .inl (0, 7), .inl (0, 49), .inl (0, 7)]) K hin2 hP rfl ff_X6_28 rfl (fun _ => rfl) (fun _ => rfl) (Nat.le_of_ble_eq_true rfl) rfl rfl dX6_init_43 ?_
  refine z_aload_n K 0 rfl dX6_init_46 ?_
  refine z_bipush K cb_7 dX6_init_47 ?_
  refine z_newaQ (Q' := [.inr (6, [(5, 0), (5, 0), (0, 0), (0, 0), (0, 0), (1, 46), (1, 47), (1, 48), (1, 49), (5, 0), (0, 0), (0, 0), (0, 0), (0, 0)]), .inl (0, 7), .inl (0, 7), .inl (0, 49), .inl (0, 7), .inl (0, 7)]) (c' := 5) (sl' := 77) K hR (by omega) hP (q := 50) rfl (t := 0) (ty := .int) (atype := .int) (N := 7) rfl rfl (fun _ _ => rfl) rfl ac_int (by decide) rfl (by decide) rfl rfl rfl (Nat.le_of_ble_eq_true rfl) (Nat.le_of_ble_eq_true rfl) dX6_init_49 ?_
  refine z_ltm (fun s7 => ?_)
  refine z_putFQ (j := 0) (Q' := [.inr (6, [(5, 0), (5, 0), (0, 0), (0, 0), (0, 0), (1, 46), (1, 47), (1, 48), (1, 49), (1, 50), (0, 0), (0, 0), (0, 0), (0, 0)]), .inl (0, 7), .inl (0, 7), .inl (0, 49), .inl (0, 7), .inl (0, 7)]) K hin2 hP rfl ff_X6_31 rfl (fun _ => rfl) (fun _ => rfl) (Nat.le_of_ble_eq_true rfl) rfl rfl dX6_init_51 ?_
  refine z_aload_n K 0 rfl dX6_init_54 ?_
  refine z_aload_n K 1 rfl dX6_init_55 ?_
  refine z_putFQ (j := 0) (Q' := [.inr (6, [(1, 3), (5, 0), (0, 0), (0, 0), (0, 0), (1, 46), (1, 47), (1, 48), (1, 49), (1, 50), (0, 0), (0, 0), (0, 0), (0, 0)]), .inl (0, 7), .inl (0, 7), .inl (0, 49), .inl (0, 7), .inl (0, 7)]) K hin2 hP rfl ff_X6_34 rfl (fun _ => rfl) (fun _ => rfl) (Nat.le_of_ble_eq_true rfl) rfl rfl dX6_init_56 ?_
  refine z_aload_n K 0 rfl dX6_init_59 ?_
  refine z_aload_n K 2 rfl dX6_init_60 ?_
  refine z_putFQ (j := 0) (Q' := [.inr (6, [(1, 3), (1, 12), (0, 0), (0, 0), (0, 0), (1, 46), (1, 47), (1, 48), (1, 49), (1, 50), (0, 0), (0, 0), (0, 0), (0, 0)]), .inl (0, 7), .inl (0, 7), .inl (0, 49), .inl (0, 7), .inl (0, 7)]) K hin2 hP rfl ff_X6_38 rfl (fun _ => rfl) (fun _ => rfl) (Nat.le_of_ble_eq_true rfl) rfl rfl dX6_init_61 ?_
  exact z_vret K dX6_init_64
def f_X2_init (s : zM) : Option (Unit × zM) :=
  lt (zclr s 52 []) (fun s1 =>
  lt (zclr s1 53 []) (fun s2 =>
  lt (zclr s2 54 []) (fun s3 =>
  lt (zclr s3 55 []) (fun s4 =>
  lt (zclr s4 56 []) (fun s5 =>
  lt (zclr s5 57 []) (fun s6 =>
  lt (zclr s6 58 []) (fun s7 =>
  lt (zclr s7 59 []) (fun s8 =>
  some ((), s8)))))))))
set_option maxRecDepth 100000 in
set_option maxHeartbeats 4000000 in
theorem t_X2_init (w : zWd) (d : Nat) (hd : 1 ≤ d) (hB : (69 : Nat) ≤ w.2.2.1 3) {P : List zK} (hP : P.length = 51) (s : zM) : zMt w yX2_init cX2_init 1 none d (P ++ [.inr (2, [(5, 0), (5, 0), (5, 0), (5, 0), (5, 0), (5, 0), (5, 0), (5, 0), (0, 0)])], true, 0, 0) (P ++ [.inr (2, [(1, 52), (1, 53), (1, 54), (1, 55), (1, 56), (1, 57), (1, 58), (1, 59), (0, 0)]), .inl (0, 40), .inl (0, 40), .inl (0, 20), .inl (0, 20), .inl (0, 20), .inl (0, 20), .inl (0, 42), .inl (0, 42)], true, 8, 244) zrv [.ref (w.2.2.2 + 51)] s (f_X2_init s) := by
  refine zMt_of (by decide +kernel) (Nat.le_of_ble_eq_true rfl) cd_X2_init [(0, .ref (w.2.2.2 + 51))] rfl ?_
  rintro a rfl hin2 hRm K
  have K : zOK a cX2_init 1 RX2 none d := K
  have hin2 : a.2.2.2.2.2.2.2.2.1.name = "<init>" := hin2
  have hR : 8 ≤ a.2.2.2.1.cells ∧ 244 ≤ a.2.2.2.1.slots := by rw [hRm]; exact ⟨Nat.le_refl _, Nat.le_refl _⟩
  unfold f_X2_init
  refine z_aload_n K 0 rfl dX2_init_0 ?_
  refine z_objInit K ml_X2_5 jo_ins jo_cod (by omega) (Nat.le_of_ble_eq_true rfl) dX2_init_1 ?_
  refine z_aload_n K 0 rfl dX2_init_4 ?_
  refine z_bipush K cb_40 dX2_init_5 ?_
  refine z_newaQ (Q' := [.inr (2, [(5, 0), (5, 0), (5, 0), (5, 0), (5, 0), (5, 0), (5, 0), (5, 0), (0, 0)]), .inl (0, 40)]) (c' := 1) (sl' := 40) K hR (by omega) hP (q := 52) rfl (t := 0) (ty := .int) (atype := .int) (N := 40) rfl rfl (fun _ _ => rfl) rfl ac_int (by decide) rfl (by decide) rfl rfl rfl (Nat.le_of_ble_eq_true rfl) (Nat.le_of_ble_eq_true rfl) dX2_init_7 ?_
  refine z_ltm (fun s1 => ?_)
  refine z_putFQ (j := 0) (Q' := [.inr (2, [(1, 52), (5, 0), (5, 0), (5, 0), (5, 0), (5, 0), (5, 0), (5, 0), (0, 0)]), .inl (0, 40)]) K hin2 hP rfl ff_X2_11 rfl (fun _ => rfl) (fun _ => rfl) (Nat.le_of_ble_eq_true rfl) rfl rfl dX2_init_9 ?_
  refine z_aload_n K 0 rfl dX2_init_12 ?_
  refine z_bipush K cb_40 dX2_init_13 ?_
  refine z_newaQ (Q' := [.inr (2, [(1, 52), (5, 0), (5, 0), (5, 0), (5, 0), (5, 0), (5, 0), (5, 0), (0, 0)]), .inl (0, 40), .inl (0, 40)]) (c' := 2) (sl' := 80) K hR (by omega) hP (q := 53) rfl (t := 0) (ty := .int) (atype := .int) (N := 40) rfl rfl (fun _ _ => rfl) rfl ac_int (by decide) rfl (by decide) rfl rfl rfl (Nat.le_of_ble_eq_true rfl) (Nat.le_of_ble_eq_true rfl) dX2_init_15 ?_
  refine z_ltm (fun s2 => ?_)
  refine z_putFQ (j := 0) (Q' := [.inr (2, [(1, 52), (1, 53), (5, 0), (5, 0), (5, 0), (5, 0), (5, 0), (5, 0), (0, 0)]), .inl (0, 40), .inl (0, 40)]) K hin2 hP rfl ff_X2_17 rfl (fun _ => rfl) (fun _ => rfl) (Nat.le_of_ble_eq_true rfl) rfl rfl dX2_init_17 ?_
  refine z_aload_n K 0 rfl dX2_init_20 ?_
  refine z_bipush K cb_20 dX2_init_21 ?_
  refine z_newaQ (Q' := [.inr (2, [(1, 52), (1, 53), (5, 0), (5, 0), (5, 0), (5, 0), (5, 0), (5, 0), (0, 0)]), .inl (0, 40), .inl (0, 40), .inl (0, 20)]) (c' := 3) (sl' := 100) K hR (by omega) hP (q := 54) rfl (t := 0) (ty := .int) (atype := .int) (N := 20) rfl rfl (fun _ _ => rfl) rfl ac_int (by decide) rfl (by decide) rfl rfl rfl (Nat.le_of_ble_eq_true rfl) (Nat.le_of_ble_eq_true rfl) dX2_init_23 ?_
  refine z_ltm (fun s3 => ?_)
  refine z_putFQ (j := 0) (Q' := [.inr (2, [(1, 52), (1, 53), (1, 54), (5, 0), (5, 0), (5, 0), (5, 0), (5, 0), (0, 0)]), .inl (0, 40), .inl (0, 40), .inl (0, 20)]) K hin2 hP rfl ff_X2_20 rfl (fun _ => rfl) (fun _ => rfl) (Nat.le_of_ble_eq_true rfl) rfl rfl dX2_init_25 ?_
  refine z_aload_n K 0 rfl dX2_init_28 ?_
  refine z_bipush K cb_20 dX2_init_29 ?_
  refine z_newaQ (Q' := [.inr (2, [(1, 52), (1, 53), (1, 54), (5, 0), (5, 0), (5, 0), (5, 0), (5, 0), (0, 0)]), .inl (0, 40), .inl (0, 40), .inl (0, 20), .inl (0, 20)]) (c' := 4) (sl' := 120) K hR (by omega) hP (q := 55) rfl (t := 0) (ty := .int) (atype := .int) (N := 20) rfl rfl (fun _ _ => rfl) rfl ac_int (by decide) rfl (by decide) rfl rfl rfl (Nat.le_of_ble_eq_true rfl) (Nat.le_of_ble_eq_true rfl) dX2_init_31 ?_
  refine z_ltm (fun s4 => ?_)
  refine z_putFQ (j := 0) (Q' := [.inr (2, [(1, 52), (1, 53), (1, 54), (1, 55), (5, 0), (5, 0), (5, 0), (5, 0), (0, 0)]), .inl (0, 40), .inl (0, 40), .inl (0, 20), .inl (0, 20)]) K hin2 hP rfl ff_X2_23 rfl (fun _ => rfl) (fun _ => rfl) (Nat.le_of_ble_eq_true rfl) rfl rfl dX2_init_33 ?_
  refine z_aload_n K 0 rfl dX2_init_36 ?_
  refine z_bipush K cb_20 dX2_init_37 ?_
  refine z_newaQ (Q' := [.inr (2, [(1, 52), (1, 53), (1, 54), (1, 55), (5, 0), (5, 0), (5, 0), (5, 0), (0, 0)]), .inl (0, 40), .inl (0, 40), .inl (0, 20), .inl (0, 20), .inl (0, 20)]) (c' := 5) (sl' := 140) K hR (by omega) hP (q := 56) rfl (t := 0) (ty := .int) (atype := .int) (N := 20) rfl rfl (fun _ _ => rfl) rfl ac_int (by decide) rfl (by decide) rfl rfl rfl (Nat.le_of_ble_eq_true rfl) (Nat.le_of_ble_eq_true rfl) dX2_init_39 ?_
  refine z_ltm (fun s5 => ?_)
  refine z_putFQ (j := 0) (Q' := [.inr (2, [(1, 52), (1, 53), (1, 54), (1, 55), (1, 56), (5, 0), (5, 0), (5, 0), (0, 0)]), .inl (0, 40), .inl (0, 40), .inl (0, 20), .inl (0, 20), .inl (0, 20)]) K hin2 hP rfl ff_X2_26 rfl (fun _ => rfl) (fun _ => rfl) (Nat.le_of_ble_eq_true rfl) rfl rfl dX2_init_41 ?_
  refine z_aload_n K 0 rfl dX2_init_44 ?_
  refine z_bipush K cb_20 dX2_init_45 ?_
  refine z_newaQ (Q' := [.inr (2, [(1, 52), (1, 53), (1, 54), (1, 55), (1, 56), (5, 0), (5, 0), (5, 0), (0, 0)]), .inl (0, 40), .inl (0, 40), .inl (0, 20), .inl (0, 20), .inl (0, 20), .inl (0, 20)]) (c' := 6) (sl' := 160) K hR (by omega) hP (q := 57) rfl (t := 0) (ty := .int) (atype := .int) (N := 20) rfl rfl (fun _ _ => rfl) rfl ac_int (by decide) rfl (by decide) rfl rfl rfl (Nat.le_of_ble_eq_true rfl) (Nat.le_of_ble_eq_true rfl) dX2_init_47 ?_
  refine z_ltm (fun s6 => ?_)
  refine z_putFQ (j := 0) (Q' := [.inr (2, [(1, 52), (1, 53), (1, 54), (1, 55), (1, 56), (1, 57), (5, 0), (5, 0), (0, 0)]), .inl (0, 40), .inl (0, 40), .inl (0, 20), .inl (0, 20), .inl (0, 20), .inl (0, 20)]) K hin2 hP rfl ff_X2_29 rfl (fun _ => rfl) (fun _ => rfl) (Nat.le_of_ble_eq_true rfl) rfl rfl dX2_init_49 ?_
  refine z_aload_n K 0 rfl dX2_init_52 ?_
  refine z_bipush K cb_42 dX2_init_53 ?_
  refine z_newaQ (Q' := [.inr (2, [(1, 52), (1, 53), (1, 54), (1, 55), (1, 56), (1, 57), (5, 0), (5, 0), (0, 0)]), .inl (0, 40), .inl (0, 40), .inl (0, 20), .inl (0, 20), .inl (0, 20), .inl (0, 20), .inl (0, 42)]) (c' := 7) (sl' := 202) K hR (by omega) hP (q := 58) rfl (t := 0) (ty := .int) (atype := .int) (N := 42) rfl rfl (fun _ _ => rfl) rfl ac_int (by decide) rfl (by decide) rfl rfl rfl (Nat.le_of_ble_eq_true rfl) (Nat.le_of_ble_eq_true rfl) dX2_init_55 ?_
  refine z_ltm (fun s7 => ?_)
  refine z_putFQ (j := 0) (Q' := [.inr (2, [(1, 52), (1, 53), (1, 54), (1, 55), (1, 56), (1, 57), (1, 58), (5, 0), (0, 0)]), .inl (0, 40), .inl (0, 40), .inl (0, 20), .inl (0, 20), .inl (0, 20), .inl (0, 20), .inl (0, 42)]) K hin2 hP rfl ff_X2_32 rfl (fun _ => rfl) (fun _ => rfl) (Nat.le_of_ble_eq_true rfl) rfl rfl dX2_init_57 ?_
  refine z_aload_n K 0 rfl dX2_init_60 ?_
  refine z_bipush K cb_42 dX2_init_61 ?_
  refine z_newaQ (Q' := [.inr (2, [(1, 52), (1, 53), (1, 54), (1, 55), (1, 56), (1, 57), (1, 58), (5, 0), (0, 0)]), .inl (0, 40), .inl (0, 40), .inl (0, 20), .inl (0, 20), .inl (0, 20), .inl (0, 20), .inl (0, 42), .inl (0, 42)]) (c' := 8) (sl' := 244) K hR (by omega) hP (q := 59) rfl (t := 0) (ty := .int) (atype := .int) (N := 42) rfl rfl (fun _ _ => rfl) rfl ac_int (by decide) rfl (by decide) rfl rfl rfl (Nat.le_of_ble_eq_true rfl) (Nat.le_of_ble_eq_true rfl) dX2_init_63 ?_
  refine z_ltm (fun s8 => ?_)
  refine z_putFQ (j := 0) (Q' := [.inr (2, [(1, 52), (1, 53), (1, 54), (1, 55), (1, 56), (1, 57), (1, 58), (1, 59), (0, 0)]), .inl (0, 40), .inl (0, 40), .inl (0, 20), .inl (0, 20), .inl (0, 20), .inl (0, 20), .inl (0, 42), .inl (0, 42)]) K hin2 hP rfl ff_X2_35 rfl (fun _ => rfl) (fun _ => rfl) (Nat.le_of_ble_eq_true rfl) rfl rfl dX2_init_65 ?_
  exact z_vret K dX2_init_68
def f_X7_init (s : zM) : Option (Unit × zM) :=
  lt (zclr s 61 []) (fun s1 =>
  lt (zclr s1 62 []) (fun s2 =>
  lt (zclr s2 63 []) (fun s3 =>
  lt (zclr s3 64 []) (fun s4 =>
  lt (zclr s4 65 []) (fun s5 =>
  lt (zclr s5 66 []) (fun s6 =>
  lt (zclr s6 67 []) (fun s7 =>
  lt (zclr s7 68 []) (fun s8 =>
  some ((), s8)))))))))
set_option maxRecDepth 100000 in
set_option maxHeartbeats 4000000 in
theorem t_X7_init (w : zWd) (d : Nat) (hd : 1 ≤ d) (hB : (69 : Nat) ≤ w.2.2.1 3) {P : List zK} (hP : P.length = 60) (s : zM) : zMt w yX7_init cX7_init 1 none d (P ++ [.inr (7, [(5, 0), (5, 0), (5, 0), (5, 0), (5, 0), (5, 0), (5, 0), (5, 0)])], true, 0, 0) (P ++ [.inr (7, [(1, 61), (1, 62), (1, 63), (1, 64), (1, 65), (1, 66), (1, 67), (1, 68)]), .inl (0, 16), .inl (0, 16), .inl (0, 16), .inl (0, 256), .inl (0, 16), .inl (0, 16), .inl (0, 16), .inl (0, 256)], true, 8, 608) zrv [.ref (w.2.2.2 + 60)] s (f_X7_init s) := by
  refine zMt_of (by decide +kernel) (Nat.le_of_ble_eq_true rfl) cd_X7_init [(0, .ref (w.2.2.2 + 60))] rfl ?_
  rintro a rfl hin2 hRm K
  have K : zOK a cX7_init 1 RX7 none d := K
  have hin2 : a.2.2.2.2.2.2.2.2.1.name = "<init>" := hin2
  have hR : 8 ≤ a.2.2.2.1.cells ∧ 608 ≤ a.2.2.2.1.slots := by rw [hRm]; exact ⟨Nat.le_refl _, Nat.le_refl _⟩
  unfold f_X7_init
  refine z_aload_n K 0 rfl dX7_init_0 ?_
  refine z_objInit K ml_X7_5 jo_ins jo_cod (by omega) (Nat.le_of_ble_eq_true rfl) dX7_init_1 ?_
  refine z_aload_n K 0 rfl dX7_init_4 ?_
  refine z_bipush K cb_16 dX7_init_5 ?_
  refine z_newaQ (Q' := [.inr (7, [(5, 0), (5, 0), (5, 0), (5, 0), (5, 0), (5, 0), (5, 0), (5, 0)]), .inl (0, 16)]) (c' := 1) (sl' := 16) K hR (by omega) hP (q := 61) rfl (t := 0) (ty := .int) (atype := .int) (N := 16) rfl rfl (fun _ _ => rfl) rfl ac_int (by decide) rfl (by decide) rfl rfl rfl (Nat.le_of_ble_eq_true rfl) (Nat.le_of_ble_eq_true rfl) dX7_init_7 ?_
  refine z_ltm (fun s1 => ?_)
  refine z_putFQ (j := 0) (Q' := [.inr (7, [(1, 61), (5, 0), (5, 0), (5, 0), (5, 0), (5, 0), (5, 0), (5, 0)]), .inl (0, 16)]) K hin2 hP rfl ff_X7_11 rfl (fun _ => rfl) (fun _ => rfl) (Nat.le_of_ble_eq_true rfl) rfl rfl dX7_init_9 ?_
  refine z_aload_n K 0 rfl dX7_init_12 ?_
  refine z_bipush K cb_16 dX7_init_13 ?_
  refine z_newaQ (Q' := [.inr (7, [(1, 61), (5, 0), (5, 0), (5, 0), (5, 0), (5, 0), (5, 0), (5, 0)]), .inl (0, 16), .inl (0, 16)]) (c' := 2) (sl' := 32) K hR (by omega) hP (q := 62) rfl (t := 0) (ty := .int) (atype := .int) (N := 16) rfl rfl (fun _ _ => rfl) rfl ac_int (by decide) rfl (by decide) rfl rfl rfl (Nat.le_of_ble_eq_true rfl) (Nat.le_of_ble_eq_true rfl) dX7_init_15 ?_
  refine z_ltm (fun s2 => ?_)
  refine z_putFQ (j := 0) (Q' := [.inr (7, [(1, 61), (1, 62), (5, 0), (5, 0), (5, 0), (5, 0), (5, 0), (5, 0)]), .inl (0, 16), .inl (0, 16)]) K hin2 hP rfl ff_X7_17 rfl (fun _ => rfl) (fun _ => rfl) (Nat.le_of_ble_eq_true rfl) rfl rfl dX7_init_17 ?_
  refine z_aload_n K 0 rfl dX7_init_20 ?_
  refine z_bipush K cb_16 dX7_init_21 ?_
  refine z_newaQ (Q' := [.inr (7, [(1, 61), (1, 62), (5, 0), (5, 0), (5, 0), (5, 0), (5, 0), (5, 0)]), .inl (0, 16), .inl (0, 16), .inl (0, 16)]) (c' := 3) (sl' := 48) K hR (by omega) hP (q := 63) rfl (t := 0) (ty := .int) (atype := .int) (N := 16) rfl rfl (fun _ _ => rfl) rfl ac_int (by decide) rfl (by decide) rfl rfl rfl (Nat.le_of_ble_eq_true rfl) (Nat.le_of_ble_eq_true rfl) dX7_init_23 ?_
  refine z_ltm (fun s3 => ?_)
  refine z_putFQ (j := 0) (Q' := [.inr (7, [(1, 61), (1, 62), (1, 63), (5, 0), (5, 0), (5, 0), (5, 0), (5, 0)]), .inl (0, 16), .inl (0, 16), .inl (0, 16)]) K hin2 hP rfl ff_X7_20 rfl (fun _ => rfl) (fun _ => rfl) (Nat.le_of_ble_eq_true rfl) rfl rfl dX7_init_25 ?_
  refine z_aload_n K 0 rfl dX7_init_28 ?_
  refine z_sipush K cs_256 dX7_init_29 ?_
  refine z_newaQ (Q' := [.inr (7, [(1, 61), (1, 62), (1, 63), (5, 0), (5, 0), (5, 0), (5, 0), (5, 0)]), .inl (0, 16), .inl (0, 16), .inl (0, 16), .inl (0, 256)]) (c' := 4) (sl' := 304) K hR (by omega) hP (q := 64) rfl (t := 0) (ty := .int) (atype := .int) (N := 256) rfl rfl (fun _ _ => rfl) rfl ac_int (by decide) rfl (by decide) rfl rfl rfl (Nat.le_of_ble_eq_true rfl) (Nat.le_of_ble_eq_true rfl) dX7_init_32 ?_
  refine z_ltm (fun s4 => ?_)
  refine z_putFQ (j := 0) (Q' := [.inr (7, [(1, 61), (1, 62), (1, 63), (1, 64), (5, 0), (5, 0), (5, 0), (5, 0)]), .inl (0, 16), .inl (0, 16), .inl (0, 16), .inl (0, 256)]) K hin2 hP rfl ff_X7_23 rfl (fun _ => rfl) (fun _ => rfl) (Nat.le_of_ble_eq_true rfl) rfl rfl dX7_init_34 ?_
  refine z_aload_n K 0 rfl dX7_init_37 ?_
  refine z_bipush K cb_16 dX7_init_38 ?_
  refine z_newaQ (Q' := [.inr (7, [(1, 61), (1, 62), (1, 63), (1, 64), (5, 0), (5, 0), (5, 0), (5, 0)]), .inl (0, 16), .inl (0, 16), .inl (0, 16), .inl (0, 256), .inl (0, 16)]) (c' := 5) (sl' := 320) K hR (by omega) hP (q := 65) rfl (t := 0) (ty := .int) (atype := .int) (N := 16) rfl rfl (fun _ _ => rfl) rfl ac_int (by decide) rfl (by decide) rfl rfl rfl (Nat.le_of_ble_eq_true rfl) (Nat.le_of_ble_eq_true rfl) dX7_init_40 ?_
  refine z_ltm (fun s5 => ?_)
  refine z_putFQ (j := 0) (Q' := [.inr (7, [(1, 61), (1, 62), (1, 63), (1, 64), (1, 65), (5, 0), (5, 0), (5, 0)]), .inl (0, 16), .inl (0, 16), .inl (0, 16), .inl (0, 256), .inl (0, 16)]) K hin2 hP rfl ff_X7_26 rfl (fun _ => rfl) (fun _ => rfl) (Nat.le_of_ble_eq_true rfl) rfl rfl dX7_init_42 ?_
  refine z_aload_n K 0 rfl dX7_init_45 ?_
  refine z_bipush K cb_16 dX7_init_46 ?_
  refine z_newaQ (Q' := [.inr (7, [(1, 61), (1, 62), (1, 63), (1, 64), (1, 65), (5, 0), (5, 0), (5, 0)]), .inl (0, 16), .inl (0, 16), .inl (0, 16), .inl (0, 256), .inl (0, 16), .inl (0, 16)]) (c' := 6) (sl' := 336) K hR (by omega) hP (q := 66) rfl (t := 0) (ty := .int) (atype := .int) (N := 16) rfl rfl (fun _ _ => rfl) rfl ac_int (by decide) rfl (by decide) rfl rfl rfl (Nat.le_of_ble_eq_true rfl) (Nat.le_of_ble_eq_true rfl) dX7_init_48 ?_
  refine z_ltm (fun s6 => ?_)
  refine z_putFQ (j := 0) (Q' := [.inr (7, [(1, 61), (1, 62), (1, 63), (1, 64), (1, 65), (1, 66), (5, 0), (5, 0)]), .inl (0, 16), .inl (0, 16), .inl (0, 16), .inl (0, 256), .inl (0, 16), .inl (0, 16)]) K hin2 hP rfl ff_X7_29 rfl (fun _ => rfl) (fun _ => rfl) (Nat.le_of_ble_eq_true rfl) rfl rfl dX7_init_50 ?_
  refine z_aload_n K 0 rfl dX7_init_53 ?_
  refine z_bipush K cb_16 dX7_init_54 ?_
  refine z_newaQ (Q' := [.inr (7, [(1, 61), (1, 62), (1, 63), (1, 64), (1, 65), (1, 66), (5, 0), (5, 0)]), .inl (0, 16), .inl (0, 16), .inl (0, 16), .inl (0, 256), .inl (0, 16), .inl (0, 16), .inl (0, 16)]) (c' := 7) (sl' := 352) K hR (by omega) hP (q := 67) rfl (t := 0) (ty := .int) (atype := .int) (N := 16) rfl rfl (fun _ _ => rfl) rfl ac_int (by decide) rfl (by decide) rfl rfl rfl (Nat.le_of_ble_eq_true rfl) (Nat.le_of_ble_eq_true rfl) dX7_init_56 ?_
  refine z_ltm (fun s7 => ?_)
  refine z_putFQ (j := 0) (Q' := [.inr (7, [(1, 61), (1, 62), (1, 63), (1, 64), (1, 65), (1, 66), (1, 67), (5, 0)]), .inl (0, 16), .inl (0, 16), .inl (0, 16), .inl (0, 256), .inl (0, 16), .inl (0, 16), .inl (0, 16)]) K hin2 hP rfl ff_X7_32 rfl (fun _ => rfl) (fun _ => rfl) (Nat.le_of_ble_eq_true rfl) rfl rfl dX7_init_58 ?_
  refine z_aload_n K 0 rfl dX7_init_61 ?_
  refine z_sipush K cs_256 dX7_init_62 ?_
  refine z_newaQ (Q' := [.inr (7, [(1, 61), (1, 62), (1, 63), (1, 64), (1, 65), (1, 66), (1, 67), (5, 0)]), .inl (0, 16), .inl (0, 16), .inl (0, 16), .inl (0, 256), .inl (0, 16), .inl (0, 16), .inl (0, 16), .inl (0, 256)]) (c' := 8) (sl' := 608) K hR (by omega) hP (q := 68) rfl (t := 0) (ty := .int) (atype := .int) (N := 256) rfl rfl (fun _ _ => rfl) rfl ac_int (by decide) rfl (by decide) rfl rfl rfl (Nat.le_of_ble_eq_true rfl) (Nat.le_of_ble_eq_true rfl) dX7_init_65 ?_
  refine z_ltm (fun s8 => ?_)
  refine z_putFQ (j := 0) (Q' := [.inr (7, [(1, 61), (1, 62), (1, 63), (1, 64), (1, 65), (1, 66), (1, 67), (1, 68)]), .inl (0, 16), .inl (0, 16), .inl (0, 16), .inl (0, 256), .inl (0, 16), .inl (0, 16), .inl (0, 16), .inl (0, 256)]) K hin2 hP rfl ff_X7_35 rfl (fun _ => rfl) (fun _ => rfl) (Nat.le_of_ble_eq_true rfl) rfl rfl dX7_init_67 ?_
  exact z_vret K dX7_init_70
def f_X11_init (F : Nat) (s : zM) : Option (Unit × zM) :=
  lt (zclr s 1 []) (fun s1 =>
  bnd (f_X10_init s1) (fun _ s2 =>
  lt (zclr s2 3 []) (fun s3 =>
  bnd (f_X0_init F s3) (fun _ s4 =>
  lt (zclr s4 12 []) (fun s5 =>
  bnd (f_X1_init s5) (fun _ s6 =>
  lt (zclr s6 24 []) (fun s7 =>
  bnd (f_X4_init s7) (fun _ s8 =>
  lt (zclr s8 33 []) (fun s9 =>
  bnd (f_X5_init s9) (fun _ s10 =>
  lt (zclr s10 42 [0]) (fun s11 =>
  bnd (f_X9_init s11) (fun _ s12 =>
  lt (zclr s12 45 []) (fun s13 =>
  bnd (f_X6_init s13) (fun _ s14 =>
  lt (zclr s14 51 []) (fun s15 =>
  bnd (f_X2_init s15) (fun _ s16 =>
  lt (zclr s16 60 []) (fun s17 =>
  bnd (f_X7_init s17) (fun _ s18 =>
  lt (zs s18 0 9 (1 : Int32)) (fun s19 =>
  lt (zs s19 0 10 (1 : Int32)) (fun s20 =>
  lt (zs s20 0 11 (-1 : Int32)) (fun s21 =>
  some ((), s21))))))))))))))))))))))
set_option maxRecDepth 100000 in
set_option maxHeartbeats 4000000 in
theorem t_X11_init (w : zWd) (F : Nat) (d : Nat) (hd : 3 ≤ d) (hB : (69 : Nat) ≤ w.2.2.1 3) {P : List zK} (hP : P.length = 0) (s : zM) : zMt w yX11_init cX11_init 4 none d (P ++ [.inr (10, [(5, 0), (5, 0), (5, 0), (5, 0), (5, 0), (5, 0), (5, 0), (5, 0), (5, 0), (0, 0), (0, 0), (0, 0)])], true, 0, 0) (P ++ [.inr (10, [(1, 1), (1, 3), (1, 24), (1, 12), (1, 33), (1, 42), (1, 45), (1, 51), (1, 60), (0, 0), (0, 0), (0, 0)]), .inr (9, [(1, 2), (0, 0)]), .inl (0, 220), .inr (0, [(1, 4), (1, 5), (1, 6), (1, 7), (1, 8), (1, 9), (1, 10), (1, 11), (0, 0)]), .inl (0, 16), .inl (1, 16), .inl (0, 16), .inl (0, 16), .inl (0, 256), .inl (0, 40), .inl (1, 16), .inl (0, 16), .inr (1, [(1, 3), (1, 13), (1, 14), (1, 15), (2, 0), (0, 0)]), .inl (0, 10), .inl (0, 48000), .inl (0, 640), .inr (3, [(1, 17), (1, 18), (1, 19), (1, 20), (1, 21), (1, 22), (1, 23), (0, 0), (0, 0)]), .inl (0, 14), .inl (0, 14), .inl (0, 14), .inl (0, 14), .inl (0, 200), .inl (0, 200), .inl (0, 40), .inr (4, [(1, 1), (2, 0), (0, 0), (0, 0), (0, 0)]), .inr (3, [(1, 26), (1, 27), (1, 28), (1, 29), (1, 30), (1, 31), (1, 32), (0, 0), (0, 0)]), .inl (0, 14), .inl (0, 14), .inl (0, 14), .inl (0, 14), .inl (0, 200), .inl (0, 200), .inl (0, 40), .inr (5, [(1, 3), (1, 12), (1, 34), (1, 35), (1, 36), (1, 37), (1, 38), (1, 39), (1, 40), (1, 41), (0, 0), (0, 0)]), .inl (0, 10), .inl (0, 10), .inl (0, 10), .inl (0, 10), .inl (0, 10), .inl (0, 10), .inl (0, 16), .inl (0, 16), .inr (8, [(1, 3), (1, 12), (1, 43), (1, 44), (0, 0), (3, 0), (0, 0)]), .inl (0, 7), .inl (0, 7), .inr (6, [(1, 3), (1, 12), (0, 0), (0, 0), (0, 0), (1, 46), (1, 47), (1, 48), (1, 49), (1, 50), (0, 0), (0, 0), (0, 0), (0, 0)]), .inl (0, 7), .inl (0, 7), .inl (0, 49), .inl (0, 7), .inl (0, 7), .inr (2, [(1, 52), (1, 53), (1, 54), (1, 55), (1, 56), (1, 57), (1, 58), (1, 59), (0, 0)]), .inl (0, 40), .inl (0, 40), .inl (0, 20), .inl (0, 20), .inl (0, 20), .inl (0, 20), .inl (0, 42), .inl (0, 42), .inr (7, [(1, 61), (1, 62), (1, 63), (1, 64), (1, 65), (1, 66), (1, 67), (1, 68)]), .inl (0, 16), .inl (0, 16), .inl (0, 16), .inl (0, 256), .inl (0, 16), .inl (0, 16), .inl (0, 16), .inl (0, 256)], true, 68, 51379) zrv [.ref (w.2.2.2 + 0)] s (f_X11_init F s) := by
  refine zMt_of (by decide +kernel) (Nat.le_of_ble_eq_true rfl) cd_X11_init [(0, .ref (w.2.2.2 + 0))] rfl ?_
  rintro a rfl hin2 hRm K
  have K : zOK a cX11_init 4 RX11 none d := K
  have hin2 : a.2.2.2.2.2.2.2.2.1.name = "<init>" := hin2
  have hR : 68 ≤ a.2.2.2.1.cells ∧ 51379 ≤ a.2.2.2.1.slots := by rw [hRm]; exact ⟨Nat.le_refl _, Nat.le_refl _⟩
  have hP0 : P = [] := List.length_eq_zero_iff.mp hP
  unfold f_X11_init
  refine z_aload_n K 0 rfl dX11_init_0 ?_
  refine z_objInit K ml_X11_1 jo_ins jo_cod (by omega) (Nat.le_of_ble_eq_true rfl) dX11_init_1 ?_
  refine z_newQ (Q' := [.inr (10, [(5, 0), (5, 0), (5, 0), (5, 0), (5, 0), (5, 0), (5, 0), (5, 0), (5, 0), (0, 0), (0, 0), (0, 0)]), .inr (9, [(5, 0), (0, 0)])]) (c' := 1) (sl' := 2) K hR (by omega) hP (q := 1) rfl [] (ci := 9) rfl in_X10 tyX10_ok cl_X11_7 is_X10 it_X10 (zNoL_nil _) rfl (by decide +kernel) rfl rfl rfl (Nat.le_of_ble_eq_true rfl) (Nat.le_of_ble_eq_true rfl) dX11_init_4 ?_
  refine z_ltm (fun s1 => ?_)
  refine z_dup K rfl dX11_init_7 ?_
  refine z_cIQ (As := [.inr (10, [(5, 0), (5, 0), (5, 0), (5, 0), (5, 0), (5, 0), (5, 0), (5, 0), (5, 0), (0, 0), (0, 0), (0, 0)])]) (Q' := [.inr (10, [(5, 0), (5, 0), (5, 0), (5, 0), (5, 0), (5, 0), (5, 0), (5, 0), (5, 0), (0, 0), (0, 0), (0, 0)]), .inr (9, [(1, 2), (0, 0)]), .inl (0, 220)]) (c' := 2) (sl' := 222) (av := []) (rst := [.ref (a.1.2.2.2 + 1)]) K hR (t_X10_init a.1 (d - 1) (by omega) (by omega) (P := P ++ [.inr (10, [(5, 0), (5, 0), (5, 0), (5, 0), (5, 0), (5, 0), (5, 0), (5, 0), (5, 0), (0, 0), (0, 0), (0, 0)])]) (by rw [List.length_append, hP]; rfl) s1) rfl mf_X10_init ml_X11_9 (Nat.le_of_ble_eq_true rfl) (by omega) rfl rfl (Nat.le_of_ble_eq_true rfl) rfl rfl rfl (Nat.le_of_ble_eq_true rfl) (Nat.le_of_ble_eq_true rfl) dX11_init_8 (fun s2 => ?_)
  refine z_astore_n K (lv' := [(1, .ref (a.1.2.2.2 + 1)), (0, .ref (a.1.2.2.2 + 0))]) dX11_init_11 rfl (Nat.le_of_ble_eq_true rfl) rfl ?_
  refine z_newQ (Q' := [.inr (10, [(5, 0), (5, 0), (5, 0), (5, 0), (5, 0), (5, 0), (5, 0), (5, 0), (5, 0), (0, 0), (0, 0), (0, 0)]), .inr (9, [(1, 2), (0, 0)]), .inl (0, 220), .inr (0, [(5, 0), (5, 0), (5, 0), (5, 0), (5, 0), (5, 0), (5, 0), (5, 0), (0, 0)])]) (c' := 3) (sl' := 231) K hR (by omega) hP (q := 3) rfl [] (ci := 0) rfl in_X0 tyX0_ok cl_X11_10 is_X0 it_X0 (zNoL_nil _) rfl (by decide +kernel) rfl rfl rfl (Nat.le_of_ble_eq_true rfl) (Nat.le_of_ble_eq_true rfl) dX11_init_12 ?_
  refine z_ltm (fun s3 => ?_)
  refine z_dup K rfl dX11_init_15 ?_
  refine z_cIQ (As := [.inr (10, [(5, 0), (5, 0), (5, 0), (5, 0), (5, 0), (5, 0), (5, 0), (5, 0), (5, 0), (0, 0), (0, 0), (0, 0)]), .inr (9, [(1, 2), (0, 0)]), .inl (0, 220)]) (Q' := [.inr (10, [(5, 0), (5, 0), (5, 0), (5, 0), (5, 0), (5, 0), (5, 0), (5, 0), (5, 0), (0, 0), (0, 0), (0, 0)]), .inr (9, [(1, 2), (0, 0)]), .inl (0, 220), .inr (0, [(1, 4), (1, 5), (1, 6), (1, 7), (1, 8), (1, 9), (1, 10), (1, 11), (0, 0)]), .inl (0, 16), .inl (1, 16), .inl (0, 16), .inl (0, 16), .inl (0, 256), .inl (0, 40), .inl (1, 16), .inl (0, 16)]) (c' := 11) (sl' := 623) (av := []) (rst := [.ref (a.1.2.2.2 + 3)]) K hR (t_X0_init a.1 F (d - 1) (by omega) (by omega) (P := P ++ [.inr (10, [(5, 0), (5, 0), (5, 0), (5, 0), (5, 0), (5, 0), (5, 0), (5, 0), (5, 0), (0, 0), (0, 0), (0, 0)]), .inr (9, [(1, 2), (0, 0)]), .inl (0, 220)]) (by rw [List.length_append, hP]; rfl) s3) rfl mf_X0_init ml_X11_12 (Nat.le_of_ble_eq_true rfl) (by omega) rfl rfl (Nat.le_of_ble_eq_true rfl) rfl rfl rfl (Nat.le_of_ble_eq_true rfl) (Nat.le_of_ble_eq_true rfl) dX11_init_16 (fun s4 => ?_)
  refine z_astore_n K (lv' := [(2, .ref (a.1.2.2.2 + 3)), (1, .ref (a.1.2.2.2 + 1)), (0, .ref (a.1.2.2.2 + 0))]) dX11_init_19 rfl (Nat.le_of_ble_eq_true rfl) rfl ?_
  refine z_newQ (Q' := [.inr (10, [(5, 0), (5, 0), (5, 0), (5, 0), (5, 0), (5, 0), (5, 0), (5, 0), (5, 0), (0, 0), (0, 0), (0, 0)]), .inr (9, [(1, 2), (0, 0)]), .inl (0, 220), .inr (0, [(1, 4), (1, 5), (1, 6), (1, 7), (1, 8), (1, 9), (1, 10), (1, 11), (0, 0)]), .inl (0, 16), .inl (1, 16), .inl (0, 16), .inl (0, 16), .inl (0, 256), .inl (0, 40), .inl (1, 16), .inl (0, 16), .inr (1, [(5, 0), (5, 0), (5, 0), (5, 0), (5, 0), (0, 0)])]) (c' := 12) (sl' := 629) K hR (by omega) hP (q := 12) rfl [] (ci := 1) rfl in_X1 tyX1_ok cl_X11_13 is_X1 it_X1 (zNoL_nil _) rfl (by decide +kernel) rfl rfl rfl (Nat.le_of_ble_eq_true rfl) (Nat.le_of_ble_eq_true rfl) dX11_init_20 ?_
  refine z_ltm (fun s5 => ?_)
  refine z_dup K rfl dX11_init_23 ?_
  refine z_aload_n K 0 rfl dX11_init_24 ?_
  refine z_cIQ (As := [.inr (10, [(5, 0), (5, 0), (5, 0), (5, 0), (5, 0), (5, 0), (5, 0), (5, 0), (5, 0), (0, 0), (0, 0), (0, 0)]), .inr (9, [(1, 2), (0, 0)]), .inl (0, 220), .inr (0, [(1, 4), (1, 5), (1, 6), (1, 7), (1, 8), (1, 9), (1, 10), (1, 11), (0, 0)]), .inl (0, 16), .inl (1, 16), .inl (0, 16), .inl (0, 16), .inl (0, 256), .inl (0, 40), .inl (1, 16), .inl (0, 16)]) (Q' := [.inr (10, [(5, 0), (5, 0), (5, 0), (5, 0), (5, 0), (5, 0), (5, 0), (5, 0), (5, 0), (0, 0), (0, 0), (0, 0)]), .inr (9, [(1, 2), (0, 0)]), .inl (0, 220), .inr (0, [(1, 4), (1, 5), (1, 6), (1, 7), (1, 8), (1, 9), (1, 10), (1, 11), (0, 0)]), .inl (0, 16), .inl (1, 16), .inl (0, 16), .inl (0, 16), .inl (0, 256), .inl (0, 40), .inl (1, 16), .inl (0, 16), .inr (1, [(1, 3), (1, 13), (1, 14), (1, 15), (2, 0), (0, 0)]), .inl (0, 10), .inl (0, 48000), .inl (0, 640), .inr (3, [(1, 17), (1, 18), (1, 19), (1, 20), (1, 21), (1, 22), (1, 23), (0, 0), (0, 0)]), .inl (0, 14), .inl (0, 14), .inl (0, 14), .inl (0, 14), .inl (0, 200), .inl (0, 200), .inl (0, 40)]) (c' := 23) (sl' := 49784) (av := [.ref (a.1.2.2.2 + 3)]) (rst := [.ref (a.1.2.2.2 + 12)]) K hR (t_X1_init a.1 (d - 1) (by omega) (by omega) (P := P ++ [.inr (10, [(5, 0), (5, 0), (5, 0), (5, 0), (5, 0), (5, 0), (5, 0), (5, 0), (5, 0), (0, 0), (0, 0), (0, 0)]), .inr (9, [(1, 2), (0, 0)]), .inl (0, 220), .inr (0, [(1, 4), (1, 5), (1, 6), (1, 7), (1, 8), (1, 9), (1, 10), (1, 11), (0, 0)]), .inl (0, 16), .inl (1, 16), .inl (0, 16), .inl (0, 16), .inl (0, 256), .inl (0, 40), .inl (1, 16), .inl (0, 16)]) (by rw [List.length_append, hP]; rfl) s5) rfl mf_X1_init ml_X11_15 (Nat.le_of_ble_eq_true rfl) (by omega) rfl rfl (Nat.le_of_ble_eq_true rfl) rfl rfl rfl (Nat.le_of_ble_eq_true rfl) (Nat.le_of_ble_eq_true rfl) dX11_init_25 (fun s6 => ?_)
  refine z_astore_n K (lv' := [(3, .ref (a.1.2.2.2 + 12)), (2, .ref (a.1.2.2.2 + 3)), (1, .ref (a.1.2.2.2 + 1)), (0, .ref (a.1.2.2.2 + 0))]) dX11_init_28 rfl (Nat.le_of_ble_eq_true rfl) rfl ?_
  refine z_aload_n K 3 rfl dX11_init_29 ?_
  refine z_aload_n K 2 rfl dX11_init_30 ?_
  refine z_putFQ (j := 0) (Q' := [.inr (10, [(1, 1), (5, 0), (5, 0), (5, 0), (5, 0), (5, 0), (5, 0), (5, 0), (5, 0), (0, 0), (0, 0), (0, 0)]), .inr (9, [(1, 2), (0, 0)]), .inl (0, 220), .inr (0, [(1, 4), (1, 5), (1, 6), (1, 7), (1, 8), (1, 9), (1, 10), (1, 11), (0, 0)]), .inl (0, 16), .inl (1, 16), .inl (0, 16), .inl (0, 16), .inl (0, 256), .inl (0, 40), .inl (1, 16), .inl (0, 16), .inr (1, [(1, 3), (1, 13), (1, 14), (1, 15), (2, 0), (0, 0)]), .inl (0, 10), .inl (0, 48000), .inl (0, 640), .inr (3, [(1, 17), (1, 18), (1, 19), (1, 20), (1, 21), (1, 22), (1, 23), (0, 0), (0, 0)]), .inl (0, 14), .inl (0, 14), .inl (0, 14), .inl (0, 14), .inl (0, 200), .inl (0, 200), .inl (0, 40)]) K hin2 hP rfl ff_X11_18 rfl (fun _ => rfl) (fun _ => rfl) (Nat.le_of_ble_eq_true rfl) rfl rfl dX11_init_31 ?_
  refine z_aload_n K 3 rfl dX11_init_34 ?_
  refine z_aload_n K 1 rfl dX11_init_35 ?_
  refine z_putFQ (j := 0) (Q' := [.inr (10, [(1, 1), (1, 3), (5, 0), (5, 0), (5, 0), (5, 0), (5, 0), (5, 0), (5, 0), (0, 0), (0, 0), (0, 0)]), .inr (9, [(1, 2), (0, 0)]), .inl (0, 220), .inr (0, [(1, 4), (1, 5), (1, 6), (1, 7), (1, 8), (1, 9), (1, 10), (1, 11), (0, 0)]), .inl (0, 16), .inl (1, 16), .inl (0, 16), .inl (0, 16), .inl (0, 256), .inl (0, 40), .inl (1, 16), .inl (0, 16), .inr (1, [(1, 3), (1, 13), (1, 14), (1, 15), (2, 0), (0, 0)]), .inl (0, 10), .inl (0, 48000), .inl (0, 640), .inr (3, [(1, 17), (1, 18), (1, 19), (1, 20), (1, 21), (1, 22), (1, 23), (0, 0), (0, 0)]), .inl (0, 14), .inl (0, 14), .inl (0, 14), .inl (0, 14), .inl (0, 200), .inl (0, 200), .inl (0, 40)]) K hin2 hP rfl ff_X11_24 rfl (fun _ => rfl) (fun _ => rfl) (Nat.le_of_ble_eq_true rfl) rfl rfl dX11_init_36 ?_
  refine z_aload_n K 3 rfl dX11_init_39 ?_
  refine z_newQ (Q' := [.inr (10, [(1, 1), (1, 3), (5, 0), (5, 0), (5, 0), (5, 0), (5, 0), (5, 0), (5, 0), (0, 0), (0, 0), (0, 0)]), .inr (9, [(1, 2), (0, 0)]), .inl (0, 220), .inr (0, [(1, 4), (1, 5), (1, 6), (1, 7), (1, 8), (1, 9), (1, 10), (1, 11), (0, 0)]), .inl (0, 16), .inl (1, 16), .inl (0, 16), .inl (0, 16), .inl (0, 256), .inl (0, 40), .inl (1, 16), .inl (0, 16), .inr (1, [(1, 3), (1, 13), (1, 14), (1, 15), (2, 0), (0, 0)]), .inl (0, 10), .inl (0, 48000), .inl (0, 640), .inr (3, [(1, 17), (1, 18), (1, 19), (1, 20), (1, 21), (1, 22), (1, 23), (0, 0), (0, 0)]), .inl (0, 14), .inl (0, 14), .inl (0, 14), .inl (0, 14), .inl (0, 200), .inl (0, 200), .inl (0, 40), .inr (4, [(5, 0), (5, 0), (0, 0), (0, 0), (0, 0)])]) (c' := 24) (sl' := 49789) K hR (by omega) hP (q := 24) rfl [] (ci := 4) rfl in_X4 tyX4_ok cl_X11_28 is_X4 it_X4 (zNoL_nil _) rfl (by decide +kernel) rfl rfl rfl (Nat.le_of_ble_eq_true rfl) (Nat.le_of_ble_eq_true rfl) dX11_init_40 ?_
  refine z_ltm (fun s7 => ?_)
  refine z_dup K rfl dX11_init_43 ?_
  refine z_aload_n K 2 rfl dX11_init_44 ?_
  refine z_cIQ (As := [.inr (10, [(1, 1), (1, 3), (5, 0), (5, 0), (5, 0), (5, 0), (5, 0), (5, 0), (5, 0), (0, 0), (0, 0), (0, 0)]), .inr (9, [(1, 2), (0, 0)]), .inl (0, 220), .inr (0, [(1, 4), (1, 5), (1, 6), (1, 7), (1, 8), (1, 9), (1, 10), (1, 11), (0, 0)]), .inl (0, 16), .inl (1, 16), .inl (0, 16), .inl (0, 16), .inl (0, 256), .inl (0, 40), .inl (1, 16), .inl (0, 16), .inr (1, [(1, 3), (1, 13), (1, 14), (1, 15), (2, 0), (0, 0)]), .inl (0, 10), .inl (0, 48000), .inl (0, 640), .inr (3, [(1, 17), (1, 18), (1, 19), (1, 20), (1, 21), (1, 22), (1, 23), (0, 0), (0, 0)]), .inl (0, 14), .inl (0, 14), .inl (0, 14), .inl (0, 14), .inl (0, 200), .inl (0, 200), .inl (0, 40)]) (Q' := [.inr (10, [(1, 1), (1, 3), (5, 0), (5, 0), (5, 0), (5, 0), (5, 0), (5, 0), (5, 0), (0, 0), (0, 0), (0, 0)]), .inr (9, [(1, 2), (0, 0)]), .inl (0, 220), .inr (0, [(1, 4), (1, 5), (1, 6), (1, 7), (1, 8), (1, 9), (1, 10), (1, 11), (0, 0)]), .inl (0, 16), .inl (1, 16), .inl (0, 16), .inl (0, 16), .inl (0, 256), .inl (0, 40), .inl (1, 16), .inl (0, 16), .inr (1, [(1, 3), (1, 13), (1, 14), (1, 15), (2, 0), (0, 0)]), .inl (0, 10), .inl (0, 48000), .inl (0, 640), .inr (3, [(1, 17), (1, 18), (1, 19), (1, 20), (1, 21), (1, 22), (1, 23), (0, 0), (0, 0)]), .inl (0, 14), .inl (0, 14), .inl (0, 14), .inl (0, 14), .inl (0, 200), .inl (0, 200), .inl (0, 40), .inr (4, [(1, 1), (2, 0), (0, 0), (0, 0), (0, 0)]), .inr (3, [(1, 26), (1, 27), (1, 28), (1, 29), (1, 30), (1, 31), (1, 32), (0, 0), (0, 0)]), .inl (0, 14), .inl (0, 14), .inl (0, 14), .inl (0, 14), .inl (0, 200), .inl (0, 200), .inl (0, 40)]) (c' := 32) (sl' := 50294) (av := [.ref (a.1.2.2.2 + 1)]) (rst := [.ref (a.1.2.2.2 + 24), .ref (a.1.2.2.2 + 0)]) K hR (t_X4_init a.1 (d - 1) (by omega) (by omega) (P := P ++ [.inr (10, [(1, 1), (1, 3), (5, 0), (5, 0), (5, 0), (5, 0), (5, 0), (5, 0), (5, 0), (0, 0), (0, 0), (0, 0)]), .inr (9, [(1, 2), (0, 0)]), .inl (0, 220), .inr (0, [(1, 4), (1, 5), (1, 6), (1, 7), (1, 8), (1, 9), (1, 10), (1, 11), (0, 0)]), .inl (0, 16), .inl (1, 16), .inl (0, 16), .inl (0, 16), .inl (0, 256), .inl (0, 40), .inl (1, 16), .inl (0, 16), .inr (1, [(1, 3), (1, 13), (1, 14), (1, 15), (2, 0), (0, 0)]), .inl (0, 10), .inl (0, 48000), .inl (0, 640), .inr (3, [(1, 17), (1, 18), (1, 19), (1, 20), (1, 21), (1, 22), (1, 23), (0, 0), (0, 0)]), .inl (0, 14), .inl (0, 14), .inl (0, 14), .inl (0, 14), .inl (0, 200), .inl (0, 200), .inl (0, 40)]) (by rw [List.length_append, hP]; rfl) s7) rfl mf_X4_init ml_X11_30 (Nat.le_of_ble_eq_true rfl) (by omega) rfl rfl (Nat.le_of_ble_eq_true rfl) rfl rfl rfl (Nat.le_of_ble_eq_true rfl) (Nat.le_of_ble_eq_true rfl) dX11_init_45 (fun s8 => ?_)
  refine z_putFQ (j := 0) (Q' := [.inr (10, [(1, 1), (1, 3), (1, 24), (5, 0), (5, 0), (5, 0), (5, 0), (5, 0), (5, 0), (0, 0), (0, 0), (0, 0)]), .inr (9, [(1, 2), (0, 0)]), .inl (0, 220), .inr (0, [(1, 4), (1, 5), (1, 6), (1, 7), (1, 8), (1, 9), (1, 10), (1, 11), (0, 0)]), .inl (0, 16), .inl (1, 16), .inl (0, 16), .inl (0, 16), .inl (0, 256), .inl (0, 40), .inl (1, 16), .inl (0, 16), .inr (1, [(1, 3), (1, 13), (1, 14), (1, 15), (2, 0), (0, 0)]), .inl (0, 10), .inl (0, 48000), .inl (0, 640), .inr (3, [(1, 17), (1, 18), (1, 19), (1, 20), (1, 21), (1, 22), (1, 23), (0, 0), (0, 0)]), .inl (0, 14), .inl (0, 14), .inl (0, 14), .inl (0, 14), .inl (0, 200), .inl (0, 200), .inl (0, 40), .inr (4, [(1, 1), (2, 0), (0, 0), (0, 0), (0, 0)]), .inr (3, [(1, 26), (1, 27), (1, 28), (1, 29), (1, 30), (1, 31), (1, 32), (0, 0), (0, 0)]), .inl (0, 14), .inl (0, 14), .inl (0, 14), .inl (0, 14), .inl (0, 200), .inl (0, 200), .inl (0, 40)]) K hin2 hP rfl ff_X11_33 rfl (fun _ => rfl) (fun _ => rfl) (Nat.le_of_ble_eq_true rfl) rfl rfl dX11_init_48 ?_
  refine z_aload_n K 3 rfl dX11_init_51 ?_
  refine z_aload_n K 0 rfl dX11_init_52 ?_
  refine z_putFQ (j := 0) (Q' := [.inr (10, [(1, 1), (1, 3), (1, 24), (1, 12), (5, 0), (5, 0), (5, 0), (5, 0), (5, 0), (0, 0), (0, 0), (0, 0)]), .inr (9, [(1, 2), (0, 0)]), .inl (0, 220), .inr (0, [(1, 4), (1, 5), (1, 6), (1, 7), (1, 8), (1, 9), (1, 10), (1, 11), (0, 0)]), .inl (0, 16), .inl (1, 16), .inl (0, 16), .inl (0, 16), .inl (0, 256), .inl (0, 40), .inl (1, 16), .inl (0, 16), .inr (1, [(1, 3), (1, 13), (1, 14), (1, 15), (2, 0), (0, 0)]), .inl (0, 10), .inl (0, 48000), .inl (0, 640), .inr (3, [(1, 17), (1, 18), (1, 19), (1, 20), (1, 21), (1, 22), (1, 23), (0, 0), (0, 0)]), .inl (0, 14), .inl (0, 14), .inl (0, 14), .inl (0, 14), .inl (0, 200), .inl (0, 200), .inl (0, 40), .inr (4, [(1, 1), (2, 0), (0, 0), (0, 0), (0, 0)]), .inr (3, [(1, 26), (1, 27), (1, 28), (1, 29), (1, 30), (1, 31), (1, 32), (0, 0), (0, 0)]), .inl (0, 14), .inl (0, 14), .inl (0, 14), .inl (0, 14), .inl (0, 200), .inl (0, 200), .inl (0, 40)]) K hin2 hP rfl ff_X11_37 rfl (fun _ => rfl) (fun _ => rfl) (Nat.le_of_ble_eq_true rfl) rfl rfl dX11_init_53 ?_
  refine z_aload_n K 3 rfl dX11_init_56 ?_
  refine z_newQ (Q' := [.inr (10, [(1, 1), (1, 3), (1, 24), (1, 12), (5, 0), (5, 0), (5, 0), (5, 0), (5, 0), (0, 0), (0, 0), (0, 0)]), .inr (9, [(1, 2), (0, 0)]), .inl (0, 220), .inr (0, [(1, 4), (1, 5), (1, 6), (1, 7), (1, 8), (1, 9), (1, 10), (1, 11), (0, 0)]), .inl (0, 16), .inl (1, 16), .inl (0, 16), .inl (0, 16), .inl (0, 256), .inl (0, 40), .inl (1, 16), .inl (0, 16), .inr (1, [(1, 3), (1, 13), (1, 14), (1, 15), (2, 0), (0, 0)]), .inl (0, 10), .inl (0, 48000), .inl (0, 640), .inr (3, [(1, 17), (1, 18), (1, 19), (1, 20), (1, 21), (1, 22), (1, 23), (0, 0), (0, 0)]), .inl (0, 14), .inl (0, 14), .inl (0, 14), .inl (0, 14), .inl (0, 200), .inl (0, 200), .inl (0, 40), .inr (4, [(1, 1), (2, 0), (0, 0), (0, 0), (0, 0)]), .inr (3, [(1, 26), (1, 27), (1, 28), (1, 29), (1, 30), (1, 31), (1, 32), (0, 0), (0, 0)]), .inl (0, 14), .inl (0, 14), .inl (0, 14), .inl (0, 14), .inl (0, 200), .inl (0, 200), .inl (0, 40), .inr (5, [(5, 0), (5, 0), (5, 0), (5, 0), (5, 0), (5, 0), (5, 0), (5, 0), (5, 0), (5, 0), (0, 0), (0, 0)])]) (c' := 33) (sl' := 50306) K hR (by omega) hP (q := 33) rfl [] (ci := 5) rfl in_X5 tyX5_ok cl_X11_41 is_X5 it_X5 (zNoL_nil _) rfl (by decide +kernel) rfl rfl rfl (Nat.le_of_ble_eq_true rfl) (Nat.le_of_ble_eq_true rfl) dX11_init_57 ?_
  refine z_ltm (fun s9 => ?_)
  refine z_dup K rfl dX11_init_60 ?_
  refine z_aload_n K 1 rfl dX11_init_61 ?_
  refine z_aload_n K 0 rfl dX11_init_62 ?_
  refine z_cIQ (As := [.inr (10, [(1, 1), (1, 3), (1, 24), (1, 12), (5, 0), (5, 0), (5, 0), (5, 0), (5, 0), (0, 0), (0, 0), (0, 0)]), .inr (9, [(1, 2), (0, 0)]), .inl (0, 220), .inr (0, [(1, 4), (1, 5), (1, 6), (1, 7), (1, 8), (1, 9), (1, 10), (1, 11), (0, 0)]), .inl (0, 16), .inl (1, 16), .inl (0, 16), .inl (0, 16), .inl (0, 256), .inl (0, 40), .inl (1, 16), .inl (0, 16), .inr (1, [(1, 3), (1, 13), (1, 14), (1, 15), (2, 0), (0, 0)]), .inl (0, 10), .inl (0, 48000), .inl (0, 640), .inr (3, [(1, 17), (1, 18), (1, 19), (1, 20), (1, 21), (1, 22), (1, 23), (0, 0), (0, 0)]), .inl (0, 14), .inl (0, 14), .inl (0, 14), .inl (0, 14), .inl (0, 200), .inl (0, 200), .inl (0, 40), .inr (4, [(1, 1), (2, 0), (0, 0), (0, 0), (0, 0)]), .inr (3, [(1, 26), (1, 27), (1, 28), (1, 29), (1, 30), (1, 31), (1, 32), (0, 0), (0, 0)]), .inl (0, 14), .inl (0, 14), .inl (0, 14), .inl (0, 14), .inl (0, 200), .inl (0, 200), .inl (0, 40)]) (Q' := [.inr (10, [(1, 1), (1, 3), (1, 24), (1, 12), (5, 0), (5, 0), (5, 0), (5, 0), (5, 0), (0, 0), (0, 0), (0, 0)]), .inr (9, [(1, 2), (0, 0)]), .inl (0, 220), .inr (0, [(1, 4), (1, 5), (1, 6), (1, 7), (1, 8), (1, 9), (1, 10), (1, 11), (0, 0)]), .inl (0, 16), .inl (1, 16), .inl (0, 16), .inl (0, 16), .inl (0, 256), .inl (0, 40), .inl (1, 16), .inl (0, 16), .inr (1, [(1, 3), (1, 13), (1, 14), (1, 15), (2, 0), (0, 0)]), .inl (0, 10), .inl (0, 48000), .inl (0, 640), .inr (3, [(1, 17), (1, 18), (1, 19), (1, 20), (1, 21), (1, 22), (1, 23), (0, 0), (0, 0)]), .inl (0, 14), .inl (0, 14), .inl (0, 14), .inl (0, 14), .inl (0, 200), .inl (0, 200), .inl (0, 40), .inr (4, [(1, 1), (2, 0), (0, 0), (0, 0), (0, 0)]), .inr (3, [(1, 26), (1, 27), (1, 28), (1, 29), (1, 30), (1, 31), (1, 32), (0, 0), (0, 0)]), .inl (0, 14), .inl (0, 14), .inl (0, 14), .inl (0, 14), .inl (0, 200), .inl (0, 200), .inl (0, 40), .inr (5, [(1, 3), (1, 12), (1, 34), (1, 35), (1, 36), (1, 37), (1, 38), (1, 39), (1, 40), (1, 41), (0, 0), (0, 0)]), .inl (0, 10), .inl (0, 10), .inl (0, 10), .inl (0, 10), .inl (0, 10), .inl (0, 10), .inl (0, 16), .inl (0, 16)]) (c' := 41) (sl' := 50398) (av := [.ref (a.1.2.2.2 + 3), .ref (a.1.2.2.2 + 12)]) (rst := [.ref (a.1.2.2.2 + 33), .ref (a.1.2.2.2 + 0)]) K hR (t_X5_init a.1 (d - 1) (by omega) (by omega) (P := P ++ [.inr (10, [(1, 1), (1, 3), (1, 24), (1, 12), (5, 0), (5, 0), (5, 0), (5, 0), (5, 0), (0, 0), (0, 0), (0, 0)]), .inr (9, [(1, 2), (0, 0)]), .inl (0, 220), .inr (0, [(1, 4), (1, 5), (1, 6), (1, 7), (1, 8), (1, 9), (1, 10), (1, 11), (0, 0)]), .inl (0, 16), .inl (1, 16), .inl (0, 16), .inl (0, 16), .inl (0, 256), .inl (0, 40), .inl (1, 16), .inl (0, 16), .inr (1, [(1, 3), (1, 13), (1, 14), (1, 15), (2, 0), (0, 0)]), .inl (0, 10), .inl (0, 48000), .inl (0, 640), .inr (3, [(1, 17), (1, 18), (1, 19), (1, 20), (1, 21), (1, 22), (1, 23), (0, 0), (0, 0)]), .inl (0, 14), .inl (0, 14), .inl (0, 14), .inl (0, 14), .inl (0, 200), .inl (0, 200), .inl (0, 40), .inr (4, [(1, 1), (2, 0), (0, 0), (0, 0), (0, 0)]), .inr (3, [(1, 26), (1, 27), (1, 28), (1, 29), (1, 30), (1, 31), (1, 32), (0, 0), (0, 0)]), .inl (0, 14), .inl (0, 14), .inl (0, 14), .inl (0, 14), .inl (0, 200), .inl (0, 200), .inl (0, 40)]) (by rw [List.length_append, hP]; rfl) s9) rfl mf_X5_init ml_X11_43 (Nat.le_of_ble_eq_true rfl) (by omega) rfl rfl (Nat.le_of_ble_eq_true rfl) rfl rfl rfl (Nat.le_of_ble_eq_true rfl) (Nat.le_of_ble_eq_true rfl) dX11_init_63 (fun s10 => ?_)
  refine z_putFQ (j := 0) (Q' := [.inr (10, [(1, 1), (1, 3), (1, 24), (1, 12), (1, 33), (5, 0), (5, 0), (5, 0), (5, 0), (0, 0), (0, 0), (0, 0)]), .inr (9, [(1, 2), (0, 0)]), .inl (0, 220), .inr (0, [(1, 4), (1, 5), (1, 6), (1, 7), (1, 8), (1, 9), (1, 10), (1, 11), (0, 0)]), .inl (0, 16), .inl (1, 16), .inl (0, 16), .inl (0, 16), .inl (0, 256), .inl (0, 40), .inl (1, 16), .inl (0, 16), .inr (1, [(1, 3), (1, 13), (1, 14), (1, 15), (2, 0), (0, 0)]), .inl (0, 10), .inl (0, 48000), .inl (0, 640), .inr (3, [(1, 17), (1, 18), (1, 19), (1, 20), (1, 21), (1, 22), (1, 23), (0, 0), (0, 0)]), .inl (0, 14), .inl (0, 14), .inl (0, 14), .inl (0, 14), .inl (0, 200), .inl (0, 200), .inl (0, 40), .inr (4, [(1, 1), (2, 0), (0, 0), (0, 0), (0, 0)]), .inr (3, [(1, 26), (1, 27), (1, 28), (1, 29), (1, 30), (1, 31), (1, 32), (0, 0), (0, 0)]), .inl (0, 14), .inl (0, 14), .inl (0, 14), .inl (0, 14), .inl (0, 200), .inl (0, 200), .inl (0, 40), .inr (5, [(1, 3), (1, 12), (1, 34), (1, 35), (1, 36), (1, 37), (1, 38), (1, 39), (1, 40), (1, 41), (0, 0), (0, 0)]), .inl (0, 10), .inl (0, 10), .inl (0, 10), .inl (0, 10), .inl (0, 10), .inl (0, 10), .inl (0, 16), .inl (0, 16)]) K hin2 hP rfl ff_X11_46 rfl (fun _ => rfl) (fun _ => rfl) (Nat.le_of_ble_eq_true rfl) rfl rfl dX11_init_66 ?_
  refine z_aload_n K 3 rfl dX11_init_69 ?_
  refine z_newQ (Q' := [.inr (10, [(1, 1), (1, 3), (1, 24), (1, 12), (1, 33), (5, 0), (5, 0), (5, 0), (5, 0), (0, 0), (0, 0), (0, 0)]), .inr (9, [(1, 2), (0, 0)]), .inl (0, 220), .inr (0, [(1, 4), (1, 5), (1, 6), (1, 7), (1, 8), (1, 9), (1, 10), (1, 11), (0, 0)]), .inl (0, 16), .inl (1, 16), .inl (0, 16), .inl (0, 16), .inl (0, 256), .inl (0, 40), .inl (1, 16), .inl (0, 16), .inr (1, [(1, 3), (1, 13), (1, 14), (1, 15), (2, 0), (0, 0)]), .inl (0, 10), .inl (0, 48000), .inl (0, 640), .inr (3, [(1, 17), (1, 18), (1, 19), (1, 20), (1, 21), (1, 22), (1, 23), (0, 0), (0, 0)]), .inl (0, 14), .inl (0, 14), .inl (0, 14), .inl (0, 14), .inl (0, 200), .inl (0, 200), .inl (0, 40), .inr (4, [(1, 1), (2, 0), (0, 0), (0, 0), (0, 0)]), .inr (3, [(1, 26), (1, 27), (1, 28), (1, 29), (1, 30), (1, 31), (1, 32), (0, 0), (0, 0)]), .inl (0, 14), .inl (0, 14), .inl (0, 14), .inl (0, 14), .inl (0, 200), .inl (0, 200), .inl (0, 40), .inr (5, [(1, 3), (1, 12), (1, 34), (1, 35), (1, 36), (1, 37), (1, 38), (1, 39), (1, 40), (1, 41), (0, 0), (0, 0)]), .inl (0, 10), .inl (0, 10), .inl (0, 10), .inl (0, 10), .inl (0, 10), .inl (0, 10), .inl (0, 16), .inl (0, 16), .inr (8, [(5, 0), (5, 0), (5, 0), (5, 0), (0, 0), (3, 0), (0, 0)])]) (c' := 42) (sl' := 50405) K hR (by omega) hP (q := 42) rfl [0] (ci := 8) rfl in_X9 tyX9_ok cl_X11_50 is_X9 it_X9 (by subst hP0; decide +kernel) rfl (by decide +kernel) rfl rfl rfl (Nat.le_of_ble_eq_true rfl) (Nat.le_of_ble_eq_true rfl) dX11_init_70 ?_
  refine z_ltm (fun s11 => ?_)
  refine z_dup K rfl dX11_init_73 ?_
  refine z_aload_n K 1 rfl dX11_init_74 ?_
  refine z_aload_n K 0 rfl dX11_init_75 ?_
  refine z_cIQ (As := [.inr (10, [(1, 1), (1, 3), (1, 24), (1, 12), (1, 33), (5, 0), (5, 0), (5, 0), (5, 0), (0, 0), (0, 0), (0, 0)]), .inr (9, [(1, 2), (0, 0)]), .inl (0, 220), .inr (0, [(1, 4), (1, 5), (1, 6), (1, 7), (1, 8), (1, 9), (1, 10), (1, 11), (0, 0)]), .inl (0, 16), .inl (1, 16), .inl (0, 16), .inl (0, 16), .inl (0, 256), .inl (0, 40), .inl (1, 16), .inl (0, 16), .inr (1, [(1, 3), (1, 13), (1, 14), (1, 15), (2, 0), (0, 0)]), .inl (0, 10), .inl (0, 48000), .inl (0, 640), .inr (3, [(1, 17), (1, 18), (1, 19), (1, 20), (1, 21), (1, 22), (1, 23), (0, 0), (0, 0)]), .inl (0, 14), .inl (0, 14), .inl (0, 14), .inl (0, 14), .inl (0, 200), .inl (0, 200), .inl (0, 40), .inr (4, [(1, 1), (2, 0), (0, 0), (0, 0), (0, 0)]), .inr (3, [(1, 26), (1, 27), (1, 28), (1, 29), (1, 30), (1, 31), (1, 32), (0, 0), (0, 0)]), .inl (0, 14), .inl (0, 14), .inl (0, 14), .inl (0, 14), .inl (0, 200), .inl (0, 200), .inl (0, 40), .inr (5, [(1, 3), (1, 12), (1, 34), (1, 35), (1, 36), (1, 37), (1, 38), (1, 39), (1, 40), (1, 41), (0, 0), (0, 0)]), .inl (0, 10), .inl (0, 10), .inl (0, 10), .inl (0, 10), .inl (0, 10), .inl (0, 10), .inl (0, 16), .inl (0, 16)]) (Q' := [.inr (10, [(1, 1), (1, 3), (1, 24), (1, 12), (1, 33), (5, 0), (5, 0), (5, 0), (5, 0), (0, 0), (0, 0), (0, 0)]), .inr (9, [(1, 2), (0, 0)]), .inl (0, 220), .inr (0, [(1, 4), (1, 5), (1, 6), (1, 7), (1, 8), (1, 9), (1, 10), (1, 11), (0, 0)]), .inl (0, 16), .inl (1, 16), .inl (0, 16), .inl (0, 16), .inl (0, 256), .inl (0, 40), .inl (1, 16), .inl (0, 16), .inr (1, [(1, 3), (1, 13), (1, 14), (1, 15), (2, 0), (0, 0)]), .inl (0, 10), .inl (0, 48000), .inl (0, 640), .inr (3, [(1, 17), (1, 18), (1, 19), (1, 20), (1, 21), (1, 22), (1, 23), (0, 0), (0, 0)]), .inl (0, 14), .inl (0, 14), .inl (0, 14), .inl (0, 14), .inl (0, 200), .inl (0, 200), .inl (0, 40), .inr (4, [(1, 1), (2, 0), (0, 0), (0, 0), (0, 0)]), .inr (3, [(1, 26), (1, 27), (1, 28), (1, 29), (1, 30), (1, 31), (1, 32), (0, 0), (0, 0)]), .inl (0, 14), .inl (0, 14), .inl (0, 14), .inl (0, 14), .inl (0, 200), .inl (0, 200), .inl (0, 40), .inr (5, [(1, 3), (1, 12), (1, 34), (1, 35), (1, 36), (1, 37), (1, 38), (1, 39), (1, 40), (1, 41), (0, 0), (0, 0)]), .inl (0, 10), .inl (0, 10), .inl (0, 10), .inl (0, 10), .inl (0, 10), .inl (0, 10), .inl (0, 16), .inl (0, 16), .inr (8, [(1, 3), (1, 12), (1, 43), (1, 44), (0, 0), (3, 0), (0, 0)]), .inl (0, 7), .inl (0, 7)]) (c' := 44) (sl' := 50419) (av := [.ref (a.1.2.2.2 + 3), .ref (a.1.2.2.2 + 12)]) (rst := [.ref (a.1.2.2.2 + 42), .ref (a.1.2.2.2 + 0)]) K hR (t_X9_init a.1 (d - 1) (by omega) (by omega) (P := P ++ [.inr (10, [(1, 1), (1, 3), (1, 24), (1, 12), (1, 33), (5, 0), (5, 0), (5, 0), (5, 0), (0, 0), (0, 0), (0, 0)]), .inr (9, [(1, 2), (0, 0)]), .inl (0, 220), .inr (0, [(1, 4), (1, 5), (1, 6), (1, 7), (1, 8), (1, 9), (1, 10), (1, 11), (0, 0)]), .inl (0, 16), .inl (1, 16), .inl (0, 16), .inl (0, 16), .inl (0, 256), .inl (0, 40), .inl (1, 16), .inl (0, 16), .inr (1, [(1, 3), (1, 13), (1, 14), (1, 15), (2, 0), (0, 0)]), .inl (0, 10), .inl (0, 48000), .inl (0, 640), .inr (3, [(1, 17), (1, 18), (1, 19), (1, 20), (1, 21), (1, 22), (1, 23), (0, 0), (0, 0)]), .inl (0, 14), .inl (0, 14), .inl (0, 14), .inl (0, 14), .inl (0, 200), .inl (0, 200), .inl (0, 40), .inr (4, [(1, 1), (2, 0), (0, 0), (0, 0), (0, 0)]), .inr (3, [(1, 26), (1, 27), (1, 28), (1, 29), (1, 30), (1, 31), (1, 32), (0, 0), (0, 0)]), .inl (0, 14), .inl (0, 14), .inl (0, 14), .inl (0, 14), .inl (0, 200), .inl (0, 200), .inl (0, 40), .inr (5, [(1, 3), (1, 12), (1, 34), (1, 35), (1, 36), (1, 37), (1, 38), (1, 39), (1, 40), (1, 41), (0, 0), (0, 0)]), .inl (0, 10), .inl (0, 10), .inl (0, 10), .inl (0, 10), .inl (0, 10), .inl (0, 10), .inl (0, 16), .inl (0, 16)]) (by rw [List.length_append, hP]; rfl) s11) rfl mf_X9_init ml_X11_52 (Nat.le_of_ble_eq_true rfl) (by omega) rfl rfl (Nat.le_of_ble_eq_true rfl) rfl rfl rfl (Nat.le_of_ble_eq_true rfl) (Nat.le_of_ble_eq_true rfl) dX11_init_76 (fun s12 => ?_)
  refine z_putFQ (j := 0) (Q' := [.inr (10, [(1, 1), (1, 3), (1, 24), (1, 12), (1, 33), (1, 42), (5, 0), (5, 0), (5, 0), (0, 0), (0, 0), (0, 0)]), .inr (9, [(1, 2), (0, 0)]), .inl (0, 220), .inr (0, [(1, 4), (1, 5), (1, 6), (1, 7), (1, 8), (1, 9), (1, 10), (1, 11), (0, 0)]), .inl (0, 16), .inl (1, 16), .inl (0, 16), .inl (0, 16), .inl (0, 256), .inl (0, 40), .inl (1, 16), .inl (0, 16), .inr (1, [(1, 3), (1, 13), (1, 14), (1, 15), (2, 0), (0, 0)]), .inl (0, 10), .inl (0, 48000), .inl (0, 640), .inr (3, [(1, 17), (1, 18), (1, 19), (1, 20), (1, 21), (1, 22), (1, 23), (0, 0), (0, 0)]), .inl (0, 14), .inl (0, 14), .inl (0, 14), .inl (0, 14), .inl (0, 200), .inl (0, 200), .inl (0, 40), .inr (4, [(1, 1), (2, 0), (0, 0), (0, 0), (0, 0)]), .inr (3, [(1, 26), (1, 27), (1, 28), (1, 29), (1, 30), (1, 31), (1, 32), (0, 0), (0, 0)]), .inl (0, 14), .inl (0, 14), .inl (0, 14), .inl (0, 14), .inl (0, 200), .inl (0, 200), .inl (0, 40), .inr (5, [(1, 3), (1, 12), (1, 34), (1, 35), (1, 36), (1, 37), (1, 38), (1, 39), (1, 40), (1, 41), (0, 0), (0, 0)]), .inl (0, 10), .inl (0, 10), .inl (0, 10), .inl (0, 10), .inl (0, 10), .inl (0, 10), .inl (0, 16), .inl (0, 16), .inr (8, [(1, 3), (1, 12), (1, 43), (1, 44), (0, 0), (3, 0), (0, 0)]), .inl (0, 7), .inl (0, 7)]) K hin2 hP rfl ff_X11_53 rfl (fun _ => rfl) (fun _ => rfl) (Nat.le_of_ble_eq_true rfl) rfl rfl dX11_init_79 ?_
  refine z_aload_n K 3 rfl dX11_init_82 ?_
  refine z_newQ (Q' := [.inr (10, [(1, 1), (1, 3), (1, 24), (1, 12), (1, 33), (1, 42), (5, 0), (5, 0), (5, 0), (0, 0), (0, 0), (0, 0)]), .inr (9, [(1, 2), (0, 0)]), .inl (0, 220), .inr (0, [(1, 4), (1, 5), (1, 6), (1, 7), (1, 8), (1, 9), (1, 10), (1, 11), (0, 0)]), .inl (0, 16), .inl (1, 16), .inl (0, 16), .inl (0, 16), .inl (0, 256), .inl (0, 40), .inl (1, 16), .inl (0, 16), .inr (1, [(1, 3), (1, 13), (1, 14), (1, 15), (2, 0), (0, 0)]), .inl (0, 10), .inl (0, 48000), .inl (0, 640), .inr (3, [(1, 17), (1, 18), (1, 19), (1, 20), (1, 21), (1, 22), (1, 23), (0, 0), (0, 0)]), .inl (0, 14), .inl (0, 14), .inl (0, 14), .inl (0, 14), .inl (0, 200), .inl (0, 200), .inl (0, 40), .inr (4, [(1, 1), (2, 0), (0, 0), (0, 0), (0, 0)]), .inr (3, [(1, 26), (1, 27), (1, 28), (1, 29), (1, 30), (1, 31), (1, 32), (0, 0), (0, 0)]), .inl (0, 14), .inl (0, 14), .inl (0, 14), .inl (0, 14), .inl (0, 200), .inl (0, 200), .inl (0, 40), .inr (5, [(1, 3), (1, 12), (1, 34), (1, 35), (1, 36), (1, 37), (1, 38), (1, 39), (1, 40), (1, 41), (0, 0), (0, 0)]), .inl (0, 10), .inl (0, 10), .inl (0, 10), .inl (0, 10), .inl (0, 10), .inl (0, 10), .inl (0, 16), .inl (0, 16), .inr (8, [(1, 3), (1, 12), (1, 43), (1, 44), (0, 0), (3, 0), (0, 0)]), .inl (0, 7), .inl (0, 7), .inr (6, [(5, 0), (5, 0), (0, 0), (0, 0), (0, 0), (5, 0), (5, 0), (5, 0), (5, 0), (5, 0), (0, 0), (0, 0), (0, 0), (0, 0)])]) (c' := 45) (sl' := 50433) K hR (by omega) hP (q := 45) rfl [] (ci := 6) rfl in_X6 tyX6_ok cl_X11_57 is_X6 it_X6 (zNoL_nil _) rfl (by decide +kernel) rfl rfl rfl (Nat.le_of_ble_eq_true rfl) (Nat.le_of_ble_eq_true rfl) dX11_init_83 ?_
  refine z_ltm (fun s13 => ?_)
  refine z_dup K rfl dX11_init_86 ?_
  refine z_aload_n K 1 rfl dX11_init_87 ?_
  refine z_aload_n K 0 rfl dX11_init_88 ?_
  refine z_cIQ (As := [.inr (10, [(1, 1), (1, 3), (1, 24), (1, 12), (1, 33), (1, 42), (5, 0), (5, 0), (5, 0), (0, 0), (0, 0), (0, 0)]), .inr (9, [(1, 2), (0, 0)]), .inl (0, 220), .inr (0, [(1, 4), (1, 5), (1, 6), (1, 7), (1, 8), (1, 9), (1, 10), (1, 11), (0, 0)]), .inl (0, 16), .inl (1, 16), .inl (0, 16), .inl (0, 16), .inl (0, 256), .inl (0, 40), .inl (1, 16), .inl (0, 16), .inr (1, [(1, 3), (1, 13), (1, 14), (1, 15), (2, 0), (0, 0)]), .inl (0, 10), .inl (0, 48000), .inl (0, 640), .inr (3, [(1, 17), (1, 18), (1, 19), (1, 20), (1, 21), (1, 22), (1, 23), (0, 0), (0, 0)]), .inl (0, 14), .inl (0, 14), .inl (0, 14), .inl (0, 14), .inl (0, 200), .inl (0, 200), .inl (0, 40), .inr (4, [(1, 1), (2, 0), (0, 0), (0, 0), (0, 0)]), .inr (3, [(1, 26), (1, 27), (1, 28), (1, 29), (1, 30), (1, 31), (1, 32), (0, 0), (0, 0)]), .inl (0, 14), .inl (0, 14), .inl (0, 14), .inl (0, 14), .inl (0, 200), .inl (0, 200), .inl (0, 40), .inr (5, [(1, 3), (1, 12), (1, 34), (1, 35), (1, 36), (1, 37), (1, 38), (1, 39), (1, 40), (1, 41), (0, 0), (0, 0)]), .inl (0, 10), .inl (0, 10), .inl (0, 10), .inl (0, 10), .inl (0, 10), .inl (0, 10), .inl (0, 16), .inl (0, 16), .inr (8, [(1, 3), (1, 12), (1, 43), (1, 44), (0, 0), (3, 0), (0, 0)]), .inl (0, 7), .inl (0, 7)]) (Q' := [.inr (10, [(1, 1), (1, 3), (1, 24), (1, 12), (1, 33), (1, 42), (5, 0), (5, 0), (5, 0), (0, 0), (0, 0), (0, 0)]), .inr (9, [(1, 2), (0, 0)]), .inl (0, 220), .inr (0, [(1, 4), (1, 5), (1, 6), (1, 7), (1, 8), (1, 9), (1, 10), (1, 11), (0, 0)]), .inl (0, 16), .inl (1, 16), .inl (0, 16), .inl (0, 16), .inl (0, 256), .inl (0, 40), .inl (1, 16), .inl (0, 16), .inr (1, [(1, 3), (1, 13), (1, 14), (1, 15), (2, 0), (0, 0)]), .inl (0, 10), .inl (0, 48000), .inl (0, 640), .inr (3, [(1, 17), (1, 18), (1, 19), (1, 20), (1, 21), (1, 22), (1, 23), (0, 0), (0, 0)]), .inl (0, 14), .inl (0, 14), .inl (0, 14), .inl (0, 14), .inl (0, 200), .inl (0, 200), .inl (0, 40), .inr (4, [(1, 1), (2, 0), (0, 0), (0, 0), (0, 0)]), .inr (3, [(1, 26), (1, 27), (1, 28), (1, 29), (1, 30), (1, 31), (1, 32), (0, 0), (0, 0)]), .inl (0, 14), .inl (0, 14), .inl (0, 14), .inl (0, 14), .inl (0, 200), .inl (0, 200), .inl (0, 40), .inr (5, [(1, 3), (1, 12), (1, 34), (1, 35), (1, 36), (1, 37), (1, 38), (1, 39), (1, 40), (1, 41), (0, 0), (0, 0)]), .inl (0, 10), .inl (0, 10), .inl (0, 10), .inl (0, 10), .inl (0, 10), .inl (0, 10), .inl (0, 16), .inl (0, 16), .inr (8, [(1, 3), (1, 12), (1, 43), (1, 44), (0, 0), (3, 0), (0, 0)]), .inl (0, 7), .inl (0, 7), .inr (6, [(1, 3), (1, 12), (0, 0), (0, 0), (0, 0), (1, 46), (1, 47), (1, 48), (1, 49), (1, 50), (0, 0), (0, 0), (0, 0), (0, 0)]), .inl (0, 7), .inl (0, 7), .inl (0, 49), .inl (0, 7), .inl (0, 7)]) (c' := 50) (sl' := 50510) (av := [.ref (a.1.2.2.2 + 3), .ref (a.1.2.2.2 + 12)]) (rst := [.ref (a.1.2.2.2 + 45), .ref (a.1.2.2.2 + 0)]) K hR (t_X6_init a.1 (d - 1) (by omega) (by omega) (P := P ++ [.inr (10, [(1, 1), (1, 3), (1, 24), (1, 12), (1, 33), (1, 42), (5, 0), (5, 0), (5, 0), (0, 0), (0, 0), (0, 0)]), .inr (9, [(1, 2), (0, 0)]), .inl (0, 220), .inr (0, [(1, 4), (1, 5), (1, 6), (1, 7), (1, 8), (1, 9), (1, 10), (1, 11), (0, 0)]), .inl (0, 16), .inl (1, 16), .inl (0, 16), .inl (0, 16), .inl (0, 256), .inl (0, 40), .inl (1, 16), .inl (0, 16), .inr (1, [(1, 3), (1, 13), (1, 14), (1, 15), (2, 0), (0, 0)]), .inl (0, 10), .inl (0, 48000), .inl (0, 640), .inr (3, [(1, 17), (1, 18), (1, 19), (1, 20), (1, 21), (1, 22), (1, 23), (0, 0), (0, 0)]), .inl (0, 14), .inl (0, 14), .inl (0, 14), .inl (0, 14), .inl (0, 200), .inl (0, 200), .inl (0, 40), .inr (4, [(1, 1), (2, 0), (0, 0), (0, 0), (0, 0)]), .inr (3, [(1, 26), (1, 27), (1, 28), (1, 29), (1, 30), (1, 31), (1, 32), (0, 0), (0, 0)]), .inl (0, 14), .inl (0, 14), .inl (0, 14), .inl (0, 14), .inl (0, 200), .inl (0, 200), .inl (0, 40), .inr (5, [(1, 3), (1, 12), (1, 34), (1, 35), (1, 36), (1, 37), (1, 38), (1, 39), (1, 40), (1, 41), (0, 0), (0, 0)]), .inl (0, 10), .inl (0, 10), .inl (0, 10), .inl (0, 10), .inl (0, 10), .inl (0, 10), .inl (0, 16), .inl (0, 16), .inr (8, [(1, 3), (1, 12), (1, 43), (1, 44), (0, 0), (3, 0), (0, 0)]), .inl (0, 7), .inl (0, 7)]) (by rw [List.length_append, hP]; rfl) s13) rfl mf_X6_init ml_X11_59 (Nat.le_of_ble_eq_true rfl) (by omega) rfl rfl (Nat.le_of_ble_eq_true rfl) rfl rfl rfl (Nat.le_of_ble_eq_true rfl) (Nat.le_of_ble_eq_true rfl) dX11_init_89 (fun s14 => ?_)
  refine z_putFQ (j := 0) (Q' := [.inr (10, [(1, 1), (1, 3), (1, 24), (1, 12), (1, 33), (1, 42), (1, 45), (5, 0), (5, 0), (0, 0), (0, 0), (0, 0)]), .inr (9, [(1, 2), (0, 0)]), .inl (0, 220), .inr (0, [(1, 4), (1, 5), (1, 6), (1, 7), (1, 8), (1, 9), (1, 10), (1, 11), (0, 0)]), .inl (0, 16), .inl (1, 16), .inl (0, 16), .inl (0, 16), .inl (0, 256), .inl (0, 40), .inl (1, 16), .inl (0, 16), .inr (1, [(1, 3), (1, 13), (1, 14), (1, 15), (2, 0), (0, 0)]), .inl (0, 10), .inl (0, 48000), .inl (0, 640), .inr (3, [(1, 17), (1, 18), (1, 19), (1, 20), (1, 21), (1, 22), (1, 23), (0, 0), (0, 0)]), .inl (0, 14), .inl (0, 14), .inl (0, 14), .inl (0, 14), .inl (0, 200), .inl (0, 200), .inl (0, 40), .inr (4, [(1, 1), (2, 0), (0, 0), (0, 0), (0, 0)]), .inr (3, [(1, 26), (1, 27), (1, 28), (1, 29), (1, 30), (1, 31), (1, 32), (0, 0), (0, 0)]), .inl (0, 14), .inl (0, 14), .inl (0, 14), .inl (0, 14), .inl (0, 200), .inl (0, 200), .inl (0, 40), .inr (5, [(1, 3), (1, 12), (1, 34), (1, 35), (1, 36), (1, 37), (1, 38), (1, 39), (1, 40), (1, 41), (0, 0), (0, 0)]), .inl (0, 10), .inl (0, 10), .inl (0, 10), .inl (0, 10), .inl (0, 10), .inl (0, 10), .inl (0, 16), .inl (0, 16), .inr (8, [(1, 3), (1, 12), (1, 43), (1, 44), (0, 0), (3, 0), (0, 0)]), .inl (0, 7), .inl (0, 7), .inr (6, [(1, 3), (1, 12), (0, 0), (0, 0), (0, 0), (1, 46), (1, 47), (1, 48), (1, 49), (1, 50), (0, 0), (0, 0), (0, 0), (0, 0)]), .inl (0, 7), .inl (0, 7), .inl (0, 49), .inl (0, 7), .inl (0, 7)]) K hin2 hP rfl ff_X11_60 rfl (fun _ => rfl) (fun _ => rfl) (Nat.le_of_ble_eq_true rfl) rfl rfl dX11_init_92 ?_
  refine z_aload_n K 3 rfl dX11_init_95 ?_
  refine z_newQ (Q' := [.inr (10, [(1, 1), (1, 3), (1, 24), (1, 12), (1, 33), (1, 42), (1, 45), (5, 0), (5, 0), (0, 0), (0, 0), (0, 0)]), .inr (9, [(1, 2), (0, 0)]), .inl (0, 220), .inr (0, [(1, 4), (1, 5), (1, 6), (1, 7), (1, 8), (1, 9), (1, 10), (1, 11), (0, 0)]), .inl (0, 16), .inl (1, 16), .inl (0, 16), .inl (0, 16), .inl (0, 256), .inl (0, 40), .inl (1, 16), .inl (0, 16), .inr (1, [(1, 3), (1, 13), (1, 14), (1, 15), (2, 0), (0, 0)]), .inl (0, 10), .inl (0, 48000), .inl (0, 640), .inr (3, [(1, 17), (1, 18), (1, 19), (1, 20), (1, 21), (1, 22), (1, 23), (0, 0), (0, 0)]), .inl (0, 14), .inl (0, 14), .inl (0, 14), .inl (0, 14), .inl (0, 200), .inl (0, 200), .inl (0, 40), .inr (4, [(1, 1), (2, 0), (0, 0), (0, 0), (0, 0)]), .inr (3, [(1, 26), (1, 27), (1, 28), (1, 29), (1, 30), (1, 31), (1, 32), (0, 0), (0, 0)]), .inl (0, 14), .inl (0, 14), .inl (0, 14), .inl (0, 14), .inl (0, 200), .inl (0, 200), .inl (0, 40), .inr (5, [(1, 3), (1, 12), (1, 34), (1, 35), (1, 36), (1, 37), (1, 38), (1, 39), (1, 40), (1, 41), (0, 0), (0, 0)]), .inl (0, 10), .inl (0, 10), .inl (0, 10), .inl (0, 10), .inl (0, 10), .inl (0, 10), .inl (0, 16), .inl (0, 16), .inr (8, [(1, 3), (1, 12), (1, 43), (1, 44), (0, 0), (3, 0), (0, 0)]), .inl (0, 7), .inl (0, 7), .inr (6, [(1, 3), (1, 12), (0, 0), (0, 0), (0, 0), (1, 46), (1, 47), (1, 48), (1, 49), (1, 50), (0, 0), (0, 0), (0, 0), (0, 0)]), .inl (0, 7), .inl (0, 7), .inl (0, 49), .inl (0, 7), .inl (0, 7), .inr (2, [(5, 0), (5, 0), (5, 0), (5, 0), (5, 0), (5, 0), (5, 0), (5, 0), (0, 0)])]) (c' := 51) (sl' := 50519) K hR (by omega) hP (q := 51) rfl [] (ci := 2) rfl in_X2 tyX2_ok cl_X11_64 is_X2 it_X2 (zNoL_nil _) rfl (by decide +kernel) rfl rfl rfl (Nat.le_of_ble_eq_true rfl) (Nat.le_of_ble_eq_true rfl) dX11_init_96 ?_
  refine z_ltm (fun s15 => ?_)
  refine z_dup K rfl dX11_init_99 ?_
  refine z_cIQ (As := [.inr (10, [(1, 1), (1, 3), (1, 24), (1, 12), (1, 33), (1, 42), (1, 45), (5, 0), (5, 0), (0, 0), (0, 0), (0, 0)]), .inr (9, [(1, 2), (0, 0)]), .inl (0, 220), .inr (0, [(1, 4), (1, 5), (1, 6), (1, 7), (1, 8), (1, 9), (1, 10), (1, 11), (0, 0)]), .inl (0, 16), .inl (1, 16), .inl (0, 16), .inl (0, 16), .inl (0, 256), .inl (0, 40), .inl (1, 16), .inl (0, 16), .inr (1, [(1, 3), (1, 13), (1, 14), (1, 15), (2, 0), (0, 0)]), .inl (0, 10), .inl (0, 48000), .inl (0, 640), .inr (3, [(1, 17), (1, 18), (1, 19), (1, 20), (1, 21), (1, 22), (1, 23), (0, 0), (0, 0)]), .inl (0, 14), .inl (0, 14), .inl (0, 14), .inl (0, 14), .inl (0, 200), .inl (0, 200), .inl (0, 40), .inr (4, [(1, 1), (2, 0), (0, 0), (0, 0), (0, 0)]), .inr (3, [(1, 26), (1, 27), (1, 28), (1, 29), (1, 30), (1, 31), (1, 32), (0, 0), (0, 0)]), .inl (0, 14), .inl (0, 14), .inl (0, 14), .inl (0, 14), .inl (0, 200), .inl (0, 200), .inl (0, 40), .inr (5, [(1, 3), (1, 12), (1, 34), (1, 35), (1, 36), (1, 37), (1, 38), (1, 39), (1, 40), (1, 41), (0, 0), (0, 0)]), .inl (0, 10), .inl (0, 10), .inl (0, 10), .inl (0, 10), .inl (0, 10), .inl (0, 10), .inl (0, 16), .inl (0, 16), .inr (8, [(1, 3), (1, 12), (1, 43), (1, 44), (0, 0), (3, 0), (0, 0)]), .inl (0, 7), .inl (0, 7), .inr (6, [(1, 3), (1, 12), (0, 0), (0, 0), (0, 0), (1, 46), (1, 47), (1, 48), (1, 49), (1, 50), (0, 0), (0, 0), (0, 0), (0, 0)]), .inl (0, 7), .inl (0, 7), .inl (0, 49), .inl (0, 7), .inl (0, 7)]) (Q' := [.inr (10, [(1, 1), (1, 3), (1, 24), (1, 12), (1, 33), (1, 42), (1, 45), (5, 0), (5, 0), (0, 0), (0, 0), (0, 0)]), .inr (9, [(1, 2), (0, 0)]), .inl (0, 220), .inr (0, [(1, 4), (1, 5), (1, 6), (1, 7), (1, 8), (1, 9), (1, 10), (1, 11), (0, 0)]), .inl (0, 16), .inl (1, 16), .inl (0, 16), .inl (0, 16), .inl (0, 256), .inl (0, 40), .inl (1, 16), .inl (0, 16), .inr (1, [(1, 3), (1, 13), (1, 14), (1, 15), (2, 0), (0, 0)]), .inl (0, 10), .inl (0, 48000), .inl (0, 640), .inr (3, [(1, 17), (1, 18), (1, 19), (1, 20), (1, 21), (1, 22), (1, 23), (0, 0), (0, 0)]), .inl (0, 14), .inl (0, 14), .inl (0, 14), .inl (0, 14), .inl (0, 200), .inl (0, 200), .inl (0, 40), .inr (4, [(1, 1), (2, 0), (0, 0), (0, 0), (0, 0)]), .inr (3, [(1, 26), (1, 27), (1, 28), (1, 29), (1, 30), (1, 31), (1, 32), (0, 0), (0, 0)]), .inl (0, 14), .inl (0, 14), .inl (0, 14), .inl (0, 14), .inl (0, 200), .inl (0, 200), .inl (0, 40), .inr (5, [(1, 3), (1, 12), (1, 34), (1, 35), (1, 36), (1, 37), (1, 38), (1, 39), (1, 40), (1, 41), (0, 0), (0, 0)]), .inl (0, 10), .inl (0, 10), .inl (0, 10), .inl (0, 10), .inl (0, 10), .inl (0, 10), .inl (0, 16), .inl (0, 16), .inr (8, [(1, 3), (1, 12), (1, 43), (1, 44), (0, 0), (3, 0), (0, 0)]), .inl (0, 7), .inl (0, 7), .inr (6, [(1, 3), (1, 12), (0, 0), (0, 0), (0, 0), (1, 46), (1, 47), (1, 48), (1, 49), (1, 50), (0, 0), (0, 0), (0, 0), (0, 0)]), .inl (0, 7), .inl (0, 7), .inl (0, 49), .inl (0, 7), .inl (0, 7), .inr (2, [(1, 52), (1, 53), (1, 54), (1, 55), (1, 56), (1, 57), (1, 58), (1, 59), (0, 0)]), .inl (0, 40), .inl (0, 40), .inl (0, 20), .inl (0, 20), .inl (0, 20), .inl (0, 20), .inl (0, 42), .inl (0, 42)]) (c' := 59) (sl' := 50763) (av := []) (rst := [.ref (a.1.2.2.2 + 51), .ref (a.1.2.2.2 + 0)]) K hR (t_X2_init a.1 (d - 1) (by omega) (by omega) (P := P ++ [.inr (10, [(1, 1), (1, 3), (1, 24), (1, 12), (1, 33), (1, 42), (1, 45), (5, 0), (5, 0), (0, 0), (0, 0), (0, 0)]), .inr (9, [(1, 2), (0, 0)]), .inl (0, 220), .inr (0, [(1, 4), (1, 5), (1, 6), (1, 7), (1, 8), (1, 9), (1, 10), (1, 11), (0, 0)]), .inl (0, 16), .inl (1, 16), .inl (0, 16), .inl (0, 16), .inl (0, 256), .inl (0, 40), .inl (1, 16), .inl (0, 16), .inr (1, [(1, 3), (1, 13), (1, 14), (1, 15), (2, 0), (0, 0)]), .inl (0, 10), .inl (0, 48000), .inl (0, 640), .inr (3, [(1, 17), (1, 18), (1, 19), (1, 20), (1, 21), (1, 22), (1, 23), (0, 0), (0, 0)]), .inl (0, 14), .inl (0, 14), .inl (0, 14), .inl (0, 14), .inl (0, 200), .inl (0, 200), .inl (0, 40), .inr (4, [(1, 1), (2, 0), (0, 0), (0, 0), (0, 0)]), .inr (3, [(1, 26), (1, 27), (1, 28), (1, 29), (1, 30), (1, 31), (1, 32), (0, 0), (0, 0)]), .inl (0, 14), .inl (0, 14), .inl (0, 14), .inl (0, 14), .inl (0, 200), .inl (0, 200), .inl (0, 40), .inr (5, [(1, 3), (1, 12), (1, 34), (1, 35), (1, 36), (1, 37), (1, 38), (1, 39), (1, 40), (1, 41), (0, 0), (0, 0)]), .inl (0, 10), .inl (0, 10), .inl (0, 10), .inl (0, 10), .inl (0, 10), .inl (0, 10), .inl (0, 16), .inl (0, 16), .inr (8, [(1, 3), (1, 12), (1, 43), (1, 44), (0, 0), (3, 0), (0, 0)]), .inl (0, 7), .inl (0, 7), .inr (6, [(1, 3), (1, 12), (0, 0), (0, 0), (0, 0), (1, 46), (1, 47), (1, 48), (1, 49), (1, 50), (0, 0), (0, 0), (0, 0), (0, 0)]), .inl (0, 7), .inl (0, 7), .inl (0, 49), .inl (0, 7), .inl (0, 7)]) (by rw [List.length_append, hP]; rfl) s15) rfl mf_X2_init ml_X11_66 (Nat.le_of_ble_eq_true rfl) (by omega) rfl rfl (Nat.le_of_ble_eq_true rfl) rfl rfl rfl (Nat.le_of_ble_eq_true rfl) (Nat.le_of_ble_eq_true rfl) dX11_init_100 (fun s16 => ?_)
  refine z_putFQ (j := 0) (Q' := [.inr (10, [(1, 1), (1, 3), (1, 24), (1, 12), (1, 33), (1, 42), (1, 45), (1, 51), (5, 0), (0, 0), (0, 0), (0, 0)]), .inr (9, [(1, 2), (0, 0)]), .inl (0, 220), .inr (0, [(1, 4), (1, 5), (1, 6), (1, 7), (1, 8), (1, 9), (1, 10), (1, 11), (0, 0)]), .inl (0, 16), .inl (1, 16), .inl (0, 16), .inl (0, 16), .inl (0, 256), .inl (0, 40), .inl (1, 16), .inl (0, 16), .inr (1, [(1, 3), (1, 13), (1, 14), (1, 15), (2, 0), (0, 0)]), .inl (0, 10), .inl (0, 48000), .inl (0, 640), .inr (3, [(1, 17), (1, 18), (1, 19), (1, 20), (1, 21), (1, 22), (1, 23), (0, 0), (0, 0)]), .inl (0, 14), .inl (0, 14), .inl (0, 14), .inl (0, 14), .inl (0, 200), .inl (0, 200), .inl (0, 40), .inr (4, [(1, 1), (2, 0), (0, 0), (0, 0), (0, 0)]), .inr (3, [(1, 26), (1, 27), (1, 28), (1, 29), (1, 30), (1, 31), (1, 32), (0, 0), (0, 0)]), .inl (0, 14), .inl (0, 14), .inl (0, 14), .inl (0, 14), .inl (0, 200), .inl (0, 200), .inl (0, 40), .inr (5, [(1, 3), (1, 12), (1, 34), (1, 35), (1, 36), (1, 37), (1, 38), (1, 39), (1, 40), (1, 41), (0, 0), (0, 0)]), .inl (0, 10), .inl (0, 10), .inl (0, 10), .inl (0, 10), .inl (0, 10), .inl (0, 10), .inl (0, 16), .inl (0, 16), .inr (8, [(1, 3), (1, 12), (1, 43), (1, 44), (0, 0), (3, 0), (0, 0)]), .inl (0, 7), .inl (0, 7), .inr (6, [(1, 3), (1, 12), (0, 0), (0, 0), (0, 0), (1, 46), (1, 47), (1, 48), (1, 49), (1, 50), (0, 0), (0, 0), (0, 0), (0, 0)]), .inl (0, 7), .inl (0, 7), .inl (0, 49), .inl (0, 7), .inl (0, 7), .inr (2, [(1, 52), (1, 53), (1, 54), (1, 55), (1, 56), (1, 57), (1, 58), (1, 59), (0, 0)]), .inl (0, 40), .inl (0, 40), .inl (0, 20), .inl (0, 20), .inl (0, 20), .inl (0, 20), .inl (0, 42), .inl (0, 42)]) K hin2 hP rfl ff_X11_67 rfl (fun _ => rfl) (fun _ => rfl) (Nat.le_of_ble_eq_true rfl) rfl rfl dX11_init_103 ?_
  refine z_aload_n K 3 rfl dX11_init_106 ?_
  refine z_newQ (Q' := [.inr (10, [(1, 1), (1, 3), (1, 24), (1, 12), (1, 33), (1, 42), (1, 45), (1, 51), (5, 0), (0, 0), (0, 0), (0, 0)]), .inr (9, [(1, 2), (0, 0)]), .inl (0, 220), .inr (0, [(1, 4), (1, 5), (1, 6), (1, 7), (1, 8), (1, 9), (1, 10), (1, 11), (0, 0)]), .inl (0, 16), .inl (1, 16), .inl (0, 16), .inl (0, 16), .inl (0, 256), .inl (0, 40), .inl (1, 16), .inl (0, 16), .inr (1, [(1, 3), (1, 13), (1, 14), (1, 15), (2, 0), (0, 0)]), .inl (0, 10), .inl (0, 48000), .inl (0, 640), .inr (3, [(1, 17), (1, 18), (1, 19), (1, 20), (1, 21), (1, 22), (1, 23), (0, 0), (0, 0)]), .inl (0, 14), .inl (0, 14), .inl (0, 14), .inl (0, 14), .inl (0, 200), .inl (0, 200), .inl (0, 40), .inr (4, [(1, 1), (2, 0), (0, 0), (0, 0), (0, 0)]), .inr (3, [(1, 26), (1, 27), (1, 28), (1, 29), (1, 30), (1, 31), (1, 32), (0, 0), (0, 0)]), .inl (0, 14), .inl (0, 14), .inl (0, 14), .inl (0, 14), .inl (0, 200), .inl (0, 200), .inl (0, 40), .inr (5, [(1, 3), (1, 12), (1, 34), (1, 35), (1, 36), (1, 37), (1, 38), (1, 39), (1, 40), (1, 41), (0, 0), (0, 0)]), .inl (0, 10), .inl (0, 10), .inl (0, 10), .inl (0, 10), .inl (0, 10), .inl (0, 10), .inl (0, 16), .inl (0, 16), .inr (8, [(1, 3), (1, 12), (1, 43), (1, 44), (0, 0), (3, 0), (0, 0)]), .inl (0, 7), .inl (0, 7), .inr (6, [(1, 3), (1, 12), (0, 0), (0, 0), (0, 0), (1, 46), (1, 47), (1, 48), (1, 49), (1, 50), (0, 0), (0, 0), (0, 0), (0, 0)]), .inl (0, 7), .inl (0, 7), .inl (0, 49), .inl (0, 7), .inl (0, 7), .inr (2, [(1, 52), (1, 53), (1, 54), (1, 55), (1, 56), (1, 57), (1, 58), (1, 59), (0, 0)]), .inl (0, 40), .inl (0, 40), .inl (0, 20), .inl (0, 20), .inl (0, 20), .inl (0, 20), .inl (0, 42), .inl (0, 42), .inr (7, [(5, 0), (5, 0), (5, 0), (5, 0), (5, 0), (5, 0), (5, 0), (5, 0)])]) (c' := 60) (sl' := 50771) K hR (by omega) hP (q := 60) rfl [] (ci := 7) rfl in_X7 tyX7_ok cl_X11_71 is_X7 it_X7 (zNoL_nil _) rfl (by decide +kernel) rfl rfl rfl (Nat.le_of_ble_eq_true rfl) (Nat.le_of_ble_eq_true rfl) dX11_init_107 ?_
  refine z_ltm (fun s17 => ?_)
  refine z_dup K rfl dX11_init_110 ?_
  refine z_cIQ (As := [.inr (10, [(1, 1), (1, 3), (1, 24), (1, 12), (1, 33), (1, 42), (1, 45), (1, 51), (5, 0), (0, 0), (0, 0), (0, 0)]), .inr (9, [(1, 2), (0, 0)]), .inl (0, 220), .inr (0, [(1, 4), (1, 5), (1, 6), (1, 7), (1, 8), (1, 9), (1, 10), (1, 11), (0, 0)]), .inl (0, 16), .inl (1, 16), .inl (0, 16), .inl (0, 16), .inl (0, 256), .inl (0, 40), .inl (1, 16), .inl (0, 16), .inr (1, [(1, 3), (1, 13), (1, 14), (1, 15), (2, 0), (0, 0)]), .inl (0, 10), .inl (0, 48000), .inl (0, 640), .inr (3, [(1, 17), (1, 18), (1, 19), (1, 20), (1, 21), (1, 22), (1, 23), (0, 0), (0, 0)]), .inl (0, 14), .inl (0, 14), .inl (0, 14), .inl (0, 14), .inl (0, 200), .inl (0, 200), .inl (0, 40), .inr (4, [(1, 1), (2, 0), (0, 0), (0, 0), (0, 0)]), .inr (3, [(1, 26), (1, 27), (1, 28), (1, 29), (1, 30), (1, 31), (1, 32), (0, 0), (0, 0)]), .inl (0, 14), .inl (0, 14), .inl (0, 14), .inl (0, 14), .inl (0, 200), .inl (0, 200), .inl (0, 40), .inr (5, [(1, 3), (1, 12), (1, 34), (1, 35), (1, 36), (1, 37), (1, 38), (1, 39), (1, 40), (1, 41), (0, 0), (0, 0)]), .inl (0, 10), .inl (0, 10), .inl (0, 10), .inl (0, 10), .inl (0, 10), .inl (0, 10), .inl (0, 16), .inl (0, 16), .inr (8, [(1, 3), (1, 12), (1, 43), (1, 44), (0, 0), (3, 0), (0, 0)]), .inl (0, 7), .inl (0, 7), .inr (6, [(1, 3), (1, 12), (0, 0), (0, 0), (0, 0), (1, 46), (1, 47), (1, 48), (1, 49), (1, 50), (0, 0), (0, 0), (0, 0), (0, 0)]), .inl (0, 7), .inl (0, 7), .inl (0, 49), .inl (0, 7), .inl (0, 7), .inr (2, [(1, 52), (1, 53), (1, 54), (1, 55), (1, 56), (1, 57), (1, 58), (1, 59), (0, 0)]), .inl (0, 40), .inl (0, 40), .inl (0, 20), .inl (0, 20), .inl (0, 20), .inl (0, 20), .inl (0, 42), .inl (0, 42)]) (Q' := [.inr (10, [(1, 1), (1, 3), (1, 24), (1, 12), (1, 33), (1, 42), (1, 45), (1, 51), (5, 0), (0, 0), (0, 0), (0, 0)]), .inr (9, [(1, 2), (0, 0)]), .inl (0, 220), .inr (0, [(1, 4), (1, 5), (1, 6), (1, 7), (1, 8), (1, 9), (1, 10), (1, 11), (0, 0)]), .inl (0, 16), .inl (1, 16), .inl (0, 16), .inl (0, 16), .inl (0, 256), .inl (0, 40), .inl (1, 16), .inl (0, 16), .inr (1, [(1, 3), (1, 13), (1, 14), (1, 15), (2, 0), (0, 0)]), .inl (0, 10), .inl (0, 48000), .inl (0, 640), .inr (3, [(1, 17), (1, 18), (1, 19), (1, 20), (1, 21), (1, 22), (1, 23), (0, 0), (0, 0)]), .inl (0, 14), .inl (0, 14), .inl (0, 14), .inl (0, 14), .inl (0, 200), .inl (0, 200), .inl (0, 40), .inr (4, [(1, 1), (2, 0), (0, 0), (0, 0), (0, 0)]), .inr (3, [(1, 26), (1, 27), (1, 28), (1, 29), (1, 30), (1, 31), (1, 32), (0, 0), (0, 0)]), .inl (0, 14), .inl (0, 14), .inl (0, 14), .inl (0, 14), .inl (0, 200), .inl (0, 200), .inl (0, 40), .inr (5, [(1, 3), (1, 12), (1, 34), (1, 35), (1, 36), (1, 37), (1, 38), (1, 39), (1, 40), (1, 41), (0, 0), (0, 0)]), .inl (0, 10), .inl (0, 10), .inl (0, 10), .inl (0, 10), .inl (0, 10), .inl (0, 10), .inl (0, 16), .inl (0, 16), .inr (8, [(1, 3), (1, 12), (1, 43), (1, 44), (0, 0), (3, 0), (0, 0)]), .inl (0, 7), .inl (0, 7), .inr (6, [(1, 3), (1, 12), (0, 0), (0, 0), (0, 0), (1, 46), (1, 47), (1, 48), (1, 49), (1, 50), (0, 0), (0, 0), (0, 0), (0, 0)]), .inl (0, 7), .inl (0, 7), .inl (0, 49), .inl (0, 7), .inl (0, 7), .inr (2, [(1, 52), (1, 53), (1, 54), (1, 55), (1, 56), (1, 57), (1, 58), (1, 59), (0, 0)]), .inl (0, 40), .inl (0, 40), .inl (0, 20), .inl (0, 20), .inl (0, 20), .inl (0, 20), .inl (0, 42), .inl (0, 42), .inr (7, [(1, 61), (1, 62), (1, 63), (1, 64), (1, 65), (1, 66), (1, 67), (1, 68)]), .inl (0, 16), .inl (0, 16), .inl (0, 16), .inl (0, 256), .inl (0, 16), .inl (0, 16), .inl (0, 16), .inl (0, 256)]) (c' := 68) (sl' := 51379) (av := []) (rst := [.ref (a.1.2.2.2 + 60), .ref (a.1.2.2.2 + 0)]) K hR (t_X7_init a.1 (d - 1) (by omega) (by omega) (P := P ++ [.inr (10, [(1, 1), (1, 3), (1, 24), (1, 12), (1, 33), (1, 42), (1, 45), (1, 51), (5, 0), (0, 0), (0, 0), (0, 0)]), .inr (9, [(1, 2), (0, 0)]), .inl (0, 220), .inr (0, [(1, 4), (1, 5), (1, 6), (1, 7), (1, 8), (1, 9), (1, 10), (1, 11), (0, 0)]), .inl (0, 16), .inl (1, 16), .inl (0, 16), .inl (0, 16), .inl (0, 256), .inl (0, 40), .inl (1, 16), .inl (0, 16), .inr (1, [(1, 3), (1, 13), (1, 14), (1, 15), (2, 0), (0, 0)]), .inl (0, 10), .inl (0, 48000), .inl (0, 640), .inr (3, [(1, 17), (1, 18), (1, 19), (1, 20), (1, 21), (1, 22), (1, 23), (0, 0), (0, 0)]), .inl (0, 14), .inl (0, 14), .inl (0, 14), .inl (0, 14), .inl (0, 200), .inl (0, 200), .inl (0, 40), .inr (4, [(1, 1), (2, 0), (0, 0), (0, 0), (0, 0)]), .inr (3, [(1, 26), (1, 27), (1, 28), (1, 29), (1, 30), (1, 31), (1, 32), (0, 0), (0, 0)]), .inl (0, 14), .inl (0, 14), .inl (0, 14), .inl (0, 14), .inl (0, 200), .inl (0, 200), .inl (0, 40), .inr (5, [(1, 3), (1, 12), (1, 34), (1, 35), (1, 36), (1, 37), (1, 38), (1, 39), (1, 40), (1, 41), (0, 0), (0, 0)]), .inl (0, 10), .inl (0, 10), .inl (0, 10), .inl (0, 10), .inl (0, 10), .inl (0, 10), .inl (0, 16), .inl (0, 16), .inr (8, [(1, 3), (1, 12), (1, 43), (1, 44), (0, 0), (3, 0), (0, 0)]), .inl (0, 7), .inl (0, 7), .inr (6, [(1, 3), (1, 12), (0, 0), (0, 0), (0, 0), (1, 46), (1, 47), (1, 48), (1, 49), (1, 50), (0, 0), (0, 0), (0, 0), (0, 0)]), .inl (0, 7), .inl (0, 7), .inl (0, 49), .inl (0, 7), .inl (0, 7), .inr (2, [(1, 52), (1, 53), (1, 54), (1, 55), (1, 56), (1, 57), (1, 58), (1, 59), (0, 0)]), .inl (0, 40), .inl (0, 40), .inl (0, 20), .inl (0, 20), .inl (0, 20), .inl (0, 20), .inl (0, 42), .inl (0, 42)]) (by rw [List.length_append, hP]; rfl) s17) rfl mf_X7_init ml_X11_73 (Nat.le_of_ble_eq_true rfl) (by omega) rfl rfl (Nat.le_of_ble_eq_true rfl) rfl rfl rfl (Nat.le_of_ble_eq_true rfl) (Nat.le_of_ble_eq_true rfl) dX11_init_111 (fun s18 => ?_)
  refine z_putFQ (j := 0) (Q' := [.inr (10, [(1, 1), (1, 3), (1, 24), (1, 12), (1, 33), (1, 42), (1, 45), (1, 51), (1, 60), (0, 0), (0, 0), (0, 0)]), .inr (9, [(1, 2), (0, 0)]), .inl (0, 220), .inr (0, [(1, 4), (1, 5), (1, 6), (1, 7), (1, 8), (1, 9), (1, 10), (1, 11), (0, 0)]), .inl (0, 16), .inl (1, 16), .inl (0, 16), .inl (0, 16), .inl (0, 256), .inl (0, 40), .inl (1, 16), .inl (0, 16), .inr (1, [(1, 3), (1, 13), (1, 14), (1, 15), (2, 0), (0, 0)]), .inl (0, 10), .inl (0, 48000), .inl (0, 640), .inr (3, [(1, 17), (1, 18), (1, 19), (1, 20), (1, 21), (1, 22), (1, 23), (0, 0), (0, 0)]), .inl (0, 14), .inl (0, 14), .inl (0, 14), .inl (0, 14), .inl (0, 200), .inl (0, 200), .inl (0, 40), .inr (4, [(1, 1), (2, 0), (0, 0), (0, 0), (0, 0)]), .inr (3, [(1, 26), (1, 27), (1, 28), (1, 29), (1, 30), (1, 31), (1, 32), (0, 0), (0, 0)]), .inl (0, 14), .inl (0, 14), .inl (0, 14), .inl (0, 14), .inl (0, 200), .inl (0, 200), .inl (0, 40), .inr (5, [(1, 3), (1, 12), (1, 34), (1, 35), (1, 36), (1, 37), (1, 38), (1, 39), (1, 40), (1, 41), (0, 0), (0, 0)]), .inl (0, 10), .inl (0, 10), .inl (0, 10), .inl (0, 10), .inl (0, 10), .inl (0, 10), .inl (0, 16), .inl (0, 16), .inr (8, [(1, 3), (1, 12), (1, 43), (1, 44), (0, 0), (3, 0), (0, 0)]), .inl (0, 7), .inl (0, 7), .inr (6, [(1, 3), (1, 12), (0, 0), (0, 0), (0, 0), (1, 46), (1, 47), (1, 48), (1, 49), (1, 50), (0, 0), (0, 0), (0, 0), (0, 0)]), .inl (0, 7), .inl (0, 7), .inl (0, 49), .inl (0, 7), .inl (0, 7), .inr (2, [(1, 52), (1, 53), (1, 54), (1, 55), (1, 56), (1, 57), (1, 58), (1, 59), (0, 0)]), .inl (0, 40), .inl (0, 40), .inl (0, 20), .inl (0, 20), .inl (0, 20), .inl (0, 20), .inl (0, 42), .inl (0, 42), .inr (7, [(1, 61), (1, 62), (1, 63), (1, 64), (1, 65), (1, 66), (1, 67), (1, 68)]), .inl (0, 16), .inl (0, 16), .inl (0, 16), .inl (0, 256), .inl (0, 16), .inl (0, 16), .inl (0, 16), .inl (0, 256)]) K hin2 hP rfl ff_X11_74 rfl (fun _ => rfl) (fun _ => rfl) (Nat.le_of_ble_eq_true rfl) rfl rfl dX11_init_114 ?_
  refine z_aload_n K 3 rfl dX11_init_117 ?_
  refine z_iconst K ci_1 dX11_init_118 ?_
  refine z_puti K fw_X11_78 (zob_app (j := 0) hP rfl rfl rfl) dX11_init_119 ?_
  refine z_ltm (fun s19 => ?_)
  refine z_aload_n K 3 rfl dX11_init_122 ?_
  refine z_iconst K ci_1 dX11_init_123 ?_
  refine z_puti K fw_X11_82 (zob_app (j := 0) hP rfl rfl rfl) dX11_init_124 ?_
  refine z_ltm (fun s20 => ?_)
  refine z_aload_n K 3 rfl dX11_init_127 ?_
  refine z_iconst K ci_m1 dX11_init_128 ?_
  refine z_puti K fw_X11_85 (zob_app (j := 0) hP rfl rfl rfl) dX11_init_129 ?_
  refine z_ltm (fun s21 => ?_)
  exact z_vret K dX11_init_132
