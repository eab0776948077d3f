/-! ===== the cells, in the order in which the law makes them; the rules of a method that makes none ===== -/
def zfs_0 : List (Nat × Nat) := [(1, 1), (1, 3), (1, 24), (1, 12), (1, 33), (1, 42), (1, 45), (1, 51), (1, 60), (0, 0), (0, 0), (0, 0)]
def zfs_1 : List (Nat × Nat) := [(1, 2), (0, 0)]
def zfs_3 : List (Nat × Nat) := [(1, 4), (1, 5), (1, 6), (1, 7), (1, 8), (1, 9), (1, 10), (1, 11), (0, 0)]
def zfs_12 : List (Nat × Nat) := [(1, 3), (1, 13), (1, 14), (1, 15), (2, 0), (0, 0)]
def zfs_16 : List (Nat × Nat) := [(1, 17), (1, 18), (1, 19), (1, 20), (1, 21), (1, 22), (1, 23), (0, 0), (0, 0)]
def zfs_25 : List (Nat × Nat) := [(1, 26), (1, 27), (1, 28), (1, 29), (1, 30), (1, 31), (1, 32), (0, 0), (0, 0)]
def zfs_24 : List (Nat × Nat) := [(1, 1), (2, 0), (0, 0), (0, 0), (0, 0)]
def zfs_33 : List (Nat × Nat) := [(1, 3), (1, 12), (1, 34), (1, 35), (1, 36), (1, 37), (1, 38), (1, 39), (1, 40), (1, 41), (0, 0), (0, 0)]
def zfs_42 : List (Nat × Nat) := [(1, 3), (1, 12), (1, 43), (1, 44), (0, 0), (3, 0), (0, 0)]
def zfs_45 : List (Nat × Nat) := [(1, 3), (1, 12), (0, 0), (0, 0), (0, 0), (1, 46), (1, 47), (1, 48), (1, 49), (1, 50), (0, 0), (0, 0), (0, 0), (0, 0)]
def zfs_51 : List (Nat × Nat) := [(1, 52), (1, 53), (1, 54), (1, 55), (1, 56), (1, 57), (1, 58), (1, 59), (0, 0)]
def zfs_60 : List (Nat × Nat) := [(1, 61), (1, 62), (1, 63), (1, 64), (1, 65), (1, 66), (1, 67), (1, 68)]
def zKD : List zK := [.inr (10, zfs_0), .inr (9, zfs_1), .inl (0, 220), .inr (0, zfs_3), .inl (0, 16), .inl (1, 16), .inl (0, 16), .inl (0, 16), .inl (0, 256), .inl (0, 40), .inl (1, 16), .inl (0, 16), .inr (1, zfs_12), .inl (0, 10), .inl (0, 48000), .inl (0, 640), .inr (3, zfs_16), .inl (0, 14), .inl (0, 14), .inl (0, 14), .inl (0, 14), .inl (0, 200), .inl (0, 200), .inl (0, 40), .inr (4, zfs_24), .inr (3, zfs_25), .inl (0, 14), .inl (0, 14), .inl (0, 14), .inl (0, 14), .inl (0, 200), .inl (0, 200), .inl (0, 40), .inr (5, zfs_33), .inl (0, 10), .inl (0, 10), .inl (0, 10), .inl (0, 10), .inl (0, 10), .inl (0, 10), .inl (0, 16), .inl (0, 16), .inr (8, zfs_42), .inl (0, 7), .inl (0, 7), .inr (6, zfs_45), .inl (0, 7), .inl (0, 7), .inl (0, 49), .inl (0, 7), .inl (0, 7), .inr (2, zfs_51), .inl (0, 40), .inl (0, 40), .inl (0, 20), .inl (0, 20), .inl (0, 20), .inl (0, 20), .inl (0, 42), .inl (0, 42), .inr (7, zfs_60), .inl (0, 16), .inl (0, 16), .inl (0, 16), .inl (0, 256), .inl (0, 16), .inl (0, 16), .inl (0, 16), .inl (0, 256)]
abbrev zφN : zF := (zKD, false, 0, 0)
def zRc (KL : List zK) (q : Nat) (C : String) : Prop := ∃ (ci : Nat) (fs : List (Nat × Nat)) (vc : vw_C), KL[q]? = some (.inr (ci, fs)) ∧ vwCl[ci]? = some vc ∧ vc.1 = C
def zLw (i : Nat) : Bool := i == 16 || i == 25
theorem zLw_or {i : Nat} (h : zLw i = true) : i = 16 ∨ i = 25 := by simpa [zLw] using h
theorem zLw_lt {i : Nat} (h : zLw i = true) : i < 2 ^ 31 := by rcases zLw_or h with rfl | rfl <;> decide
/-- how long an array is -/
def zlen (q : Nat) : Nat := match zKD[q]? with
  | some (.inl x) => x.2
  | _ => 0
def zone (KL : List zK) (x q k : Nat) : Bool := KL.zipIdx.all (fun p => match p.1 with | .inl _ => true | .inr y => y.2.zipIdx.all (fun f => !(f.1 == (3, x)) || (p.2 == q && f.2 == k)))
theorem zone_of {KL : List zK} {x q k : Nat} (h : zone KL x q k = true) : ∀ (j : Nat) (cj : Nat) (fs : List (Nat × Nat)) (i : Nat), KL[j]? = some (.inr (cj, fs)) → fs[i]? = some (3, x) → j = q ∧ i = k := by
  intro j cj fs i h1 h2
  have m1 : ((.inr (cj, fs) : zK), j) ∈ KL.zipIdx := List.mem_zipIdx_iff_getElem?.mpr h1
  have g1 := List.all_eq_true.mp h _ m1
  have m2 : (((3, x) : Nat × Nat), i) ∈ fs.zipIdx := List.mem_zipIdx_iff_getElem?.mpr h2
  have g2 := List.all_eq_true.mp g1 _ m2
  simpa using g2
theorem rc_0 : zRc zKD 0 RX11 := ⟨10, zfs_0, _, rfl, rfl, rfl⟩
theorem ob_0_0 : zOb zKD 0 10 0 (1, 1) := ⟨zfs_0, rfl, rfl⟩
theorem ob_0_1 : zOb zKD 0 10 1 (1, 3) := ⟨zfs_0, rfl, rfl⟩
theorem ob_0_2 : zOb zKD 0 10 2 (1, 24) := ⟨zfs_0, rfl, rfl⟩
theorem ob_0_3 : zOb zKD 0 10 3 (1, 12) := ⟨zfs_0, rfl, rfl⟩
theorem ob_0_4 : zOb zKD 0 10 4 (1, 33) := ⟨zfs_0, rfl, rfl⟩
theorem ob_0_5 : zOb zKD 0 10 5 (1, 42) := ⟨zfs_0, rfl, rfl⟩
theorem ob_0_6 : zOb zKD 0 10 6 (1, 45) := ⟨zfs_0, rfl, rfl⟩
theorem ob_0_7 : zOb zKD 0 10 7 (1, 51) := ⟨zfs_0, rfl, rfl⟩
theorem ob_0_8 : zOb zKD 0 10 8 (1, 60) := ⟨zfs_0, rfl, rfl⟩
theorem ob_0_9 : zOb zKD 0 10 9 (0, 0) := ⟨zfs_0, rfl, rfl⟩
theorem ob_0_10 : zOb zKD 0 10 10 (0, 0) := ⟨zfs_0, rfl, rfl⟩
theorem ob_0_11 : zOb zKD 0 10 11 (0, 0) := ⟨zfs_0, rfl, rfl⟩
theorem rc_1 : zRc zKD 1 RX10 := ⟨9, zfs_1, _, rfl, rfl, rfl⟩
theorem ob_1_0 : zOb zKD 1 9 0 (1, 2) := ⟨zfs_1, rfl, rfl⟩
theorem ob_1_1 : zOb zKD 1 9 1 (0, 0) := ⟨zfs_1, rfl, rfl⟩
theorem rc_3 : zRc zKD 3 RX0 := ⟨0, zfs_3, _, rfl, rfl, rfl⟩
theorem ob_3_0 : zOb zKD 3 0 0 (1, 4) := ⟨zfs_3, rfl, rfl⟩
theorem ob_3_1 : zOb zKD 3 0 1 (1, 5) := ⟨zfs_3, rfl, rfl⟩
theorem ob_3_2 : zOb zKD 3 0 2 (1, 6) := ⟨zfs_3, rfl, rfl⟩
theorem ob_3_3 : zOb zKD 3 0 3 (1, 7) := ⟨zfs_3, rfl, rfl⟩
theorem ob_3_4 : zOb zKD 3 0 4 (1, 8) := ⟨zfs_3, rfl, rfl⟩
theorem ob_3_5 : zOb zKD 3 0 5 (1, 9) := ⟨zfs_3, rfl, rfl⟩
theorem ob_3_6 : zOb zKD 3 0 6 (1, 10) := ⟨zfs_3, rfl, rfl⟩
theorem ob_3_7 : zOb zKD 3 0 7 (1, 11) := ⟨zfs_3, rfl, rfl⟩
theorem ob_3_8 : zOb zKD 3 0 8 (0, 0) := ⟨zfs_3, rfl, rfl⟩
theorem rc_12 : zRc zKD 12 RX1 := ⟨1, zfs_12, _, rfl, rfl, rfl⟩
theorem ob_12_0 : zOb zKD 12 1 0 (1, 3) := ⟨zfs_12, rfl, rfl⟩
theorem ob_12_1 : zOb zKD 12 1 1 (1, 13) := ⟨zfs_12, rfl, rfl⟩
theorem ob_12_2 : zOb zKD 12 1 2 (1, 14) := ⟨zfs_12, rfl, rfl⟩
theorem ob_12_3 : zOb zKD 12 1 3 (1, 15) := ⟨zfs_12, rfl, rfl⟩
theorem ob_12_4 : zOb zKD 12 1 4 (2, 0) := ⟨zfs_12, rfl, rfl⟩
theorem ob_12_5 : zOb zKD 12 1 5 (0, 0) := ⟨zfs_12, rfl, rfl⟩
theorem rc_16 : zRc zKD 16 RX3 := ⟨3, zfs_16, _, rfl, rfl, rfl⟩
theorem ob_16_0 : zOb zKD 16 3 0 (1, 17) := ⟨zfs_16, rfl, rfl⟩
theorem ob_16_1 : zOb zKD 16 3 1 (1, 18) := ⟨zfs_16, rfl, rfl⟩
theorem ob_16_2 : zOb zKD 16 3 2 (1, 19) := ⟨zfs_16, rfl, rfl⟩
theorem ob_16_3 : zOb zKD 16 3 3 (1, 20) := ⟨zfs_16, rfl, rfl⟩
theorem ob_16_4 : zOb zKD 16 3 4 (1, 21) := ⟨zfs_16, rfl, rfl⟩
theorem ob_16_5 : zOb zKD 16 3 5 (1, 22) := ⟨zfs_16, rfl, rfl⟩
theorem ob_16_6 : zOb zKD 16 3 6 (1, 23) := ⟨zfs_16, rfl, rfl⟩
theorem ob_16_7 : zOb zKD 16 3 7 (0, 0) := ⟨zfs_16, rfl, rfl⟩
theorem ob_16_8 : zOb zKD 16 3 8 (0, 0) := ⟨zfs_16, rfl, rfl⟩
theorem rc_25 : zRc zKD 25 RX3 := ⟨3, zfs_25, _, rfl, rfl, rfl⟩
theorem ob_25_0 : zOb zKD 25 3 0 (1, 26) := ⟨zfs_25, rfl, rfl⟩
theorem ob_25_1 : zOb zKD 25 3 1 (1, 27) := ⟨zfs_25, rfl, rfl⟩
theorem ob_25_2 : zOb zKD 25 3 2 (1, 28) := ⟨zfs_25, rfl, rfl⟩
theorem ob_25_3 : zOb zKD 25 3 3 (1, 29) := ⟨zfs_25, rfl, rfl⟩
theorem ob_25_4 : zOb zKD 25 3 4 (1, 30) := ⟨zfs_25, rfl, rfl⟩
theorem ob_25_5 : zOb zKD 25 3 5 (1, 31) := ⟨zfs_25, rfl, rfl⟩
theorem ob_25_6 : zOb zKD 25 3 6 (1, 32) := ⟨zfs_25, rfl, rfl⟩
theorem ob_25_7 : zOb zKD 25 3 7 (0, 0) := ⟨zfs_25, rfl, rfl⟩
theorem ob_25_8 : zOb zKD 25 3 8 (0, 0) := ⟨zfs_25, rfl, rfl⟩
theorem rc_24 : zRc zKD 24 RX4 := ⟨4, zfs_24, _, rfl, rfl, rfl⟩
theorem ob_24_0 : zOb zKD 24 4 0 (1, 1) := ⟨zfs_24, rfl, rfl⟩
theorem ob_24_1 : zOb zKD 24 4 1 (2, 0) := ⟨zfs_24, rfl, rfl⟩
theorem ob_24_2 : zOb zKD 24 4 2 (0, 0) := ⟨zfs_24, rfl, rfl⟩
theorem ob_24_3 : zOb zKD 24 4 3 (0, 0) := ⟨zfs_24, rfl, rfl⟩
theorem ob_24_4 : zOb zKD 24 4 4 (0, 0) := ⟨zfs_24, rfl, rfl⟩
theorem rc_33 : zRc zKD 33 RX5 := ⟨5, zfs_33, _, rfl, rfl, rfl⟩
theorem ob_33_0 : zOb zKD 33 5 0 (1, 3) := ⟨zfs_33, rfl, rfl⟩
theorem ob_33_1 : zOb zKD 33 5 1 (1, 12) := ⟨zfs_33, rfl, rfl⟩
theorem ob_33_2 : zOb zKD 33 5 2 (1, 34) := ⟨zfs_33, rfl, rfl⟩
theorem ob_33_3 : zOb zKD 33 5 3 (1, 35) := ⟨zfs_33, rfl, rfl⟩
theorem ob_33_4 : zOb zKD 33 5 4 (1, 36) := ⟨zfs_33, rfl, rfl⟩
theorem ob_33_5 : zOb zKD 33 5 5 (1, 37) := ⟨zfs_33, rfl, rfl⟩
theorem ob_33_6 : zOb zKD 33 5 6 (1, 38) := ⟨zfs_33, rfl, rfl⟩
theorem ob_33_7 : zOb zKD 33 5 7 (1, 39) := ⟨zfs_33, rfl, rfl⟩
theorem ob_33_8 : zOb zKD 33 5 8 (1, 40) := ⟨zfs_33, rfl, rfl⟩
theorem ob_33_9 : zOb zKD 33 5 9 (1, 41) := ⟨zfs_33, rfl, rfl⟩
theorem ob_33_10 : zOb zKD 33 5 10 (0, 0) := ⟨zfs_33, rfl, rfl⟩
theorem ob_33_11 : zOb zKD 33 5 11 (0, 0) := ⟨zfs_33, rfl, rfl⟩
theorem rc_42 : zRc zKD 42 RX9 := ⟨8, zfs_42, _, rfl, rfl, rfl⟩
theorem ob_42_0 : zOb zKD 42 8 0 (1, 3) := ⟨zfs_42, rfl, rfl⟩
theorem ob_42_1 : zOb zKD 42 8 1 (1, 12) := ⟨zfs_42, rfl, rfl⟩
theorem ob_42_2 : zOb zKD 42 8 2 (1, 43) := ⟨zfs_42, rfl, rfl⟩
theorem ob_42_3 : zOb zKD 42 8 3 (1, 44) := ⟨zfs_42, rfl, rfl⟩
theorem ob_42_4 : zOb zKD 42 8 4 (0, 0) := ⟨zfs_42, rfl, rfl⟩
theorem ob_42_5 : zOb zKD 42 8 5 (3, 0) := ⟨zfs_42, rfl, rfl⟩
theorem ob_42_6 : zOb zKD 42 8 6 (0, 0) := ⟨zfs_42, rfl, rfl⟩
theorem rc_45 : zRc zKD 45 RX6 := ⟨6, zfs_45, _, rfl, rfl, rfl⟩
theorem ob_45_0 : zOb zKD 45 6 0 (1, 3) := ⟨zfs_45, rfl, rfl⟩
theorem ob_45_1 : zOb zKD 45 6 1 (1, 12) := ⟨zfs_45, rfl, rfl⟩
theorem ob_45_2 : zOb zKD 45 6 2 (0, 0) := ⟨zfs_45, rfl, rfl⟩
theorem ob_45_3 : zOb zKD 45 6 3 (0, 0) := ⟨zfs_45, rfl, rfl⟩
theorem ob_45_4 : zOb zKD 45 6 4 (0, 0) := ⟨zfs_45, rfl, rfl⟩
theorem ob_45_5 : zOb zKD 45 6 5 (1, 46) := ⟨zfs_45, rfl, rfl⟩
theorem ob_45_6 : zOb zKD 45 6 6 (1, 47) := ⟨zfs_45, rfl, rfl⟩
theorem ob_45_7 : zOb zKD 45 6 7 (1, 48) := ⟨zfs_45, rfl, rfl⟩
theorem ob_45_8 : zOb zKD 45 6 8 (1, 49) := ⟨zfs_45, rfl, rfl⟩
theorem ob_45_9 : zOb zKD 45 6 9 (1, 50) := ⟨zfs_45, rfl, rfl⟩
theorem ob_45_10 : zOb zKD 45 6 10 (0, 0) := ⟨zfs_45, rfl, rfl⟩
theorem ob_45_11 : zOb zKD 45 6 11 (0, 0) := ⟨zfs_45, rfl, rfl⟩
theorem ob_45_12 : zOb zKD 45 6 12 (0, 0) := ⟨zfs_45, rfl, rfl⟩
theorem ob_45_13 : zOb zKD 45 6 13 (0, 0) := ⟨zfs_45, rfl, rfl⟩
theorem rc_51 : zRc zKD 51 RX2 := ⟨2, zfs_51, _, rfl, rfl, rfl⟩
theorem ob_51_0 : zOb zKD 51 2 0 (1, 52) := ⟨zfs_51, rfl, rfl⟩
theorem ob_51_1 : zOb zKD 51 2 1 (1, 53) := ⟨zfs_51, rfl, rfl⟩
theorem ob_51_2 : zOb zKD 51 2 2 (1, 54) := ⟨zfs_51, rfl, rfl⟩
theorem ob_51_3 : zOb zKD 51 2 3 (1, 55) := ⟨zfs_51, rfl, rfl⟩
theorem ob_51_4 : zOb zKD 51 2 4 (1, 56) := ⟨zfs_51, rfl, rfl⟩
theorem ob_51_5 : zOb zKD 51 2 5 (1, 57) := ⟨zfs_51, rfl, rfl⟩
theorem ob_51_6 : zOb zKD 51 2 6 (1, 58) := ⟨zfs_51, rfl, rfl⟩
theorem ob_51_7 : zOb zKD 51 2 7 (1, 59) := ⟨zfs_51, rfl, rfl⟩
theorem ob_51_8 : zOb zKD 51 2 8 (0, 0) := ⟨zfs_51, rfl, rfl⟩
theorem rc_60 : zRc zKD 60 RX7 := ⟨7, zfs_60, _, rfl, rfl, rfl⟩
theorem ob_60_0 : zOb zKD 60 7 0 (1, 61) := ⟨zfs_60, rfl, rfl⟩
theorem ob_60_1 : zOb zKD 60 7 1 (1, 62) := ⟨zfs_60, rfl, rfl⟩
theorem ob_60_2 : zOb zKD 60 7 2 (1, 63) := ⟨zfs_60, rfl, rfl⟩
theorem ob_60_3 : zOb zKD 60 7 3 (1, 64) := ⟨zfs_60, rfl, rfl⟩
theorem ob_60_4 : zOb zKD 60 7 4 (1, 65) := ⟨zfs_60, rfl, rfl⟩
theorem ob_60_5 : zOb zKD 60 7 5 (1, 66) := ⟨zfs_60, rfl, rfl⟩
theorem ob_60_6 : zOb zKD 60 7 6 (1, 67) := ⟨zfs_60, rfl, rfl⟩
theorem ob_60_7 : zOb zKD 60 7 7 (1, 68) := ⟨zfs_60, rfl, rfl⟩
theorem ar_2 : zKD[2]? = some (.inl (0, 220)) := rfl
theorem ar_4 : zKD[4]? = some (.inl (0, 16)) := rfl
theorem ar_5 : zKD[5]? = some (.inl (1, 16)) := rfl
theorem ar_6 : zKD[6]? = some (.inl (0, 16)) := rfl
theorem ar_7 : zKD[7]? = some (.inl (0, 16)) := rfl
theorem ar_8 : zKD[8]? = some (.inl (0, 256)) := rfl
theorem ar_9 : zKD[9]? = some (.inl (0, 40)) := rfl
theorem ar_10 : zKD[10]? = some (.inl (1, 16)) := rfl
theorem ar_11 : zKD[11]? = some (.inl (0, 16)) := rfl
theorem ar_13 : zKD[13]? = some (.inl (0, 10)) := rfl
theorem ar_14 : zKD[14]? = some (.inl (0, 48000)) := rfl
theorem ar_15 : zKD[15]? = some (.inl (0, 640)) := rfl
theorem ar_17 : zKD[17]? = some (.inl (0, 14)) := rfl
theorem ar_18 : zKD[18]? = some (.inl (0, 14)) := rfl
theorem ar_19 : zKD[19]? = some (.inl (0, 14)) := rfl
theorem ar_20 : zKD[20]? = some (.inl (0, 14)) := rfl
theorem ar_21 : zKD[21]? = some (.inl (0, 200)) := rfl
theorem ar_22 : zKD[22]? = some (.inl (0, 200)) := rfl
theorem ar_23 : zKD[23]? = some (.inl (0, 40)) := rfl
theorem ar_26 : zKD[26]? = some (.inl (0, 14)) := rfl
theorem ar_27 : zKD[27]? = some (.inl (0, 14)) := rfl
theorem ar_28 : zKD[28]? = some (.inl (0, 14)) := rfl
theorem ar_29 : zKD[29]? = some (.inl (0, 14)) := rfl
theorem ar_30 : zKD[30]? = some (.inl (0, 200)) := rfl
theorem ar_31 : zKD[31]? = some (.inl (0, 200)) := rfl
theorem ar_32 : zKD[32]? = some (.inl (0, 40)) := rfl
theorem ar_34 : zKD[34]? = some (.inl (0, 10)) := rfl
theorem ar_35 : zKD[35]? = some (.inl (0, 10)) := rfl
theorem ar_36 : zKD[36]? = some (.inl (0, 10)) := rfl
theorem ar_37 : zKD[37]? = some (.inl (0, 10)) := rfl
theorem ar_38 : zKD[38]? = some (.inl (0, 10)) := rfl
theorem ar_39 : zKD[39]? = some (.inl (0, 10)) := rfl
theorem ar_40 : zKD[40]? = some (.inl (0, 16)) := rfl
theorem ar_41 : zKD[41]? = some (.inl (0, 16)) := rfl
theorem ar_43 : zKD[43]? = some (.inl (0, 7)) := rfl
theorem ar_44 : zKD[44]? = some (.inl (0, 7)) := rfl
theorem ar_46 : zKD[46]? = some (.inl (0, 7)) := rfl
theorem ar_47 : zKD[47]? = some (.inl (0, 7)) := rfl
theorem ar_48 : zKD[48]? = some (.inl (0, 49)) := rfl
theorem ar_49 : zKD[49]? = some (.inl (0, 7)) := rfl
theorem ar_50 : zKD[50]? = some (.inl (0, 7)) := rfl
theorem ar_52 : zKD[52]? = some (.inl (0, 40)) := rfl
theorem ar_53 : zKD[53]? = some (.inl (0, 40)) := rfl
theorem ar_54 : zKD[54]? = some (.inl (0, 20)) := rfl
theorem ar_55 : zKD[55]? = some (.inl (0, 20)) := rfl
theorem ar_56 : zKD[56]? = some (.inl (0, 20)) := rfl
theorem ar_57 : zKD[57]? = some (.inl (0, 20)) := rfl
theorem ar_58 : zKD[58]? = some (.inl (0, 42)) := rfl
theorem ar_59 : zKD[59]? = some (.inl (0, 42)) := rfl
theorem ar_61 : zKD[61]? = some (.inl (0, 16)) := rfl
theorem ar_62 : zKD[62]? = some (.inl (0, 16)) := rfl
theorem ar_63 : zKD[63]? = some (.inl (0, 16)) := rfl
theorem ar_64 : zKD[64]? = some (.inl (0, 256)) := rfl
theorem ar_65 : zKD[65]? = some (.inl (0, 16)) := rfl
theorem ar_66 : zKD[66]? = some (.inl (0, 16)) := rfl
theorem ar_67 : zKD[67]? = some (.inl (0, 16)) := rfl
theorem ar_68 : zKD[68]? = some (.inl (0, 256)) := rfl
theorem rcL {i : Nat} (h : zLw i = true) : zRc zKD i RX3 := by rcases zLw_or h with rfl | rfl; exact rc_16; exact rc_25
theorem obL_0 {i : Nat} (h : zLw i = true) : zOb zKD i 3 0 (1, i + 1) := by rcases zLw_or h with rfl | rfl; exact ob_16_0; exact ob_25_0
theorem arL_1 {i : Nat} (h : zLw i = true) : zKD[i + 1]? = some (.inl (0, 14)) := by rcases zLw_or h with rfl | rfl; exact ar_17; exact ar_26
theorem obL_1 {i : Nat} (h : zLw i = true) : zOb zKD i 3 1 (1, i + 2) := by rcases zLw_or h with rfl | rfl; exact ob_16_1; exact ob_25_1
theorem arL_2 {i : Nat} (h : zLw i = true) : zKD[i + 2]? = some (.inl (0, 14)) := by rcases zLw_or h with rfl | rfl; exact ar_18; exact ar_27
theorem obL_2 {i : Nat} (h : zLw i = true) : zOb zKD i 3 2 (1, i + 3) := by rcases zLw_or h with rfl | rfl; exact ob_16_2; exact ob_25_2
theorem arL_3 {i : Nat} (h : zLw i = true) : zKD[i + 3]? = some (.inl (0, 14)) := by rcases zLw_or h with rfl | rfl; exact ar_19; exact ar_28
theorem obL_3 {i : Nat} (h : zLw i = true) : zOb zKD i 3 3 (1, i + 4) := by rcases zLw_or h with rfl | rfl; exact ob_16_3; exact ob_25_3
theorem arL_4 {i : Nat} (h : zLw i = true) : zKD[i + 4]? = some (.inl (0, 14)) := by rcases zLw_or h with rfl | rfl; exact ar_20; exact ar_29
theorem obL_4 {i : Nat} (h : zLw i = true) : zOb zKD i 3 4 (1, i + 5) := by rcases zLw_or h with rfl | rfl; exact ob_16_4; exact ob_25_4
theorem arL_5 {i : Nat} (h : zLw i = true) : zKD[i + 5]? = some (.inl (0, 200)) := by rcases zLw_or h with rfl | rfl; exact ar_21; exact ar_30
theorem obL_5 {i : Nat} (h : zLw i = true) : zOb zKD i 3 5 (1, i + 6) := by rcases zLw_or h with rfl | rfl; exact ob_16_5; exact ob_25_5
theorem arL_6 {i : Nat} (h : zLw i = true) : zKD[i + 6]? = some (.inl (0, 200)) := by rcases zLw_or h with rfl | rfl; exact ar_22; exact ar_31
theorem obL_6 {i : Nat} (h : zLw i = true) : zOb zKD i 3 6 (1, i + 7) := by rcases zLw_or h with rfl | rfl; exact ob_16_6; exact ob_25_6
theorem arL_7 {i : Nat} (h : zLw i = true) : zKD[i + 7]? = some (.inl (0, 40)) := by rcases zLw_or h with rfl | rfl; exact ar_23; exact ar_32
theorem obL_7 {i : Nat} (h : zLw i = true) : zOb zKD i 3 7 (0, 0) := by rcases zLw_or h with rfl | rfl; exact ob_16_7; exact ob_25_7
theorem obL_8 {i : Nat} (h : zLw i = true) : zOb zKD i 3 8 (0, 0) := by rcases zLw_or h with rfl | rfl; exact ob_16_8; exact ob_25_8
theorem on_0 : zone zKD 0 42 5 = true := by decide +kernel
section ZN
variable {ρ : Type} {a : zA} {nL : Nat} {G : ρ → zM → State → Prop} {φ : zF} {pc : Nat} {lv : List (Nat × Value)} {st : List Value} {σ : zM} {o : Option (ρ × zM)} {cc : ByteArray} {own : String} {ret : Option FieldType} {d : Nat} {y : MethodName} {cc' : ByteArray} {maxL' n ix : Nat} {ret' : Option FieldType}
theorem z_cVi {q : Nat} {As rest : List Value} {o' : Option (Int32 × zM)} {f : Int32 → zM → Option (ρ × zM)} (K : zOK a cc nL own ret d) (hM : zMt a.1 y cc' maxL' ret' (d - 1) zφN zφN (zri) (.ref (a.1.2.2.2 + q) :: As) σ o') (hmv : zMv y cc' maxL' ret' n) (hml : Cond.methodLink own ix y ∈ zT) (hmax : maxL' ≤ 81) (hdd : 1 ≤ d) (hn : As.length = n) (hq : zRc zKD q y.cls) (hst : st = As.reverse ++ .ref (a.1.2.2.2 + q) :: rest) (hcat : (rest.map fun v => v.category).sum ≤ 8) (hd : decode cc pc = .ok (.invokevirtual ix, 3)) (kk : ∀ r σ1, zJ a nL G zφN (pc + 3) lv (.int r :: rest) σ1 (f r σ1)) : zJ a nL G zφN pc lv st σ (bnd o' f) := by
  obtain ⟨ci, fs, vc, h1, h2, h3⟩ := hq
  exact z_callV (φ := zφN) (E := zφN) K hM hmv hml hmax (by omega) hn h1 h2 h3 hst hcat ⟨Nat.zero_le _, Nat.zero_le _⟩ hd kk
theorem z_cSi {As rest : List Value} {o' : Option (Int32 × zM)} {f : Int32 → zM → Option (ρ × zM)} (K : zOK a cc nL own ret d) (hM : zMt a.1 y cc' maxL' ret' (d - 1) zφN zφN (zri) As σ o') (hms : zMs y cc' maxL' ret' n) (hml : Cond.methodLink own ix y ∈ zT) (hmax : maxL' ≤ 81) (hdd : 1 ≤ d) (hn : As.length = n) (hst : st = As.reverse ++ rest) (hcat : (rest.map fun v => v.category).sum ≤ 8) (hd : decode cc pc = .ok (.invokestatic ix, 3)) (kk : ∀ r σ1, zJ a nL G zφN (pc + 3) lv (.int r :: rest) σ1 (f r σ1)) : zJ a nL G zφN pc lv st σ (bnd o' f) :=
  z_callS (φ := zφN) (E := zφN) K hM hms hml hmax (by omega) hn hst hcat ⟨Nat.zero_le _, Nat.zero_le _⟩ hd kk
theorem z_cVl {q : Nat} {As rest : List Value} {o' : Option (Int64 × zM)} {f : Int64 → zM → Option (ρ × zM)} (K : zOK a cc nL own ret d) (hM : zMt a.1 y cc' maxL' ret' (d - 1) zφN zφN (zrl) (.ref (a.1.2.2.2 + q) :: As) σ o') (hmv : zMv y cc' maxL' ret' n) (hml : Cond.methodLink own ix y ∈ zT) (hmax : maxL' ≤ 81) (hdd : 1 ≤ d) (hn : As.length = n) (hq : zRc zKD q y.cls) (hst : st = As.reverse ++ .ref (a.1.2.2.2 + q) :: rest) (hcat : (rest.map fun v => v.category).sum ≤ 8) (hd : decode cc pc = .ok (.invokevirtual ix, 3)) (kk : ∀ r σ1, zJ a nL G zφN (pc + 3) lv (.long r :: rest) σ1 (f r σ1)) : zJ a nL G zφN pc lv st σ (bnd o' f) := by
  obtain ⟨ci, fs, vc, h1, h2, h3⟩ := hq
  exact z_callV (φ := zφN) (E := zφN) K hM hmv hml hmax (by omega) hn h1 h2 h3 hst hcat ⟨Nat.zero_le _, Nat.zero_le _⟩ hd kk
theorem z_cSl {As rest : List Value} {o' : Option (Int64 × zM)} {f : Int64 → zM → Option (ρ × zM)} (K : zOK a cc nL own ret d) (hM : zMt a.1 y cc' maxL' ret' (d - 1) zφN zφN (zrl) As σ o') (hms : zMs y cc' maxL' ret' n) (hml : Cond.methodLink own ix y ∈ zT) (hmax : maxL' ≤ 81) (hdd : 1 ≤ d) (hn : As.length = n) (hst : st = As.reverse ++ rest) (hcat : (rest.map fun v => v.category).sum ≤ 8) (hd : decode cc pc = .ok (.invokestatic ix, 3)) (kk : ∀ r σ1, zJ a nL G zφN (pc + 3) lv (.long r :: rest) σ1 (f r σ1)) : zJ a nL G zφN pc lv st σ (bnd o' f) :=
  z_callS (φ := zφN) (E := zφN) K hM hms hml hmax (by omega) hn hst hcat ⟨Nat.zero_le _, Nat.zero_le _⟩ hd kk
theorem z_cVv {q : Nat} {As rest : List Value} {o' : Option (Unit × zM)} {f : Unit → zM → Option (ρ × zM)} (K : zOK a cc nL own ret d) (hM : zMt a.1 y cc' maxL' ret' (d - 1) zφN zφN (zrv) (.ref (a.1.2.2.2 + q) :: As) σ o') (hmv : zMv y cc' maxL' ret' n) (hml : Cond.methodLink own ix y ∈ zT) (hmax : maxL' ≤ 81) (hdd : 1 ≤ d) (hn : As.length = n) (hq : zRc zKD q y.cls) (hst : st = As.reverse ++ .ref (a.1.2.2.2 + q) :: rest) (hcat : (rest.map fun v => v.category).sum ≤ 8) (hd : decode cc pc = .ok (.invokevirtual ix, 3)) (kk : ∀ r σ1, zJ a nL G zφN (pc + 3) lv ( rest) σ1 (f r σ1)) : zJ a nL G zφN pc lv st σ (bnd o' f) := by
  obtain ⟨ci, fs, vc, h1, h2, h3⟩ := hq
  exact z_callV (φ := zφN) (E := zφN) K hM hmv hml hmax (by omega) hn h1 h2 h3 hst hcat ⟨Nat.zero_le _, Nat.zero_le _⟩ hd kk
theorem z_cSv {As rest : List Value} {o' : Option (Unit × zM)} {f : Unit → zM → Option (ρ × zM)} (K : zOK a cc nL own ret d) (hM : zMt a.1 y cc' maxL' ret' (d - 1) zφN zφN (zrv) As σ o') (hms : zMs y cc' maxL' ret' n) (hml : Cond.methodLink own ix y ∈ zT) (hmax : maxL' ≤ 81) (hdd : 1 ≤ d) (hn : As.length = n) (hst : st = As.reverse ++ rest) (hcat : (rest.map fun v => v.category).sum ≤ 8) (hd : decode cc pc = .ok (.invokestatic ix, 3)) (kk : ∀ r σ1, zJ a nL G zφN (pc + 3) lv ( rest) σ1 (f r σ1)) : zJ a nL G zφN pc lv st σ (bnd o' f) :=
  z_callS (φ := zφN) (E := zφN) K hM hms hml hmax (by omega) hn hst hcat ⟨Nat.zero_le _, Nat.zero_le _⟩ hd kk
theorem z_cVr {q : Nat} {As rest : List Value} {o' : Option (Nat × zM)} {f : Nat → zM → Option (ρ × zM)} (K : zOK a cc nL own ret d) (hM : zMt a.1 y cc' maxL' ret' (d - 1) zφN zφN (zrr a.1.2.2.2) (.ref (a.1.2.2.2 + q) :: As) σ o') (hmv : zMv y cc' maxL' ret' n) (hml : Cond.methodLink own ix y ∈ zT) (hmax : maxL' ≤ 81) (hdd : 1 ≤ d) (hn : As.length = n) (hq : zRc zKD q y.cls) (hst : st = As.reverse ++ .ref (a.1.2.2.2 + q) :: rest) (hcat : (rest.map fun v => v.category).sum ≤ 8) (hd : decode cc pc = .ok (.invokevirtual ix, 3)) (kk : ∀ r σ1, zJ a nL G zφN (pc + 3) lv (.ref (a.1.2.2.2 + r) :: rest) σ1 (f r σ1)) : zJ a nL G zφN pc lv st σ (bnd o' f) := by
  obtain ⟨ci, fs, vc, h1, h2, h3⟩ := hq
  exact z_callV (φ := zφN) (E := zφN) K hM hmv hml hmax (by omega) hn h1 h2 h3 hst hcat ⟨Nat.zero_le _, Nat.zero_le _⟩ hd kk
theorem z_cSr {As rest : List Value} {o' : Option (Nat × zM)} {f : Nat → zM → Option (ρ × zM)} (K : zOK a cc nL own ret d) (hM : zMt a.1 y cc' maxL' ret' (d - 1) zφN zφN (zrr a.1.2.2.2) As σ o') (hms : zMs y cc' maxL' ret' n) (hml : Cond.methodLink own ix y ∈ zT) (hmax : maxL' ≤ 81) (hdd : 1 ≤ d) (hn : As.length = n) (hst : st = As.reverse ++ rest) (hcat : (rest.map fun v => v.category).sum ≤ 8) (hd : decode cc pc = .ok (.invokestatic ix, 3)) (kk : ∀ r σ1, zJ a nL G zφN (pc + 3) lv (.ref (a.1.2.2.2 + r) :: rest) σ1 (f r σ1)) : zJ a nL G zφN pc lv st σ (bnd o' f) :=
  z_callS (φ := zφN) (E := zφN) K hM hms hml hmax (by omega) hn hst hcat ⟨Nat.zero_le _, Nat.zero_le _⟩ hd kk
theorem z_topl {x : Int64} {f : Int64 → Option (ρ × zM)} (k : ∀ y, zJ a nL G φ pc lv (.long y :: st) σ (f y)) : zJ a nL G φ pc lv (.long x :: st) σ (lt x f) := k x
theorem z_iincN (K : zOK a cc nL own ret d) {i j : Nat} {n : Int} {x c : Int32} {lv' : List (Nat × Value)} {f : Int32 → Option (ρ × zM)} (hv : Int32.ofInt n = c) (hk : lv[j]? = some (i, .int x)) (hd : decode cc pc = .ok (.iinc i n, 3)) (hn : i < nL) (hl : lv.filter (fun q => !(q.1 == i) && !(q.1 + 1 == i && q.2.category == 2)) = lv') (k : ∀ v, zJ a nL G φ (pc + 3) ((i, .int v) :: lv') st σ (f v)) : zJ a nL G φ pc lv st σ (lt (x + c) f) :=
  z_iinc K hd hk (by rw [hv]) hn (by rw [hl]) (k (x + c))
end ZN
theorem zMtN_of {ρ : Type} {w : zWd} {y : MethodName} {cc : ByteArray} {maxL d : Nat} {ret : Option FieldType} {rv : ρ → Option Value} {av : List Value} {σ : zM} {o : Option (ρ × zM)} {own : String} (hown : y.cls = own) (hy : plainName y.cls = true) (hav : (lg_sl av).length ≤ maxL) (hcode : Cond.code y cc maxL ret ∈ zT) (lv : List (Nat × Value)) (hlv : lv_args 0 av = lv)
    (h : ∀ a : zA, a.1 = w → zOK a cc maxL own ret d → zJ a maxL (zG a zφN rv) zφN 0 lv [] σ o) : zMt w y cc maxL ret d zφN zφN rv av σ o := by
  subst hown
  exact zMt_of hy hav hcode lv hlv (fun a h1 _ _ K => h a h1 K)
theorem ci_m8 : Int32.ofInt (-8) = (-8 : Int32) := by decide
theorem ci_m1 : Int32.ofInt (-1) = (-1 : Int32) := by decide
theorem ci_0 : Int32.ofInt (0) = (0 : Int32) := by decide
theorem ci_1 : Int32.ofInt (1) = (1 : Int32) := by decide
theorem ci_2 : Int32.ofInt (2) = (2 : Int32) := by decide
theorem ci_3 : Int32.ofInt (3) = (3 : Int32) := by decide
theorem ci_4 : Int32.ofInt (4) = (4 : Int32) := by decide
theorem ci_5 : Int32.ofInt (5) = (5 : Int32) := by decide
theorem cb_m99 : (Int8.ofInt (-99)).toInt32 = (-99 : Int32) := by decide
theorem cb_m9 : (Int8.ofInt (-9)).toInt32 = (-9 : Int32) := by decide
theorem cb_m3 : (Int8.ofInt (-3)).toInt32 = (-3 : Int32) := by decide
theorem cb_m2 : (Int8.ofInt (-2)).toInt32 = (-2 : Int32) := by decide
theorem cb_6 : (Int8.ofInt (6)).toInt32 = (6 : Int32) := by decide
theorem cb_7 : (Int8.ofInt (7)).toInt32 = (7 : Int32) := by decide
theorem cb_8 : (Int8.ofInt (8)).toInt32 = (8 : Int32) := by decide
theorem cb_9 : (Int8.ofInt (9)).toInt32 = (9 : Int32) := by decide
theorem cb_10 : (Int8.ofInt (10)).toInt32 = (10 : Int32) := by decide
theorem cb_11 : (Int8.ofInt (11)).toInt32 = (11 : Int32) := by decide
theorem cb_12 : (Int8.ofInt (12)).toInt32 = (12 : Int32) := by decide
theorem cb_13 : (Int8.ofInt (13)).toInt32 = (13 : Int32) := by decide
theorem cb_14 : (Int8.ofInt (14)).toInt32 = (14 : Int32) := by decide
theorem cb_15 : (Int8.ofInt (15)).toInt32 = (15 : Int32) := by decide
theorem cb_16 : (Int8.ofInt (16)).toInt32 = (16 : Int32) := by decide
theorem cb_17 : (Int8.ofInt (17)).toInt32 = (17 : Int32) := by decide
theorem cb_18 : (Int8.ofInt (18)).toInt32 = (18 : Int32) := by decide
theorem cb_19 : (Int8.ofInt (19)).toInt32 = (19 : Int32) := by decide
theorem cb_20 : (Int8.ofInt (20)).toInt32 = (20 : Int32) := by decide
theorem cb_21 : (Int8.ofInt (21)).toInt32 = (21 : Int32) := by decide
theorem cb_22 : (Int8.ofInt (22)).toInt32 = (22 : Int32) := by decide
theorem cb_23 : (Int8.ofInt (23)).toInt32 = (23 : Int32) := by decide
theorem cb_24 : (Int8.ofInt (24)).toInt32 = (24 : Int32) := by decide
theorem cb_25 : (Int8.ofInt (25)).toInt32 = (25 : Int32) := by decide
theorem cb_26 : (Int8.ofInt (26)).toInt32 = (26 : Int32) := by decide
theorem cb_27 : (Int8.ofInt (27)).toInt32 = (27 : Int32) := by decide
theorem cb_28 : (Int8.ofInt (28)).toInt32 = (28 : Int32) := by decide
theorem cb_29 : (Int8.ofInt (29)).toInt32 = (29 : Int32) := by decide
theorem cb_30 : (Int8.ofInt (30)).toInt32 = (30 : Int32) := by decide
theorem cb_31 : (Int8.ofInt (31)).toInt32 = (31 : Int32) := by decide
theorem cb_32 : (Int8.ofInt (32)).toInt32 = (32 : Int32) := by decide
theorem cb_33 : (Int8.ofInt (33)).toInt32 = (33 : Int32) := by decide
theorem cb_34 : (Int8.ofInt (34)).toInt32 = (34 : Int32) := by decide
theorem cb_35 : (Int8.ofInt (35)).toInt32 = (35 : Int32) := by decide
theorem cb_36 : (Int8.ofInt (36)).toInt32 = (36 : Int32) := by decide
theorem cb_37 : (Int8.ofInt (37)).toInt32 = (37 : Int32) := by decide
theorem cb_38 : (Int8.ofInt (38)).toInt32 = (38 : Int32) := by decide
theorem cb_39 : (Int8.ofInt (39)).toInt32 = (39 : Int32) := by decide
theorem cb_40 : (Int8.ofInt (40)).toInt32 = (40 : Int32) := by decide
theorem cb_41 : (Int8.ofInt (41)).toInt32 = (41 : Int32) := by decide
theorem cb_42 : (Int8.ofInt (42)).toInt32 = (42 : Int32) := by decide
theorem cb_43 : (Int8.ofInt (43)).toInt32 = (43 : Int32) := by decide
theorem cb_44 : (Int8.ofInt (44)).toInt32 = (44 : Int32) := by decide
theorem cb_45 : (Int8.ofInt (45)).toInt32 = (45 : Int32) := by decide
theorem cb_46 : (Int8.ofInt (46)).toInt32 = (46 : Int32) := by decide
theorem cb_47 : (Int8.ofInt (47)).toInt32 = (47 : Int32) := by decide
theorem cb_48 : (Int8.ofInt (48)).toInt32 = (48 : Int32) := by decide
theorem cb_49 : (Int8.ofInt (49)).toInt32 = (49 : Int32) := by decide
theorem cb_50 : (Int8.ofInt (50)).toInt32 = (50 : Int32) := by decide
theorem cb_51 : (Int8.ofInt (51)).toInt32 = (51 : Int32) := by decide
theorem cb_52 : (Int8.ofInt (52)).toInt32 = (52 : Int32) := by decide
theorem cb_53 : (Int8.ofInt (53)).toInt32 = (53 : Int32) := by decide
theorem cb_54 : (Int8.ofInt (54)).toInt32 = (54 : Int32) := by decide
theorem cb_55 : (Int8.ofInt (55)).toInt32 = (55 : Int32) := by decide
theorem cb_56 : (Int8.ofInt (56)).toInt32 = (56 : Int32) := by decide
theorem cb_57 : (Int8.ofInt (57)).toInt32 = (57 : Int32) := by decide
theorem cb_58 : (Int8.ofInt (58)).toInt32 = (58 : Int32) := by decide
theorem cb_59 : (Int8.ofInt (59)).toInt32 = (59 : Int32) := by decide
theorem cb_60 : (Int8.ofInt (60)).toInt32 = (60 : Int32) := by decide
theorem cb_61 : (Int8.ofInt (61)).toInt32 = (61 : Int32) := by decide
theorem cb_62 : (Int8.ofInt (62)).toInt32 = (62 : Int32) := by decide
theorem cb_63 : (Int8.ofInt (63)).toInt32 = (63 : Int32) := by decide
theorem cb_64 : (Int8.ofInt (64)).toInt32 = (64 : Int32) := by decide
theorem cb_91 : (Int8.ofInt (91)).toInt32 = (91 : Int32) := by decide
theorem cb_93 : (Int8.ofInt (93)).toInt32 = (93 : Int32) := by decide
theorem cb_99 : (Int8.ofInt (99)).toInt32 = (99 : Int32) := by decide
theorem cb_104 : (Int8.ofInt (104)).toInt32 = (104 : Int32) := by decide
theorem cb_112 : (Int8.ofInt (112)).toInt32 = (112 : Int32) := by decide
theorem cb_118 : (Int8.ofInt (118)).toInt32 = (118 : Int32) := by decide
theorem cb_119 : (Int8.ofInt (119)).toInt32 = (119 : Int32) := by decide
theorem cb_124 : (Int8.ofInt (124)).toInt32 = (124 : Int32) := by decide
theorem cs_m1000 : (Int16.ofInt (-1000)).toInt32 = (-1000 : Int32) := by decide
theorem cs_200 : (Int16.ofInt (200)).toInt32 = (200 : Int32) := by decide
theorem cs_201 : (Int16.ofInt (201)).toInt32 = (201 : Int32) := by decide
theorem cs_220 : (Int16.ofInt (220)).toInt32 = (220 : Int32) := by decide
theorem cs_255 : (Int16.ofInt (255)).toInt32 = (255 : Int32) := by decide
theorem cs_256 : (Int16.ofInt (256)).toInt32 = (256 : Int32) := by decide
theorem cs_640 : (Int16.ofInt (640)).toInt32 = (640 : Int32) := by decide
theorem cs_999 : (Int16.ofInt (999)).toInt32 = (999 : Int32) := by decide
theorem cs_1000 : (Int16.ofInt (1000)).toInt32 = (1000 : Int32) := by decide
theorem cs_9999 : (Int16.ofInt (9999)).toInt32 = (9999 : Int32) := by decide
theorem cs_13849 : (Int16.ofInt (13849)).toInt32 = (13849 : Int32) := by decide
theorem cs_25173 : (Int16.ofInt (25173)).toInt32 = (25173 : Int32) := by decide
theorem ck_0 : Int64.ofNat ((0 : Fin 2) : Nat) = (0 : Int64) := by decide
theorem ck_1 : Int64.ofNat ((1 : Fin 2) : Nat) = (1 : Int64) := by decide
