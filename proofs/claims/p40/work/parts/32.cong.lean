/-! ===== what isn't touched stays so ===== -/
def dis (m P : zMk) : Bool := P.1.all (fun k => !m.1.contains k && m.2.all (fun f => !(f.1 == k))) && P.2.all (fun f => !inm m f.1 f.2)
theorem dis_row {m P : zMk} {k : Nat} (h : dis m P = true) (hk : k ∈ P.1) (j : Nat) : inm m k j = false := by
  simp only [dis, Bool.and_eq_true, List.all_eq_true] at h
  have h1 := h.1 k hk
  simp only [Bool.not_eq_true', List.all_eq_true] at h1
  simp only [inm, h1.1, Bool.false_or]
  cases hc : m.2.contains (k, j) with
  | false => rfl
  | true =>
    rw [List.contains_iff_mem] at hc
    have := h1.2 (k, j) hc
    simp at this
theorem dis_fld {m P : zMk} {k j : Nat} (h : dis m P = true) (hk : (k, j) ∈ P.2) : inm m k j = false := by
  simp only [dis, Bool.and_eq_true, List.all_eq_true] at h
  have h1 := h.2 (k, j) hk
  simpa using h1
theorem IG.fx {m : zMk} {n : Nat} {α α' : zM} (h : IG n α) (hf : Fx m α α') (hd : dis m ([4, 5, 6, 9], [(3, 8)]) = true) : IG n α' := by
  have r4 : ∀ j, zg α' 4 j = zg α 4 j := fun j => hf 4 j (dis_row hd (by simp) j)
  have r5 : ∀ j, zg α' 5 j = zg α 5 j := fun j => hf 5 j (dis_row hd (by simp) j)
  have r6 : ∀ j, zg α' 6 j = zg α 6 j := fun j => hf 6 j (dis_row hd (by simp) j)
  have r9 : ∀ j, zg α' 9 j = zg α 9 j := fun j => hf 9 j (dis_row hd (by simp) j)
  have f3_8 : zg α' 3 8 = zg α 3 8 := hf 3 8 (dis_fld hd (by simp))
  unfold IG at h ⊢
  simpa only [r4, r5, r6, r9, f3_8] using h
theorem BG.al {m : zMk} {n : Nat} {α α' σ : zM} (h : BG n α σ) (hf : Fx m α α') (hd : dis m ([4, 5, 6], []) = true) : BG n α' σ := by
  have r4 : ∀ j, zg α' 4 j = zg α 4 j := fun j => hf 4 j (dis_row hd (by simp) j)
  have r5 : ∀ j, zg α' 5 j = zg α 5 j := fun j => hf 5 j (dis_row hd (by simp) j)
  have r6 : ∀ j, zg α' 6 j = zg α 6 j := fun j => hf 6 j (dis_row hd (by simp) j)
  unfold BG at h ⊢
  simpa only [r4, r5, r6] using h
theorem BG.si {m : zMk} {n : Nat} {α σ σ' : zM} (h : BG n α σ) (hf : Fx m σ σ') (hd : dis m ([70, 71], [(69, 0)]) = true) : BG n α σ' := by
  have r70 : ∀ j, zg σ' 70 j = zg σ 70 j := fun j => hf 70 j (dis_row hd (by simp) j)
  have r71 : ∀ j, zg σ' 71 j = zg σ 71 j := fun j => hf 71 j (dis_row hd (by simp) j)
  have f69_0 : zg σ' 69 0 = zg σ 69 0 := hf 69 0 (dis_fld hd (by simp))
  unfold BG at h ⊢
  simpa only [r70, r71, f69_0] using h
theorem IH.fx {m : zMk} {n : Nat} {α α' : zM} (h : IH n α) (hf : Fx m α α') (hd : dis m ([7], []) = true) : IH n α' := by
  have r7 : ∀ j, zg α' 7 j = zg α 7 j := fun j => hf 7 j (dis_row hd (by simp) j)
  unfold IH at h ⊢
  simpa only [r7] using h
theorem BH.al {m : zMk} {α α' σ : zM} (h : BH α σ) (hf : Fx m α α') (hd : dis m ([7], []) = true) : BH α' σ := by
  have r7 : ∀ j, zg α' 7 j = zg α 7 j := fun j => hf 7 j (dis_row hd (by simp) j)
  unfold BH at h ⊢
  simpa only [r7] using h
theorem BH.si {m : zMk} {α σ σ' : zM} (h : BH α σ) (hf : Fx m σ σ') (hd : dis m ([73], []) = true) : BH α σ' := by
  have r73 : ∀ j, zg σ' 73 j = zg σ 73 j := fun j => hf 73 j (dis_row hd (by simp) j)
  unfold BH at h ⊢
  simpa only [r73] using h
theorem BL.al {m : zMk} {α α' σ : zM} (h : BL α σ) (hf : Fx m α α') (hd : dis m ([8], []) = true) : BL α' σ := by
  have r8 : ∀ j, zg α' 8 j = zg α 8 j := fun j => hf 8 j (dis_row hd (by simp) j)
  unfold BL at h ⊢
  simpa only [r8] using h
theorem BL.si {m : zMk} {α σ σ' : zM} (h : BL α σ) (hf : Fx m σ σ') (hd : dis m ([72], []) = true) : BL α σ' := by
  have r72 : ∀ j, zg σ' 72 j = zg σ 72 j := fun j => hf 72 j (dis_row hd (by simp) j)
  unfold BL at h ⊢
  simpa only [r72] using h
theorem IT.fx {m : zMk} {n : Nat} {α α' : zM} (h : IT n α) (hf : Fx m α α') (hd : dis m ([2], [(1, 1)]) = true) : IT n α' := by
  have r2 : ∀ j, zg α' 2 j = zg α 2 j := fun j => hf 2 j (dis_row hd (by simp) j)
  have f1_1 : zg α' 1 1 = zg α 1 1 := hf 1 1 (dis_fld hd (by simp))
  unfold IT at h ⊢
  simpa only [r2, f1_1] using h
theorem BT.al {m : zMk} {n : Nat} {α α' σ : zM} (h : BT n α σ) (hf : Fx m α α') (hd : dis m ([2], []) = true) : BT n α' σ := by
  have r2 : ∀ j, zg α' 2 j = zg α 2 j := fun j => hf 2 j (dis_row hd (by simp) j)
  unfold BT at h ⊢
  simpa only [r2] using h
theorem BT.si {m : zMk} {n : Nat} {α σ σ' : zM} (h : BT n α σ) (hf : Fx m σ σ') (hd : dis m ([74], [(69, 7)]) = true) : BT n α σ' := by
  have r74 : ∀ j, zg σ' 74 j = zg σ 74 j := fun j => hf 74 j (dis_row hd (by simp) j)
  have f69_7 : zg σ' 69 7 = zg σ 69 7 := hf 69 7 (dis_fld hd (by simp))
  unfold BT at h ⊢
  simpa only [r74, f69_7] using h
theorem IN.fx {m : zMk} {n : Nat} {p : Nat} {α α' : zM} (h : IN n p α) (hf : Fx m α α') (hd : dis m ([34, 35, 36, 37, 38, 39], [(33, 10), (33, 11)]) = true) : IN n p α' := by
  have r34 : ∀ j, zg α' 34 j = zg α 34 j := fun j => hf 34 j (dis_row hd (by simp) j)
  have r35 : ∀ j, zg α' 35 j = zg α 35 j := fun j => hf 35 j (dis_row hd (by simp) j)
  have r36 : ∀ j, zg α' 36 j = zg α 36 j := fun j => hf 36 j (dis_row hd (by simp) j)
  have r37 : ∀ j, zg α' 37 j = zg α 37 j := fun j => hf 37 j (dis_row hd (by simp) j)
  have r38 : ∀ j, zg α' 38 j = zg α 38 j := fun j => hf 38 j (dis_row hd (by simp) j)
  have r39 : ∀ j, zg α' 39 j = zg α 39 j := fun j => hf 39 j (dis_row hd (by simp) j)
  have f33_10 : zg α' 33 10 = zg α 33 10 := hf 33 10 (dis_fld hd (by simp))
  have f33_11 : zg α' 33 11 = zg α 33 11 := hf 33 11 (dis_fld hd (by simp))
  unfold IN at h ⊢
  simpa only [r34, r35, r36, r37, r38, r39, f33_10, f33_11] using h
theorem BN.al {m : zMk} {n : Nat} {p : Nat} {α α' σ : zM} (h : BN n p α σ) (hf : Fx m α α') (hd : dis m ([34, 35, 36, 37, 38, 39], []) = true) : BN n p α' σ := by
  have r34 : ∀ j, zg α' 34 j = zg α 34 j := fun j => hf 34 j (dis_row hd (by simp) j)
  have r35 : ∀ j, zg α' 35 j = zg α 35 j := fun j => hf 35 j (dis_row hd (by simp) j)
  have r36 : ∀ j, zg α' 36 j = zg α 36 j := fun j => hf 36 j (dis_row hd (by simp) j)
  have r37 : ∀ j, zg α' 37 j = zg α 37 j := fun j => hf 37 j (dis_row hd (by simp) j)
  have r38 : ∀ j, zg α' 38 j = zg α 38 j := fun j => hf 38 j (dis_row hd (by simp) j)
  have r39 : ∀ j, zg α' 39 j = zg α 39 j := fun j => hf 39 j (dis_row hd (by simp) j)
  unfold BN at h ⊢
  simpa only [r34, r35, r36, r37, r38, r39] using h
theorem BN.si {m : zMk} {n : Nat} {p : Nat} {α σ σ' : zM} (h : BN n p α σ) (hf : Fx m σ σ') (hd : dis m ([88, 89, 90, 91, 92, 93], [(69, 30), (69, 31)]) = true) : BN n p α σ' := by
  have r88 : ∀ j, zg σ' 88 j = zg σ 88 j := fun j => hf 88 j (dis_row hd (by simp) j)
  have r89 : ∀ j, zg σ' 89 j = zg σ 89 j := fun j => hf 89 j (dis_row hd (by simp) j)
  have r90 : ∀ j, zg σ' 90 j = zg σ 90 j := fun j => hf 90 j (dis_row hd (by simp) j)
  have r91 : ∀ j, zg σ' 91 j = zg σ 91 j := fun j => hf 91 j (dis_row hd (by simp) j)
  have r92 : ∀ j, zg σ' 92 j = zg σ 92 j := fun j => hf 92 j (dis_row hd (by simp) j)
  have r93 : ∀ j, zg σ' 93 j = zg σ 93 j := fun j => hf 93 j (dis_row hd (by simp) j)
  have f69_30 : zg σ' 69 30 = zg σ 69 30 := hf 69 30 (dis_fld hd (by simp))
  have f69_31 : zg σ' 69 31 = zg σ 69 31 := hf 69 31 (dis_fld hd (by simp))
  unfold BN at h ⊢
  simpa only [r88, r89, r90, r91, r92, r93, f69_30, f69_31] using h
theorem IK.fx {m : zMk} {n : Nat} {α α' : zM} (h : IK n α) (hf : Fx m α α') (hd : dis m ([52, 54, 55, 56, 57], [(51, 8)]) = true) : IK n α' := by
  have r52 : ∀ j, zg α' 52 j = zg α 52 j := fun j => hf 52 j (dis_row hd (by simp) j)
  have r54 : ∀ j, zg α' 54 j = zg α 54 j := fun j => hf 54 j (dis_row hd (by simp) j)
  have r55 : ∀ j, zg α' 55 j = zg α 55 j := fun j => hf 55 j (dis_row hd (by simp) j)
  have r56 : ∀ j, zg α' 56 j = zg α 56 j := fun j => hf 56 j (dis_row hd (by simp) j)
  have r57 : ∀ j, zg α' 57 j = zg α 57 j := fun j => hf 57 j (dis_row hd (by simp) j)
  have f51_8 : zg α' 51 8 = zg α 51 8 := hf 51 8 (dis_fld hd (by simp))
  unfold IK at h ⊢
  simpa only [r52, r54, r55, r56, r57, f51_8] using h
theorem BK.al {m : zMk} {n : Nat} {α α' σ : zM} (h : BK n α σ) (hf : Fx m α α') (hd : dis m ([52, 54, 55, 56, 57], []) = true) : BK n α' σ := by
  have r52 : ∀ j, zg α' 52 j = zg α 52 j := fun j => hf 52 j (dis_row hd (by simp) j)
  have r54 : ∀ j, zg α' 54 j = zg α 54 j := fun j => hf 54 j (dis_row hd (by simp) j)
  have r55 : ∀ j, zg α' 55 j = zg α 55 j := fun j => hf 55 j (dis_row hd (by simp) j)
  have r56 : ∀ j, zg α' 56 j = zg α 56 j := fun j => hf 56 j (dis_row hd (by simp) j)
  have r57 : ∀ j, zg α' 57 j = zg α 57 j := fun j => hf 57 j (dis_row hd (by simp) j)
  unfold BK at h ⊢
  simpa only [r52, r54, r55, r56, r57] using h
theorem BK.si {m : zMk} {n : Nat} {α σ σ' : zM} (h : BK n α σ) (hf : Fx m σ σ') (hd : dis m ([100, 101, 102, 103, 104], [(69, 50)]) = true) : BK n α σ' := by
  have r100 : ∀ j, zg σ' 100 j = zg σ 100 j := fun j => hf 100 j (dis_row hd (by simp) j)
  have r101 : ∀ j, zg σ' 101 j = zg σ 101 j := fun j => hf 101 j (dis_row hd (by simp) j)
  have r102 : ∀ j, zg σ' 102 j = zg σ 102 j := fun j => hf 102 j (dis_row hd (by simp) j)
  have r103 : ∀ j, zg σ' 103 j = zg σ 103 j := fun j => hf 103 j (dis_row hd (by simp) j)
  have r104 : ∀ j, zg σ' 104 j = zg σ 104 j := fun j => hf 104 j (dis_row hd (by simp) j)
  have f69_50 : zg σ' 69 50 = zg σ 69 50 := hf 69 50 (dis_fld hd (by simp))
  unfold BK at h ⊢
  simpa only [r100, r101, r102, r103, r104, f69_50] using h
theorem BP.al {m : zMk} {α α' σ : zM} (h : BP α σ) (hf : Fx m α α') (hd : dis m ([61, 62, 63, 64], []) = true) : BP α' σ := by
  have r61 : ∀ j, zg α' 61 j = zg α 61 j := fun j => hf 61 j (dis_row hd (by simp) j)
  have r62 : ∀ j, zg α' 62 j = zg α 62 j := fun j => hf 62 j (dis_row hd (by simp) j)
  have r63 : ∀ j, zg α' 63 j = zg α 63 j := fun j => hf 63 j (dis_row hd (by simp) j)
  have r64 : ∀ j, zg α' 64 j = zg α 64 j := fun j => hf 64 j (dis_row hd (by simp) j)
  unfold BP at h ⊢
  simpa only [r61, r62, r63, r64] using h
theorem BP.si {m : zMk} {α σ σ' : zM} (h : BP α σ) (hf : Fx m σ σ') (hd : dis m ([107, 108, 109, 110, 111, 112], []) = true) : BP α σ' := by
  have r107 : ∀ j, zg σ' 107 j = zg σ 107 j := fun j => hf 107 j (dis_row hd (by simp) j)
  have r108 : ∀ j, zg σ' 108 j = zg σ 108 j := fun j => hf 108 j (dis_row hd (by simp) j)
  have r109 : ∀ j, zg σ' 109 j = zg σ 109 j := fun j => hf 109 j (dis_row hd (by simp) j)
  have r110 : ∀ j, zg σ' 110 j = zg σ 110 j := fun j => hf 110 j (dis_row hd (by simp) j)
  have r111 : ∀ j, zg σ' 111 j = zg σ 111 j := fun j => hf 111 j (dis_row hd (by simp) j)
  have r112 : ∀ j, zg σ' 112 j = zg σ 112 j := fun j => hf 112 j (dis_row hd (by simp) j)
  unfold BP at h ⊢
  simpa only [r107, r108, r109, r110, r111, r112] using h
theorem ID.fx {m : zMk} {n : Nat} {α α' : zM} (h : ID n α) (hf : Fx m α α') (hd : dis m ([], [(0, 9)]) = true) : ID n α' := by
  have f0_9 : zg α' 0 9 = zg α 0 9 := hf 0 9 (dis_fld hd (by simp))
  unfold ID at h ⊢
  simpa only [f0_9] using h
theorem BD.al {m : zMk} {n : Nat} {α α' σ : zM} (h : BD n α σ) (hf : Fx m α α') (hd : dis m ([], []) = true) : BD n α' σ := h
theorem BD.si {m : zMk} {n : Nat} {α σ σ' : zM} (h : BD n α σ) (hf : Fx m σ σ') (hd : dis m ([], [(69, 1)]) = true) : BD n α σ' := by
  have f69_1 : zg σ' 69 1 = zg σ 69 1 := hf 69 1 (dis_fld hd (by simp))
  unfold BD at h ⊢
  simpa only [f69_1] using h
theorem IX.fx {m : zMk} {k : Option Nat} {α α' : zM} (h : IX k α) (hf : Fx m α α') (hd : dis m ([10, 11, 53], [(0, 11), (0, 10)]) = true) : IX k α' := by
  have r10 : ∀ j, zg α' 10 j = zg α 10 j := fun j => hf 10 j (dis_row hd (by simp) j)
  have r11 : ∀ j, zg α' 11 j = zg α 11 j := fun j => hf 11 j (dis_row hd (by simp) j)
  have r53 : ∀ j, zg α' 53 j = zg α 53 j := fun j => hf 53 j (dis_row hd (by simp) j)
  have f0_11 : zg α' 0 11 = zg α 0 11 := hf 0 11 (dis_fld hd (by simp))
  have f0_10 : zg α' 0 10 = zg α 0 10 := hf 0 10 (dis_fld hd (by simp))
  cases k with
  | none => simp only [IX] at h ⊢; simpa only [r10, r11, r53, f0_11, f0_10] using h
  | some n => simp only [IX] at h ⊢; simpa only [r10, r11, r53, f0_11, f0_10] using h
theorem BX.al {m : zMk} {k : Option Nat} {α α' σ : zM} (h : BX k α σ) (hf : Fx m α α') (hd : dis m ([10, 11, 53, 65, 66, 67, 68], [(0, 10)]) = true) : BX k α' σ := by
  have r10 : ∀ j, zg α' 10 j = zg α 10 j := fun j => hf 10 j (dis_row hd (by simp) j)
  have r11 : ∀ j, zg α' 11 j = zg α 11 j := fun j => hf 11 j (dis_row hd (by simp) j)
  have r53 : ∀ j, zg α' 53 j = zg α 53 j := fun j => hf 53 j (dis_row hd (by simp) j)
  have r65 : ∀ j, zg α' 65 j = zg α 65 j := fun j => hf 65 j (dis_row hd (by simp) j)
  have r66 : ∀ j, zg α' 66 j = zg α 66 j := fun j => hf 66 j (dis_row hd (by simp) j)
  have r67 : ∀ j, zg α' 67 j = zg α 67 j := fun j => hf 67 j (dis_row hd (by simp) j)
  have r68 : ∀ j, zg α' 68 j = zg α 68 j := fun j => hf 68 j (dis_row hd (by simp) j)
  have f0_10 : zg α' 0 10 = zg α 0 10 := hf 0 10 (dis_fld hd (by simp))
  cases k with
  | none => simp only [BX] at h ⊢; simpa only [r10, r11, r53, r65, r66, r67, r68, f0_10] using h
  | some n => simp only [BX] at h ⊢; simpa only [r10, r11, r53, r65, r66, r67, r68, f0_10] using h
theorem BX.si {m : zMk} {k : Option Nat} {α σ σ' : zM} (h : BX k α σ) (hf : Fx m σ σ') (hd : dis m ([113, 114, 115, 116, 117, 118, 119, 120], [(69, 64), (69, 65), (69, 66)]) = true) : BX k α σ' := by
  have r113 : ∀ j, zg σ' 113 j = zg σ 113 j := fun j => hf 113 j (dis_row hd (by simp) j)
  have r114 : ∀ j, zg σ' 114 j = zg σ 114 j := fun j => hf 114 j (dis_row hd (by simp) j)
  have r115 : ∀ j, zg σ' 115 j = zg σ 115 j := fun j => hf 115 j (dis_row hd (by simp) j)
  have r116 : ∀ j, zg σ' 116 j = zg σ 116 j := fun j => hf 116 j (dis_row hd (by simp) j)
  have r117 : ∀ j, zg σ' 117 j = zg σ 117 j := fun j => hf 117 j (dis_row hd (by simp) j)
  have r118 : ∀ j, zg σ' 118 j = zg σ 118 j := fun j => hf 118 j (dis_row hd (by simp) j)
  have r119 : ∀ j, zg σ' 119 j = zg σ 119 j := fun j => hf 119 j (dis_row hd (by simp) j)
  have r120 : ∀ j, zg σ' 120 j = zg σ 120 j := fun j => hf 120 j (dis_row hd (by simp) j)
  have f69_64 : zg σ' 69 64 = zg σ 69 64 := hf 69 64 (dis_fld hd (by simp))
  have f69_65 : zg σ' 69 65 = zg σ 69 65 := hf 69 65 (dis_fld hd (by simp))
  have f69_66 : zg σ' 69 66 = zg σ 69 66 := hf 69 66 (dis_fld hd (by simp))
  cases k with
  | none => simp only [BX] at h ⊢; simpa only [r113, r114, r115, r116, r117, r118, r119, r120, f69_64, f69_65, f69_66] using h
  | some n => simp only [BX] at h ⊢; simpa only [r113, r114, r115, r116, r117, r118, r119, r120, f69_64, f69_65, f69_66] using h
