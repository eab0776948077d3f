/-! ===== seating, by the model: the run ===== -/
def kEnd (F : Nat) (v3 : Int32) (y28 : Int32) (s29 : zM) : Option (Int32 × zM) := bnd (f_X12_in v3 (0 : Int32) (15 : Int32) s29) (fun r31 s30 =>
  if r31 = 0 then
    f_X12_seating_L241 F (fun s34 => some (y28, s34)) v3 y28 F (0 : Int32) s30
  else
    if zin v3 16 = true then
      lt ((zg s30 71 (v3).toNatClampNeg)) (fun y35 =>
      f_X12_seating_L241 F (fun s36 => some (y35, s36)) v3 y35 F (0 : Int32) s30)
    else none)
def k158 (F : Nat) (W N v3 : Int32) (y20 : Int32) : Int32 → Int32 → zM → Option (Int32 × zM) := fun y27 y28 s26 => bnd (f_X12_seatsBy F W N y27 y20 s26) (fun _ s29 => kEnd F v3 y28 s29)
def k128 (F : Nat) (W N v3 : Int32) : Int32 → zM → Option (Int32 × zM) := fun y20 s19 => f_X12_seating_L158 F (k158 F W N v3 y20) W N v3 y20 F (0 : Int32) (1000000000 : Int32) (0 : Int32) s19
def k95 (F : Nat) (W N v3 : Int32) : zM → Option (Int32 × zM) := fun s16 => f_X12_seating_L128 F (k128 F W N v3) W N v3 F (1 : Int32) (2 : Int32) s16
theorem j74_eq (F : Nat) (W N v3 : Int32) (s : zM) : f_X12_seating_j74 F W N v3 s = lt (zs s 69 7 (0 : Int32)) (fun s11 => bnd (f_X12_takesSeats F W N s11) (fun r13 s12 => if r13 = 0 then some ((-999999 : Int32), s12) else f_X12_seating_L95 F (k95 F W N v3) W N v3 F (0 : Int32) s12)) := rfl
theorem seat_mrun {F n m p q c : Nat} {W v3 : Int32} {fs : Nat → Nat} {α σy τb : zM} (hF : 6000 ≤ F) (hS : SC n m p q c W (tgf W) fs α) (c1 : 1 ≤ m) (hfn : fre (nbW W) n = m) (hW16 : ∀ i, n ≤ i → i < 32 → bt W i = false) (bG : BG n α σy) (bL : BL α σy) (bW : BW p c α σy) (m1 : Fx ([98], []) (zs σy 69 7 0) τb) (m3 : f_X12_takesSeats F W (nI m) (zs σy 69 7 0) = some (1, τb)) (m4 : ∀ j, j < m → zg τb 98 j = nI (fs j)) : ∃ cd l τc τe, dfs m (stpS (lifA (tgf W) m α) p c n m (tgf W) fs) m 0 (fun _ => false) (fun _ => 0) none = some (l, zP0 m cd) ∧ cd < fac m ∧ l = cK (lifA (tgf W) m α) p c n (tgf W) fs m (zP0 m cd) ∧ f_X12_seating_j74 F W (nI m) v3 σy = kEnd F v3 (tv (seaA (tgf W) (fun j => fs (zP0 m cd j)) m (lifA (tgf W) m α)) p c n 0) τe ∧ Fx ([98, 99], [(69, 7)]) σy τc ∧ zg τc 69 7 = 0 ∧ (∀ x, x < 16 → zg τc 99 x = zg τc 71 x) ∧ Fx ([71, 86, 87], []) τc τe ∧ (∀ x, ¬ (x < 16 ∧ bt W x = true) → zg τe 71 x = zg τc 71 x) ∧ (∀ k, k < m → zg τe 71 (tgf W k) = nI (fs (zP0 m cd k))) ∧ IG n (seaA (tgf W) (fun j => fs (zP0 m cd j)) m (lifA (tgf W) m α)) ∧ BG n (seaA (tgf W) (fun j => fs (zP0 m cd j)) m (lifA (tgf W) m α)) τe := by
  have h7 := hS.2.2.1.1
  have hn := hS.1.1
  have hfm : fac m < 5041 := by
    obtain ⟨j, rfl⟩ : ∃ j, m = j + 1 := ⟨m - 1, by omega⟩
    exact (v_fac j (by omega)).2
  have f0 : Fx ([98], [(69, 7)]) σy τb := (Fx.rf.zs rfl).tr (m1.sub rfl)
  obtain ⟨τc, u1, u2, u3, -⟩ := e_s95 (F := F) (W := W) (N := nI m) (v3 := v3) (K := k95 F W (nI m) v3) 16 F 0 τb (by omega) (by omega)
  have fc : Fx ([98, 99], [(69, 7)]) σy τc := (f0.sub rfl).tr (u2.sub rfl)
  have w1 := e_s128 (F := F) (W := W) (v3 := v3) (K := k128 F W (nI m) v3) (τ := τc) c1 h7 (m - 1) F 2 (by omega) (by omega) (by omega)
  have r98 : ∀ i, i < m → zg τc 98 i = nI (fs i) := fun i hi => (u2 98 i rfl).trans (m4 i hi)
  have bGc : BG n α τc := bG.si fc rfl
  obtain ⟨v5', v6', τd, B', x1, x2, x3, x4, x5, x6⟩ := e_s158 (F := F) (v3 := v3) (K := k158 F W (nI m) v3 (nI (fac m))) (by omega) hS rfl hW16 hfn bGc (bL.si fc rfl) (bW.si fc rfl) r98 (fac m) F 0 0 1000000000 none τc (by omega) (by omega) Fx.rf (fun _ _ => rfl) ⟨rfl, rfl⟩ (Or.inl rfl)
  have hdf := dfs_codes (m := m) (stp := stpS (lifA (tgf W) m α) p c n m (tgf W) fs) m 0 (fun _ => false) (fun _ => 0) none (fre_0 m)
  rw [← hdf, ← x6]
  cases hB : B' with
  | none => exact absurd hB x5
  | some lq =>
    obtain ⟨l, qq⟩ := lq
    rw [hB] at x4
    obtain ⟨cd, y1, y2, y3, y4, y5⟩ := x4
    subst y3
    obtain ⟨τe, z1, z2, z3, z4, z5, z6⟩ := e_by (F := F) (by omega) hS rfl hW16 hfn y1 bGc x2 x3 (fun i hi => (x2 98 i rfl).trans (r98 i hi))
    refine ⟨cd, l, τc, τe, rfl, y1, y5, ?_, fc, ?_, fun x hx => ?_, x2.tr (z2.sub rfl), z3, z4, z5, z6⟩
    · rw [j74_eq, lt_eq, m3, bnd_some, if_neg b1n]
      refine Eq.trans u1 ?_
      refine Eq.trans w1 ?_
      refine Eq.trans x1 ?_
      unfold k158
      rw [y2, z1, bnd_some, y4]
    · rw [u2 69 7 rfl, m1 69 7 rfl, zg_eq]
    · rw [u3 x (by omega) hx, u2 71 x rfl]
