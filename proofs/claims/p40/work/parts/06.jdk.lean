/-! ===== the frame's rules for the JDK's own methods, and for what constructors do ===== -/
def zclr (σ : zM) (n : Nat) (xl : List Nat) : zM := (fun a b => if a = n then 0 else σ.1 a b, fun x => if x ∈ xl then 0 else σ.2 x)
section ZJDK
variable {ρ : Type} {a : zA} {nL : Nat} {G : ρ → zM → State → Prop} {φ : zF} {pc : Nat} {lv : List (Nat × Value)} {st : List Value} {σ : zM} {o : Option (ρ × zM)} {cc : ByteArray} {own : String} {ret : Option FieldType} {d : Nat}
theorem z_max (K : zOK a cc nL own ret d) {ix : Nat} {x y : Int32} (w1 : Cond.static Lib.Math.max.name ∈ zT) (w2 : Cond.initialized "java/lang/Math" ∈ zT) (w3 : Cond.code Lib.Math.max.name Lib.Math.max.code 2 (some .int) ∈ zT) (hml : Cond.methodLink own ix Lib.Math.max.name ∈ zT) (h0 : φ.2.2 = (0, 0)) (hdd : 1 ≤ d) (hcat : (st.map fun v => v.category).sum ≤ 8) (hd : decode cc pc = .ok (.invokestatic ix, 3)) (kk : zJ a nL G φ (pc + 3) lv (.int (if x < y then y else x) :: st) σ o) : zJ a nL G φ pc lv (.int y :: .int x :: st) σ o := by
  intro r σ' ho ls H locs h1 h2 h3
  obtain ⟨hx, hb, hml2, hown, hts, hK, -, -, hf1, hf2, hbs⟩ := K
  exact va_mmax hx hb (hml2.trans h1.1.symm) hown (hts _ hml) (hts _ w1) (hts _ w2) (hts _ w3) (by omega) (by omega) (by rw [h0]; exact Nat.zero_le _) (by rw [h0]; exact Nat.zero_le _) hd (kk r σ' ho ls H locs h1 h2 h3)
theorem z_min (K : zOK a cc nL own ret d) {ix : Nat} {x y : Int32} (w1 : Cond.static Lib.Math.min.name ∈ zT) (w2 : Cond.initialized "java/lang/Math" ∈ zT) (w3 : Cond.code Lib.Math.min.name Lib.Math.min.code 2 (some .int) ∈ zT) (hml : Cond.methodLink own ix Lib.Math.min.name ∈ zT) (h0 : φ.2.2 = (0, 0)) (hdd : 1 ≤ d) (hcat : (st.map fun v => v.category).sum ≤ 8) (hd : decode cc pc = .ok (.invokestatic ix, 3)) (kk : zJ a nL G φ (pc + 3) lv (.int (if y < x then y else x) :: st) σ o) : zJ a nL G φ pc lv (.int y :: .int x :: st) σ o := by
  intro r σ' ho ls H locs h1 h2 h3
  obtain ⟨hx, hb, hml2, hown, hts, hK, -, -, hf1, hf2, hbs⟩ := K
  exact va_mmin hx hb (hml2.trans h1.1.symm) hown (hts _ hml) (hts _ w1) (hts _ w2) (hts _ w3) (by omega) (by omega) (by rw [h0]; exact Nat.zero_le _) (by rw [h0]; exact Nat.zero_le _) hd (kk r σ' ho ls H locs h1 h2 h3)
theorem z_abs (K : zOK a cc nL own ret d) {ix : Nat} {x : Int32} (w1 : Cond.static Lib.Math.abs.name ∈ zT) (w2 : Cond.initialized "java/lang/Math" ∈ zT) (w3 : Cond.code Lib.Math.abs.name Lib.Math.abs.code 1 (some .int) ∈ zT) (hml : Cond.methodLink own ix Lib.Math.abs.name ∈ zT) (h0 : φ.2.2 = (0, 0)) (hdd : 1 ≤ d) (hcat : (st.map fun v => v.category).sum ≤ 8) (hd : decode cc pc = .ok (.invokestatic ix, 3)) (kk : zJ a nL G φ (pc + 3) lv (.int (if 0 ≤ x then x else 0 - x) :: st) σ o) : zJ a nL G φ pc lv (.int x :: st) σ o := by
  intro r σ' ho ls H locs h1 h2 h3
  obtain ⟨hx, hb, hml2, hown, hts, hK, -, -, hf1, hf2, hbs⟩ := K
  exact va_mabs hx hb (hml2.trans h1.1.symm) hown (hts _ hml) (hts _ w1) (hts _ w2) (hts _ w3) (by omega) (by omega) (by rw [h0]; exact Nat.zero_le _) (by rw [h0]; exact Nat.zero_le _) hd (kk r σ' ho ls H locs h1 h2 h3)
/-- System.arraycopy of the first n places of one int row into another -/
theorem z_copy (K : zOK a cc nL own ret d) {ix q0 q1 n0 n1 N : Nat} {n z1 z2 : Int32} (w1 : Cond.native arraycopyName ∈ zT) (w2 : Cond.static arraycopyName ∈ zT) (w3 : Cond.initialized "java/lang/System" ∈ zT) (hml : Cond.methodLink own ix arraycopyName ∈ zT) (hq0 : φ.1[q0]? = some (.inl (0, n0))) (hq1 : φ.1[q1]? = some (.inl (0, n1))) (hz1 : z1 = 0) (hz2 : z2 = 0) (hn : ¬ n < 0) (hN : n.toNatClampNeg = N) (hb0 : N ≤ n0) (hb1 : N ≤ n1) (htr : φ.2.1 = false) (hdd : 1 ≤ d) (hcat : (st.map fun v => v.category).sum ≤ 8) (hd : decode cc pc = .ok (.invokestatic ix, 3)) (kk : zJ a nL G φ (pc + 3) lv st (zcp σ q0 q1 N) o) : zJ a nL G φ pc lv (.int n :: .int z2 :: .ref (a.1.2.2.2 + q1) :: .int z1 :: .ref (a.1.2.2.2 + q0) :: st) σ o := by
  intro r σ' ho ls H locs h1 h2 h3
  obtain ⟨hx, hb, hml2, hown, hts, hK, -, -, hf1, hf2, hbs⟩ := K
  subst hz1; subst hz2; subst hN
  have c0 : (0 : Int32).toNatClampNeg = 0 := rfl
  have hnw : nativeFrameWords "java/lang/System" "arraycopy" 5 + 11 ≤ 90 := by decide +kernel
  refine va_copyi hx hb (hml2.trans h1.1.symm) hown (hts _ hml) (hts _ w1) (hts _ w2) (hts _ w3) hK h2.1 (zws_D _ _ _ h2.2.2) h3 q0 q1 0 0 (zws_get a.1 σ hq0) (zws_get a.1 σ hq1) rfl rfl rfl (by decide) (by decide) hn (by rw [c0]; omega) (by rw [c0]; omega) (fun _ _ => rfl) (by omega) (by omega) hd (fun H1 locs1 g1 g2 g3 => kk r σ' ho ls H1 locs1 h1 ⟨?_, fun ht => (by rw [htr] at ht; cases ht), h2.2.2⟩ g3)
  have hws : zws a.1 φ.1 (zcp σ q0 q1 n.toNatClampNeg) = (zws a.1 φ.1 σ).set q1 (a.1.2.2.2 + q1, .inl (a.1.2.2.1 0, n1, .inl (va_cpy (σ.1 q0) (σ.1 q1) (0 : Int32).toNatClampNeg (0 : Int32).toNatClampNeg n.toNatClampNeg))) := by
    refine zws_ext rfl (fun x hx => ?_) (fun j hj x hx => ⟨hx, zcell_row (zcp_row hj) rfl x⟩)
    rw [hq1] at hx; cases hx
    have : (zcp σ q0 q1 n.toNatClampNeg).1 q1 = va_cpy (σ.1 q0) (σ.1 q1) (0 : Int32).toNatClampNeg (0 : Int32).toNatClampNeg n.toNatClampNeg := by
      funext b
      simp [zcp, va_cpy, c0]
    simp only [zcell, this]
  rw [hws]
  exact g1
theorem z_objInit (K : zOK a cc nL own ret d) {ix q : Nat} (w1 : Cond.methodLink own ix Lib.objectInit ∈ zT) (w2 : Cond.instanceMethod Lib.objectInit ∈ zT) (w3 : Cond.code Lib.objectInit ⟨#[0xb1]⟩ 1 none ∈ zT) (hdd : 1 ≤ d) (hcat : (st.map fun v => v.category).sum ≤ 8) (hd : decode cc pc = .ok (.invokespecial ix, 3)) (kk : zJ a nL G φ (pc + 3) lv st σ o) : zJ a nL G φ pc lv (.ref (a.1.2.2.2 + q) :: st) σ o := by
  intro r σ' ho ls H locs h1 h2 h3
  obtain ⟨hx, hb, hml2, hown, hts, hK, -, -, hf1, hf2, hbs⟩ := K
  exact W.objInit hx hb hown (hts _ w1) (hts _ w2) (hts _ w3) rfl (h1.1.trans hml2.symm) rfl hd (by omega) (by show 2 * 0 + _ + 12 ≤ _; omega) (kk r σ' ho ls H locs h1 h2 h3)
theorem z_untrk {KL : List zK} {x : Nat × Nat} (kk : zJ a nL G (KL, false, x) pc lv st σ o) : zJ a nL G (KL, true, x) pc lv st σ o := fun r σ' ho ls H locs h1 h2 h3 => kk r σ' ho ls H locs h1 ⟨h2.1, fun h => (by cases h), h2.2.2⟩ h3
theorem zws_push {w : zWd} {KL : List zK} {x : zK} {σ σ2 : zM} {H H1 : Heap} {e : va_E} (h2 : va_P w.2.1 vwCl (zws w KL σ) H) (hoth : ∀ j, j < KL.length → ∀ x, KL[j]? = some x → zcell w σ2 j x = zcell w σ j x) (hx : zcell w σ2 KL.length x = e) (hat : va_at w.2.1 vwCl (w.2.2.2 + KL.length, e) H1) (oq : ∀ q, q < H.size → H1[q]? = H[q]?) : va_P w.2.1 vwCl (zws w (KL ++ [x]) σ2) H1 := by
  intro k q hq
  obtain ⟨y, hy, rfl⟩ := zws_of hq
  by_cases hk : k < KL.length
  · rw [List.getElem?_append_left hk] at hy
    rw [hoth k hk y hy]
    have h3 := h2 k _ (zws_get w σ hy)
    exact h3.kept (oq _ h3.lt)
  · rw [List.getElem?_append_right (by omega)] at hy
    have hz : k - KL.length < 1 := (List.getElem?_eq_some_iff.mp hy).1
    have hk0 : k = KL.length := by omega
    subst hk0
    rw [Nat.sub_self] at hy
    cases hy
    rw [hx]
    exact hat
/-- no field of these objects is one of these longs -/
def zNoL (KL : List zK) (xl : List Nat) : Bool := KL.all (fun x => match x with | .inl _ => true | .inr q => q.2.all (fun f => !(f.1 == 3) || !(xl.contains f.2)))
theorem zfv_same {b k j : Nat} {f : Nat × Nat} {σ σ2 : zM} (h1 : σ2.1 k = σ.1 k) (h2 : f.1 = 3 → σ2.2 f.2 = σ.2 f.2) : zfv b σ2 k j f = zfv b σ k j f := by
  unfold zfv
  split
  · rw [h1]
  · rfl
  · rw [h1]
  · rename_i h; rw [h2 h]
  · rw [h1]
  · rfl
theorem zNoL_cell {w : zWd} {KL : List zK} {xl : List Nat} {σ σ2 : zM} (h : zNoL KL xl = true) (h1 : ∀ j, j < KL.length → σ2.1 j = σ.1 j) (h2 : ∀ x, x ∉ xl → σ2.2 x = σ.2 x) : ∀ j, j < KL.length → ∀ x, KL[j]? = some x → zcell w σ2 j x = zcell w σ j x := by
  intro j hj x hx
  have hm := List.all_eq_true.mp h x (List.mem_of_getElem? hx)
  cases x with
  | inl y => simp only [zcell, h1 j hj]
  | inr y =>
    obtain ⟨cj, fj⟩ := y
    show (Sum.inr (cj, fj.mapIdx _) : va_E) = Sum.inr (cj, fj.mapIdx _)
    congr 2
    apply List.ext_getElem?
    intro i
    rw [List.getElem?_mapIdx, List.getElem?_mapIdx]
    cases hf : fj[i]? with
    | none => exact Eq.refl none
    | some g =>
      have hg := List.all_eq_true.mp hm g (List.mem_of_getElem? hf)
      have : zfv w.2.2.2 σ2 j i g = zfv w.2.2.2 σ j i g := zfv_same (h1 j hj) (fun h3 => h2 _ (fun hc => by simp [h3, hc] at hg))
      simp only [Option.map_some, this]
theorem z_new (K : zOK a cc nL own ret d) {KL : List zK} {x : Nat × Nat} {ix ci N : Nat} {C : String} {T : u_T} {ty : Nat → FieldType} {fs : List (Nat × Nat)} (xl : List Nat) (hc : vwCl[ci]? = some (C, T, N)) (hin : ∀ w ∈ u_ws C T N, w ∈ zT) (hty : ∀ k, k < N → parseFieldDescriptor (T k).2.2.1 = some (ty k)) (w1 : Cond.classLink own ix C ∈ zT) (w2 : Cond.instantiable C N ∈ zT) (w3 : Cond.initialized C ∈ zT) (hno : zNoL KL xl = true)
    (hfs : ∀ j, j < N → defaultValue (ty j) = vp_V (fs.mapIdx (zfv a.1.2.2.2 (zclr σ KL.length xl) KL.length)) j) (hbd : KL.length + 1 ≤ a.1.2.2.1 3) (hroom : x.1 + 1 ≤ a.2.2.2.1.cells ∧ x.2 + N ≤ a.2.2.2.1.slots) (hd : decode cc pc = .ok (.new ix, 3))
    (kk : zJ a nL G (KL ++ [.inr (ci, fs)], true, x.1 + 1, x.2 + N) (pc + 3) lv (.ref (a.1.2.2.2 + KL.length) :: st) (zclr σ KL.length xl) o) : zJ a nL G (KL, true, x) pc lv st σ o := by
  intro r σ' ho ls H locs h1 h2 h3
  obtain ⟨hx, hb, hml2, hown, hts, hK, -, -, hf1, hf2, hbs⟩ := K
  have hKn := hK.1 ci _ hc
  have hsz : H.size = a.1.2.2.2 + KL.length := h2.2.1 rfl
  refine W.newcK hx hb hown (hts _ w1) (hts _ w2) (hts _ w3) rfl hd hroom.1 hroom.2 hKn.2.1 hsz fun H1 kC hkC e1 z1 o1 => ?_
  refine kk r σ' ho ls H1 locs h1 ⟨zws_push h2.1 (zNoL_cell hno (fun j hj => ?_) (fun x hx => ?_)) rfl ⟨_, hc, (u_born ty hts hin hKn hkC e1 hty).to hfs⟩ (fun q hq => o1 q (by omega)), fun _ => by rw [z1]; simp; omega, by show (KL ++ [_]).length ≤ _; rw [List.length_append]; exact hbd⟩ ⟨Nat.le_trans h3.1 (by omega), fun q g1 g2 => (o1 q (Nat.lt_of_lt_of_le g1 (by rw [← hsz]; exact h3.1))).trans (h3.2.1 q g1 g2), h3.2.2⟩
  · funext b
    have : ¬ j = KL.length := by omega
    simp [zclr, this]
  · simp [zclr, hx]
theorem z_newa (K : zOK a cc nL own ret d) {KL : List zK} {x : Nat × Nat} {t N : Nat} {ty : FieldType} {atype : ArrayType} {n : Int32} (hty : newarray.typeOf atype = ty) (hta : (ztys a.1)[t]? = some (a.1.2.2.1 t, ty)) (hra : ∀ U : State, ∀ cA : ClassId, va_RA U cA ty = (U.vm.findClass ("[" ++ ty.toString) = some cA)) (hdv : defaultValue ty = .int 0) (w1 : Cond.arrayClass ty ∈ zT) (hn : ¬ n < 0) (hN : n.toNatClampNeg = N) (hbytes : N * componentBytes ty ≤ 536870912) (hbd : KL.length + 1 ≤ a.1.2.2.1 3) (hroom : x.1 + 1 ≤ a.2.2.2.1.cells ∧ x.2 + N ≤ a.2.2.2.1.slots) (hd : decode cc pc = .ok (.newarray atype, 2))
    (kk : zJ a nL G (KL ++ [.inl (t, N)], true, x.1 + 1, x.2 + N) (pc + 2) lv (.ref (a.1.2.2.2 + KL.length) :: st) (zclr σ KL.length []) o) : zJ a nL G (KL, true, x) pc lv (.int n :: st) σ o := by
  intro r σ' ho ls H locs h1 h2 h3
  obtain ⟨hx, hb, hml2, hown, hts, hK, -, -, hf1, hf2, hbs⟩ := K
  subst hty
  have hsz : H.size = a.1.2.2.2 + KL.length := h2.2.1 rfl
  refine va_newaK hx hb (hts _ w1) rfl hd rfl hn hN hbytes hroom.1 hroom.2 hsz fun H1 cA e1 z1 o1 hAr hNm => ?_
  have hcA : cA = a.1.2.2.1 t := by
    have := (hK.2 t _ hta).2
    rw [hra] at this
    exact Option.some.inj (hNm.symm.trans this)
  subst hcA
  refine kk r σ' ho ls H1 locs h1 ⟨zws_push h2.1 (fun j hj y hy => zcell_row ?_ ?_ y) rfl ?_ (fun q hq => o1 q (by omega)), fun _ => by rw [z1]; simp; omega, by show (KL ++ [_]).length ≤ _; rw [List.length_append]; exact hbd⟩ ⟨Nat.le_trans h3.1 (by omega), fun q g1 g2 => (o1 q (Nat.lt_of_lt_of_le g1 (by rw [← hsz]; exact h3.1))).trans (h3.2.1 q g1 g2), h3.2.2⟩
  · funext b
    have : ¬ j = KL.length := by omega
    simp [zclr, this]
  · funext b; simp [zclr]
  · show H1[a.1.2.2.2 + KL.length]? = some (vp_cell _ _)
    rw [e1, vp_cell_i, hdv]
    congr 2
    funext j
    simp [zclr]
/-- a final field, in its own class's constructor, or one that holds a cell: from null to a cell -/
theorem z_putF (K : zOK a cc nL own ret d) (hin2 : a.2.2.2.2.2.2.2.2.1.name = "<init>") {ix ci k q i : Nat} {ty : FieldType} {fs fs' : List (Nat × Nat)} {KL KL' : List zK} {x : Bool × Nat × Nat} (F : zFf own ix ci k ty) (hq : KL[q]? = some (.inr (ci, fs))) (hn : ∀ i, narrow ty (.ref i) = .ref i) (hfit : ∀ i, fits ty (.ref i) = true) (hlen : k < fs.length) (hfs' : fs' = fs.set k (1, i)) (hKL' : KL' = KL.set q (.inr (ci, fs'))) (hd : decode cc pc = .ok (.putfield ix, 3)) (kk : zJ a nL G (KL', x) (pc + 3) lv st σ o) : zJ a nL G (KL, x) pc lv (.ref (a.1.2.2.2 + i) :: .ref (a.1.2.2.2 + q) :: st) σ o := by
  intro r σ' ho ls H locs h1 h2 h3
  obtain ⟨hx, hb, -, hown, hts, hK, -⟩ := K
  obtain ⟨C, T, N, ty0, hc, hin, hty, hnm, hk, hl, hfin, hdecl, hdd⟩ := F
  have hP := h2.1
  have hD := zws_D a.1 KL σ h2.2.2
  have he := zws_get a.1 σ hq
  have hap := va_apart (own := own) hts hin ty0 hty hnm hK hc
  obtain ⟨r', g1, cell, q1, q2, q3, q4⟩ := hP q _ he
  have hr : r' = (C, T, N) := Option.some.inj (g1.symm.trans hc)
  subst hr
  obtain ⟨hS, hfc, kC, hkC, hkind⟩ := hK.1 ci _ hc
  obtain ⟨cf, kf, fi, f, hi, hsl⟩ := hS k hk
  have hlay := hts _ (hin _ (u_in_lay hk))
  unfold u_lay at hlay
  rw [if_pos hfin] at hlay
  have hst := (u_facts hfc hkC (u_lays hts hin hk) hi).1
  have hcf : a.2.2.2.2.2.1.cls = cf := by
    obtain ⟨_, _, c', _, _, _, -, -, hf', -, -, -, hown2, -⟩ := Cond.laysFinal_spec hlay
    have e1 : c' = cf := by have := hi.symm.trans hf'; simp at this; exact this.1.symm
    rw [hdecl] at hown2
    rw [← e1]; exact Option.some.inj (hown.symm.trans hown2)
  have h6 := u_fits hfc hkC hkind (Or.inr hlay) hi hdd (hn (a.1.2.2.2 + i)) (hfit (a.1.2.2.2 + i))
  refine W.putFinK hx hb hown (hts _ hl) hi hst hcf hin2 (by rw [q2]; exact h6) q1 q3 (by rw [hsl]; exact k2_hasslot (q4 k hk)) rfl rfl hd fun H' e1 e2 e3 => ?_
  rw [hsl] at e1 ⊢
  have hlq := (List.getElem?_eq_some_iff.mp hq).1
  have hws : zws a.1 KL' σ = (zws a.1 KL σ).set q (a.1.2.2.2 + q, .inr (ci, (fs.mapIdx (zfv a.1.2.2.2 σ q)).set k (.ref (a.1.2.2.2 + i)))) := by
    subst hKL'
    refine zws_ext (by simp) (fun x hx2 => ?_) (fun j hj x hx2 => ?_)
    · rw [List.getElem?_set_self hlq] at hx2; cases hx2
      subst hfs'
      simp only [zcell]
      congr 2
      apply List.ext_getElem?
      intro j
      by_cases hj : j = k
      · subst hj
        rw [List.getElem?_set_self (by simpa using hlen), List.getElem?_mapIdx, List.getElem?_set_self hlen]; rfl
      · rw [List.getElem?_set_ne (Ne.symm hj), List.getElem?_mapIdx, List.getElem?_set_ne (Ne.symm hj), List.getElem?_mapIdx]
    · rw [List.getElem?_set_ne (Ne.symm hj)] at hx2; exact ⟨hx2, rfl⟩
  refine kk r σ' ho ls H' _ h1 ⟨?_, fun ht => by rw [e2]; rw [h2.2.1 ht]; subst hKL'; simp, by subst hKL'; show (KL.set _ _).length ≤ _; rw [List.length_set]; exact h2.2.2⟩ (h3.put e2 e3 ⟨Nat.le_add_right _ _, Nat.add_lt_add_left (Nat.lt_of_lt_of_le (List.getElem?_eq_some_iff.mp hq).1 h2.2.2) _⟩)
  show va_P _ _ (zws a.1 KL' σ) H'
  rw [hws]
  exact hP.set hD he ⟨_, hc, t_OB.to (V := updV (vp_V (fs.mapIdx (zfv a.1.2.2.2 σ q))) k (.ref (a.1.2.2.2 + i))) ⟨_, e1, q2, q3, t_set q4 hap hk _⟩ (fun j _ => vp_updV_set (by simpa using hlen) _ j)⟩ e3
theorem zset2 {fs : List (Nat × Nat)} {k : Nat} {f0 : Nat × Nat} {g : Nat → Nat × Nat → Value} {v : Value} : ((fs.set k f0).mapIdx g).set k v = (fs.mapIdx g).set k v := by
  apply List.ext_getElem?
  intro j
  by_cases hj : j = k
  · subst hj
    by_cases hl : j < fs.length
    · rw [List.getElem?_set_self (by simpa using hl), List.getElem?_set_self (by simpa using hl)]
    · rw [List.getElem?_eq_none (by simp; omega), List.getElem?_eq_none (by simp; omega)]
  · rw [List.getElem?_set_ne (Ne.symm hj), List.getElem?_set_ne (Ne.symm hj), List.getElem?_mapIdx, List.getElem?_mapIdx, List.getElem?_set_ne (Ne.symm hj)]
/-- a field that isn't final, from null to a cell by its number -/
theorem z_putN (K : zOK a cc nL own ret d) {ix ci k q i : Nat} {C : String} (hi : i < 2 ^ 31) {fs fs' : List (Nat × Nat)} {KL KL' : List zK} {x : Bool × Nat × Nat} (F : zFw own ix ci k (.object C)) (hq : KL[q]? = some (.inr (ci, fs))) (hlen : k < fs.length) (hfs' : fs' = fs.set k (2, 0)) (hKL' : KL' = KL.set q (.inr (ci, fs'))) (hd : decode cc pc = .ok (.putfield ix, 3)) (kk : zJ a nL G (KL', x) (pc + 3) lv st (zs σ q k (nI i)) o) : zJ a nL G (KL, x) pc lv (.ref (a.1.2.2.2 + i) :: .ref (a.1.2.2.2 + q) :: st) σ o := by
  have hlq := (List.getElem?_eq_some_iff.mp hq).1
  have hn : (nI i).toNatClampNeg = i := nI_clamp hi
  generalize hgv : nI i = gv at hn kk
  refine z_put (φ := (KL, x)) (KL' := KL') (fs' := fs') (σ2 := zs σ q k gv) K F hq rfl rfl hlen (by subst hKL'; simp) (by subst hKL'; exact List.getElem?_set_self hlq) ?_ (fun j hj y hy => ⟨?_, zcell_row (zs_row hj) rfl y⟩) hd kk
  · subst hfs'
    rw [zfv_set (σ := σ) (σ2 := zs σ q k gv) (k := k) (v := .ref (a.1.2.2.2 + i)) (List.getElem?_set_self hlen) (by simp [zfv, zs, hn]) (fun j g hj _ => by unfold zfv; simp [zs, hj]), zset2]
  · subst hKL'; rw [List.getElem?_set_ne (Ne.symm hj)] at hy; exact hy
end ZJDK
