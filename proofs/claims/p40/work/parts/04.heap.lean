/-! ===== the frame's rules for cells and calls ===== -/
-- a field of a class, as an own class's pool names it: its class is number ci, it is field k
def zFd (own : String) (ix ci k : Nat) : Prop := ∃ (C : String) (T : u_T) (N : Nat) (ty0 : Nat → FieldType), vwCl[ci]? = some (C, T, N) ∧ (∀ w ∈ u_ws C T N, w ∈ zT) ∧ (∀ k, k < N → parseFieldDescriptor (T k).2.2.1 = some (ty0 k)) ∧ (∀ a, a < N → ∀ b, b < N → a ≠ b → (T a).2.1 ≠ (T b).2.1) ∧ k < N ∧ Cond.fieldLink own ix (T k).1 (T k).2.1 (T k).2.2.1 ∈ zT
-- the same, not final, of a type
def zFw (own : String) (ix ci k : Nat) (ty : FieldType) : Prop := ∃ (C : String) (T : u_T) (N : Nat) (ty0 : Nat → FieldType), vwCl[ci]? = some (C, T, N) ∧ (∀ w ∈ u_ws C T N, w ∈ zT) ∧ (∀ k, k < N → parseFieldDescriptor (T k).2.2.1 = some (ty0 k)) ∧ (∀ a, a < N → ∀ b, b < N → a ≠ b → (T a).2.1 ≠ (T b).2.1) ∧ k < N ∧ Cond.fieldLink own ix (T k).1 (T k).2.1 (T k).2.2.1 ∈ zT ∧ (T k).2.2.2 = false ∧ parseFieldDescriptor (T k).2.2.1 = some ty
-- the same, final, of the class itself
def zFf (own : String) (ix ci k : Nat) (ty : FieldType) : Prop := ∃ (C : String) (T : u_T) (N : Nat) (ty0 : Nat → FieldType), vwCl[ci]? = some (C, T, N) ∧ (∀ w ∈ u_ws C T N, w ∈ zT) ∧ (∀ k, k < N → parseFieldDescriptor (T k).2.2.1 = some (ty0 k)) ∧ (∀ a, a < N → ∀ b, b < N → a ≠ b → (T a).2.1 ≠ (T b).2.1) ∧ k < N ∧ Cond.fieldLink own ix (T k).1 (T k).2.1 (T k).2.2.1 ∈ zT ∧ (T k).2.2.2 = true ∧ (T k).1 = own ∧ parseFieldDescriptor (T k).2.2.1 = some ty
-- in a table of cells, cell q is an object of class number ci whose field k is of kind f
def zOb (KL : List zK) (q ci k : Nat) (f : Nat × Nat) : Prop := ∃ fs : List (Nat × Nat), KL[q]? = some (.inr (ci, fs)) ∧ fs[k]? = some f
def zLoc (w : zWd) (A : Nat → Prop) (H0 H : Heap) (locs : List Loc) : Prop := va_S A H0 H locs
section ZH
variable {ρ : Type} {a : zA} {nL : Nat} {G : ρ → zM → State → Prop} {φ : zF} {pc : Nat} {lv : List (Nat × Value)} {st : List Value} {σ : zM} {o : Option (ρ × zM)} {cc : ByteArray} {own : String} {ret : Option FieldType} {d : Nat}
theorem z_get (K : zOK a cc nL own ret d) {ix ci k q : Nat} {f : Nat × Nat} (F : zFd own ix ci k) (hq : zOb φ.1 q ci k f) (hd : decode cc pc = .ok (.getfield ix, 3)) (kk : zJ a nL G φ (pc + 3) lv (zfv a.1.2.2.2 σ q k f :: st) σ o) : zJ a nL G φ pc lv (.ref (a.1.2.2.2 + q) :: st) σ o := by
  intro r σ' ho ls H locs h1 h2 h3
  obtain ⟨hx, hb, -, hown, hts, hK, -⟩ := K
  obtain ⟨C, T, N, ty0, c1, c2, -, -, hk, hl⟩ := F
  obtain ⟨fs, hKq, hf⟩ := hq
  refine va_get hx hb hts c2 hown hK h2.1 q (zws_get a.1 σ hKq) c1 k hk (hts _ hl) (fun x h => h) (v := zfv a.1.2.2.2 σ q k f) ?_ hd (kk r σ' ho ls H locs h1 h2 h3)
  simp [List.getElem?_mapIdx, hf]
theorem z_geti (K : zOK a cc nL own ret d) {ix ci k q x : Nat} (F : zFd own ix ci k) (hq : zOb φ.1 q ci k (0, x)) (hd : decode cc pc = .ok (.getfield ix, 3)) (kk : zJ a nL G φ (pc + 3) lv (.int (zg σ q k) :: st) σ o) : zJ a nL G φ pc lv (.ref (a.1.2.2.2 + q) :: st) σ o := z_get K F hq hd kk
theorem z_getr (K : zOK a cc nL own ret d) {ix ci k q x : Nat} (F : zFd own ix ci k) (hq : zOb φ.1 q ci k (1, x)) (hd : decode cc pc = .ok (.getfield ix, 3)) (kk : zJ a nL G φ (pc + 3) lv (.ref (a.1.2.2.2 + x) :: st) σ o) : zJ a nL G φ pc lv (.ref (a.1.2.2.2 + q) :: st) σ o := z_get K F hq hd kk
theorem z_getm (K : zOK a cc nL own ret d) {ix ci k q x : Nat} (F : zFd own ix ci k) (hq : zOb φ.1 q ci k (2, x)) (hd : decode cc pc = .ok (.getfield ix, 3)) (kk : zJ a nL G φ (pc + 3) lv (.ref (a.1.2.2.2 + (zg σ q k).toNatClampNeg) :: st) σ o) : zJ a nL G φ pc lv (.ref (a.1.2.2.2 + q) :: st) σ o := z_get K F hq hd kk
theorem z_getl (K : zOK a cc nL own ret d) {ix ci k q x : Nat} (F : zFd own ix ci k) (hq : zOb φ.1 q ci k (3, x)) (hd : decode cc pc = .ok (.getfield ix, 3)) (kk : zJ a nL G φ (pc + 3) lv (.long (zgl σ x) :: st) σ o) : zJ a nL G φ pc lv (.ref (a.1.2.2.2 + q) :: st) σ o := z_get K F hq hd kk
/-- a cell is put into its place: what the world is then -/
theorem z_put (K : zOK a cc nL own ret d) {ix ci k q : Nat} {ty : FieldType} {v : Value} {fs fs' : List (Nat × Nat)} {KL' : List zK} {σ2 : zM} (F : zFw own ix ci k ty) (hq : φ.1[q]? = some (.inr (ci, fs))) (hn : narrow ty v = v) (hfit : fits ty v = true) (hlen : k < fs.length) (hKL : KL'.length = φ.1.length) (hKq : KL'[q]? = some (.inr (ci, fs'))) (hnew : fs'.mapIdx (zfv a.1.2.2.2 σ2 q) = (fs.mapIdx (zfv a.1.2.2.2 σ q)).set k v) (hoth : ∀ j, j ≠ q → ∀ x, KL'[j]? = some x → φ.1[j]? = some x ∧ zcell a.1 σ2 j x = zcell a.1 σ j x)
    (hd : decode cc pc = .ok (.putfield ix, 3)) (kk : zJ a nL G (KL', φ.2) (pc + 3) lv st σ2 o) : zJ a nL G φ pc lv (v :: .ref (a.1.2.2.2 + q) :: st) σ o := by
  intro r σ' ho ls H locs h1 h2 h3
  obtain ⟨hx, hb, -, hown, hts, hK, -⟩ := K
  obtain ⟨C, T, N, ty0, hc, hin, hty, hnm, hk, hl, hfin, hdd⟩ := F
  have hP := h2.1
  have hD := zws_D a.1 φ.1 σ h2.2.2
  have he := zws_get a.1 σ hq
  have hap := va_apart (own := own) hts hin ty0 hty hnm hK hc
  obtain ⟨r', g1, cell, q1, q2, q3, q4⟩ := hP q _ he
  have hr : r' = (C, T, N) := Option.some.inj (g1.symm.trans hc)
  subst hr
  obtain ⟨hS, hfc, kC, hkC, hkind⟩ := hK.1 ci _ hc
  obtain ⟨cf, kf, fi, f, hi, hsl⟩ := hS k hk
  have hlay := hts _ (hin _ (u_in_lay hk))
  unfold u_lay at hlay
  rw [if_neg (by rw [hfin]; decide)] at hlay
  have hst := (u_facts hfc hkC (u_lays hts hin hk) hi).1
  have h6 := u_store hfc hkC hkind hlay hi hdd hn hfit
  refine W.putK hx hb (f := f) ⟨hown, hts _ hl, ⟨_, _, _, hi⟩, hst⟩ (by rw [q2]; exact h6) q1 q3 (by rw [hsl]; exact k2_hasslot (q4 k hk)) rfl rfl hd fun H' e1 e2 e3 => ?_
  rw [hsl] at e1 ⊢
  have hws : zws a.1 KL' σ2 = (zws a.1 φ.1 σ).set q (a.1.2.2.2 + q, .inr (ci, (fs.mapIdx (zfv a.1.2.2.2 σ q)).set k v)) := zws_ext hKL (fun x hx2 => by rw [hKq] at hx2; cases hx2; simp only [zcell, hnew]) hoth
  refine kk r σ' ho ls H' _ h1 ⟨?_, fun ht => by rw [e2]; rw [h2.2.1 ht]; simp only [hKL], by show KL'.length ≤ _; rw [hKL]; exact h2.2.2⟩ (h3.put e2 e3 ⟨Nat.le_add_right _ _, Nat.add_lt_add_left (Nat.lt_of_lt_of_le (List.getElem?_eq_some_iff.mp hq).1 h2.2.2) _⟩)
  rw [hws]
  exact hP.set hD he ⟨_, hc, t_OB.to (V := updV (vp_V (fs.mapIdx (zfv a.1.2.2.2 σ q))) k v) ⟨_, e1, q2, q3, t_set q4 hap hk v⟩ (fun j _ => vp_updV_set (by simpa using hlen) v j)⟩ e3
theorem zfv_set {b : Nat} {σ σ2 : zM} {q k : Nat} {fs : List (Nat × Nat)} {v : Value} {f : Nat × Nat} (hf : fs[k]? = some f) (hv : zfv b σ2 q k f = v) (ho : ∀ j g, j ≠ k → fs[j]? = some g → zfv b σ2 q j g = zfv b σ q j g) : fs.mapIdx (zfv b σ2 q) = (fs.mapIdx (zfv b σ q)).set k v := by
  apply List.ext_getElem?
  intro j
  by_cases hj : j = k
  · subst hj
    have hlt := (List.getElem?_eq_some_iff.mp hf).1
    rw [List.getElem?_set_self (by simpa using hlt)]
    simp [List.getElem?_mapIdx, hf, hv]
  · rw [List.getElem?_set_ne (Ne.symm hj), List.getElem?_mapIdx, List.getElem?_mapIdx]
    cases h : fs[j]? with
    | none => exact Eq.refl none
    | some g => simp [ho j g hj h]
theorem z_puti (K : zOK a cc nL own ret d) {ix ci k q x : Nat} {v : Int32} (F : zFw own ix ci k .int) (hq : zOb φ.1 q ci k (0, x)) (hd : decode cc pc = .ok (.putfield ix, 3)) (kk : zJ a nL G φ (pc + 3) lv st (zs σ q k v) o) : zJ a nL G φ pc lv (.int v :: .ref (a.1.2.2.2 + q) :: st) σ o := by
  obtain ⟨fs, hKq, hf⟩ := hq
  refine z_put K F hKq rfl rfl (List.getElem?_eq_some_iff.mp hf).1 rfl hKq (zfv_set hf (by simp [zfv, zs]) ?_) (fun j hj x hx => ⟨hx, zcell_row (zs_row hj) rfl x⟩) hd kk
  intro j g hj _
  unfold zfv
  simp [zs, hj]
theorem z_putz (K : zOK a cc nL own ret d) {ix ci k q x : Nat} {v : Int32} (hv : v = 0 ∨ v = 1) (F : zFw own ix ci k .boolean) (hq : zOb φ.1 q ci k (0, x)) (hd : decode cc pc = .ok (.putfield ix, 3)) (kk : zJ a nL G φ (pc + 3) lv st (zs σ q k v) o) : zJ a nL G φ pc lv (.int v :: .ref (a.1.2.2.2 + q) :: st) σ o := by
  obtain ⟨fs, hKq, hf⟩ := hq
  refine z_put K F hKq (by rcases hv with rfl | rfl <;> rfl) (by rcases hv with rfl | rfl <;> rfl) (List.getElem?_eq_some_iff.mp hf).1 rfl hKq (zfv_set hf (by simp [zfv, zs]) ?_) (fun j hj x hx => ⟨hx, zcell_row (zs_row hj) rfl x⟩) hd kk
  intro j g hj _
  unfold zfv
  simp [zs, hj]
theorem z_putl (K : zOK a cc nL own ret d) {ix ci k q x : Nat} {v : Int64} (F : zFw own ix ci k .long) (hq : zOb φ.1 q ci k (3, x)) (hone : ∀ (j : Nat) (cj : Nat) (fs : List (Nat × Nat)) (i : Nat), φ.1[j]? = some (.inr (cj, fs)) → fs[i]? = some (3, x) → j = q ∧ i = k) (hd : decode cc pc = .ok (.putfield ix, 3)) (kk : zJ a nL G φ (pc + 3) lv st (zsl σ x v) o) : zJ a nL G φ pc lv (.long v :: .ref (a.1.2.2.2 + q) :: st) σ o := by
  obtain ⟨fs, hKq, hf⟩ := hq
  have key : ∀ (b j i : Nat) (g : Nat × Nat), g ≠ (3, x) → zfv b (zsl σ x v) j i g = zfv b σ j i g := by
    intro b j i g hg
    obtain ⟨g1, g2⟩ := g
    match g1, hg with
    | 0, _ => rfl
    | 1, _ => rfl
    | 2, _ => rfl
    | 3, hg =>
      have : ¬ g2 = x := fun e => hg (by rw [e])
      simp [zfv, zsl, this]
    | 4, _ => rfl
    | g1 + 5, _ => rfl
  refine z_put K F hKq rfl rfl (List.getElem?_eq_some_iff.mp hf).1 rfl hKq (zfv_set hf (by simp [zfv, zsl]) ?_) (fun j hj y hy => ⟨hy, ?_⟩) hd kk
  · intro j g hj hg
    refine key _ _ _ _ (fun e => hj ?_)
    rw [e] at hg
    exact (hone q ci fs j hKq hg).2
  · cases y with
    | inl y => rfl
    | inr y =>
      obtain ⟨cj, fj⟩ := y
      show (Sum.inr (cj, fj.mapIdx _) : va_E) = Sum.inr (cj, fj.mapIdx _)
      congr 2
      apply List.ext_getElem?
      intro i
      rw [List.getElem?_mapIdx, List.getElem?_mapIdx]
      cases h : fj[i]? with
      | none => exact Eq.refl none
      | some g =>
        have : g ≠ (3, x) := fun e => hj (hone j cj fj i hy (by rw [h, e])).1
        simp [key _ _ _ _ this]
theorem z_putm (K : zOK a cc nL own ret d) {ix ci k q x i : Nat} {C : String} (hi : i < 2 ^ 31) (F : zFw own ix ci k (.object C)) (hq : zOb φ.1 q ci k (2, x)) (hd : decode cc pc = .ok (.putfield ix, 3)) (kk : zJ a nL G φ (pc + 3) lv st (zs σ q k (nI i)) o) : zJ a nL G φ pc lv (.ref (a.1.2.2.2 + i) :: .ref (a.1.2.2.2 + q) :: st) σ o := by
  obtain ⟨fs, hKq, hf⟩ := hq
  refine z_put K F hKq rfl rfl (List.getElem?_eq_some_iff.mp hf).1 rfl hKq (zfv_set hf (by simp [zfv, zs, nI_clamp hi]) ?_) (fun j hj x hx => ⟨hx, zcell_row (zs_row hj) rfl x⟩) hd kk
  intro j g hj _
  unfold zfv
  simp [zs, hj]
-- arrays
theorem z_arr (K : zOK a cc nL own ret d) {t : Nat} {ty : FieldType} (hty : (ztys a.1)[t]? = some (a.1.2.2.1 t, ty)) (n : Nat) (f : Nat → Int32) : a.2.2.2.2.1.isArrayOf (vp_cell (a.1.2.2.1 t) (n, .inl f)) ty := by
  obtain ⟨hx, hb, -, hown, hts, hK, -⟩ := K
  exact (hK.2 t _ hty).1 n (fun j => .int (f j))
theorem z_iald (K : zOK a cc nL own ret d) {q n : Nat} {i : Int32} (hq : φ.1[q]? = some (.inl (0, n))) (hd : decode cc pc = .ok (.iaload, 1)) (kk : zJ a nL G φ (pc + 1) lv (.int (zg σ q i.toNatClampNeg) :: st) σ o) : zJ a nL G φ pc lv (.int i :: .ref (a.1.2.2.2 + q) :: st) σ (if zin i n = true then o else none) := by
  refine z_ite (fun hin => ?_) (fun _ => z_none)
  intro r σ' ho ls H locs h1 h2 h3
  obtain ⟨hx, hb, -, hown, hts, hK, -⟩ := K
  exact va_iald hx hb hK h2.1 q 0 (zws_get a.1 σ hq) rfl (zin_vp hin) hd (kk r σ' ho ls H locs h1 h2 h3)
theorem z_zald (K : zOK a cc nL own ret d) {q n : Nat} {i : Int32} (hq : φ.1[q]? = some (.inl (1, n))) (hd : decode cc pc = .ok (.baload, 1)) (kk : zJ a nL G φ (pc + 1) lv (.int (zg σ q i.toNatClampNeg) :: st) σ o) : zJ a nL G φ pc lv (.int i :: .ref (a.1.2.2.2 + q) :: st) σ (if zin i n = true then o else none) := by
  refine z_ite (fun hin => ?_) (fun _ => z_none)
  intro r σ' ho ls H locs h1 h2 h3
  obtain ⟨hx, hb, -, hown, hts, hK, -⟩ := K
  exact va_zald hx hb hK h2.1 q 1 (zws_get a.1 σ hq) rfl (zin_vp hin) hd (kk r σ' ho ls H locs h1 h2 h3)
theorem z_alen (K : zOK a cc nL own ret d) {q n t : Nat} {ty : FieldType} (hq : φ.1[q]? = some (.inl (t, n))) (ht : (ztys a.1)[t]? = some (a.1.2.2.1 t, ty)) (hd : decode cc pc = .ok (.arraylength, 1)) (kk : zJ a nL G φ (pc + 1) lv (.int (Int32.ofNat n) :: st) σ o) : zJ a nL G φ pc lv (.ref (a.1.2.2.2 + q) :: st) σ o := by
  intro r σ' ho ls H locs h1 h2 h3
  obtain ⟨hx, hb, -, hown, hts, hK, -⟩ := K
  exact va_alen hx hb hK h2.1 q t (zws_get a.1 σ hq) ht rfl hd (kk r σ' ho ls H locs h1 h2 h3)
/-- an array's place is written: what the world is then -/
theorem z_ast {q t n : Nat} {i y : Int32} {H H1 : Heap} (hq : φ.1[q]? = some (.inl (t, n))) (h2 : zP a.1 φ.1 φ.2.1 σ H) (e : H1[a.1.2.2.2 + q]? = some ((vp_cell (a.1.2.2.1 t) (n, .inl (σ.1 q))).setSlot i.toNatClampNeg (.int y))) (z : H1.size = H.size) (oq : ∀ x, x ≠ a.1.2.2.2 + q → H1[x]? = H[x]?) : zP a.1 φ.1 φ.2.1 (zs σ q i.toNatClampNeg y) H1 := by
  refine ⟨?_, fun ht => by rw [z]; exact h2.2.1 ht, h2.2.2⟩
  have hws : zws a.1 φ.1 (zs σ q i.toNatClampNeg y) = (zws a.1 φ.1 σ).set q (a.1.2.2.2 + q, .inl (a.1.2.2.1 t, n, .inl (upd (σ.1 q) i.toNatClampNeg y))) := zws_ext rfl (fun x hx => by rw [hq] at hx; cases hx; simp only [zcell, zs_upd]) (fun j hj x hx => ⟨hx, zcell_row (zs_row hj) rfl x⟩)
  rw [hws]
  refine h2.1.set (zws_D a.1 φ.1 σ h2.2.2) (zws_get a.1 σ hq) ?_ oq
  show H1[_]? = some (vp_cell _ _)
  rw [e, vp_cell_i, vp_cell_i, arrV_store]
  congr 2
  funext x
  by_cases hx : x = i.toNatClampNeg
  · subst hx; simp [updV, upd]
  · simp [updV, upd, hx]
theorem z_iast (K : zOK a cc nL own ret d) {q n : Nat} {i v : Int32} (hq : φ.1[q]? = some (.inl (0, n))) (hd : decode cc pc = .ok (.iastore, 1)) (kk : zJ a nL G φ (pc + 1) lv st (zs σ q i.toNatClampNeg v) o) : zJ a nL G φ pc lv (.int v :: .int i :: .ref (a.1.2.2.2 + q) :: st) σ (if zin i n = true then o else none) := by
  refine z_ite (fun hin => ?_) (fun _ => z_none)
  intro r σ' ho ls H locs h1 h2 h3
  have hA := z_arr K (t := 0) rfl n (σ.1 q)
  obtain ⟨hx, hb, -, hown, hts, hK, -⟩ := K
  exact W.iast hx hb (h2.1 q _ (zws_get a.1 σ hq)) hA (fun q => by cases q) (by show ¬ (i < 0 ∨ (arrV _ _ _).slots.size ≤ _); rw [arrV_size]; exact zin_vp hin) rfl rfl hd fun H1 e z oq => kk r σ' ho ls H1 _ h1 (z_ast hq h2 e z oq) (h3.put z oq ⟨Nat.le_add_right _ _, Nat.add_lt_add_left (Nat.lt_of_lt_of_le (List.getElem?_eq_some_iff.mp hq).1 h2.2.2) _⟩)
theorem z_zast (K : zOK a cc nL own ret d) {q n : Nat} {i v : Int32} (hq : φ.1[q]? = some (.inl (1, n))) (hd : decode cc pc = .ok (.bastore, 1)) (kk : zJ a nL G φ (pc + 1) lv st (zs σ q i.toNatClampNeg (vp_nar .boolean v)) o) : zJ a nL G φ pc lv (.int v :: .int i :: .ref (a.1.2.2.2 + q) :: st) σ (if zin i n = true then o else none) := by
  refine z_ite (fun hin => ?_) (fun _ => z_none)
  intro r σ' ho ls H locs h1 h2 h3
  have hA := z_arr K (t := 1) rfl n (σ.1 q)
  obtain ⟨hx, hb, -, hown, hts, hK, -⟩ := K
  exact W.zast hx hb (h2.1 q _ (zws_get a.1 σ hq)) hA (fun q => by cases q) (by show ¬ (i < 0 ∨ (arrV _ _ _).slots.size ≤ _); rw [arrV_size]; exact zin_vp hin) rfl rfl hd fun H1 e z oq => kk r σ' ho ls H1 _ h1 (z_ast hq h2 (by rw [e]; rfl) z oq) (h3.put z oq ⟨Nat.le_add_right _ _, Nat.add_lt_add_left (Nat.lt_of_lt_of_le (List.getElem?_eq_some_iff.mp hq).1 h2.2.2) _⟩)
end ZH
