/-! ===== the rules of constructors: the cells that there were (P), and those that are made (Q) ===== -/
def zhf (ty : Nat → FieldType) (fs : List (Nat × Nat)) (xl : List Nat) : Bool := fs.zipIdx.all (fun p => match ty p.2 with
  | .int => p.1.1 == 0
  | .boolean => p.1.1 == 0
  | .long => p.1.1 == 3 && xl.contains p.1.2
  | .object _ => p.1.1 == 5
  | .array _ => p.1.1 == 5
  | _ => false)
theorem z_hfs {N n : Nat} {ty : Nat → FieldType} {fs : List (Nat × Nat)} {xl : List Nat} {b : Nat} {σ : zM} (hl : fs.length = N) (h : zhf ty fs xl = true) : ∀ j, j < N → defaultValue (ty j) = vp_V (fs.mapIdx (zfv b (zclr σ n xl) n)) j := by
  intro j hj
  have hf : fs[j]? = some fs[j] := List.getElem?_eq_getElem (by omega)
  generalize fs[j] = f at hf
  have hm : (f, j) ∈ fs.zipIdx := List.mem_zipIdx_iff_getElem?.mpr hf
  have h1 := List.all_eq_true.mp h _ hm
  have hv : vp_V (fs.mapIdx (zfv b (zclr σ n xl) n)) j = zfv b (zclr σ n xl) n j f := by
    simp [vp_V, List.getD_eq_getElem?_getD, List.getElem?_mapIdx, hf]
  rw [hv]
  obtain ⟨f1, f2⟩ := f
  have key : ∀ z : Bool, (match ty j with
      | .int => f1 == 0
      | .boolean => f1 == 0
      | .long => f1 == 3 && xl.contains f2
      | .object _ => f1 == 5
      | .array _ => f1 == 5
      | _ => false) = z → z = true → defaultValue (ty j) = zfv b (zclr σ n xl) n j (f1, f2) := by
    intro z hz ht
    cases hty : ty j <;> rw [hty] at hz <;> subst ht <;> simp at hz
    all_goals first
      | (subst hz; simp [zfv, zclr, defaultValue]; done)
      | (obtain ⟨rfl, h2⟩ := hz; simp [zfv, zclr, defaultValue, h2]; done)
  exact key _ rfl h1
theorem zNoL_nil (KL : List zK) : zNoL KL [] = true := by
  unfold zNoL
  apply List.all_eq_true.mpr
  intro x _
  cases x <;> simp
theorem zob_app {P Q : List zK} {n j q ci k : Nat} {fs : List (Nat × Nat)} {f : Nat × Nat} (hP : P.length = n) (hq : n + j = q) (hQ : Q[j]? = some (.inr (ci, fs))) (hf : fs[k]? = some f) : zOb (P ++ Q) q ci k f := by
  refine ⟨fs, ?_, hf⟩
  subst hq; subst hP
  rw [List.getElem?_append_right (Nat.le_add_right _ _), Nat.add_sub_cancel_left]; exact hQ
theorem zar_app {P Q : List zK} {n j q t N : Nat} (hP : P.length = n) (hq : n + j = q) (hQ : Q[j]? = some (.inl (t, N))) : (P ++ Q)[q]? = some (.inl (t, N)) := by
  subst hq; subst hP
  rw [List.getElem?_append_right (Nat.le_add_right _ _), Nat.add_sub_cancel_left]; exact hQ
theorem zset_app {P Q : List zK} {n j q : Nat} {x : zK} (hP : P.length = n) (hq : n + j = q) : (P ++ Q).set q x = P ++ Q.set j x := by
  subst hq; subst hP
  rw [List.set_append_right _ _ (Nat.le_add_right _ _), Nat.add_sub_cancel_left]
section ZCT
variable {ρ : Type} {a : zA} {nL : Nat} {G : ρ → zM → State → Prop} {pc : Nat} {lv : List (Nat × Value)} {st : List Value} {σ : zM} {o : Option (ρ × zM)} {cc : ByteArray} {own : String} {ret : Option FieldType} {d : Nat} {P Q Q' : List zK} {n q j c c' sl sl' mc ms : Nat}
theorem z_newQ (K : zOK a cc nL own ret d) (hR : mc ≤ a.2.2.2.1.cells ∧ ms ≤ a.2.2.2.1.slots) (hbd : q + 1 ≤ a.1.2.2.1 3) (hP : P.length = n) (hq : n + Q.length = q) {ix ci N : Nat} {C : String} {T : u_T} {ty : Nat → FieldType} {fs : List (Nat × Nat)} (xl : List Nat) (hc : vwCl[ci]? = some (C, T, N)) (hin : ∀ w ∈ u_ws C T N, w ∈ zT) (hty : ∀ k, k < N → parseFieldDescriptor (T k).2.2.1 = some (ty k)) (w1 : Cond.classLink own ix C ∈ zT) (w2 : Cond.instantiable C N ∈ zT) (w3 : Cond.initialized C ∈ zT) (hno : zNoL (P ++ Q) xl = true) (hl : fs.length = N) (hfs : zhf ty fs xl = true) (hQ' : Q' = Q ++ [.inr (ci, fs)]) (hc1 : c + 1 = c') (hs1 : sl + N = sl') (hc2 : c' ≤ mc) (hs2 : sl' ≤ ms) (hd : decode cc pc = .ok (.new ix, 3))
    (kk : zJ a nL G (P ++ Q', true, c', sl') (pc + 3) lv (.ref (a.1.2.2.2 + q) :: st) (zclr σ q xl) o) : zJ a nL G (P ++ Q, true, c, sl) pc lv st σ o := by
  have hlen : (P ++ Q).length = q := by rw [List.length_append, hP, hq]
  have hk : zJ a nL G ((P ++ Q) ++ [.inr (ci, fs)], true, c + 1, sl + N) (pc + 3) lv (.ref (a.1.2.2.2 + (P ++ Q).length) :: st) (zclr σ (P ++ Q).length xl) o := by
    rw [hlen, List.append_assoc, ← hQ', hc1, hs1]; exact kk
  exact z_new (x := (c, sl)) K xl hc hin hty w1 w2 w3 hno (z_hfs hl hfs) (by rw [hlen]; exact hbd) ⟨by show c + 1 ≤ _; omega, by show sl + N ≤ _; omega⟩ hd hk
theorem z_newaQ (K : zOK a cc nL own ret d) (hR : mc ≤ a.2.2.2.1.cells ∧ ms ≤ a.2.2.2.1.slots) (hbd : q + 1 ≤ a.1.2.2.1 3) (hP : P.length = n) (hq : n + Q.length = q) {t N : Nat} {ty : FieldType} {atype : ArrayType} {n0 : Int32} (hty : newarray.typeOf atype = ty) (hta : (ztys a.1)[t]? = some (a.1.2.2.1 t, ty)) (hra : ∀ U : State, ∀ cA : ClassId, va_RA U cA ty = (U.vm.findClass ("[" ++ ty.toString) = some cA)) (hdv : defaultValue ty = .int 0) (w1 : Cond.arrayClass ty ∈ zT) (hn : ¬ n0 < 0) (hN : n0.toNatClampNeg = N) (hbytes : N * componentBytes ty ≤ 536870912) (hQ' : Q' = Q ++ [.inl (t, N)]) (hc1 : c + 1 = c') (hs1 : sl + N = sl') (hc2 : c' ≤ mc) (hs2 : sl' ≤ ms) (hd : decode cc pc = .ok (.newarray atype, 2))
    (kk : zJ a nL G (P ++ Q', true, c', sl') (pc + 2) lv (.ref (a.1.2.2.2 + q) :: st) (zclr σ q []) o) : zJ a nL G (P ++ Q, true, c, sl) pc lv (.int n0 :: st) σ o := by
  have hlen : (P ++ Q).length = q := by rw [List.length_append, hP, hq]
  have hk : zJ a nL G ((P ++ Q) ++ [.inl (t, N)], true, c + 1, sl + N) (pc + 2) lv (.ref (a.1.2.2.2 + (P ++ Q).length) :: st) (zclr σ (P ++ Q).length []) o := by
    rw [hlen, List.append_assoc, ← hQ', hc1, hs1]; exact kk
  exact z_newa (x := (c, sl)) K hty hta hra hdv w1 hn hN hbytes (by rw [hlen]; exact hbd) ⟨by show c + 1 ≤ _; omega, by show sl + N ≤ _; omega⟩ hd hk
theorem z_putFQ (K : zOK a cc nL own ret d) (hin2 : a.2.2.2.2.2.2.2.2.1.name = "<init>") (hP : P.length = n) (hq : n + j = q) {ix ci k i : Nat} {ty : FieldType} {fs fs' : List (Nat × Nat)} (F : zFf own ix ci k ty) (hQ : Q[j]? = some (.inr (ci, fs))) (hn : ∀ i, narrow ty (.ref i) = .ref i) (hfit : ∀ i, fits ty (.ref i) = true) (hlen : k < fs.length) (hfs' : fs' = fs.set k (1, i)) (hQ' : Q' = Q.set j (.inr (ci, fs'))) (hd : decode cc pc = .ok (.putfield ix, 3)) (kk : zJ a nL G (P ++ Q', true, c, sl) (pc + 3) lv st σ o) : zJ a nL G (P ++ Q, true, c, sl) pc lv (.ref (a.1.2.2.2 + i) :: .ref (a.1.2.2.2 + q) :: st) σ o := by
  refine z_putF (x := (true, c, sl)) (KL' := P ++ Q') K hin2 F (fs := fs) ?_ hn hfit hlen hfs' (by rw [hQ', zset_app hP hq]) hd kk
  subst hq; subst hP
  rw [List.getElem?_append_right (Nat.le_add_right _ _), Nat.add_sub_cancel_left]; exact hQ
theorem z_putNQ (K : zOK a cc nL own ret d) (hP : P.length = n) (hq : n + j = q) {ix ci k i : Nat} {C : String} {fs fs' : List (Nat × Nat)} (hi : i < 2 ^ 31) (F : zFw own ix ci k (.object C)) (hQ : Q[j]? = some (.inr (ci, fs))) (hlen : k < fs.length) (hfs' : fs' = fs.set k (2, 0)) (hQ' : Q' = Q.set j (.inr (ci, fs'))) (hd : decode cc pc = .ok (.putfield ix, 3)) (kk : zJ a nL G (P ++ Q', true, c, sl) (pc + 3) lv st (zs σ q k (nI i)) o) : zJ a nL G (P ++ Q, true, c, sl) pc lv (.ref (a.1.2.2.2 + i) :: .ref (a.1.2.2.2 + q) :: st) σ o := by
  refine z_putN (x := (true, c, sl)) (KL' := P ++ Q') K hi F (fs := fs) ?_ hlen hfs' (by rw [hQ', zset_app hP hq]) hd kk
  subst hq; subst hP
  rw [List.getElem?_append_right (Nat.le_add_right _ _), Nat.add_sub_cancel_left]; exact hQ
theorem z_cIQ {Qc As Q1 : List zK} {av : List Value} {rst : List Value} {y : MethodName} {cc' : ByteArray} {maxL' nn ix dc ds : Nat} {o' : Option (Unit × zM)} {f : Unit → zM → Option (ρ × zM)} (K : zOK a cc nL own ret d) (hR : mc ≤ a.2.2.2.1.cells ∧ ms ≤ a.2.2.2.1.slots) {y0 : Nat × Nat} (hM : zMt a.1 y cc' maxL' none (d - 1) ((P ++ As) ++ Q1, true, y0) ((P ++ As) ++ Qc, true, dc, ds) zrv (.ref (a.1.2.2.2 + q) :: av) σ o') (hQ : Q = As ++ Q1) (hmc : zMc y cc' maxL' nn) (hml : Cond.methodLink own ix y ∈ zT) (hmax : maxL' ≤ 81) (hdd : 1 ≤ d) (hn : av.length = nn) (hst : st = av.reverse ++ .ref (a.1.2.2.2 + q) :: rst) (hcat : (rst.map fun v => v.category).sum ≤ 8) (hQ' : Q' = As ++ Qc) (hc1 : c + dc = c') (hs1 : sl + ds = sl') (hc2 : c' ≤ mc) (hs2 : sl' ≤ ms) (hd : decode cc pc = .ok (.invokespecial ix, 3))
    (kk : ∀ σ1, zJ a nL G (P ++ Q', true, c', sl') (pc + 3) lv rst σ1 (f () σ1)) : zJ a nL G (P ++ Q, true, c, sl) pc lv st σ (bnd o' f) := by
  have hM' : zMt a.1 y cc' maxL' none (d - 1) (P ++ Q, true, c, sl) ((P ++ As) ++ Qc, true, dc, ds) zrv (.ref (a.1.2.2.2 + q) :: av) σ o' := by
    rw [hQ, ← List.append_assoc]; exact hM
  refine z_callI (φ := (P ++ Q, true, c, sl)) (E := ((P ++ As) ++ Qc, true, dc, ds)) K hM' hmc hml hmax (by omega) hn hst hcat ⟨by show c + dc ≤ _; omega, by show sl + ds ≤ _; omega⟩ hd (fun r σ1 => ?_)
  cases r
  show zJ a nL G ((P ++ As) ++ Qc, true, c + dc, sl + ds) (pc + 3) lv _ σ1 _
  rw [List.append_assoc, ← hQ', hc1, hs1]
  exact kk σ1
end ZCT
