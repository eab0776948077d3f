/-! ===== the frame: a method's machine run, held against a pure computation (zJ) ===== -/
abbrev zM : Type := (Nat → Nat → Int32) × (Nat → Int64)
def zg (σ : zM) (k j : Nat) : Int32 := σ.1 k j
def zs (σ : zM) (k j : Nat) (v : Int32) : zM := (fun a b => if a = k then (if b = j then v else σ.1 a b) else σ.1 a b, σ.2)
def zgl (σ : zM) (x : Nat) : Int64 := σ.2 x
def zsl (σ : zM) (x : Nat) (v : Int64) : zM := (σ.1, fun a => if a = x then v else σ.2 a)
/-- a row copied: the first n of row k0 into row k1 -/
def zcp (σ : zM) (k0 k1 n : Nat) : zM := (fun a b => if a = k1 then (if b < n then σ.1 k0 b else σ.1 a b) else σ.1 a b, σ.2)
def zin (i : Int32) (n : Nat) : Bool := decide (0 ≤ i.toInt ∧ i.toInt < (n : Int))
/-- kinds of cells: an array (what it is of, how long), an object (its class, its fields: 0 a number, 1 always the cell so and so, 2 a cell by its number, 3 a long, else null) -/
abbrev zK : Type := (Nat × Nat) ⊕ (Nat × List (Nat × Nat))
def zfv (b : Nat) (σ : zM) (k j : Nat) (f : Nat × Nat) : Value := match f.1 with
  | 0 => .int (σ.1 k j)
  | 1 => .ref (b + f.2)
  | 2 => .ref (b + (σ.1 k j).toNatClampNeg)
  | 3 => .long (σ.2 f.2)
  | 4 => .ref (b + f.2 + (σ.1 k j).toNatClampNeg)
  | _ => .null
def zty : Nat → FieldType
  | 0 => .int
  | 1 => .boolean
  | _ => .byte
/-- launch, the classes' numbers, the array classes' numbers, the first cell -/
abbrev zWd : Type := Launch × va_G × (Nat → ClassId) × Nat
def zcell (w : zWd) (σ : zM) (k : Nat) (q : zK) : va_E := match q with
  | .inl q => .inl (w.2.2.1 q.1, q.2, .inl (σ.1 k))
  | .inr q => .inr (q.1, q.2.mapIdx (zfv w.2.2.2 σ k))
def zws (w : zWd) (KL : List zK) (σ : zM) : va_W := KL.mapIdx (fun k q => (w.2.2.2 + k, zcell w σ k q))
def zP (w : zWd) (KL : List zK) (trk : Bool) (σ : zM) (H : Heap) : Prop := va_P w.2.1 vwCl (zws w KL σ) H ∧ (trk = true → H.size = w.2.2.2 + KL.length) ∧ KL.length ≤ w.2.2.1 3
def ztys (w : zWd) : List (ClassId × FieldType) := [(w.2.2.1 0, .int), (w.2.2.1 1, .boolean)]
def zC (w : zWd) (U : State) : Prop := va_K w.2.1 vwCl (ztys w) U
def zFree (w : zWd) : Nat → Prop := fun q => w.2.2.2 ≤ q ∧ q < w.2.2.2 + w.2.2.1 3
/-- the cells that are there, is the heap's size followed, how many new cells and slots so far -/
abbrev zF : Type := List zK × Bool × Nat × Nat
abbrev zA : Type := zWd × Program × Env × Room × State × MethodId × Array Value × List Frame × Method × Code
def zJ {ρ : Type} (a : zA) (nL : Nat) (G : ρ → zM → State → Prop) (φ : zF) (pc : Nat) (lv : List (Nat × Value)) (st : List Value) (σ : zM) (o : Option (ρ × zM)) : Prop :=
  ∀ (r : ρ) (σ' : zM), o = some (r, σ') → ∀ (ls : Array Slot) (H : Heap) (locs : List Loc), lv_has ls nL lv → zP a.1 φ.1 φ.2.1 σ H → va_S (zFree a.1) a.2.2.2.2.1.heap H locs →
    W a.2.1 a.1.1 a.2.2.1 a.2.2.2.1 a.2.2.2.2.1 a.2.2.2.2.2.1 a.2.2.2.2.2.2.1 a.2.2.2.2.2.2.2.1 a.2.2.2.2.2.2.2.2.1 a.2.2.2.2.2.2.2.2.2 H locs φ.2.2.1 φ.2.2.2 (G r σ') (F0 a.2.2.2.2.2.1 pc ls st)
def zOK (a : zA) (cc : ByteArray) (nL : Nat) (own : String) (ret : Option FieldType) (d : Nat) : Prop :=
  a.2.1.tables.exec = Jvm.exec ∧ a.2.2.2.2.2.2.2.2.2.code = cc ∧ a.2.2.2.2.2.2.2.2.2.maxLocals = nL ∧ a.2.2.2.2.1.vm.findClass own = some a.2.2.2.2.2.1.cls ∧ (∀ w ∈ zT, w.before a.2.2.2.2.2.2.1 a.2.2.2.2.1 = true) ∧ zC a.1 a.2.2.2.2.1 ∧ a.2.2.2.2.2.2.2.2.1.locks = false ∧ a.2.2.2.2.2.2.2.2.1.sig.returnType = ret ∧ d ≤ a.2.2.2.1.frames ∧ 100 * d ≤ a.2.2.2.1.locals ∧ a.1.2.2.2 ≤ a.2.2.2.2.1.heap.size
def zQ (w : zWd) (E : zF) (v : Option Value) (σ' : zM) : Array Value → State → Outcome → State → Prop := fun _ st o t => o = .returned v ∧ zP w E.1 E.2.1 σ' t.heap ∧ zC w t ∧ va_F (zFree w) st t
def zG {ρ : Type} (a : zA) (E : zF) (rv : ρ → Option Value) : ρ → zM → State → Prop := fun r σ' => MQ a.2.2.2.2.2.2.2.1 (zQ a.1 E (rv r) σ') a.2.2.2.2.2.2.1 a.2.2.2.2.1 E.2.2.1 E.2.2.2 (zFree a.1)
def zRm (d mc ms : Nat) : Room := { frames := d, cells := mc, slots := ms, locals := 100 * d }
def zMt {ρ : Type} (w : zWd) (y : MethodName) (cc : ByteArray) (maxL : Nat) (ret : Option FieldType) (d : Nat) (φ E : zF) (rv : ρ → Option Value) (av : List Value) (σ : zM) (o : Option (ρ × zM)) : Prop :=
  ∀ (r : ρ) (σ' : zM), o = some (r, σ') → Met w.1 y (Cond.code y cc maxL ret :: zT) (zRm d E.2.2.1 E.2.2.2) (va_Pc av (fun U => zP w φ.1 φ.2.1 σ U.heap ∧ zC w U ∧ w.2.2.2 ≤ U.heap.size)) (zQ w E (rv r) σ') E.2.2.1 E.2.2.2 (zFree w)
def zri (r : Int32) : Option Value := some (.int r)
def zrl (r : Int64) : Option Value := some (.long r)
def zrv (_ : Unit) : Option Value := none
def zrr (b : Nat) (r : Nat) : Option Value := some (.ref (b + r))
def bnd {α β : Type} (o : Option (α × zM)) (f : α → zM → Option β) : Option β := match o with
  | none => none
  | some x => f x.1 x.2
def lt {α β : Type} (v : α) (f : α → β) : β := f v
-- pure facts
theorem zws_get (w : zWd) {KL : List zK} {k : Nat} {q : zK} (σ : zM) (h : KL[k]? = some q) : (zws w KL σ)[k]? = some (w.2.2.2 + k, zcell w σ k q) := by
  simp [zws, List.getElem?_mapIdx, h]
theorem zws_len (w : zWd) (KL : List zK) (σ : zM) : (zws w KL σ).length = KL.length := by simp [zws]
theorem zws_of {w : zWd} {KL : List zK} {σ : zM} {k : Nat} {x : Nat × va_E} (h : (zws w KL σ)[k]? = some x) : ∃ q, KL[k]? = some q ∧ x = (w.2.2.2 + k, zcell w σ k q) := by
  simp only [zws, List.getElem?_mapIdx, Option.map_eq_some_iff] at h
  obtain ⟨q, h1, h2⟩ := h
  exact ⟨q, h1, h2.symm⟩
theorem zws_D (w : zWd) (KL : List zK) (σ : zM) (hB : KL.length ≤ w.2.2.1 3) : va_D (zFree w) (zws w KL σ) := by
  refine ⟨fun i j p q hi hj hpq => ?_, fun k q hq => ?_⟩
  · obtain ⟨x, -, rfl⟩ := zws_of hi
    obtain ⟨y, -, rfl⟩ := zws_of hj
    simp at hpq; omega
  · obtain ⟨x, hx, rfl⟩ := zws_of hq
    exact ⟨Nat.le_add_right _ _, Nat.add_lt_add_left (Nat.lt_of_lt_of_le (List.getElem?_eq_some_iff.mp hx).1 hB) _⟩
theorem zws_ext {w : zWd} {KL KL' : List zK} {σ σ' : zM} {k : Nat} {x : va_E} (hl : KL'.length = KL.length) (hk : ∀ q, KL'[k]? = some q → zcell w σ' k q = x) (ho : ∀ j, j ≠ k → ∀ q, KL'[j]? = some q → KL[j]? = some q ∧ zcell w σ' j q = zcell w σ j q) : zws w KL' σ' = (zws w KL σ).set k (w.2.2.2 + k, x) := by
  apply List.ext_getElem?
  intro j
  by_cases hj : j = k
  · subst hj
    by_cases hlt : j < KL.length
    · rw [List.getElem?_set_self (by rw [zws_len]; exact hlt)]
      have h1 : KL'[j]? = some KL'[j] := List.getElem?_eq_getElem (by omega)
      rw [zws_get w σ' h1, hk _ h1]
    · rw [List.getElem?_eq_none (by rw [zws_len]; omega), List.getElem?_eq_none (by rw [List.length_set, zws_len]; omega)]
  · rw [List.getElem?_set_ne (Ne.symm hj)]
    by_cases hlt : j < KL.length
    · have h1 : KL'[j]? = some KL'[j] := List.getElem?_eq_getElem (by omega)
      obtain ⟨h2, h3⟩ := ho j hj _ h1
      rw [zws_get w σ' h1, zws_get w σ h2, h3]
    · rw [List.getElem?_eq_none (by rw [zws_len]; omega), List.getElem?_eq_none (by rw [zws_len]; omega)]
theorem zcell_row {w : zWd} {σ σ' : zM} {j : Nat} (h1 : σ'.1 j = σ.1 j) (h2 : σ'.2 = σ.2) (q : zK) : zcell w σ' j q = zcell w σ j q := by
  have h : zfv w.2.2.2 σ' j = zfv w.2.2.2 σ j := by
    funext i f
    unfold zfv
    rw [h1, h2]
  cases q with
  | inl q => simp only [zcell, h1]
  | inr q => simp only [zcell, h]
theorem zs_row {σ : zM} {k j : Nat} {v : Int32} {i : Nat} (h : i ≠ k) : (zs σ k j v).1 i = σ.1 i := by
  funext b; simp [zs, h]
theorem zcp_row {σ : zM} {k0 k1 n : Nat} {i : Nat} (h : i ≠ k1) : (zcp σ k0 k1 n).1 i = σ.1 i := by
  funext b; simp [zcp, h]
theorem zs_upd (σ : zM) (k j : Nat) (v : Int32) : (zs σ k j v).1 k = upd (σ.1 k) j v := by
  funext b; simp [zs, upd]
theorem zin_vp {i : Int32} {n : Nat} (h : zin i n = true) : vp_in i n := by
  rw [vp_in_iff]
  simpa [zin] using h
section ZR
variable {ρ : Type} {a : zA} {nL : Nat} {G : ρ → zM → State → Prop} {φ : zF} {pc : Nat} {lv : List (Nat × Value)} {st : List Value} {σ : zM} {o : Option (ρ × zM)} {cc : ByteArray} {own : String} {ret : Option FieldType} {d : Nat}
theorem z_none : zJ a nL G φ pc lv st σ none := fun _ _ h => by cases h
theorem z_lt {α : Type} {v : α} {f : α → Option (ρ × zM)} (h : zJ a nL G φ pc lv st σ (f v)) : zJ a nL G φ pc lv st σ (lt v f) := h
theorem z_ltm {v : zM} {f : zM → Option (ρ × zM)} (h : ∀ x, zJ a nL G φ pc lv st x (f x)) : zJ a nL G φ pc lv st v (lt v f) := h v
theorem z_ite {c : Prop} [Decidable c] {o1 o2 : Option (ρ × zM)} (h1 : c → zJ a nL G φ pc lv st σ o1) (h2 : ¬ c → zJ a nL G φ pc lv st σ o2) : zJ a nL G φ pc lv st σ (if c then o1 else o2) := by
  by_cases h : c
  · rw [if_pos h]; exact h1 h
  · rw [if_neg h]; exact h2 h
theorem z_topi {x : Int32} {f : Int32 → Option (ρ × zM)} (k : ∀ y, zJ a nL G φ pc lv (.int y :: st) σ (f y)) : zJ a nL G φ pc lv (.int x :: st) σ (lt x f) := k x
theorem z_sub {lv' : List (Nat × Value)} (ks : List Nat) (hl : lv_pick lv ks = lv') (k : zJ a nL G φ pc lv' st σ o) : zJ a nL G φ pc lv st σ o := fun r σ' ho ls H locs h1 h2 h3 => k r σ' ho ls H locs (lv_sub h1 ks hl) h2 h3
theorem z_eq {o' : Option (ρ × zM)} (h : o = o') (k : zJ a nL G φ pc lv st σ o') : zJ a nL G φ pc lv st σ o := h ▸ k

theorem z_iconst (K : zOK a cc nL own ret d) {n : Int} {v : Int32} (hv : Int32.ofInt n = v) (hd : decode cc pc = .ok (.iconst n, 1)) (k : zJ a nL G φ (pc + 1) lv (.int v :: st) σ o) : zJ a nL G φ pc lv (st) σ o := by
  intro r σ' ho ls H locs h1 h2 h3
  obtain ⟨hx, hb, -, hown, hts, -⟩ := K
  exact lv_iconst hx hb hd hv (k r σ' ho ls H locs h1 h2 h3)
theorem z_bipush (K : zOK a cc nL own ret d) {n : Int} {v : Int32} (hv : (Int8.ofInt n).toInt32 = v) (hd : decode cc pc = .ok (.bipush n, 2)) (k : zJ a nL G φ (pc + 2) lv (.int v :: st) σ o) : zJ a nL G φ pc lv (st) σ o := by
  intro r σ' ho ls H locs h1 h2 h3
  obtain ⟨hx, hb, -, hown, hts, -⟩ := K
  exact lv_bipush hx hb hd hv (k r σ' ho ls H locs h1 h2 h3)
theorem z_sipush (K : zOK a cc nL own ret d) {n : Int} {v : Int32} (hv : (Int16.ofInt n).toInt32 = v) (hd : decode cc pc = .ok (.sipush n, 3)) (k : zJ a nL G φ (pc + 3) lv (.int v :: st) σ o) : zJ a nL G φ pc lv (st) σ o := by
  intro r σ' ho ls H locs h1 h2 h3
  obtain ⟨hx, hb, -, hown, hts, -⟩ := K
  exact lv_sipush hx hb hd hv (k r σ' ho ls H locs h1 h2 h3)
theorem z_lconst (K : zOK a cc nL own ret d) {n : Fin 2} {v : Int64} (hv : Int64.ofNat (n : Nat) = v) (hd : decode cc pc = .ok (.lconst n, 1)) (k : zJ a nL G φ (pc + 1) lv (.long v :: st) σ o) : zJ a nL G φ pc lv (st) σ o := by
  intro r σ' ho ls H locs h1 h2 h3
  obtain ⟨hx, hb, -, hown, hts, -⟩ := K
  exact lv_lconst hx hb hd hv (k r σ' ho ls H locs h1 h2 h3)
theorem z_ldc (K : zOK a cc nL own ret d) {ix : Nat} {v : Int32} (hw : Cond.constant own ix v ∈ zT) (hd : decode cc pc = .ok (.ldc ix, 2)) (k : zJ a nL G φ (pc + 2) lv (.int v :: st) σ o) : zJ a nL G φ pc lv (st) σ o := by
  intro r σ' ho ls H locs h1 h2 h3
  obtain ⟨hx, hb, -, hown, hts, -⟩ := K
  exact lv_ldc hx hb hown (hts _ hw) hd (k r σ' ho ls H locs h1 h2 h3)
theorem z_ldcw (K : zOK a cc nL own ret d) {ix : Nat} {v : Int32} (hw : Cond.constant own ix v ∈ zT) (hd : decode cc pc = .ok (.ldc_w ix, 3)) (k : zJ a nL G φ (pc + 3) lv (.int v :: st) σ o) : zJ a nL G φ pc lv (st) σ o := by
  intro r σ' ho ls H locs h1 h2 h3
  obtain ⟨hx, hb, -, hown, hts, -⟩ := K
  exact lv_ldcw hx hb hown (hts _ hw) hd (k r σ' ho ls H locs h1 h2 h3)
theorem z_ldc2 (K : zOK a cc nL own ret d) {ix : Nat} {v : Int64} (hw : Cond.constantLong own ix v ∈ zT) (hd : decode cc pc = .ok (.ldc2_w ix, 3)) (k : zJ a nL G φ (pc + 3) lv (.long v :: st) σ o) : zJ a nL G φ pc lv (st) σ o := by
  intro r σ' ho ls H locs h1 h2 h3
  obtain ⟨hx, hb, -, hown, hts, -⟩ := K
  exact lv_ldc2 hx hb hown (hts _ hw) hd (k r σ' ho ls H locs h1 h2 h3)
theorem z_iload_n (K : zOK a cc nL own ret d) {i : Fin 4} {x : Int32} (j : Nat) (hl : lv[j]? = some ((i : Nat), .int x)) (hd : decode cc pc = .ok (.iload_n i, 1)) (k : zJ a nL G φ (pc + 1) lv (.int x :: st) σ o) : zJ a nL G φ pc lv (st) σ o := by
  intro r σ' ho ls H locs h1 h2 h3
  obtain ⟨hx, hb, -, hown, hts, -⟩ := K
  exact lv_iload_n hx hb hd rfl (lv_at h1 j hl) (k r σ' ho ls H locs h1 h2 h3)
theorem z_iload (K : zOK a cc nL own ret d) {i : Nat} {x : Int32} (j : Nat) (hl : lv[j]? = some (i, .int x)) (hd : decode cc pc = .ok (.iload i, 2)) (k : zJ a nL G φ (pc + 2) lv (.int x :: st) σ o) : zJ a nL G φ pc lv (st) σ o := by
  intro r σ' ho ls H locs h1 h2 h3
  obtain ⟨hx, hb, -, hown, hts, -⟩ := K
  exact lv_iload hx hb hd (lv_at h1 j hl) (k r σ' ho ls H locs h1 h2 h3)
theorem z_istore_n (K : zOK a cc nL own ret d) {kk : Fin 4} {i : Nat} {x : Int32} {lv' : List (Nat × Value)} (hd : decode cc pc = .ok (.istore_n kk, 1)) (hi : (kk : Nat) = i) (hn : i < nL) (hl : (i, Value.int x) :: lv.filter (fun q => !(q.1 == i) && !(q.1 + 1 == i && q.2.category == 2)) = lv') (k : zJ a nL G φ (pc + 1) lv' st σ o) : zJ a nL G φ pc lv (.int x :: st) σ o := by
  intro r σ' ho ls H locs h1 h2 h3
  obtain ⟨hx, hb, -⟩ := K
  exact lv_istore_n hx hb hd hi h1 hn hl (fun ls' h1' => k r σ' ho ls' H locs h1' h2 h3)
theorem z_istore (K : zOK a cc nL own ret d) {i : Nat} {x : Int32} {lv' : List (Nat × Value)} (hd : decode cc pc = .ok (.istore i, 2)) (hn : i < nL) (hl : (i, Value.int x) :: lv.filter (fun q => !(q.1 == i) && !(q.1 + 1 == i && q.2.category == 2)) = lv') (k : zJ a nL G φ (pc + 2) lv' st σ o) : zJ a nL G φ pc lv (.int x :: st) σ o := by
  intro r σ' ho ls H locs h1 h2 h3
  obtain ⟨hx, hb, -⟩ := K
  exact lv_istore hx hb hd h1 hn hl (fun ls' h1' => k r σ' ho ls' H locs h1' h2 h3)
theorem z_lload_n (K : zOK a cc nL own ret d) {i : Fin 4} {x : Int64} (j : Nat) (hl : lv[j]? = some ((i : Nat), .long x)) (hd : decode cc pc = .ok (.lload_n i, 1)) (k : zJ a nL G φ (pc + 1) lv (.long x :: st) σ o) : zJ a nL G φ pc lv (st) σ o := by
  intro r σ' ho ls H locs h1 h2 h3
  obtain ⟨hx, hb, -, hown, hts, -⟩ := K
  exact lv_lload_n hx hb hd rfl (lv_at h1 j hl) (k r σ' ho ls H locs h1 h2 h3)
theorem z_lload (K : zOK a cc nL own ret d) {i : Nat} {x : Int64} (j : Nat) (hl : lv[j]? = some (i, .long x)) (hd : decode cc pc = .ok (.lload i, 2)) (k : zJ a nL G φ (pc + 2) lv (.long x :: st) σ o) : zJ a nL G φ pc lv (st) σ o := by
  intro r σ' ho ls H locs h1 h2 h3
  obtain ⟨hx, hb, -, hown, hts, -⟩ := K
  exact lv_lload hx hb hd (lv_at h1 j hl) (k r σ' ho ls H locs h1 h2 h3)
theorem z_lstore_n (K : zOK a cc nL own ret d) {kk : Fin 4} {i : Nat} {x : Int64} {lv' : List (Nat × Value)} (hd : decode cc pc = .ok (.lstore_n kk, 1)) (hi : (kk : Nat) = i) (hn : i + 1 < nL) (hl : (i, Value.long x) :: lv.filter (fun q => !(q.1 == i) && (!(q.1 == i + 1) && !(q.1 + 1 == i && q.2.category == 2))) = lv') (k : zJ a nL G φ (pc + 1) lv' st σ o) : zJ a nL G φ pc lv (.long x :: st) σ o := by
  intro r σ' ho ls H locs h1 h2 h3
  obtain ⟨hx, hb, -⟩ := K
  exact lv_lstore_n hx hb hd hi h1 hn hl (fun ls' h1' => k r σ' ho ls' H locs h1' h2 h3)
theorem z_lstore (K : zOK a cc nL own ret d) {i : Nat} {x : Int64} {lv' : List (Nat × Value)} (hd : decode cc pc = .ok (.lstore i, 2)) (hn : i + 1 < nL) (hl : (i, Value.long x) :: lv.filter (fun q => !(q.1 == i) && (!(q.1 == i + 1) && !(q.1 + 1 == i && q.2.category == 2))) = lv') (k : zJ a nL G φ (pc + 2) lv' st σ o) : zJ a nL G φ pc lv (.long x :: st) σ o := by
  intro r σ' ho ls H locs h1 h2 h3
  obtain ⟨hx, hb, -⟩ := K
  exact lv_lstore hx hb hd h1 hn hl (fun ls' h1' => k r σ' ho ls' H locs h1' h2 h3)
theorem z_aload_n (K : zOK a cc nL own ret d) {i : Fin 4} {x : Nat} (j : Nat) (hl : lv[j]? = some ((i : Nat), .ref x)) (hd : decode cc pc = .ok (.aload_n i, 1)) (k : zJ a nL G φ (pc + 1) lv (.ref x :: st) σ o) : zJ a nL G φ pc lv (st) σ o := by
  intro r σ' ho ls H locs h1 h2 h3
  obtain ⟨hx, hb, -, hown, hts, -⟩ := K
  exact lv_aload_n hx hb hd rfl (lv_at h1 j hl) (k r σ' ho ls H locs h1 h2 h3)
theorem z_aload (K : zOK a cc nL own ret d) {i : Nat} {x : Nat} (j : Nat) (hl : lv[j]? = some (i, .ref x)) (hd : decode cc pc = .ok (.aload i, 2)) (k : zJ a nL G φ (pc + 2) lv (.ref x :: st) σ o) : zJ a nL G φ pc lv (st) σ o := by
  intro r σ' ho ls H locs h1 h2 h3
  obtain ⟨hx, hb, -, hown, hts, -⟩ := K
  exact lv_aload hx hb hd (lv_at h1 j hl) (k r σ' ho ls H locs h1 h2 h3)
theorem z_astore_n (K : zOK a cc nL own ret d) {kk : Fin 4} {i : Nat} {x : Nat} {lv' : List (Nat × Value)} (hd : decode cc pc = .ok (.astore_n kk, 1)) (hi : (kk : Nat) = i) (hn : i < nL) (hl : (i, Value.ref x) :: lv.filter (fun q => !(q.1 == i) && !(q.1 + 1 == i && q.2.category == 2)) = lv') (k : zJ a nL G φ (pc + 1) lv' st σ o) : zJ a nL G φ pc lv (.ref x :: st) σ o := by
  intro r σ' ho ls H locs h1 h2 h3
  obtain ⟨hx, hb, -⟩ := K
  exact lv_astore_n hx hb hd hi h1 hn hl (fun ls' h1' => k r σ' ho ls' H locs h1' h2 h3)
theorem z_astore (K : zOK a cc nL own ret d) {i : Nat} {x : Nat} {lv' : List (Nat × Value)} (hd : decode cc pc = .ok (.astore i, 2)) (hn : i < nL) (hl : (i, Value.ref x) :: lv.filter (fun q => !(q.1 == i) && !(q.1 + 1 == i && q.2.category == 2)) = lv') (k : zJ a nL G φ (pc + 2) lv' st σ o) : zJ a nL G φ pc lv (.ref x :: st) σ o := by
  intro r σ' ho ls H locs h1 h2 h3
  obtain ⟨hx, hb, -⟩ := K
  exact lv_astore hx hb hd h1 hn hl (fun ls' h1' => k r σ' ho ls' H locs h1' h2 h3)
theorem z_iinc (K : zOK a cc nL own ret d) {i j : Nat} {n : Int} {x v : Int32} {lv' : List (Nat × Value)} (hd : decode cc pc = .ok (.iinc i n, 3)) (hk : lv[j]? = some (i, .int x)) (hv : x + Int32.ofInt n = v) (hn : i < nL) (hl : (i, Value.int v) :: lv.filter (fun q => !(q.1 == i) && !(q.1 + 1 == i && q.2.category == 2)) = lv') (k : zJ a nL G φ (pc + 3) lv' st σ o) : zJ a nL G φ pc lv st σ o := by
  intro r σ' ho ls H locs h1 h2 h3
  obtain ⟨hx, hb, -⟩ := K
  exact lv_iinc hx hb hd h1 hk hv hn hl (fun ls' h1' => k r σ' ho ls' H locs h1' h2 h3)
theorem z_iadd (K : zOK a cc nL own ret d) {x y : Int32} (hd : decode cc pc = .ok (.iadd, 1)) (k : zJ a nL G φ (pc + 1) lv (.int (x + y) :: st) σ o) : zJ a nL G φ pc lv (.int y :: .int x :: st) σ o := by
  intro r σ' ho ls H locs h1 h2 h3
  obtain ⟨hx, hb, -, hown, hts, -⟩ := K
  exact lv_iadd hx hb hd (k r σ' ho ls H locs h1 h2 h3)
theorem z_ladd (K : zOK a cc nL own ret d) {x y : Int64} (hd : decode cc pc = .ok (.ladd, 1)) (k : zJ a nL G φ (pc + 1) lv (.long (x + y) :: st) σ o) : zJ a nL G φ pc lv (.long y :: .long x :: st) σ o := by
  intro r σ' ho ls H locs h1 h2 h3
  obtain ⟨hx, hb, -, hown, hts, -⟩ := K
  exact lv_ladd hx hb hd (k r σ' ho ls H locs h1 h2 h3)
theorem z_isub (K : zOK a cc nL own ret d) {x y : Int32} (hd : decode cc pc = .ok (.isub, 1)) (k : zJ a nL G φ (pc + 1) lv (.int (x - y) :: st) σ o) : zJ a nL G φ pc lv (.int y :: .int x :: st) σ o := by
  intro r σ' ho ls H locs h1 h2 h3
  obtain ⟨hx, hb, -, hown, hts, -⟩ := K
  exact lv_isub hx hb hd (k r σ' ho ls H locs h1 h2 h3)
theorem z_lsub (K : zOK a cc nL own ret d) {x y : Int64} (hd : decode cc pc = .ok (.lsub, 1)) (k : zJ a nL G φ (pc + 1) lv (.long (x - y) :: st) σ o) : zJ a nL G φ pc lv (.long y :: .long x :: st) σ o := by
  intro r σ' ho ls H locs h1 h2 h3
  obtain ⟨hx, hb, -, hown, hts, -⟩ := K
  exact lv_lsub hx hb hd (k r σ' ho ls H locs h1 h2 h3)
theorem z_imul (K : zOK a cc nL own ret d) {x y : Int32} (hd : decode cc pc = .ok (.imul, 1)) (k : zJ a nL G φ (pc + 1) lv (.int (x * y) :: st) σ o) : zJ a nL G φ pc lv (.int y :: .int x :: st) σ o := by
  intro r σ' ho ls H locs h1 h2 h3
  obtain ⟨hx, hb, -, hown, hts, -⟩ := K
  exact lv_imul hx hb hd (k r σ' ho ls H locs h1 h2 h3)
theorem z_lmul (K : zOK a cc nL own ret d) {x y : Int64} (hd : decode cc pc = .ok (.lmul, 1)) (k : zJ a nL G φ (pc + 1) lv (.long (x * y) :: st) σ o) : zJ a nL G φ pc lv (.long y :: .long x :: st) σ o := by
  intro r σ' ho ls H locs h1 h2 h3
  obtain ⟨hx, hb, -, hown, hts, -⟩ := K
  exact lv_lmul hx hb hd (k r σ' ho ls H locs h1 h2 h3)
theorem z_iand (K : zOK a cc nL own ret d) {x y : Int32} (hd : decode cc pc = .ok (.iand, 1)) (k : zJ a nL G φ (pc + 1) lv (.int (x &&& y) :: st) σ o) : zJ a nL G φ pc lv (.int y :: .int x :: st) σ o := by
  intro r σ' ho ls H locs h1 h2 h3
  obtain ⟨hx, hb, -, hown, hts, -⟩ := K
  exact lv_iand hx hb hd (k r σ' ho ls H locs h1 h2 h3)
theorem z_ior (K : zOK a cc nL own ret d) {x y : Int32} (hd : decode cc pc = .ok (.ior, 1)) (k : zJ a nL G φ (pc + 1) lv (.int (x ||| y) :: st) σ o) : zJ a nL G φ pc lv (.int y :: .int x :: st) σ o := by
  intro r σ' ho ls H locs h1 h2 h3
  obtain ⟨hx, hb, -, hown, hts, -⟩ := K
  exact lv_ior hx hb hd (k r σ' ho ls H locs h1 h2 h3)
theorem z_ixor (K : zOK a cc nL own ret d) {x y : Int32} (hd : decode cc pc = .ok (.ixor, 1)) (k : zJ a nL G φ (pc + 1) lv (.int (x ^^^ y) :: st) σ o) : zJ a nL G φ pc lv (.int y :: .int x :: st) σ o := by
  intro r σ' ho ls H locs h1 h2 h3
  obtain ⟨hx, hb, -, hown, hts, -⟩ := K
  exact lv_ixor hx hb hd (k r σ' ho ls H locs h1 h2 h3)
theorem z_ineg (K : zOK a cc nL own ret d) {x : Int32} (hd : decode cc pc = .ok (.ineg, 1)) (k : zJ a nL G φ (pc + 1) lv (.int (-x) :: st) σ o) : zJ a nL G φ pc lv (.int x :: st) σ o := by
  intro r σ' ho ls H locs h1 h2 h3
  obtain ⟨hx, hb, -, hown, hts, -⟩ := K
  exact lv_ineg hx hb hd (k r σ' ho ls H locs h1 h2 h3)
theorem z_ishl (K : zOK a cc nL own ret d) {x y : Int32} (hd : decode cc pc = .ok (.ishl, 1)) (k : zJ a nL G φ (pc + 1) lv (.int (x <<< (y &&& 31)) :: st) σ o) : zJ a nL G φ pc lv (.int y :: .int x :: st) σ o := by
  intro r σ' ho ls H locs h1 h2 h3
  obtain ⟨hx, hb, -, hown, hts, -⟩ := K
  exact lv_ishl hx hb hd (k r σ' ho ls H locs h1 h2 h3)
theorem z_ishr (K : zOK a cc nL own ret d) {x y : Int32} (hd : decode cc pc = .ok (.ishr, 1)) (k : zJ a nL G φ (pc + 1) lv (.int (x >>> (y &&& 31)) :: st) σ o) : zJ a nL G φ pc lv (.int y :: .int x :: st) σ o := by
  intro r σ' ho ls H locs h1 h2 h3
  obtain ⟨hx, hb, -, hown, hts, -⟩ := K
  exact lv_ishr hx hb hd (k r σ' ho ls H locs h1 h2 h3)
theorem z_iushr (K : zOK a cc nL own ret d) {x y : Int32} (hd : decode cc pc = .ok (.iushr, 1)) (k : zJ a nL G φ (pc + 1) lv (.int (x.toUInt32 >>> (y.toUInt32 &&& Int32.toUInt32 31)).toInt32 :: st) σ o) : zJ a nL G φ pc lv (.int y :: .int x :: st) σ o := by
  intro r σ' ho ls H locs h1 h2 h3
  obtain ⟨hx, hb, -, hown, hts, -⟩ := K
  exact lv_iushr hx hb hd rfl (k r σ' ho ls H locs h1 h2 h3)
theorem z_i2l (K : zOK a cc nL own ret d) {x : Int32} (hd : decode cc pc = .ok (.i2l, 1)) (k : zJ a nL G φ (pc + 1) lv (.long x.toInt64 :: st) σ o) : zJ a nL G φ pc lv (.int x :: st) σ o := by
  intro r σ' ho ls H locs h1 h2 h3
  obtain ⟨hx, hb, -, hown, hts, -⟩ := K
  exact lv_i2l hx hb hd rfl (k r σ' ho ls H locs h1 h2 h3)
theorem z_i2b (K : zOK a cc nL own ret d) {x : Int32} (hd : decode cc pc = .ok (.i2b, 1)) (k : zJ a nL G φ (pc + 1) lv (.int x.toInt8.toInt32 :: st) σ o) : zJ a nL G φ pc lv (.int x :: st) σ o := by
  intro r σ' ho ls H locs h1 h2 h3
  obtain ⟨hx, hb, -, hown, hts, -⟩ := K
  exact lv_i2b hx hb hd rfl (k r σ' ho ls H locs h1 h2 h3)
theorem z_lcmp (K : zOK a cc nL own ret d) {x y : Int64} (hd : decode cc pc = .ok (.lcmp, 1)) (k : zJ a nL G φ (pc + 1) lv (.int (lg_cmp x y) :: st) σ o) : zJ a nL G φ pc lv (.long y :: .long x :: st) σ o := by
  intro r σ' ho ls H locs h1 h2 h3
  obtain ⟨hx, hb, -, hown, hts, -⟩ := K
  exact W.lcmp hx hb hd (k r σ' ho ls H locs h1 h2 h3)
theorem z_dup (K : zOK a cc nL own ret d) {va : Value} (hva : va.category = 1) (hd : decode cc pc = .ok (.dup, 1)) (k : zJ a nL G φ (pc + 1) lv (va :: va :: st) σ o) : zJ a nL G φ pc lv (va :: st) σ o := by
  intro r σ' ho ls H locs h1 h2 h3
  obtain ⟨hx, hb, -, hown, hts, -⟩ := K
  exact lv_dup hx hb hd hva (k r σ' ho ls H locs h1 h2 h3)
theorem z_pop (K : zOK a cc nL own ret d) {va : Value} (hva : va.category = 1) (hd : decode cc pc = .ok (.pop, 1)) (k : zJ a nL G φ (pc + 1) lv (st) σ o) : zJ a nL G φ pc lv (va :: st) σ o := by
  intro r σ' ho ls H locs h1 h2 h3
  obtain ⟨hx, hb, -, hown, hts, -⟩ := K
  exact lv_pop hx hb hd hva (k r σ' ho ls H locs h1 h2 h3)
theorem z_dup2 (K : zOK a cc nL own ret d) {va vb : Value} (hva : va.category = 1) (hvb : vb.category = 1) (hd : decode cc pc = .ok (.dup2, 1)) (k : zJ a nL G φ (pc + 1) lv (va :: vb :: va :: vb :: st) σ o) : zJ a nL G φ pc lv (va :: vb :: st) σ o := by
  intro r σ' ho ls H locs h1 h2 h3
  obtain ⟨hx, hb, -, hown, hts, -⟩ := K
  exact lv_dup2_11 hx hb hd hva hvb (k r σ' ho ls H locs h1 h2 h3)
theorem z_idiv (K : zOK a cc nL own ret d) {x y : Int32} (hd : decode cc pc = .ok (.idiv, 1)) (k : zJ a nL G φ (pc + 1) lv (.int (x / y) :: st) σ o) : zJ a nL G φ pc lv (.int y :: .int x :: st) σ (if y = 0 then none else o) := by
  refine z_ite (fun _ => z_none) (fun hy => ?_)
  intro r σ' ho ls H locs h1 h2 h3
  obtain ⟨hx, hb, -⟩ := K
  exact lv_idiv hx hb hd hy (k r σ' ho ls H locs h1 h2 h3)
theorem z_idivc (K : zOK a cc nL own ret d) {x y : Int32} (hy : ¬ y = 0) (hd : decode cc pc = .ok (.idiv, 1)) (k : zJ a nL G φ (pc + 1) lv (.int (x / y) :: st) σ o) : zJ a nL G φ pc lv (.int y :: .int x :: st) σ o := by
  intro r σ' ho ls H locs h1 h2 h3
  obtain ⟨hx, hb, -⟩ := K
  exact lv_idiv hx hb hd hy (k r σ' ho ls H locs h1 h2 h3)
theorem z_irem (K : zOK a cc nL own ret d) {x y : Int32} (hd : decode cc pc = .ok (.irem, 1)) (k : zJ a nL G φ (pc + 1) lv (.int (x - x / y * y) :: st) σ o) : zJ a nL G φ pc lv (.int y :: .int x :: st) σ (if y = 0 then none else o) := by
  refine z_ite (fun _ => z_none) (fun hy => ?_)
  intro r σ' ho ls H locs h1 h2 h3
  obtain ⟨hx, hb, -⟩ := K
  exact lv_irem hx hb hd hy (k r σ' ho ls H locs h1 h2 h3)
theorem z_iremc (K : zOK a cc nL own ret d) {x y : Int32} (hy : ¬ y = 0) (hd : decode cc pc = .ok (.irem, 1)) (k : zJ a nL G φ (pc + 1) lv (.int (x - x / y * y) :: st) σ o) : zJ a nL G φ pc lv (.int y :: .int x :: st) σ o := by
  intro r σ' ho ls H locs h1 h2 h3
  obtain ⟨hx, hb, -⟩ := K
  exact lv_irem hx hb hd hy (k r σ' ho ls H locs h1 h2 h3)
theorem z_ldiv (K : zOK a cc nL own ret d) {x y : Int64} (hd : decode cc pc = .ok (.ldiv, 1)) (k : zJ a nL G φ (pc + 1) lv (.long (x / y) :: st) σ o) : zJ a nL G φ pc lv (.long y :: .long x :: st) σ (if y = 0 then none else o) := by
  refine z_ite (fun _ => z_none) (fun hy => ?_)
  intro r σ' ho ls H locs h1 h2 h3
  obtain ⟨hx, hb, -⟩ := K
  exact lv_ldiv hx hb hd hy (k r σ' ho ls H locs h1 h2 h3)
theorem z_ldivc (K : zOK a cc nL own ret d) {x y : Int64} (hy : ¬ y = 0) (hd : decode cc pc = .ok (.ldiv, 1)) (k : zJ a nL G φ (pc + 1) lv (.long (x / y) :: st) σ o) : zJ a nL G φ pc lv (.long y :: .long x :: st) σ o := by
  intro r σ' ho ls H locs h1 h2 h3
  obtain ⟨hx, hb, -⟩ := K
  exact lv_ldiv hx hb hd hy (k r σ' ho ls H locs h1 h2 h3)
theorem z_lrem (K : zOK a cc nL own ret d) {x y : Int64} (hd : decode cc pc = .ok (.lrem, 1)) (k : zJ a nL G φ (pc + 1) lv (.long (x - x / y * y) :: st) σ o) : zJ a nL G φ pc lv (.long y :: .long x :: st) σ (if y = 0 then none else o) := by
  refine z_ite (fun _ => z_none) (fun hy => ?_)
  intro r σ' ho ls H locs h1 h2 h3
  obtain ⟨hx, hb, -⟩ := K
  exact lv_lrem hx hb hd hy (k r σ' ho ls H locs h1 h2 h3)
theorem z_lremc (K : zOK a cc nL own ret d) {x y : Int64} (hy : ¬ y = 0) (hd : decode cc pc = .ok (.lrem, 1)) (k : zJ a nL G φ (pc + 1) lv (.long (x - x / y * y) :: st) σ o) : zJ a nL G φ pc lv (.long y :: .long x :: st) σ o := by
  intro r σ' ho ls H locs h1 h2 h3
  obtain ⟨hx, hb, -⟩ := K
  exact lv_lrem hx hb hd hy (k r σ' ho ls H locs h1 h2 h3)
theorem z_goto (K : zOK a cc nL own ret d) {off : Int} {tgt : Nat} (hd : decode cc pc = .ok (.goto off, 3)) (ht : (pc : Int) + off = (tgt : Int)) (k : zJ a nL G φ tgt lv st σ o) : zJ a nL G φ pc lv st σ o := by
  intro r σ' ho ls H locs h1 h2 h3
  obtain ⟨hx, hb, -⟩ := K
  exact lv_goto hx hb hd ht (k r σ' ho ls H locs h1 h2 h3)
theorem z_if_eq (K : zOK a cc nL own ret d) {x : Int32} {off : Int} {tgt : Nat} {o1 o2 : Option (ρ × zM)} (hd : decode cc pc = .ok (.ifCond .eq off, 3)) (ht : (pc : Int) + off = (tgt : Int)) (k1 : zJ a nL G φ tgt lv st σ o1) (k2 : zJ a nL G φ (pc + 3) lv st σ o2) : zJ a nL G φ pc lv (.int x :: st) σ (if x = 0 then o1 else o2) := by
  intro r σ' ho ls H locs h1 h2 h3
  obtain ⟨hx, hb, -⟩ := K
  refine lv_if_eq hx hb hd ht (fun hc => k1 r σ' ?_ ls H locs h1 h2 h3) (fun hc => k2 r σ' ?_ ls H locs h1 h2 h3)
  · rw [if_pos hc] at ho; exact ho
  · rw [if_neg hc] at ho; exact ho
theorem z_icmp_eq (K : zOK a cc nL own ret d) {x y : Int32} {off : Int} {tgt : Nat} {o1 o2 : Option (ρ × zM)} (hd : decode cc pc = .ok (.if_icmp .eq off, 3)) (ht : (pc : Int) + off = (tgt : Int)) (k1 : zJ a nL G φ tgt lv st σ o1) (k2 : zJ a nL G φ (pc + 3) lv st σ o2) : zJ a nL G φ pc lv (.int y :: .int x :: st) σ (if x = y then o1 else o2) := by
  intro r σ' ho ls H locs h1 h2 h3
  obtain ⟨hx, hb, -⟩ := K
  refine lv_icmp_eq hx hb hd ht (fun hc => k1 r σ' ?_ ls H locs h1 h2 h3) (fun hc => k2 r σ' ?_ ls H locs h1 h2 h3)
  · rw [if_pos hc] at ho; exact ho
  · rw [if_neg hc] at ho; exact ho
theorem z_if_ne (K : zOK a cc nL own ret d) {x : Int32} {off : Int} {tgt : Nat} {o1 o2 : Option (ρ × zM)} (hd : decode cc pc = .ok (.ifCond .ne off, 3)) (ht : (pc : Int) + off = (tgt : Int)) (k1 : zJ a nL G φ tgt lv st σ o1) (k2 : zJ a nL G φ (pc + 3) lv st σ o2) : zJ a nL G φ pc lv (.int x :: st) σ (if x = 0 then o2 else o1) := by
  intro r σ' ho ls H locs h1 h2 h3
  obtain ⟨hx, hb, -⟩ := K
  refine lv_if_ne hx hb hd ht (fun hc => k1 r σ' ?_ ls H locs h1 h2 h3) (fun hc => k2 r σ' ?_ ls H locs h1 h2 h3)
  · rw [if_neg hc] at ho; exact ho
  · rw [if_pos hc] at ho; exact ho
theorem z_icmp_ne (K : zOK a cc nL own ret d) {x y : Int32} {off : Int} {tgt : Nat} {o1 o2 : Option (ρ × zM)} (hd : decode cc pc = .ok (.if_icmp .ne off, 3)) (ht : (pc : Int) + off = (tgt : Int)) (k1 : zJ a nL G φ tgt lv st σ o1) (k2 : zJ a nL G φ (pc + 3) lv st σ o2) : zJ a nL G φ pc lv (.int y :: .int x :: st) σ (if x = y then o2 else o1) := by
  intro r σ' ho ls H locs h1 h2 h3
  obtain ⟨hx, hb, -⟩ := K
  refine lv_icmp_ne hx hb hd ht (fun hc => k1 r σ' ?_ ls H locs h1 h2 h3) (fun hc => k2 r σ' ?_ ls H locs h1 h2 h3)
  · rw [if_neg hc] at ho; exact ho
  · rw [if_pos hc] at ho; exact ho
theorem z_if_lt (K : zOK a cc nL own ret d) {x : Int32} {off : Int} {tgt : Nat} {o1 o2 : Option (ρ × zM)} (hd : decode cc pc = .ok (.ifCond .lt off, 3)) (ht : (pc : Int) + off = (tgt : Int)) (k1 : zJ a nL G φ tgt lv st σ o1) (k2 : zJ a nL G φ (pc + 3) lv st σ o2) : zJ a nL G φ pc lv (.int x :: st) σ (if x < 0 then o1 else o2) := by
  intro r σ' ho ls H locs h1 h2 h3
  obtain ⟨hx, hb, -⟩ := K
  refine lv_if_lt hx hb hd ht (fun hc => k1 r σ' ?_ ls H locs h1 h2 h3) (fun hc => k2 r σ' ?_ ls H locs h1 h2 h3)
  · rw [if_pos hc] at ho; exact ho
  · rw [if_neg hc] at ho; exact ho
theorem z_icmp_lt (K : zOK a cc nL own ret d) {x y : Int32} {off : Int} {tgt : Nat} {o1 o2 : Option (ρ × zM)} (hd : decode cc pc = .ok (.if_icmp .lt off, 3)) (ht : (pc : Int) + off = (tgt : Int)) (k1 : zJ a nL G φ tgt lv st σ o1) (k2 : zJ a nL G φ (pc + 3) lv st σ o2) : zJ a nL G φ pc lv (.int y :: .int x :: st) σ (if x < y then o1 else o2) := by
  intro r σ' ho ls H locs h1 h2 h3
  obtain ⟨hx, hb, -⟩ := K
  refine lv_icmp_lt hx hb hd ht (fun hc => k1 r σ' ?_ ls H locs h1 h2 h3) (fun hc => k2 r σ' ?_ ls H locs h1 h2 h3)
  · rw [if_pos hc] at ho; exact ho
  · rw [if_neg hc] at ho; exact ho
theorem z_if_ge (K : zOK a cc nL own ret d) {x : Int32} {off : Int} {tgt : Nat} {o1 o2 : Option (ρ × zM)} (hd : decode cc pc = .ok (.ifCond .ge off, 3)) (ht : (pc : Int) + off = (tgt : Int)) (k1 : zJ a nL G φ tgt lv st σ o1) (k2 : zJ a nL G φ (pc + 3) lv st σ o2) : zJ a nL G φ pc lv (.int x :: st) σ (if x < 0 then o2 else o1) := by
  intro r σ' ho ls H locs h1 h2 h3
  obtain ⟨hx, hb, -⟩ := K
  refine lv_if_ge hx hb hd ht (fun hc => k1 r σ' ?_ ls H locs h1 h2 h3) (fun hc => k2 r σ' ?_ ls H locs h1 h2 h3)
  · rw [if_neg (Int32.not_lt.mpr hc)] at ho; exact ho
  · rw [if_pos (Int32.not_le.mp hc)] at ho; exact ho
theorem z_icmp_ge (K : zOK a cc nL own ret d) {x y : Int32} {off : Int} {tgt : Nat} {o1 o2 : Option (ρ × zM)} (hd : decode cc pc = .ok (.if_icmp .ge off, 3)) (ht : (pc : Int) + off = (tgt : Int)) (k1 : zJ a nL G φ tgt lv st σ o1) (k2 : zJ a nL G φ (pc + 3) lv st σ o2) : zJ a nL G φ pc lv (.int y :: .int x :: st) σ (if x < y then o2 else o1) := by
  intro r σ' ho ls H locs h1 h2 h3
  obtain ⟨hx, hb, -⟩ := K
  refine lv_icmp_ge hx hb hd ht (fun hc => k1 r σ' ?_ ls H locs h1 h2 h3) (fun hc => k2 r σ' ?_ ls H locs h1 h2 h3)
  · rw [if_neg (Int32.not_lt.mpr hc)] at ho; exact ho
  · rw [if_pos (Int32.not_le.mp hc)] at ho; exact ho
theorem z_if_gt (K : zOK a cc nL own ret d) {x : Int32} {off : Int} {tgt : Nat} {o1 o2 : Option (ρ × zM)} (hd : decode cc pc = .ok (.ifCond .gt off, 3)) (ht : (pc : Int) + off = (tgt : Int)) (k1 : zJ a nL G φ tgt lv st σ o1) (k2 : zJ a nL G φ (pc + 3) lv st σ o2) : zJ a nL G φ pc lv (.int x :: st) σ (if 0 < x then o1 else o2) := by
  intro r σ' ho ls H locs h1 h2 h3
  obtain ⟨hx, hb, -⟩ := K
  refine lv_if_gt hx hb hd ht (fun hc => k1 r σ' ?_ ls H locs h1 h2 h3) (fun hc => k2 r σ' ?_ ls H locs h1 h2 h3)
  · rw [if_pos hc] at ho; exact ho
  · rw [if_neg hc] at ho; exact ho
theorem z_icmp_gt (K : zOK a cc nL own ret d) {x y : Int32} {off : Int} {tgt : Nat} {o1 o2 : Option (ρ × zM)} (hd : decode cc pc = .ok (.if_icmp .gt off, 3)) (ht : (pc : Int) + off = (tgt : Int)) (k1 : zJ a nL G φ tgt lv st σ o1) (k2 : zJ a nL G φ (pc + 3) lv st σ o2) : zJ a nL G φ pc lv (.int y :: .int x :: st) σ (if y < x then o1 else o2) := by
  intro r σ' ho ls H locs h1 h2 h3
  obtain ⟨hx, hb, -⟩ := K
  refine lv_icmp_gt hx hb hd ht (fun hc => k1 r σ' ?_ ls H locs h1 h2 h3) (fun hc => k2 r σ' ?_ ls H locs h1 h2 h3)
  · rw [if_pos hc] at ho; exact ho
  · rw [if_neg hc] at ho; exact ho
theorem z_if_le (K : zOK a cc nL own ret d) {x : Int32} {off : Int} {tgt : Nat} {o1 o2 : Option (ρ × zM)} (hd : decode cc pc = .ok (.ifCond .le off, 3)) (ht : (pc : Int) + off = (tgt : Int)) (k1 : zJ a nL G φ tgt lv st σ o1) (k2 : zJ a nL G φ (pc + 3) lv st σ o2) : zJ a nL G φ pc lv (.int x :: st) σ (if 0 < x then o2 else o1) := by
  intro r σ' ho ls H locs h1 h2 h3
  obtain ⟨hx, hb, -⟩ := K
  refine lv_if_le hx hb hd ht (fun hc => k1 r σ' ?_ ls H locs h1 h2 h3) (fun hc => k2 r σ' ?_ ls H locs h1 h2 h3)
  · rw [if_neg (Int32.not_lt.mpr hc)] at ho; exact ho
  · rw [if_pos (Int32.not_le.mp hc)] at ho; exact ho
theorem z_icmp_le (K : zOK a cc nL own ret d) {x y : Int32} {off : Int} {tgt : Nat} {o1 o2 : Option (ρ × zM)} (hd : decode cc pc = .ok (.if_icmp .le off, 3)) (ht : (pc : Int) + off = (tgt : Int)) (k1 : zJ a nL G φ tgt lv st σ o1) (k2 : zJ a nL G φ (pc + 3) lv st σ o2) : zJ a nL G φ pc lv (.int y :: .int x :: st) σ (if y < x then o2 else o1) := by
  intro r σ' ho ls H locs h1 h2 h3
  obtain ⟨hx, hb, -⟩ := K
  refine lv_icmp_le hx hb hd ht (fun hc => k1 r σ' ?_ ls H locs h1 h2 h3) (fun hc => k2 r σ' ?_ ls H locs h1 h2 h3)
  · rw [if_neg (Int32.not_lt.mpr hc)] at ho; exact ho
  · rw [if_pos (Int32.not_le.mp hc)] at ho; exact ho
theorem z_tswIn (K : zOK a cc nL own ret d) {dflt lo hi : Int} {offs : Array Int} {len : Nat} {x : Int32} {off : Int} {tgt : Nat} (hd : decode cc pc = .ok (.tableswitch dflt lo hi offs, len)) (h1 : ¬ x.toInt < lo) (h2 : ¬ hi < x.toInt) (ho : offs[(x.toInt - lo).toNat]? = some off) (ht : (pc : Int) + off = (tgt : Int)) (k : zJ a nL G φ tgt lv st σ o) : zJ a nL G φ pc lv (.int x :: st) σ o := by
  intro r σ' ho' ls H locs g1 g2 g3
  obtain ⟨hx, hb, -⟩ := K
  exact lv_tableIn hx hb hd h1 h2 ho ht (k r σ' ho' ls H locs g1 g2 g3)
theorem z_tswOut (K : zOK a cc nL own ret d) {dflt lo hi : Int} {offs : Array Int} {len : Nat} {x : Int32} {tgt : Nat} (hd : decode cc pc = .ok (.tableswitch dflt lo hi offs, len)) (h : x.toInt < lo ∨ hi < x.toInt) (ht : (pc : Int) + dflt = (tgt : Int)) (k : zJ a nL G φ tgt lv st σ o) : zJ a nL G φ pc lv (.int x :: st) σ o := by
  intro r σ' ho' ls H locs g1 g2 g3
  obtain ⟨hx, hb, -⟩ := K
  exact lv_tableOut hx hb hd h ht (k r σ' ho' ls H locs g1 g2 g3)
theorem z_lsw (K : zOK a cc nL own ret d) {dflt : Int} {ps : Array (Int × Int)} {len : Nat} {x : Int32} {off : Int} {tgt : Nat} (hd : decode cc pc = .ok (.lookupswitch dflt ps, len)) (hp : (ps.toList.zip (ps.toList.drop 1)).all (fun (a, next) => a.1 < next.1) = true) (ho : Op.lookupswitch.offset ps.toList dflt x.toInt = off) (ht : (pc : Int) + off = (tgt : Int)) (k : zJ a nL G φ tgt lv st σ o) : zJ a nL G φ pc lv (.int x :: st) σ o := by
  intro r σ' ho' ls H locs g1 g2 g3
  obtain ⟨hx, hb, -⟩ := K
  exact lv_lookup hx hb hd hp ho ht (k r σ' ho' ls H locs g1 g2 g3)
end ZR
