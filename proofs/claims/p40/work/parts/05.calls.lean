/-! ===== the frame's rules for calls, answers, copies ===== -/
-- a method of a class that is made (zMv), a static one (zMs), a constructor (zMc), by the tables' words
def zMv (y : MethodName) (cc : ByteArray) (maxL : Nat) (ret : Option FieldType) (n : Nat) : Prop := Cond.instanceMethod y ∈ zT ∧ Cond.selects y.cls y y ∈ zT ∧ Cond.initialized y.cls ∈ zT ∧ Cond.code y cc maxL ret ∈ zT ∧ y.cls ≠ "java/lang/invoke/MethodHandle" ∧ y.cls ≠ "java/lang/invoke/VarHandle" ∧ (parseMethodDescriptor y.desc).map (fun d => d.parameters.length) = some n
def zMs (y : MethodName) (cc : ByteArray) (maxL : Nat) (ret : Option FieldType) (n : Nat) : Prop := Cond.static y ∈ zT ∧ Cond.initialized y.cls ∈ zT ∧ Cond.code y cc maxL ret ∈ zT ∧ y.cls ≠ "java/lang/invoke/MethodHandle" ∧ y.cls ≠ "java/lang/invoke/VarHandle" ∧ (parseMethodDescriptor y.desc).map (fun d => d.parameters.length) = some n
def zMc (y : MethodName) (cc : ByteArray) (maxL : Nat) (n : Nat) : Prop := Cond.instanceMethod y ∈ zT ∧ Cond.initialized y.cls ∈ zT ∧ Cond.code y cc maxL none ∈ zT ∧ y.name = "<init>" ∧ y.cls ≠ "java/lang/invoke/MethodHandle" ∧ y.cls ≠ "java/lang/invoke/VarHandle" ∧ (parseMethodDescriptor y.desc).map (fun d => d.parameters.length) = some n
theorem zT_pay {s : State} {args : Array Value} (hts : ∀ w ∈ zT, w.before args s = true) {c : Cond} (hc : c ∈ zT) : ∀ w ∈ c :: zT, ∀ (a' : Array Value) (U : State), s.WarmedH U.vm → w.before a' U = true := by
  intro w hw a' U hW
  rcases List.mem_cons.mp hw with rfl | h
  · exact word_at hW (zT_good hc) (hts _ hc)
  · exact word_at hW (zT_good h) (hts _ h)
section ZCALL
variable {ρ ρ' : Type} {a : zA} {nL : Nat} {G : ρ → zM → State → Prop} {φ E : zF} {pc : Nat} {lv : List (Nat × Value)} {st : List Value} {σ : zM} {o : Option (ρ × zM)} {cc : ByteArray} {own : String} {ret : Option FieldType} {d : Nat}
  {y : MethodName} {cc' : ByteArray} {maxL' d' n ix : Nat} {ret' : Option FieldType} {rv : ρ' → Option Value} {o' : Option (ρ' × zM)} {f : ρ' → zM → Option (ρ × zM)}
theorem z_bnd {o' : Option (ρ' × zM)} {f : ρ' → zM → Option (ρ × zM)} (h : ∀ r σ', o' = some (r, σ') → zJ a nL G φ pc lv st σ (f r σ')) : zJ a nL G φ pc lv st σ (bnd o' f) := by
  cases ho : o' with
  | none => exact z_none
  | some x => exact h x.1 x.2 ho
theorem zP_blind {w : zWd} {av : List Value} {KL : List zK} {trk : Bool} {σ : zM} : FrameBlind (va_Pc av (fun U => zP w KL trk σ U.heap ∧ zC w U ∧ w.2.2.2 ≤ U.heap.size)) := fun a U g mk q => ⟨q.1, q.2.1, va_K.moved (u := U) (U := U.calling g mk a) (Vm.Alike.refl U.vm) q.2.2.1, q.2.2.2⟩
/-- behind a call: the world as the callee's contract says -/
theorem z_after {st₀ rest : List Value} {r' : ρ'} {σ1 : zM} {H : Heap} {locs : List Loc} {ls : Array Slot} {args' : Array Value} {Q : State → Prop} (h1 : lv_has ls nL lv) (h3 : va_S (zFree a.1) a.2.2.2.2.1.heap H locs)
    (hr : va_Run a.2.1 a.1.1 a.2.2.1 a.2.2.2.1 a.2.2.2.2.1 a.2.2.2.2.2.1 a.2.2.2.2.2.2.1 a.2.2.2.2.2.2.2.1 a.2.2.2.2.2.2.2.2.1 a.2.2.2.2.2.2.2.2.2 H locs φ.2.2.1 φ.2.2.2 E.2.2.1 E.2.2.2 (F0 a.2.2.2.2.2.1 pc ls st₀) rest (zQ a.1 E (rv r') σ1 args') (zFree a.1))
    (kk : ∀ (H1 : Heap) (locs1 : List Loc), zP a.1 E.1 E.2.1 σ1 H1 → va_S (zFree a.1) a.2.2.2.2.1.heap H1 locs1 → W a.2.1 a.1.1 a.2.2.1 a.2.2.2.1 a.2.2.2.2.1 a.2.2.2.2.2.1 a.2.2.2.2.2.2.1 a.2.2.2.2.2.2.2.1 a.2.2.2.2.2.2.2.2.1 a.2.2.2.2.2.2.2.2.2 H1 locs1 (φ.2.2.1 + E.2.2.1) (φ.2.2.2 + E.2.2.2) Q (F0 a.2.2.2.2.2.1 (pc + 3) ls ((rv r').toList ++ rest))) :
    W a.2.1 a.1.1 a.2.2.1 a.2.2.2.1 a.2.2.2.2.1 a.2.2.2.2.2.1 a.2.2.2.2.2.2.1 a.2.2.2.2.2.2.2.1 a.2.2.2.2.2.2.2.2.1 a.2.2.2.2.2.2.2.2.2 H locs φ.2.2.1 φ.2.2.2 Q (F0 a.2.2.2.2.2.1 pc ls st₀) := by
  intro T hT X
  obtain ⟨v, s0, t, T', L, h0, X', hL, e1, e2, ⟨hv, hP, hC, hz, hk⟩, step⟩ := hr T hT X
  cases hv
  rw [h0] at hz hk
  obtain ⟨t2, a1, b1⟩ := kk T'.heap (locs ++ L) (by rw [e1]; exact hP) ⟨Nat.le_trans h3.1 (by rw [e1]; exact hz), fun q g1 g2 => by
      rw [e1, hk q (Nat.lt_of_lt_of_le g1 h3.1) g2]; exact h3.2.1 q g1 g2, fun q hq => by
      rcases List.mem_append.mp hq with h | h
      · exact h3.2.2 q h
      · exact hL q h⟩ T' rfl X'
  exact ⟨t2, step t2 a1, b1⟩
theorem zRm_le {d d' maxL' : Nat} {R : Room} (h1 : d ≤ R.frames) (h2 : 100 * d ≤ R.locals) (hd : d' + 1 ≤ d) (hm : maxL' ≤ 81) : d' + 1 ≤ R.frames ∧ 8 + (maxL' + 11) + 100 * d' ≤ R.locals := by omega
theorem z_callV (K : zOK a cc nL own ret d) {q ci : Nat} {fs : List (Nat × Nat)} {vc : vw_C} {As rest : List Value} (hM : zMt a.1 y cc' maxL' ret' d' φ E rv (.ref (a.1.2.2.2 + q) :: As) σ o') (hmv : zMv y cc' maxL' ret' n) (hml : Cond.methodLink own ix y ∈ zT) (hmax : maxL' ≤ 81) (hdd : d' + 1 ≤ d) (hn : As.length = n) (hq : φ.1[q]? = some (.inr (ci, fs))) (hc : vwCl[ci]? = some vc) (hcy : vc.1 = y.cls) (hst : st = As.reverse ++ .ref (a.1.2.2.2 + q) :: rest) (hcat : (rest.map fun v => v.category).sum ≤ 8) (hroom : φ.2.2.1 + E.2.2.1 ≤ a.2.2.2.1.cells ∧ φ.2.2.2 + E.2.2.2 ≤ a.2.2.2.1.slots) (hd : decode cc pc = .ok (.invokevirtual ix, 3))
    (kk : ∀ r σ1, zJ a nL G (E.1, E.2.1, φ.2.2.1 + E.2.2.1, φ.2.2.2 + E.2.2.2) (pc + 3) lv ((rv r).toList ++ rest) σ1 (f r σ1)) : zJ a nL G φ pc lv st σ (bnd o' f) := by
  refine z_bnd (fun r1 σ1 ho1 => ?_)
  intro r σ' ho ls H locs h1 h2 h3
  obtain ⟨hx, hb, hml2, hown, hts, hK, -, -, hf1, hf2, hbs⟩ := K
  obtain ⟨m1, m2, m3, m4, m5, m6, m7⟩ := hmv
  have hrm := zRm_le hf1 hf2 hdd hmax
  subst hst
  refine z_after (rv := rv) (r' := r1) (σ1 := σ1) (E := E) (rest := rest) h1 h3 (va_runV (C := y.cls) (As := As) (rest := rest) ⟨hx, hb, hml2, hown, hts⟩ (hM r1 σ1 ho1) ⟨⟨rfl, rfl, hrm.1, hrm.2, zT_pay hts m4, List.mem_cons_self, hts _ m4, hts _ m3, ⟨m5, m6⟩, fun sig h => ?_, hts _ hml⟩, hts _ m1, hts _ m2⟩ ⟨zP_blind, ?_, fun U hU hW => ⟨rfl, by rw [hU]; exact h2, va_K.moved hW.alike hK, by rw [hU]; exact Nat.le_trans hbs h3.1⟩⟩ rfl hn h1.1 rfl (lv_room hcat) hd hroom) (fun H1 locs1 g1 g2 => kk r1 σ1 r σ' ho ls H1 locs1 h1 g1 g2)
  · rw [h] at m7; exact (Option.some.inj m7).symm
  · have := va_recv hK h2.1 hc (zws_get a.1 σ hq)
    rw [hcy] at this
    exact this
theorem z_callS (K : zOK a cc nL own ret d) {As rest : List Value} (hM : zMt a.1 y cc' maxL' ret' d' φ E rv As σ o') (hms : zMs y cc' maxL' ret' n) (hml : Cond.methodLink own ix y ∈ zT) (hmax : maxL' ≤ 81) (hdd : d' + 1 ≤ d) (hn : As.length = n) (hst : st = As.reverse ++ rest) (hcat : (rest.map fun v => v.category).sum ≤ 8) (hroom : φ.2.2.1 + E.2.2.1 ≤ a.2.2.2.1.cells ∧ φ.2.2.2 + E.2.2.2 ≤ a.2.2.2.1.slots) (hd : decode cc pc = .ok (.invokestatic ix, 3))
    (kk : ∀ r σ1, zJ a nL G (E.1, E.2.1, φ.2.2.1 + E.2.2.1, φ.2.2.2 + E.2.2.2) (pc + 3) lv ((rv r).toList ++ rest) σ1 (f r σ1)) : zJ a nL G φ pc lv st σ (bnd o' f) := by
  refine z_bnd (fun r1 σ1 ho1 => ?_)
  intro r σ' ho ls H locs h1 h2 h3
  obtain ⟨hx, hb, hml2, hown, hts, hK, -, -, hf1, hf2, hbs⟩ := K
  obtain ⟨m2, m3, m4, m5, m6, m7⟩ := hms
  have hrm := zRm_le hf1 hf2 hdd hmax
  subst hst
  refine z_after (rv := rv) (r' := r1) (σ1 := σ1) (E := E) (rest := rest) h1 h3 (va_runS (As := As) (rest := rest) ⟨hx, hb, hml2, hown, hts⟩ (hM r1 σ1 ho1) ⟨⟨rfl, rfl, hrm.1, hrm.2, zT_pay hts m4, List.mem_cons_self, hts _ m4, hts _ m3, ⟨m5, m6⟩, fun sig h => ?_, hts _ hml⟩, hts _ m2⟩ ⟨zP_blind, fun U hU hW => ⟨rfl, by rw [hU]; exact h2, va_K.moved hW.alike hK, by rw [hU]; exact Nat.le_trans hbs h3.1⟩⟩ rfl hn h1.1 rfl (lv_room hcat) hd hroom) (fun H1 locs1 g1 g2 => kk r1 σ1 r σ' ho ls H1 locs1 h1 g1 g2)
  rw [h] at m7; exact (Option.some.inj m7).symm
theorem z_callI (K : zOK a cc nL own ret d) {q : Nat} {As rest : List Value} (hM : zMt a.1 y cc' maxL' none d' φ E rv (.ref (a.1.2.2.2 + q) :: As) σ o') (hmc : zMc y cc' maxL' n) (hml : Cond.methodLink own ix y ∈ zT) (hmax : maxL' ≤ 81) (hdd : d' + 1 ≤ d) (hn : As.length = n) (hst : st = As.reverse ++ .ref (a.1.2.2.2 + q) :: rest) (hcat : (rest.map fun v => v.category).sum ≤ 8) (hroom : φ.2.2.1 + E.2.2.1 ≤ a.2.2.2.1.cells ∧ φ.2.2.2 + E.2.2.2 ≤ a.2.2.2.1.slots) (hd : decode cc pc = .ok (.invokespecial ix, 3))
    (kk : ∀ r σ1, zJ a nL G (E.1, E.2.1, φ.2.2.1 + E.2.2.1, φ.2.2.2 + E.2.2.2) (pc + 3) lv ((rv r).toList ++ rest) σ1 (f r σ1)) : zJ a nL G φ pc lv st σ (bnd o' f) := by
  refine z_bnd (fun r1 σ1 ho1 => ?_)
  intro r σ' ho ls H locs h1 h2 h3
  obtain ⟨hx, hb, hml2, hown, hts, hK, -, -, hf1, hf2, hbs⟩ := K
  obtain ⟨m1, m3, m4, m8, m5, m6, m7⟩ := hmc
  have hrm := zRm_le hf1 hf2 hdd hmax
  subst hst
  refine z_after (rv := rv) (r' := r1) (σ1 := σ1) (E := E) (rest := rest) h1 h3 (va_runI (As := As) (rest := rest) ⟨hx, hb, hml2, hown, hts⟩ (hM r1 σ1 ho1) ⟨⟨rfl, rfl, hrm.1, hrm.2, zT_pay hts m4, List.mem_cons_self, hts _ m4, hts _ m3, ⟨m5, m6⟩, fun sig h => ?_, hts _ hml⟩, m8, hts _ m1⟩ ⟨zP_blind, fun U hU hW => ⟨rfl, by rw [hU]; exact h2, va_K.moved hW.alike hK, by rw [hU]; exact Nat.le_trans hbs h3.1⟩⟩ rfl hn h1.1 rfl (lv_room hcat) hd hroom) (fun H1 locs1 g1 g2 => kk r1 σ1 r σ' ho ls H1 locs1 h1 g1 g2)
  rw [h] at m7; exact (Option.some.inj m7).symm
-- answers
theorem z_hq {rv : ρ → Option Value} {H : Heap} {locs : List Loc} (K : zOK a cc nL own ret d) {r : ρ} (h2 : zP a.1 φ.1 φ.2.1 σ H) (h3 : va_S (zFree a.1) a.2.2.2.2.1.heap H locs) : ∀ t : State, t.heap = H → a.2.2.2.2.1.WarmedH t.vm → zQ a.1 φ (rv r) σ a.2.2.2.2.2.2.1 a.2.2.2.2.1 (.returned (rv r)) t := by
  intro t ht hW
  obtain ⟨hx, hb, -, hown, hts, hK, -⟩ := K
  exact ⟨rfl, by rw [ht]; exact h2, va_K.moved hW.alike hK, h3.F ht⟩
end ZCALL
section ZRET
variable {a : zA} {nL : Nat} {φ : zF} {pc : Nat} {lv : List (Nat × Value)} {σ : zM} {cc : ByteArray} {own : String} {ret : Option FieldType} {d : Nat}
theorem z_iret {r : Int32} (K : zOK a cc nL own (some .int) d) (hd : decode cc pc = .ok (.ireturn, 1)) : zJ a nL (zG a φ zri) φ pc lv [.int r] σ (some (r, σ)) := by
  intro r' σ' ho ls H locs h1 h2 h3
  cases ho
  have hq := z_hq (rv := zri) (r := r) K h2 h3
  obtain ⟨hx, hb, -, hown, hts, hK, hlk, hrt, -⟩ := K
  exact W.iret hx hb hrt hq h3.2.2 hd hlk
theorem z_zret {r : Int32} (hr : r = 0 ∨ r = 1) (K : zOK a cc nL own (some .boolean) d) (hd : decode cc pc = .ok (.ireturn, 1)) : zJ a nL (zG a φ zri) φ pc lv [.int r] σ (some (r, σ)) := by
  intro r' σ' ho ls H locs h1 h2 h3
  cases ho
  have hq := z_hq (rv := zri) (r := r) K h2 h3
  obtain ⟨hx, hb, -, hown, hts, hK, hlk, hrt, -⟩ := K
  exact W.zret hx hb hrt (by rcases hr with rfl | rfl <;> rfl) hq h3.2.2 hd hlk
/-- a truth that isn't written out: tested in the pure text -/
theorem z_zretc {r : Int32} (K : zOK a cc nL own (some .boolean) d) (hd : decode cc pc = .ok (.ireturn, 1)) : zJ a nL (zG a φ zri) φ pc lv [.int r] σ (if r = 0 then some (0, σ) else if r = 1 then some (1, σ) else none) := by
  refine z_ite (fun h => ?_) (fun h0 => z_ite (fun h => ?_) (fun _ => z_none))
  · subst h; exact z_zret (Or.inl rfl) K hd
  · subst h; exact z_zret (Or.inr rfl) K hd
theorem z_lret {r : Int64} (K : zOK a cc nL own (some .long) d) (hd : decode cc pc = .ok (.lreturn, 1)) : zJ a nL (zG a φ zrl) φ pc lv [.long r] σ (some (r, σ)) := by
  intro r' σ' ho ls H locs h1 h2 h3
  cases ho
  have hq := z_hq (rv := zrl) (r := r) K h2 h3
  obtain ⟨hx, hb, -, hown, hts, hK, hlk, hrt, -⟩ := K
  exact W.lret hx hb hrt hq h3.2.2 hd hlk
theorem z_vret (K : zOK a cc nL own none d) (hd : decode cc pc = .ok (.return_, 1)) : zJ a nL (zG a φ zrv) φ pc lv [] σ (some ((), σ)) := by
  intro r' σ' ho ls H locs h1 h2 h3
  cases ho
  have hq := z_hq (rv := zrv) (r := ()) K h2 h3
  obtain ⟨hx, hb, -, hown, hts, hK, hlk, hrt, -⟩ := K
  exact W.vret hx hb hrt hq h3.2.2 hd hlk
theorem z_aret {r : Nat} {C : String} (K : zOK a cc nL own (some (.object C)) d) (hd : decode cc pc = .ok (.areturn, 1)) : zJ a nL (zG a φ (zrr a.1.2.2.2)) φ pc lv [.ref (a.1.2.2.2 + r)] σ (some (r, σ)) := by
  intro r' σ' ho ls H locs h1 h2 h3
  cases ho
  have hq := z_hq (rv := zrr a.1.2.2.2) (r := r) K h2 h3
  obtain ⟨hx, hb, -, hown, hts, hK, hlk, hrt, -⟩ := K
  exact W.aret hx hb hrt (Or.inl ⟨C, rfl⟩) (Or.inr ⟨_, rfl⟩) hq h3.2.2 hd hlk
/-- a contract, out of the method's run -/
theorem zMt_of {ρ : Type} {w : zWd} {y : MethodName} {maxL : Nat} {E : zF} {rv : ρ → Option Value} {av : List Value} {o : Option (ρ × zM)} (hy : plainName y.cls = true) (hav : (lg_sl av).length ≤ maxL) (hcode : Cond.code y cc maxL ret ∈ zT) (lv : List (Nat × Value)) (hlv : lv_args 0 av = lv)
    (h : ∀ a : zA, a.1 = w → (a.2.2.2.2.2.2.2.2.1.name = y.name) → a.2.2.2.1 = zRm d E.2.2.1 E.2.2.2 → zOK a cc maxL y.cls ret d → zJ a maxL (zG a E rv) (φ.1, φ.2.1, 0, 0) 0 lv [] σ o) : zMt w y cc maxL ret d φ E rv av σ o := by
  intro r σ' ho
  refine Met.ofW (cc := cc) (maxL := maxL) (ret := ret) hy rfl ?_
  intro p e s m args below meth c s₁ B hml hv
  obtain ⟨rfl, hP, hC, hbs⟩ := hv
  have hts := atoms_spec (ws := Cond.code y cc maxL ret :: zT) B.pre
  have hown : s.vm.findClass y.cls = some m.cls := findClass_of_methodNamed B.named
  have hlocks := B.notSynchronized
  have hin : meth.name = y.name := (name_of_methodNamed B.named B.method).1
  have hl := lv_entry av hav
  rw [lg_entry_eq]
  generalize (lg_sl av ++ List.replicate (maxL - (lg_sl av).length) Slot.unset).toArray = ls at hl ⊢
  rw [hlv] at hl
  exact h (w, p, e, zRm d E.2.2.1 E.2.2.2, s, m, av.toArray, below, meth, c) rfl hin rfl ⟨B.exec, B.bytes, hml, hown, fun w hw => hts w (List.mem_cons_of_mem _ hw), hC, hlocks, B.returns, Nat.le_refl _, Nat.le_refl _, hbs⟩ r σ' ho ls s.heap [] hl hP va_S.rf
end ZRET
