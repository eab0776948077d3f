/-! ===== the rules of the law's own walk ===== -/
section ZLW
variable {ρ : Type} {a : zA} {nL : Nat} {G : ρ → zM → State → Prop} {φ : zF} {pc : Nat} {lv : List (Nat × Value)} {st : List Value} {σ : zM} {o : Option (ρ × zM)} {cc : ByteArray} {own : String} {ret : Option FieldType} {d : Nat} {y : MethodName} {cc' : ByteArray} {maxL' n ix c sl : Nat} {ret' : Option FieldType}
theorem z_ph {KL KL' : List zK} {x : Nat × Nat} (h : KL = KL') (k : zJ a nL G (KL', false, x) pc lv st σ o) : zJ a nL G (KL, true, x) pc lv st σ o := by
  subst h; exact z_untrk k
theorem z_sld (K : zOK a cc nL own ret d) {bs L : Nat} {xs : Nat → Int32} (hX : va_X bs L xs a.2.2.2.2.1 a.2.2.2.2.1.heap) (hbl : bs < a.2.2.2.2.1.heap.size) (hbA : bs < a.1.2.2.2) {i : Int32} (hd : decode cc pc = .ok (.iaload, 1)) (kk : zJ a nL G φ (pc + 1) lv (.int (xs i.toNatClampNeg) :: st) σ o) : zJ a nL G φ pc lv (.int i :: .ref bs :: st) σ (if zin i L = true then o else none) := by
  refine z_ite (fun hin => ?_) (fun _ => z_none)
  intro r σ' ho ls H locs h1 h2 h3
  obtain ⟨hx, hb, -, hown, hts, hK, -⟩ := K
  exact va_sld hx hb hX hbl (fun h => absurd (show a.1.2.2.2 ≤ bs from h) (by omega)) h3 (zin_vp hin) hd (kk r σ' ho ls H locs h1 h2 h3)
theorem z_slen (K : zOK a cc nL own ret d) {bs L : Nat} {xs : Nat → Int32} (hX : va_X bs L xs a.2.2.2.2.1 a.2.2.2.2.1.heap) (hbl : bs < a.2.2.2.2.1.heap.size) (hbA : bs < a.1.2.2.2) (hd : decode cc pc = .ok (.arraylength, 1)) (kk : zJ a nL G φ (pc + 1) lv (.int (nI L) :: st) σ o) : zJ a nL G φ pc lv (.ref bs :: st) σ o := by
  intro r σ' ho ls H locs h1 h2 h3
  obtain ⟨hx, hb, -, hown, hts, hK, -⟩ := K
  exact va_slen hx hb hX hbl (fun h => absurd (show a.1.2.2.2 ≤ bs from h) (by omega)) h3 hd (kk r σ' ho ls H locs h1 h2 h3)
theorem z_saload_n (K : zOK a cc nL own ret d) {i : Fin 4} {x : Nat} (j : Nat) (hl : lv[j]? = some ((i : Nat), .ref x)) (hd : decode cc pc = .ok (.aload_n i, 1)) (k : zJ a nL G φ (pc + 1) lv (.ref x :: st) σ o) : zJ a nL G φ pc lv st σ o := z_aload_n K j hl hd k
theorem z_lVi {q : Nat} {As rest : List Value} {o' : Option (Int32 × zM)} {f : Int32 → zM → Option (ρ × zM)} (K : zOK a cc nL own ret d) (hR : c ≤ a.2.2.2.1.cells ∧ sl ≤ a.2.2.2.1.slots) (hM : zMt a.1 y cc' maxL' ret' (d - 1) zφN zφN (zri) (.ref (a.1.2.2.2 + q) :: As) σ o') (hmv : zMv y cc' maxL' ret' n) (hml : Cond.methodLink own ix y ∈ zT) (hmax : maxL' ≤ 81) (hdd : 1 ≤ d) (hn : As.length = n) (hq : zRc zKD q y.cls) (hst : st = As.reverse ++ .ref (a.1.2.2.2 + q) :: rest) (hcat : (rest.map fun v => v.category).sum ≤ 8) (hd : decode cc pc = .ok (.invokevirtual ix, 3)) (kk : ∀ r σ1, zJ a nL G (zKD, false, c, sl) (pc + 3) lv (.int r :: rest) σ1 (f r σ1)) : zJ a nL G (zKD, false, c, sl) pc lv st σ (bnd o' f) := by
  obtain ⟨ci, fs, vc, h1, h2, h3⟩ := hq
  exact z_callV (φ := (zKD, false, c, sl)) (E := zφN) K hM hmv hml hmax (by omega) hn h1 h2 h3 hst hcat ⟨hR.1, hR.2⟩ hd kk
theorem z_lVl {q : Nat} {As rest : List Value} {o' : Option (Int64 × zM)} {f : Int64 → zM → Option (ρ × zM)} (K : zOK a cc nL own ret d) (hR : c ≤ a.2.2.2.1.cells ∧ sl ≤ a.2.2.2.1.slots) (hM : zMt a.1 y cc' maxL' ret' (d - 1) zφN zφN (zrl) (.ref (a.1.2.2.2 + q) :: As) σ o') (hmv : zMv y cc' maxL' ret' n) (hml : Cond.methodLink own ix y ∈ zT) (hmax : maxL' ≤ 81) (hdd : 1 ≤ d) (hn : As.length = n) (hq : zRc zKD q y.cls) (hst : st = As.reverse ++ .ref (a.1.2.2.2 + q) :: rest) (hcat : (rest.map fun v => v.category).sum ≤ 8) (hd : decode cc pc = .ok (.invokevirtual ix, 3)) (kk : ∀ r σ1, zJ a nL G (zKD, false, c, sl) (pc + 3) lv (.long r :: rest) σ1 (f r σ1)) : zJ a nL G (zKD, false, c, sl) pc lv st σ (bnd o' f) := by
  obtain ⟨ci, fs, vc, h1, h2, h3⟩ := hq
  exact z_callV (φ := (zKD, false, c, sl)) (E := zφN) K hM hmv hml hmax (by omega) hn h1 h2 h3 hst hcat ⟨hR.1, hR.2⟩ hd kk
end ZLW
theorem ci_6 : Int32.ofInt (6) = (6 : Int32) := by decide
