/-! ===== two tables in one room: table t (0, 1) is 69 cells; the law's own memory holds both, the rows, and two shadows (cells that are in no heap) ===== -/
def zsf (t : Nat) (f : Nat × Nat) : Nat × Nat := match f.1 with
  | 1 => (1, f.2 + 69 * t)
  | 2 => (4, 69 * t)
  | 3 => (3, 2 * f.2 + t)
  | _ => f
def zsh (t : Nat) (q : zK) : zK := match q with
  | .inl x => .inl x
  | .inr x => .inr (x.1, x.2.map (zsf t))
def zsg (t : Nat) : List zK := zKD.map (zsh t)
def zKD2 : List zK := zsg 0 ++ (zsg 1 ++ [.inl (0, 8), .inl (0, 8), .inl (0, 64)])
abbrev zφ2 : zF := (zKD2, false, 0, 0)
/-- table t's memory within the law's -/
def sub (t : Nat) (σ : zM) : zM := (fun k j => σ.1 (if k < 69 then k + 69 * t else 141 + 2 * (k - 69) + t) j, fun x => σ.2 (2 * x + t))
def put (t : Nat) (σ τ : zM) : zM := (fun n j => if 69 * t ≤ n ∧ n < 69 * t + 69 then τ.1 (n - 69 * t) j else if 141 ≤ n ∧ (n - 141) % 2 = t then τ.1 ((n - 141) / 2 + 69) j else σ.1 n j, fun x => if x % 2 = t then τ.2 (x / 2) else σ.2 x)
def inT {α : Type} (t : Nat) (X : zM → Option (α × zM)) (σ : zM) : Option (α × zM) := match X (sub t σ) with
  | none => none
  | some x => some (x.1, put t σ x.2)
/-- the class's call, then its shadow's; the shadow changes no cell of the heap -/
def zmx (s t : zM) : zM := (fun k j => if k < 69 then s.1 k j else t.1 k j, fun x => if x = 0 then s.2 x else t.2 x)
def cal {α β : Type} (X : zM → Option (α × zM)) (M : zM → Option (β × zM)) (s : zM) : Option (α × zM) := bnd (X s) (fun r s1 => bnd (M s1) (fun _ s2 => some (r, zmx s1 s2)))
/-- table t's world -/
def wt (w : zWd) (t : Nat) : zWd := (w.1, w.2.1, (fun i => if i = 3 then 69 else w.2.2.1 i), w.2.2.2 + 69 * t)
def zok1 (q : zK) : Bool := match q with
  | .inl x => x.1 < 3
  | .inr x => x.2.all (fun f => f.1 == 0 || f.1 == 1 || f.1 == 2 || f.1 == 5 || (f.1 == 3 && f.2 == 0))
theorem zKD_ok : zKD.all zok1 = true := by decide +kernel
theorem zKD_len : zKD.length = 69 := by decide +kernel
theorem zfv_ext {b : Nat} {σ σ' : zM} {k : Nat} {f : Nat × Nat} (h1 : ∀ j, σ'.1 k j = σ.1 k j) (h2 : f.1 = 3 → σ'.2 f.2 = σ.2 f.2) (j : Nat) : zfv b σ' k j f = zfv b σ k j f := zfv_same (funext h1) h2
theorem zcell_ext {w : zWd} {σ σ' : zM} {k : Nat} {q : zK} (h1 : ∀ j, σ'.1 k j = σ.1 k j) (h2 : ∀ c fs f, q = .inr (c, fs) → f ∈ fs → f.1 = 3 → σ'.2 f.2 = σ.2 f.2) : zcell w σ' k q = zcell w σ k q := by
  cases q with
  | inl x => simp only [zcell, funext h1]
  | inr x =>
    obtain ⟨c, fs⟩ := x
    show (Sum.inr (c, fs.mapIdx _) : va_E) = Sum.inr (c, fs.mapIdx _)
    congr 2
    apply List.ext_getElem?
    intro i
    rw [List.getElem?_mapIdx, List.getElem?_mapIdx]
    cases hf : fs[i]? with
    | none => exact Eq.refl none
    | some g =>
      have : zfv w.2.2.2 σ' k i g = zfv w.2.2.2 σ k i g := zfv_ext h1 (fun h3 => h2 c fs g rfl (List.mem_of_getElem? hf) h3) i
      simp only [Option.map_some, this]
theorem zok1_of {KL : List zK} (h : KL.all zok1 = true) {k : Nat} {q : zK} (hq : KL[k]? = some q) : zok1 q = true := List.all_eq_true.mp h q (List.mem_of_getElem? hq)
theorem zmx_ws {w : zWd} {s t : zM} : zws w zKD (zmx s t) = zws w zKD s := by
  apply List.ext_getElem?
  intro k
  by_cases hk : k < zKD.length
  · have hq : zKD[k]? = some zKD[k] := List.getElem?_eq_getElem hk
    have hok := zok1_of zKD_ok hq
    rw [zws_get w _ hq, zws_get w _ hq]
    rw [zcell_ext (σ := s) (fun j => if_pos (by rw [zKD_len] at hk; exact hk)) (fun c fs f e hf h3 => ?_)]
    rw [e] at hok
    have := List.all_eq_true.mp hok f hf
    rw [h3] at this
    have h0 : f.2 = 0 := by simpa using this
    rw [h0]; rfl
  · rw [List.getElem?_eq_none (by rw [zws_len]; omega), List.getElem?_eq_none (by rw [zws_len]; omega)]
theorem zMt_cal {ρ β : Type} {w : zWd} {y : MethodName} {cc : ByteArray} {maxL d : Nat} {ret : Option FieldType} {rv : ρ → Option Value} {av : List Value} {s : zM} {X : zM → Option (ρ × zM)} {M : zM → Option (β × zM)} {φ E : zF} (h : zMt w y cc maxL ret d φ E rv av s (X s)) (hE : E.1 = zKD := by rfl) : zMt w y cc maxL ret d φ E rv av s (cal X M s) := by
  intro r σ' ho
  unfold cal at ho
  cases hx : X s with
  | none => rw [hx] at ho; cases ho
  | some x =>
    obtain ⟨r1, s1⟩ := x
    rw [hx] at ho
    simp only [bnd] at ho
    cases hm : M s1 with
    | none => rw [hm] at ho; cases ho
    | some z =>
      obtain ⟨z1, s2⟩ := z
      rw [hm] at ho
      simp only [Option.some.injEq, Prod.mk.injEq] at ho
      obtain ⟨rfl, rfl⟩ := ho
      have h1 := h r1 s1 hx
      have e : zQ w E (rv r1) (zmx s1 s2) = zQ w E (rv r1) s1 := by
        unfold zQ zP
        rw [hE, zmx_ws]
      rw [e]; exact h1
/-- a table's cells lie in the law's room -/
def zTin (KL : List zK) (t : Nat) : Prop := ∀ k q, zKD[k]? = some q → KL[k + 69 * t]? = some (zsh t q)
theorem zfv_0 {b : Nat} {σ : zM} {k j x : Nat} : zfv b σ k j (0, x) = .int (σ.1 k j) := rfl
theorem zfv_1 {b : Nat} {σ : zM} {k j x : Nat} : zfv b σ k j (1, x) = .ref (b + x) := rfl
theorem zfv_2 {b : Nat} {σ : zM} {k j x : Nat} : zfv b σ k j (2, x) = .ref (b + (σ.1 k j).toNatClampNeg) := rfl
theorem zfv_3 {b : Nat} {σ : zM} {k j x : Nat} : zfv b σ k j (3, x) = .long (σ.2 x) := rfl
theorem zfv_4 {b : Nat} {σ : zM} {k j x : Nat} : zfv b σ k j (4, x) = .ref (b + x + (σ.1 k j).toNatClampNeg) := rfl
theorem zfv_5 {b : Nat} {σ : zM} {k j x : Nat} : zfv b σ k j (5, x) = .null := rfl
theorem zsf_0 {t x : Nat} : zsf t (0, x) = (0, x) := rfl
theorem zsf_1 {t x : Nat} : zsf t (1, x) = (1, x + 69 * t) := rfl
theorem zsf_2 {t x : Nat} : zsf t (2, x) = (4, 69 * t) := rfl
theorem zsf_3 {t x : Nat} : zsf t (3, x) = (3, 2 * x + t) := rfl
theorem zsf_5 {t x : Nat} : zsf t (5, x) = (5, x) := rfl
theorem sub_l {t x : Nat} {σ : zM} : (sub t σ).2 x = σ.2 (2 * x + t) := rfl
theorem zsub_cell {w : zWd} {σ : zM} {t k : Nat} {q : zK} (hk : k < 69) (hq : zok1 q = true) : zcell w σ (k + 69 * t) (zsh t q) = zcell (wt w t) (sub t σ) k q := by
  have hr : (sub t σ).1 k = σ.1 (k + 69 * t) := by funext j; show σ.1 (if k < 69 then _ else _) j = _; rw [if_pos hk]
  cases q with
  | inl x =>
    have h3 : x.1 < 3 := by simpa [zok1] using hq
    have e : (wt w t).2.2.1 x.1 = w.2.2.1 x.1 := if_neg (by omega)
    show (Sum.inl (w.2.2.1 x.1, x.2, .inl (σ.1 (k + 69 * t))) : va_E) = Sum.inl ((wt w t).2.2.1 x.1, x.2, .inl ((sub t σ).1 k))
    rw [hr, e]
  | inr x =>
    obtain ⟨c, fs⟩ := x
    show (Sum.inr (c, (fs.map (zsf t)).mapIdx _) : va_E) = Sum.inr (c, fs.mapIdx _)
    congr 2
    apply List.ext_getElem?
    intro i
    rw [List.getElem?_mapIdx, List.getElem?_mapIdx, List.getElem?_map]
    cases hf : fs[i]? with
    | none => exact Eq.refl none
    | some g =>
      have hg := List.all_eq_true.mp hq g (List.mem_of_getElem? hf)
      simp only [Option.map_some, Option.some.injEq]
      obtain ⟨g1, g2⟩ := g
      have hg' : g1 = 0 ∨ g1 = 1 ∨ g1 = 2 ∨ g1 = 5 ∨ (g1 = 3 ∧ g2 = 0) := by simpa [or_assoc] using hg
      have hb : (wt w t).2.2.2 = w.2.2.2 + 69 * t := rfl
      rcases hg' with rfl | rfl | rfl | rfl | ⟨rfl, rfl⟩
      · rw [zsf_0, zfv_0, zfv_0, hr]
      · rw [zsf_1, zfv_1, zfv_1, hb, Nat.add_comm g2, Nat.add_assoc]
      · rw [zsf_2, zfv_4, zfv_2, hb, hr]
      · rw [zsf_5, zfv_5, zfv_5]
      · rw [zsf_3, zfv_3, zfv_3, sub_l]
/-- the law's world gives a table's -/
theorem zP_sub {w : zWd} {KL0 KL : List zK} {σ : zM} {t : Nat} {trk trk' : Bool} {H : Heap} (hl : KL0.length ≤ 69) (hok : KL0.all zok1 = true) (hin : ∀ k q, KL0[k]? = some q → KL[k + 69 * t]? = some (zsh t q)) (htr : trk' = true → H.size = w.2.2.2 + 69 * t + KL0.length) (h : zP w KL trk σ H) : zP (wt w t) KL0 trk' (sub t σ) H := by
  refine ⟨fun k q hq => ?_, fun ht => htr ht, hl⟩
  obtain ⟨x, hx, rfl⟩ := zws_of hq
  have hk := (List.getElem?_eq_some_iff.mp hx).1
  have h1 := h.1 _ _ (zws_get w σ (hin k x hx))
  rw [zsub_cell (by omega) (zok1_of hok hx)] at h1
  have e : w.2.2.2 + (k + 69 * t) = (wt w t).2.2.2 + k := by show _ = w.2.2.2 + 69 * t + k; omega
  rw [e] at h1
  exact h1
def sbx (t k : Nat) : Nat := if k < 69 then k + 69 * t else 141 + 2 * (k - 69) + t
theorem sub_1 {t k j : Nat} {σ : zM} : (sub t σ).1 k j = σ.1 (sbx t k) j := rfl
theorem put_1 {t n j : Nat} {σ τ : zM} : (put t σ τ).1 n j = if 69 * t ≤ n ∧ n < 69 * t + 69 then τ.1 (n - 69 * t) j else if 141 ≤ n ∧ (n - 141) % 2 = t then τ.1 ((n - 141) / 2 + 69) j else σ.1 n j := rfl
theorem put_2 {t x : Nat} {σ τ : zM} : (put t σ τ).2 x = if x % 2 = t then τ.2 (x / 2) else σ.2 x := rfl
theorem sbx_lo {t k : Nat} (h : k < 69) : sbx t k = k + 69 * t := if_pos h
theorem sbx_hi {t k : Nat} (h : ¬ k < 69) : sbx t k = 141 + 2 * (k - 69) + t := if_neg h
theorem sub_put {t : Nat} (ht : t < 2) (σ τ : zM) : sub t (put t σ τ) = τ := by
  refine Prod.ext (funext fun k => funext fun j => ?_) (funext fun x => ?_)
  · rw [sub_1, put_1]
    by_cases hk : k < 69
    · rw [sbx_lo hk, if_pos (by omega), Nat.add_sub_cancel]
    · rw [sbx_hi hk, if_neg (by omega), if_pos (by omega), show (141 + 2 * (k - 69) + t - 141) / 2 + 69 = k by omega]
  · rw [sub_l, put_2, if_pos (by omega), show (2 * x + t) / 2 = x by omega]
theorem sub_put_ne {t u : Nat} (ht : t < 2) (hu : u < 2) (h : t ≠ u) (σ τ : zM) : sub u (put t σ τ) = sub u σ := by
  refine Prod.ext (funext fun k => funext fun j => ?_) (funext fun x => ?_)
  · rw [sub_1, put_1, sub_1]
    by_cases hk : k < 69
    · rw [sbx_lo hk, if_neg (by omega), if_neg (by omega)]
    · rw [sbx_hi hk, if_neg (by omega), if_neg (by omega)]
  · rw [sub_l, put_2, if_neg (by omega), sub_l]
theorem sub_zs {t k j : Nat} {v : Int32} {σ : zM} (ht : t < 2) (h1 : 138 ≤ k) (h2 : k < 141) : sub t (zs σ k j v) = sub t σ := by
  refine Prod.ext (funext fun a => funext fun b => ?_) rfl
  rw [sub_1, sub_1]
  show (if sbx t a = k then _ else _) = _
  rw [if_neg]
  by_cases ha : a < 69
  · rw [sbx_lo ha]; omega
  · rw [sbx_hi ha]; omega
theorem zg_put {t k j : Nat} {σ τ : zM} (ht : t < 2) (h1 : 138 ≤ k) (h2 : k < 141) : zg (put t σ τ) k j = zg σ k j := by
  show (if 69 * t ≤ k ∧ k < 69 * t + 69 then _ else if 141 ≤ k ∧ (k - 141) % 2 = t then _ else _) = _
  rw [if_neg (by omega), if_neg (by omega)]
  rfl
/-- what isn't the table's stays -/
def zOut (KL KL' : List zK) (t : Nat) : Prop := ∀ n q, ¬ (69 * t ≤ n ∧ n < 69 * t + 69) → KL'[n]? = some q → n < 141 ∧ KL[n]? = some q ∧ ∀ c fs f, q = .inr (c, fs) → f ∈ fs → f.1 = 3 → ¬ f.2 % 2 = t
theorem zP_put {w : zWd} {KL KL' : List zK} {σ τ : zM} {t : Nat} {trk trk' trk1 : Bool} {H H1 : Heap} (hin : zTin KL' t) (hout : zOut KL KL' t) (hl : KL'.length ≤ w.2.2.1 3) (hlen : trk' = true → trk1 = true ∧ KL'.length = 69 * t + 69) (h : zP w KL trk σ H) (h1 : zP (wt w t) zKD trk1 τ H1) (oq : ∀ q, q < H.size → ¬ zFree (wt w t) q → H1[q]? = H[q]?) (ht2 : t < 2) : zP w KL' trk' (put t σ τ) H1 := by
  refine ⟨fun n q hq => ?_, fun ht => ?_, hl⟩
  · obtain ⟨x, hx, rfl⟩ := zws_of hq
    by_cases hn : 69 * t ≤ n ∧ n < 69 * t + 69
    · have hk : n - 69 * t < zKD.length := by rw [zKD_len]; omega
      have hz : zKD[n - 69 * t]? = some zKD[n - 69 * t] := List.getElem?_eq_getElem hk
      have h2 := hin _ _ hz
      have en : n - 69 * t + 69 * t = n := by omega
      rw [en, hx] at h2
      cases h2
      have h3 := h1.1 _ _ (zws_get (wt w t) τ hz)
      have h4 := zsub_cell (w := w) (σ := put t σ τ) (t := t) (k := n - 69 * t) (by omega) (zok1_of zKD_ok hz)
      rw [en, sub_put ht2] at h4
      rw [h4]
      have e : (wt w t).2.2.2 + (n - 69 * t) = w.2.2.2 + n := by show w.2.2.2 + 69 * t + (n - 69 * t) = _; omega
      rw [e] at h3
      exact h3
    · obtain ⟨g0, g1, g2⟩ := hout n x hn hx
      have h3 := h.1 _ _ (zws_get w σ g1)
      rw [zcell_ext (σ := σ) (σ' := put t σ τ) (fun j => ?_) (fun c fs f e hf hf3 => ?_)]
      · refine h3.kept (oq _ h3.lt ?_)
        rintro ⟨a1, a2⟩
        have a1' : w.2.2.2 + 69 * t ≤ w.2.2.2 + n := a1
        have a2' : w.2.2.2 + n < w.2.2.2 + 69 * t + 69 := a2
        exact hn ⟨by omega, by omega⟩
      · show (if 69 * t ≤ n ∧ n < 69 * t + 69 then _ else if 141 ≤ n ∧ (n - 141) % 2 = t then _ else _) = _
        rw [if_neg hn, if_neg (by omega)]
      · show (if f.2 % 2 = t then _ else _) = _
        rw [if_neg (g2 c fs f e hf hf3)]
  · obtain ⟨e1, e2⟩ := hlen ht
    rw [h1.2.1 e1, zKD_len, e2]
    show w.2.2.2 + 69 * t + 69 = _
    omega
def zoutb (KL KL' : List zK) (t : Nat) : Bool := KL'.length ≤ 141 && KL'.zipIdx.all (fun p => (decide (69 * t ≤ p.2) && decide (p.2 < 69 * t + 69)) || (decide (KL[p.2]? = some p.1) && (match p.1 with | .inl _ => true | .inr x => x.2.all (fun f => !(f.1 == 3) || !(f.2 % 2 == t)))))
theorem zOut_of {KL KL' : List zK} {t : Nat} (h : zoutb KL KL' t = true) : zOut KL KL' t := by
  intro n q hn hq
  unfold zoutb at h
  rw [Bool.and_eq_true] at h
  have hl := (List.getElem?_eq_some_iff.mp hq).1
  have h1 : KL'.length ≤ 141 := by simpa using h.1
  have hm : (q, n) ∈ KL'.zipIdx := List.mem_zipIdx_iff_getElem?.mpr hq
  have h2 := List.all_eq_true.mp h.2 _ hm
  have h3 : (decide (69 * t ≤ n) && decide (n < 69 * t + 69)) = false := by
    rw [Bool.and_eq_false_iff]
    simp only [decide_eq_false_iff_not]
    omega
  simp only [h3, Bool.false_or, Bool.and_eq_true, decide_eq_true_eq] at h2
  refine ⟨by omega, h2.1, fun c fs f e hf hf3 => ?_⟩
  have h4 := h2.2
  rw [e] at h4
  have h5 := List.all_eq_true.mp h4 f hf
  rw [hf3] at h5
  simpa using h5
def ztinb (KL : List zK) (t : Nat) : Bool := zKD.zipIdx.all (fun p => decide (KL[p.2 + 69 * t]? = some (zsh t p.1)))
theorem zTin_of {KL : List zK} {t : Nat} (h : ztinb KL t = true) : zTin KL t := by
  intro k q hq
  have hm : (q, k) ∈ zKD.zipIdx := List.mem_zipIdx_iff_getElem?.mpr hq
  simpa using List.all_eq_true.mp h _ hm
theorem tin_0 : zTin zKD2 0 := zTin_of (by decide +kernel)
theorem tin_1 : zTin zKD2 1 := zTin_of (by decide +kernel)
theorem tin_00 : zTin (zsg 0) 0 := zTin_of (by decide +kernel)
theorem tin_11 : zTin (zsg 0 ++ zsg 1) 1 := zTin_of (by decide +kernel)
theorem out_0 : zOut zKD2 zKD2 0 := zOut_of (by decide +kernel)
theorem out_1 : zOut zKD2 zKD2 1 := zOut_of (by decide +kernel)
theorem tin_t {t : Nat} (h : t < 2) : zTin zKD2 t := by
  have : t = 0 ∨ t = 1 := by omega
  rcases this with rfl | rfl
  · exact tin_0
  · exact tin_1
theorem out_t {t : Nat} (h : t < 2) : zOut zKD2 zKD2 t := by
  have : t = 0 ∨ t = 1 := by omega
  rcases this with rfl | rfl
  · exact out_0
  · exact out_1
theorem zKD2_len : zKD2.length = 141 := by decide +kernel
theorem ar_138 : zKD2[138]? = some (.inl (0, 8)) := by decide +kernel
theorem ar_139 : zKD2[139]? = some (.inl (0, 8)) := by decide +kernel
theorem ar_140 : zKD2[140]? = some (.inl (0, 64)) := by decide +kernel
theorem zC_wt {w : zWd} {t : Nat} {U : State} (h : zC w U) : zC (wt w t) U := h
section ZLT
variable {ρ ρ' : Type} {a : zA} {nL : Nat} {G : ρ → zM → State → Prop} {pc : Nat} {lv : List (Nat × Value)} {st : List Value} {σ : zM} {o : Option (ρ × zM)} {cc : ByteArray} {own : String} {ret : Option FieldType} {d : Nat}
  {y : MethodName} {cc' : ByteArray} {maxL' n ix c sl t : Nat} {ret' : Option FieldType} {rv : ρ' → Option Value} {f : ρ' → zM → Option (ρ × zM)}
/-- behind a table's call: the law's world -/
theorem z_afterT {φ E' : zF} {KL' : List zK} {trk' : Bool} {st₀ rest : List Value} {r' : ρ'} {τ : zM} {H : Heap} {locs : List Loc} {ls : Array Slot} {args' : Array Value} {Q : State → Prop} (ht : t < 2) (hB : (141 : Nat) ≤ a.1.2.2.1 3) (h1 : lv_has ls nL lv) (h2 : zP a.1 φ.1 φ.2.1 σ H) (h3 : va_S (zFree a.1) a.2.2.2.2.1.heap H locs) (hE : E'.1 = zKD) (hin : zTin KL' t) (hout : zOut φ.1 KL' t) (hl : KL'.length ≤ a.1.2.2.1 3) (hlen : trk' = true → E'.2.1 = true ∧ KL'.length = 69 * t + 69)
    (hr : va_Run a.2.1 a.1.1 a.2.2.1 a.2.2.2.1 a.2.2.2.2.1 a.2.2.2.2.2.1 a.2.2.2.2.2.2.1 a.2.2.2.2.2.2.2.1 a.2.2.2.2.2.2.2.2.1 a.2.2.2.2.2.2.2.2.2 H locs φ.2.2.1 φ.2.2.2 E'.2.2.1 E'.2.2.2 (F0 a.2.2.2.2.2.1 pc ls st₀) rest (zQ (wt a.1 t) E' (rv r') τ args') (zFree (wt a.1 t)))
    (kk : ∀ (H1 : Heap) (locs1 : List Loc), zP a.1 KL' trk' (put t σ τ) H1 → va_S (zFree a.1) a.2.2.2.2.1.heap H1 locs1 → W a.2.1 a.1.1 a.2.2.1 a.2.2.2.1 a.2.2.2.2.1 a.2.2.2.2.2.1 a.2.2.2.2.2.2.1 a.2.2.2.2.2.2.2.1 a.2.2.2.2.2.2.2.2.1 a.2.2.2.2.2.2.2.2.2 H1 locs1 (φ.2.2.1 + E'.2.2.1) (φ.2.2.2 + E'.2.2.2) Q (F0 a.2.2.2.2.2.1 (pc + 3) ls ((rv r').toList ++ rest))) :
    W a.2.1 a.1.1 a.2.2.1 a.2.2.2.1 a.2.2.2.2.1 a.2.2.2.2.2.1 a.2.2.2.2.2.2.1 a.2.2.2.2.2.2.2.1 a.2.2.2.2.2.2.2.2.1 a.2.2.2.2.2.2.2.2.2 H locs φ.2.2.1 φ.2.2.2 Q (F0 a.2.2.2.2.2.1 pc ls st₀) := by
  intro T hT X
  obtain ⟨v, s0, u, T', L, h0, X', hL, e1, e2, ⟨hv, hP, hC, hz, hk⟩, step⟩ := hr T hT X
  cases hv
  rw [h0] at hz hk
  have hfr : ∀ q, zFree (wt a.1 t) q → zFree a.1 q := by
    rintro q ⟨a1, a2⟩
    have a1' : a.1.2.2.2 + 69 * t ≤ q := a1
    have a2' : q < a.1.2.2.2 + 69 * t + 69 := a2
    exact ⟨by omega, by omega⟩
  have hP' : zP a.1 KL' trk' (put t σ τ) u.heap := zP_put hin hout hl hlen h2 (by have := hP; rw [hE] at this; exact this) (fun q g1 g2 => hk q g1 g2) ht
  obtain ⟨t2, a1, b1⟩ := kk T'.heap (locs ++ L) (by rw [e1]; exact hP') ⟨Nat.le_trans h3.1 (by rw [e1]; exact hz), fun q g1 g2 => by
      rw [e1, hk q (Nat.lt_of_lt_of_le g1 h3.1) (fun w => g2 (hfr q w))]; exact h3.2.1 q g1 g2, fun q hq => by
      rcases List.mem_append.mp hq with h | h
      · exact h3.2.2 q h
      · exact hfr _ (hL q h)⟩ T' rfl X'
  exact ⟨t2, step t2 a1, b1⟩
theorem inT_bnd {X : zM → Option (ρ' × zM)} (h : ∀ r τ, X (sub t σ) = some (r, τ) → zJ a nL G (zKD2, false, c, sl) pc lv st σ (f r (put t σ τ))) : zJ a nL G (zKD2, false, c, sl) pc lv st σ (bnd (inT t X σ) f) := by
  unfold inT
  cases hx : X (sub t σ) with
  | none => exact z_none
  | some x => exact h x.1 x.2 hx
theorem zwt_size {H : Heap} (ht : t < 2) (h2 : zP a.1 zKD2 false σ H) : (wt a.1 t).2.2.2 ≤ H.size := by
  have h := h2.1 _ _ (zws_get a.1 σ ar_140)
  have := h.lt
  have e : (a.1.2.2.2 + 140, zcell a.1 σ 140 (.inl (0, 64))).1 = a.1.2.2.2 + 140 := rfl
  rw [e] at this
  show a.1.2.2.2 + 69 * t ≤ H.size
  omega
theorem z_sub2 {H : Heap} (ht : t < 2) (h2 : zP a.1 zKD2 false σ H) : zP (wt a.1 t) zKD false (sub t σ) H := zP_sub (by rw [zKD_len]; omega) zKD_ok (tin_t ht) (fun h => by cases h) h2
theorem z_cTV {X : zM → Option (ρ' × zM)} {As rest : List Value} (ht : t < 2) (hB : (141 : Nat) ≤ a.1.2.2.1 3) (K : zOK a cc nL own ret d) (hR : c ≤ a.2.2.2.1.cells ∧ sl ≤ a.2.2.2.1.slots) (hM : zMt (wt a.1 t) y cc' maxL' ret' (d - 1) zφN zφN rv (.ref ((wt a.1 t).2.2.2 + 0) :: As) (sub t σ) (X (sub t σ))) (hmv : zMv y cc' maxL' ret' n) (hml : Cond.methodLink own ix y ∈ zT) (hmax : maxL' ≤ 81) (hdd : 1 ≤ d) (hn : As.length = n) (hcy : y.cls = RX11) (hst : st = As.reverse ++ .ref (a.1.2.2.2 + 69 * t) :: rest) (hcat : (rest.map fun v => v.category).sum ≤ 8) (hd : decode cc pc = .ok (.invokevirtual ix, 3))
    (kk : ∀ r σ1, zJ a nL G (zKD2, false, c, sl) (pc + 3) lv ((rv r).toList ++ rest) σ1 (f r σ1)) : zJ a nL G (zKD2, false, c, sl) pc lv st σ (bnd (inT t X σ) f) := by
  refine inT_bnd (fun r1 τ ho1 => ?_)
  intro r σ' ho ls H locs h1 h2 h3
  obtain ⟨hx, hb, hml2, hown, hts, hK, -, -, hf1, hf2, hbs⟩ := K
  obtain ⟨m1, m2, m3, m4, m5, m6, m7⟩ := hmv
  have hrm := zRm_le (d' := d - 1) hf1 hf2 (by omega) hmax
  subst hst
  have hsub := z_sub2 ht h2
  have hq0 : zKD[0]? = some (.inr (10, zfs_0)) := rfl
  refine z_afterT (rv := rv) (r' := r1) (τ := τ) (φ := (zKD2, false, c, sl)) (E' := zφN) (KL' := zKD2) (trk' := false) (rest := rest) ht hB h1 h2 h3 rfl (tin_t ht) (out_t ht) (by rw [zKD2_len]; exact hB) (fun h => by cases h) (va_runV (C := y.cls) (As := As) (b := (wt a.1 t).2.2.2 + 0) (rest := rest) ⟨hx, hb, hml2, hown, hts⟩ (hM r1 τ ho1) ⟨⟨rfl, rfl, hrm.1, hrm.2, zT_pay hts m4, List.mem_cons_self, hts _ m4, hts _ m3, ⟨m5, m6⟩, fun sig h => ?_, hts _ hml⟩, hts _ m1, hts _ m2⟩ ⟨zP_blind, ?_, fun U hU hW => ⟨rfl, by rw [hU]; exact hsub, zC_wt (va_K.moved hW.alike hK), by rw [hU]; exact zwt_size ht h2⟩⟩ rfl hn h1.1 rfl (lv_room hcat) hd ⟨by show c + 0 ≤ _; exact hR.1, by show sl + 0 ≤ _; exact hR.2⟩) (fun H1 locs1 g1 g2 => kk r1 (put t σ τ) r σ' ho ls H1 locs1 h1 g1 g2)
  · rw [h] at m7; exact (Option.some.inj m7).symm
  · have := va_recv (D := (wt a.1 t).2.1) (tys := ztys (wt a.1 t)) (zC_wt hK) hsub.1 (show vwCl[10]? = some _ from rfl) (zws_get (wt a.1 t) (sub t σ) hq0)
    rw [hcy]
    exact this
theorem z_cTS {X : zM → Option (ρ' × zM)} {As rest : List Value} (ht : t < 2) (hB : (141 : Nat) ≤ a.1.2.2.1 3) (K : zOK a cc nL own ret d) (hR : c ≤ a.2.2.2.1.cells ∧ sl ≤ a.2.2.2.1.slots) (hM : zMt (wt a.1 t) y cc' maxL' ret' (d - 1) zφN zφN rv As (sub t σ) (X (sub t σ))) (hms : zMs y cc' maxL' ret' n) (hml : Cond.methodLink own ix y ∈ zT) (hmax : maxL' ≤ 81) (hdd : 1 ≤ d) (hn : As.length = n) (hst : st = As.reverse ++ rest) (hcat : (rest.map fun v => v.category).sum ≤ 8) (hd : decode cc pc = .ok (.invokestatic ix, 3))
    (kk : ∀ r σ1, zJ a nL G (zKD2, false, c, sl) (pc + 3) lv ((rv r).toList ++ rest) σ1 (f r σ1)) : zJ a nL G (zKD2, false, c, sl) pc lv st σ (bnd (inT t X σ) f) := by
  refine inT_bnd (fun r1 τ ho1 => ?_)
  intro r σ' ho ls H locs h1 h2 h3
  obtain ⟨hx, hb, hml2, hown, hts, hK, -, -, hf1, hf2, hbs⟩ := K
  obtain ⟨m2, m3, m4, m5, m6, m7⟩ := hms
  have hrm := zRm_le (d' := d - 1) hf1 hf2 (by omega) hmax
  subst hst
  have hsub := z_sub2 ht h2
  refine z_afterT (rv := rv) (r' := r1) (τ := τ) (φ := (zKD2, false, c, sl)) (E' := zφN) (KL' := zKD2) (trk' := false) (rest := rest) ht hB h1 h2 h3 rfl (tin_t ht) (out_t ht) (by rw [zKD2_len]; exact hB) (fun h => by cases h) (va_runS (As := As) (rest := rest) ⟨hx, hb, hml2, hown, hts⟩ (hM r1 τ ho1) ⟨⟨rfl, rfl, hrm.1, hrm.2, zT_pay hts m4, List.mem_cons_self, hts _ m4, hts _ m3, ⟨m5, m6⟩, fun sig h => ?_, hts _ hml⟩, hts _ m2⟩ ⟨zP_blind, fun U hU hW => ⟨rfl, by rw [hU]; exact hsub, zC_wt (va_K.moved hW.alike hK), by rw [hU]; exact zwt_size ht h2⟩⟩ rfl hn h1.1 rfl (lv_room hcat) hd ⟨by show c + 0 ≤ _; exact hR.1, by show sl + 0 ≤ _; exact hR.2⟩) (fun H1 locs1 g1 g2 => kk r1 (put t σ τ) r σ' ho ls H1 locs1 h1 g1 g2)
  rw [h] at m7; exact (Option.some.inj m7).symm
/-- a table is made: its constructor, over the cell that is there -/
theorem z_cTI {KL0 KL1 : List zK} {mc ms : Nat} {X : zM → Option (Unit × zM)} {f : Unit → zM → Option (ρ × zM)} {rst : List Value} {obn : zK} (ht : t < 2) (hB : (141 : Nat) ≤ a.1.2.2.1 3) (K : zOK a cc nL own ret d) (hob : zok1 obn = true) (hKL0 : KL0[69 * t]? = some (zsh t obn)) (hlen0 : KL0.length = 69 * t + 1) (hin : zTin KL1 t) (hout : zOut KL0 KL1 t) (hlen1 : KL1.length = 69 * t + 69) (hM : zMt (wt a.1 t) y cc' maxL' none (d - 1) ([obn], true, 0, 0) (zKD, true, mc, ms) zrv [.ref ((wt a.1 t).2.2.2 + 0)] (sub t σ) (X (sub t σ))) (hmc : zMc y cc' maxL' 0) (hml : Cond.methodLink own ix y ∈ zT) (hmax : maxL' ≤ 81) (hdd : 1 ≤ d) (hst : st = .ref (a.1.2.2.2 + 69 * t) :: rst) (hcat : (rst.map fun v => v.category).sum ≤ 8) (hR : c + mc ≤ a.2.2.2.1.cells ∧ sl + ms ≤ a.2.2.2.1.slots) (hd : decode cc pc = .ok (.invokespecial ix, 3))
    (kk : ∀ σ1, zJ a nL G (KL1, true, c + mc, sl + ms) (pc + 3) lv rst σ1 (f () σ1)) : zJ a nL G (KL0, true, c, sl) pc lv st σ (bnd (inT t X σ) f) := by
  unfold inT
  cases hx0 : X (sub t σ) with
  | none => exact z_none
  | some x =>
  obtain ⟨r1, τ⟩ := x
  show zJ a nL G (KL0, true, c, sl) pc lv st σ (f r1 (put t σ τ))
  intro r σ' ho ls H locs h1 h2 h3
  obtain ⟨hx, hb, hml2, hown, hts, hK, -, -, hf1, hf2, hbs⟩ := K
  obtain ⟨m1, m3, m4, m8, m5, m6, m7⟩ := hmc
  have hrm := zRm_le (d' := d - 1) hf1 hf2 (by omega) hmax
  subst hst
  have hsz : H.size = a.1.2.2.2 + (69 * t + 1) := by rw [← hlen0]; exact h2.2.1 rfl
  have hsub : zP (wt a.1 t) [obn] true (sub t σ) H := zP_sub (by show 1 ≤ 69; omega) (by simp [hob]) (fun k q hq => by
    have hk : k = 0 := by have := (List.getElem?_eq_some_iff.mp hq).1; simp at this; omega
    subst hk
    cases hq
    rw [Nat.zero_add]; exact hKL0) (fun _ => by rw [hsz]; simp; omega) h2
  refine z_afterT (rv := zrv) (r' := r1) (τ := τ) (φ := (KL0, true, c, sl)) (E' := (zKD, true, mc, ms)) (KL' := KL1) (trk' := true) (rest := rst) ht hB h1 h2 h3 rfl hin hout (by rw [hlen1]; omega) (fun _ => ⟨rfl, hlen1⟩) (va_runI (As := []) (rest := rst) ⟨hx, hb, hml2, hown, hts⟩ (hM r1 τ hx0) ⟨⟨rfl, rfl, hrm.1, hrm.2, zT_pay hts m4, List.mem_cons_self, hts _ m4, hts _ m3, ⟨m5, m6⟩, fun sig h => ?_, hts _ hml⟩, m8, hts _ m1⟩ ⟨zP_blind, fun U hU hW => ⟨rfl, by rw [hU]; exact hsub, zC_wt (va_K.moved hW.alike hK), by rw [hU, hsz]; show a.1.2.2.2 + 69 * t ≤ _; omega⟩⟩ rfl rfl h1.1 rfl (lv_room hcat) hd ⟨hR.1, hR.2⟩) (fun H1 locs1 g1 g2 => kk (put t σ τ) r σ' ho ls H1 locs1 h1 g1 g2)
  rw [h] at m7; exact (Option.some.inj m7).symm
end ZLT
/-! ===== the methods of the law itself: contracts over both tables, and the script ===== -/
def zMtX {ρ : Type} (bs L : Nat) (xs : Nat → Int32) (w : zWd) (y : MethodName) (cc : ByteArray) (maxL : Nat) (ret : Option FieldType) (d : Nat) (φ E : zF) (rv : ρ → Option Value) (av : List Value) (σ : zM) (o : Option (ρ × zM)) : Prop :=
  ∀ (r : ρ) (σ' : zM), o = some (r, σ') → Met w.1 y (Cond.code y cc maxL ret :: zT) (zRm d E.2.2.1 E.2.2.2) (va_Pc av (fun U => (zP w φ.1 φ.2.1 σ U.heap ∧ zC w U ∧ w.2.2.2 ≤ U.heap.size) ∧ va_X bs L xs U U.heap ∧ bs < w.2.2.2)) (zQ w E (rv r) σ') E.2.2.1 E.2.2.2 (zFree w)
theorem va_X_calling {bs L : Nat} {xs : Nat → Int32} {U U' : State} (hvm : U.vm.Alike U'.vm) (hh : U'.heap = U.heap) (h : va_X bs L xs U U.heap) : va_X bs L xs U' U'.heap := by
  rw [hh]; exact va_X.moved hvm h
theorem zMtX_of {ρ : Type} {bs L : Nat} {xs : Nat → Int32} {w : zWd} {y : MethodName} {cc : ByteArray} {maxL d : Nat} {ret : Option FieldType} {φ E : zF} {rv : ρ → Option Value} {av : List Value} {σ : zM} {o : Option (ρ × zM)} {own : String} (hcls : y.cls = own) (hy : plainName y.cls = true) (hav : (lg_sl av).length ≤ maxL) (hcode : Cond.code y cc maxL ret ∈ zT) (lv : List (Nat × Value)) (hlv : lv_args 0 av = lv)
    (h : ∀ a : zA, a.1 = w → zOK a cc maxL own ret d → va_X bs L xs a.2.2.2.2.1 a.2.2.2.2.1.heap → bs < a.2.2.2.2.1.heap.size → bs < a.1.2.2.2 → zJ a maxL (zG a E rv) (φ.1, φ.2.1, 0, 0) 0 lv [] σ o) : zMtX bs L xs w y cc maxL ret d φ E rv av σ o := by
  subst hcls
  intro r σ' ho
  refine Met.ofW (cc := cc) (maxL := maxL) (ret := ret) hy rfl ?_
  intro p e s m args below meth c s₁ B hml hv
  obtain ⟨rfl, ⟨hP, hC, hbs⟩, hX, hbw⟩ := hv
  have hts := atoms_spec (ws := Cond.code y cc maxL ret :: zT) B.pre
  have hown : s.vm.findClass y.cls = some m.cls := findClass_of_methodNamed B.named
  have hlocks := B.notSynchronized
  have hl := lv_entry av hav
  rw [lg_entry_eq]
  generalize (lg_sl av ++ List.replicate (maxL - (lg_sl av).length) Slot.unset).toArray = ls at hl ⊢
  rw [hlv] at hl
  exact h (w, p, e, zRm d E.2.2.1 E.2.2.2, s, m, av.toArray, below, meth, c) rfl ⟨B.exec, B.bytes, hml, hown, fun w hw => hts w (List.mem_cons_of_mem _ hw), hC, hlocks, B.returns, Nat.le_refl _, Nat.le_refl _, hbs⟩ hX (Nat.lt_of_lt_of_le hbw hbs) hbw r σ' ho ls s.heap [] hl hP va_S.rf
section ZLX
variable {ρ ρ' : Type} {a : zA} {nL : Nat} {G : ρ → zM → State → Prop} {pc : Nat} {lv : List (Nat × Value)} {st : List Value} {σ : zM} {o : Option (ρ × zM)} {cc : ByteArray} {own : String} {ret : Option FieldType} {d : Nat}
  {y : MethodName} {cc' : ByteArray} {maxL' n ix c sl bs L : Nat} {xs : Nat → Int32} {ret' : Option FieldType} {rv : ρ' → Option Value} {o' : Option (ρ' × zM)} {f : ρ' → zM → Option (ρ × zM)}
theorem zPX_blind {w : zWd} {av : List Value} {KL : List zK} {trk : Bool} {σ : zM} : FrameBlind (va_Pc av (fun U => (zP w KL trk σ U.heap ∧ zC w U ∧ w.2.2.2 ≤ U.heap.size) ∧ va_X bs L xs U U.heap ∧ bs < w.2.2.2)) := fun a U g mk q => ⟨q.1, ⟨q.2.1.1, va_K.moved (u := U) (U := U.calling g mk a) (Vm.Alike.refl U.vm) q.2.1.2.1, q.2.1.2.2⟩, va_X.moved (u := U) (U := U.calling g mk a) (Vm.Alike.refl U.vm) q.2.2.1, q.2.2.2⟩
/-- a method of the law's own, over both tables and the script -/
theorem z_cX {As rest : List Value} (K : zOK a cc nL own ret d) (hR : c ≤ a.2.2.2.1.cells ∧ sl ≤ a.2.2.2.1.slots) (hX : va_X bs L xs a.2.2.2.2.1 a.2.2.2.2.1.heap) (hbl : bs < a.2.2.2.2.1.heap.size) (hbA : bs < a.1.2.2.2) (hM : zMtX bs L xs a.1 y cc' maxL' ret' (d - 1) zφ2 zφ2 rv As σ o') (hms : zMs y cc' maxL' ret' n) (hml : Cond.methodLink own ix y ∈ zT) (hmax : maxL' ≤ 81) (hdd : 1 ≤ d) (hn : As.length = n) (hst : st = As.reverse ++ rest) (hcat : (rest.map fun v => v.category).sum ≤ 8) (hd : decode cc pc = .ok (.invokestatic ix, 3))
    (kk : ∀ r σ1, zJ a nL G (zKD2, false, c, sl) (pc + 3) lv ((rv r).toList ++ rest) σ1 (f r σ1)) : zJ a nL G (zKD2, false, c, sl) pc lv st σ (bnd o' f) := by
  refine z_bnd (fun r1 σ1 ho1 => ?_)
  intro r σ' ho ls H locs h1 h2 h3
  obtain ⟨hx, hb, hml2, hown, hts, hK, -, -, hf1, hf2, hbs⟩ := K
  obtain ⟨m2, m3, m4, m5, m6, m7⟩ := hms
  have hrm := zRm_le (d' := d - 1) hf1 hf2 (by omega) hmax
  subst hst
  have hXH : va_X bs L xs a.2.2.2.2.1 H := hX.kept (h3.2.1 bs hbl (fun w => absurd w.1 (by omega)))
  refine z_after (φ := (zKD2, false, c, sl)) (rv := rv) (r' := r1) (σ1 := σ1) (E := zφ2) (rest := rest) h1 h3 (va_runS (As := As) (rest := rest) ⟨hx, hb, hml2, hown, hts⟩ (hM r1 σ1 ho1) ⟨⟨rfl, rfl, hrm.1, hrm.2, zT_pay hts m4, List.mem_cons_self, hts _ m4, hts _ m3, ⟨m5, m6⟩, fun sig h => ?_, hts _ hml⟩, hts _ m2⟩ ⟨zPX_blind, fun U hU hW => ⟨rfl, ⟨by rw [hU]; exact h2, va_K.moved hW.alike hK, by rw [hU]; exact Nat.le_trans hbs h3.1⟩, by rw [hU]; exact va_X.moved hW.alike hXH, hbA⟩⟩ rfl hn h1.1 rfl (lv_room hcat) hd ⟨by show c + 0 ≤ _; exact hR.1, by show sl + 0 ≤ _; exact hR.2⟩) (fun H1 locs1 g1 g2 => kk r1 σ1 r σ' ho ls H1 locs1 h1 g1 g2)
  rw [h] at m7; exact (Option.some.inj m7).symm
theorem z_ph {KL KL' : List zK} {x : Nat × Nat} (h : KL = KL') (k : zJ a nL G (KL', false, x) pc lv st σ o) : zJ a nL G (KL, true, x) pc lv st σ o := by
  subst h; exact z_untrk k
theorem z_sld {φ : zF} (K : zOK a cc nL own ret d) (hX : va_X bs L xs a.2.2.2.2.1 a.2.2.2.2.1.heap) (hbl : bs < a.2.2.2.2.1.heap.size) (hbA : bs < a.1.2.2.2) {i : Int32} (hd : decode cc pc = .ok (.iaload, 1)) (kk : zJ a nL G φ (pc + 1) lv (.int (xs i.toNatClampNeg) :: st) σ o) : zJ a nL G φ pc lv (.int i :: .ref bs :: st) σ (if zin i L = true then o else none) := by
  refine z_ite (fun hin => ?_) (fun _ => z_none)
  intro r σ' ho ls H locs h1 h2 h3
  obtain ⟨hx, hb, -, hown, hts, hK, -⟩ := K
  exact va_sld hx hb hX hbl (fun h => absurd (show a.1.2.2.2 ≤ bs from h.1) (by omega)) h3 (zin_vp hin) hd (kk r σ' ho ls H locs h1 h2 h3)
theorem z_slen {φ : zF} (K : zOK a cc nL own ret d) (hX : va_X bs L xs a.2.2.2.2.1 a.2.2.2.2.1.heap) (hbl : bs < a.2.2.2.2.1.heap.size) (hbA : bs < a.1.2.2.2) (hd : decode cc pc = .ok (.arraylength, 1)) (kk : zJ a nL G φ (pc + 1) lv (.int (nI L) :: st) σ o) : zJ a nL G φ pc lv (.ref bs :: st) σ o := by
  intro r σ' ho ls H locs h1 h2 h3
  obtain ⟨hx, hb, -, hown, hts, hK, -⟩ := K
  exact va_slen hx hb hX hbl (fun h => absurd (show a.1.2.2.2 ≤ bs from h.1) (by omega)) h3 hd (kk r σ' ho ls H locs h1 h2 h3)
theorem z_saload_n {φ : zF} (K : zOK a cc nL own ret d) {i : Fin 4} {x : Nat} (j : Nat) (hl : lv[j]? = some ((i : Nat), .ref x)) (hd : decode cc pc = .ok (.aload_n i, 1)) (k : zJ a nL G φ (pc + 1) lv (.ref x :: st) σ o) : zJ a nL G φ pc lv st σ o := z_aload_n K j hl hd k
end ZLX
def obn : zK := .inr (10, [(5, 0), (5, 0), (5, 0), (5, 0), (5, 0), (5, 0), (5, 0), (5, 0), (5, 0), (0, 0), (0, 0), (0, 0)])
def zA0 : List zK := zsg 0 ++ zsg 1
def zA1 : List zK := zA0 ++ [.inl (0, 8)]
def zA2 : List zK := zA1 ++ [.inl (0, 8)]
def zA3 : List zK := zA2 ++ [.inl (0, 64)]
theorem zA3_eq : zA3 = zKD2 := by decide +kernel
theorem zA0_len : zA0.length = 138 := by decide +kernel
theorem zsg0_len : (zsg 0).length = 69 := by decide +kernel
theorem arA1_138 : zA1[138]? = some (.inl (0, 8)) := by decide +kernel
theorem arA2_139 : zA2[139]? = some (.inl (0, 8)) := by decide +kernel
theorem arA3_140 : zA3[140]? = some (.inl (0, 64)) := by decide +kernel
theorem out_i0 : zOut [obn] (zsg 0) 0 := zOut_of (by decide +kernel)
theorem out_i1 : zOut (zsg 0 ++ [obn]) zA0 1 := zOut_of (by decide +kernel)
theorem tin_i1 : zTin zA0 1 := zTin_of (by decide +kernel)
section ZLV
variable {ρ : Type} {a : zA} {nL : Nat} {G : ρ → zM → State → Prop} {pc : Nat} {lv : List (Nat × Value)} {st : List Value} {σ : zM} {o : Option (ρ × zM)} {cc : ByteArray} {own : String} {ret : Option FieldType} {d : Nat}
  {y : MethodName} {cc' : ByteArray} {maxL' n ix c sl t : Nat} {ret' : Option FieldType} {φ : zF}
theorem z_l2i (K : zOK a cc nL own ret d) {x : Int64} (hd : decode cc pc = .ok (.l2i, 1)) (k : zJ a nL G φ (pc + 1) lv (.int x.toInt32 :: st) σ o) : zJ a nL G φ pc lv (.long x :: st) σ o := by
  intro r σ' ho ls H locs h1 h2 h3
  obtain ⟨hx, hb, -, hown, hts, -⟩ := K
  exact lv_l2i hx hb hd rfl (k r σ' ho ls H locs h1 h2 h3)
theorem z_cTVi {X : zM → Option (Int32 × zM)} {f : Int32 → zM → Option (ρ × zM)} {As rest : List Value} (ht : t < 2) (hB : (141 : Nat) ≤ a.1.2.2.1 3) (K : zOK a cc nL own ret d) (hR : c ≤ a.2.2.2.1.cells ∧ sl ≤ a.2.2.2.1.slots) (hM : zMt (wt a.1 t) y cc' maxL' ret' (d - 1) zφN zφN zri (.ref ((wt a.1 t).2.2.2 + 0) :: As) (sub t σ) (X (sub t σ))) (hmv : zMv y cc' maxL' ret' n) (hml : Cond.methodLink own ix y ∈ zT) (hmax : maxL' ≤ 81) (hdd : 1 ≤ d) (hn : As.length = n) (hcy : y.cls = RX11) (hst : st = As.reverse ++ .ref (a.1.2.2.2 + 69 * t) :: rest) (hcat : (rest.map fun v => v.category).sum ≤ 8) (hd : decode cc pc = .ok (.invokevirtual ix, 3))
    (kk : ∀ r σ1, zJ a nL G (zKD2, false, c, sl) (pc + 3) lv (.int r :: rest) σ1 (f r σ1)) : zJ a nL G (zKD2, false, c, sl) pc lv st σ (bnd (inT t X σ) f) := z_cTV ht hB K hR hM hmv hml hmax hdd hn hcy hst hcat hd kk
theorem z_cTVl {X : zM → Option (Int64 × zM)} {f : Int64 → zM → Option (ρ × zM)} {As rest : List Value} (ht : t < 2) (hB : (141 : Nat) ≤ a.1.2.2.1 3) (K : zOK a cc nL own ret d) (hR : c ≤ a.2.2.2.1.cells ∧ sl ≤ a.2.2.2.1.slots) (hM : zMt (wt a.1 t) y cc' maxL' ret' (d - 1) zφN zφN zrl (.ref ((wt a.1 t).2.2.2 + 0) :: As) (sub t σ) (X (sub t σ))) (hmv : zMv y cc' maxL' ret' n) (hml : Cond.methodLink own ix y ∈ zT) (hmax : maxL' ≤ 81) (hdd : 1 ≤ d) (hn : As.length = n) (hcy : y.cls = RX11) (hst : st = As.reverse ++ .ref (a.1.2.2.2 + 69 * t) :: rest) (hcat : (rest.map fun v => v.category).sum ≤ 8) (hd : decode cc pc = .ok (.invokevirtual ix, 3))
    (kk : ∀ r σ1, zJ a nL G (zKD2, false, c, sl) (pc + 3) lv (.long r :: rest) σ1 (f r σ1)) : zJ a nL G (zKD2, false, c, sl) pc lv st σ (bnd (inT t X σ) f) := z_cTV ht hB K hR hM hmv hml hmax hdd hn hcy hst hcat hd kk
theorem z_cTSi {X : zM → Option (Int32 × zM)} {f : Int32 → zM → Option (ρ × zM)} {As rest : List Value} (ht : t < 2) (hB : (141 : Nat) ≤ a.1.2.2.1 3) (K : zOK a cc nL own ret d) (hR : c ≤ a.2.2.2.1.cells ∧ sl ≤ a.2.2.2.1.slots) (hM : zMt (wt a.1 t) y cc' maxL' ret' (d - 1) zφN zφN zri As (sub t σ) (X (sub t σ))) (hms : zMs y cc' maxL' ret' n) (hml : Cond.methodLink own ix y ∈ zT) (hmax : maxL' ≤ 81) (hdd : 1 ≤ d) (hn : As.length = n) (hst : st = As.reverse ++ rest) (hcat : (rest.map fun v => v.category).sum ≤ 8) (hd : decode cc pc = .ok (.invokestatic ix, 3))
    (kk : ∀ r σ1, zJ a nL G (zKD2, false, c, sl) (pc + 3) lv (.int r :: rest) σ1 (f r σ1)) : zJ a nL G (zKD2, false, c, sl) pc lv st σ (bnd (inT t X σ) f) := z_cTS ht hB K hR hM hms hml hmax hdd hn hst hcat hd kk
theorem z_cXi {bs L : Nat} {xs : Nat → Int32} {o' : Option (Int32 × zM)} {f : Int32 → zM → Option (ρ × zM)} {As rest : List Value} (K : zOK a cc nL own ret d) (hR : c ≤ a.2.2.2.1.cells ∧ sl ≤ a.2.2.2.1.slots) (hX : va_X bs L xs a.2.2.2.2.1 a.2.2.2.2.1.heap) (hbl : bs < a.2.2.2.2.1.heap.size) (hbA : bs < a.1.2.2.2) (hM : zMtX bs L xs a.1 y cc' maxL' ret' (d - 1) zφ2 zφ2 zri As σ o') (hms : zMs y cc' maxL' ret' n) (hml : Cond.methodLink own ix y ∈ zT) (hmax : maxL' ≤ 81) (hdd : 1 ≤ d) (hn : As.length = n) (hst : st = As.reverse ++ rest) (hcat : (rest.map fun v => v.category).sum ≤ 8) (hd : decode cc pc = .ok (.invokestatic ix, 3))
    (kk : ∀ r σ1, zJ a nL G (zKD2, false, c, sl) (pc + 3) lv (.int r :: rest) σ1 (f r σ1)) : zJ a nL G (zKD2, false, c, sl) pc lv st σ (bnd o' f) := z_cX K hR hX hbl hbA hM hms hml hmax hdd hn hst hcat hd kk
theorem z_iastL (K : zOK a cc nL own ret d) {q n m : Nat} {i v : Int32} (hq : φ.1[q]? = some (.inl (0, n))) (hz : zin i n = true) (hm : i.toNatClampNeg = m) (hd : decode cc pc = .ok (.iastore, 1)) (kk : zJ a nL G φ (pc + 1) lv st (zs σ q m v) o) : zJ a nL G φ pc lv (.int v :: .int i :: .ref (a.1.2.2.2 + q) :: st) σ o := by
  subst hm
  have h := z_iast K hq hd kk
  rw [if_pos hz] at h
  exact h
theorem z_newT0 (K : zOK a cc nL RL ret d) (hB : (141 : Nat) ≤ a.1.2.2.1 3) (hR : 141 ≤ a.2.2.2.1.cells ∧ 102862 ≤ a.2.2.2.1.slots) (hd : decode cc pc = .ok (.new 8, 3)) (kk : zJ a nL G ([obn], true, 1, 12) (pc + 3) lv (.ref (a.1.2.2.2 + 69 * 0) :: st) (zclr σ 0 []) o) : zJ a nL G ([], true, 0, 0) pc lv st σ o :=
  z_new (KL := []) (x := (0, 0)) K [] (ci := 10) (fs := [(5, 0), (5, 0), (5, 0), (5, 0), (5, 0), (5, 0), (5, 0), (5, 0), (5, 0), (0, 0), (0, 0), (0, 0)]) rfl in_X11 tyX11_ok cl_L_8 is_X11 it_X11 rfl (z_hfs rfl (by decide +kernel)) (by show 0 + 1 ≤ _; omega) ⟨by show 0 + 1 ≤ _; omega, by show 0 + 12 ≤ _; omega⟩ hd kk
theorem z_newT1 (K : zOK a cc nL RL ret d) (hB : (141 : Nat) ≤ a.1.2.2.1 3) (hR : 141 ≤ a.2.2.2.1.cells ∧ 102862 ≤ a.2.2.2.1.slots) (hd : decode cc pc = .ok (.new 8, 3)) (kk : zJ a nL G (zsg 0 ++ [obn], true, 70, 51403) (pc + 3) lv (.ref (a.1.2.2.2 + 69 * 1) :: st) (zclr σ 69 []) o) : zJ a nL G (zsg 0, true, 69, 51391) pc lv st σ o := by
  have kk' : zJ a nL G (zsg 0 ++ [.inr (10, [(5, 0), (5, 0), (5, 0), (5, 0), (5, 0), (5, 0), (5, 0), (5, 0), (5, 0), (0, 0), (0, 0), (0, 0)])], true, 69 + 1, 51391 + 12) (pc + 3) lv (.ref (a.1.2.2.2 + (zsg 0).length) :: st) (zclr σ (zsg 0).length []) o := by
    rw [zsg0_len]; exact kk
  exact z_new (KL := zsg 0) (x := (69, 51391)) K [] (ci := 10) rfl in_X11 tyX11_ok cl_L_8 is_X11 it_X11 (zNoL_nil _) (z_hfs rfl (by decide +kernel)) (by rw [zsg0_len]; omega) ⟨by show 69 + 1 ≤ _; omega, by show 51391 + 12 ≤ _; omega⟩ hd kk'
theorem z_iniT0 {rst : List Value} {X : zM → Option (Unit × zM)} {f : Unit → zM → Option (ρ × zM)} (K : zOK a cc nL own ret d) (hB : (141 : Nat) ≤ a.1.2.2.1 3) (hR : 141 ≤ a.2.2.2.1.cells ∧ 102862 ≤ a.2.2.2.1.slots) (hdd : 1 ≤ d) (hM : zMt (wt a.1 0) y cc' maxL' none (d - 1) ([obn], true, 0, 0) (zKD, true, 68, 51379) zrv [.ref ((wt a.1 0).2.2.2 + 0)] (sub 0 σ) (X (sub 0 σ))) (hmc : zMc y cc' maxL' 0) (hml : Cond.methodLink own ix y ∈ zT) (hmax : maxL' ≤ 81) (hcat : (rst.map fun v => v.category).sum ≤ 8) (hd : decode cc pc = .ok (.invokespecial ix, 3))
    (kk : ∀ σ1, zJ a nL G (zsg 0, true, 69, 51391) (pc + 3) lv rst σ1 (f () σ1)) : zJ a nL G ([obn], true, 1, 12) pc lv (.ref (a.1.2.2.2 + 69 * 0) :: rst) σ (bnd (inT 0 X σ) f) :=
  z_cTI (t := 0) (KL1 := zsg 0) (by decide) hB K (obn := obn) (by decide) rfl rfl tin_00 out_i0 zsg0_len hM hmc hml hmax hdd rfl hcat ⟨by show 1 + 68 ≤ _; omega, by show 12 + 51379 ≤ _; omega⟩ hd kk
theorem z_iniT1 {rst : List Value} {X : zM → Option (Unit × zM)} {f : Unit → zM → Option (ρ × zM)} (K : zOK a cc nL own ret d) (hB : (141 : Nat) ≤ a.1.2.2.1 3) (hR : 141 ≤ a.2.2.2.1.cells ∧ 102862 ≤ a.2.2.2.1.slots) (hdd : 1 ≤ d) (hM : zMt (wt a.1 1) y cc' maxL' none (d - 1) ([obn], true, 0, 0) (zKD, true, 68, 51379) zrv [.ref ((wt a.1 1).2.2.2 + 0)] (sub 1 σ) (X (sub 1 σ))) (hmc : zMc y cc' maxL' 0) (hml : Cond.methodLink own ix y ∈ zT) (hmax : maxL' ≤ 81) (hcat : (rst.map fun v => v.category).sum ≤ 8) (hd : decode cc pc = .ok (.invokespecial ix, 3))
    (kk : ∀ σ1, zJ a nL G (zA0, true, 138, 102782) (pc + 3) lv rst σ1 (f () σ1)) : zJ a nL G (zsg 0 ++ [obn], true, 70, 51403) pc lv (.ref (a.1.2.2.2 + 69 * 1) :: rst) σ (bnd (inT 1 X σ) f) :=
  z_cTI (t := 1) (KL1 := zA0) (by decide) hB K (obn := obn) (by decide) (by decide +kernel) (by decide +kernel) tin_i1 out_i1 zA0_len hM hmc hml hmax hdd rfl hcat ⟨by show 70 + 68 ≤ _; omega, by show 51403 + 51379 ≤ _; omega⟩ hd kk
theorem z_newW (K : zOK a cc nL own ret d) {KL KL' : List zK} {x x' : Nat × Nat} {q N : Nat} {n : Int32} (hq : KL.length = q) (hKL : KL' = KL ++ [.inl (0, N)]) (hx' : x' = (x.1 + 1, x.2 + N)) (hn : ¬ n < 0) (hN : n.toNatClampNeg = N) (hbytes : N * componentBytes .int ≤ 536870912) (hbd : q + 1 ≤ a.1.2.2.1 3) (hroom : x.1 + 1 ≤ a.2.2.2.1.cells ∧ x.2 + N ≤ a.2.2.2.1.slots) (hd : decode cc pc = .ok (.newarray .int, 2)) (kk : zJ a nL G (KL', true, x') (pc + 2) lv (.ref (a.1.2.2.2 + q) :: st) (zclr σ q []) o) : zJ a nL G (KL, true, x) pc lv (.int n :: st) σ o := by
  subst hq; subst hKL; subst hx'
  exact z_newa K (t := 0) (ty := .int) (atype := .int) rfl rfl (fun _ _ => rfl) rfl ac_int hn hN hbytes hbd hroom hd kk
theorem z_newA1 (K : zOK a cc nL own ret d) (hB : (141 : Nat) ≤ a.1.2.2.1 3) (hR : 141 ≤ a.2.2.2.1.cells ∧ 102862 ≤ a.2.2.2.1.slots) (hd : decode cc pc = .ok (.newarray .int, 2)) (kk : zJ a nL G (zA1, true, 139, 102790) (pc + 2) lv (.ref (a.1.2.2.2 + 138) :: st) (zclr σ 138 []) o) : zJ a nL G (zA0, true, 138, 102782) pc lv (.int (8 : Int32) :: st) σ o :=
  z_newW K zA0_len rfl rfl (by decide) rfl (by decide) (by omega) ⟨by show 138 + 1 ≤ _; omega, by show 102782 + 8 ≤ _; omega⟩ hd kk
theorem z_newA2 (K : zOK a cc nL own ret d) (hB : (141 : Nat) ≤ a.1.2.2.1 3) (hR : 141 ≤ a.2.2.2.1.cells ∧ 102862 ≤ a.2.2.2.1.slots) (hd : decode cc pc = .ok (.newarray .int, 2)) (kk : zJ a nL G (zA2, true, 140, 102798) (pc + 2) lv (.ref (a.1.2.2.2 + 139) :: st) (zclr σ 139 []) o) : zJ a nL G (zA1, true, 139, 102790) pc lv (.int (8 : Int32) :: st) σ o :=
  z_newW K (by unfold zA1; rw [List.length_append, zA0_len]; rfl) rfl rfl (by decide) rfl (by decide) (by omega) ⟨by show 139 + 1 ≤ _; omega, by show 102790 + 8 ≤ _; omega⟩ hd kk
theorem z_newA3 (K : zOK a cc nL own ret d) (hB : (141 : Nat) ≤ a.1.2.2.1 3) (hR : 141 ≤ a.2.2.2.1.cells ∧ 102862 ≤ a.2.2.2.1.slots) (hd : decode cc pc = .ok (.newarray .int, 2)) (kk : zJ a nL G (zA3, true, 141, 102862) (pc + 2) lv (.ref (a.1.2.2.2 + 140) :: st) (zclr σ 140 []) o) : zJ a nL G (zA2, true, 140, 102798) pc lv (.int (64 : Int32) :: st) σ o :=
  z_newW K (by unfold zA2 zA1; rw [List.length_append, List.length_append, zA0_len]; rfl) rfl rfl (by decide) rfl (by decide) (by omega) ⟨by show 140 + 1 ≤ _; omega, by show 102798 + 64 ≤ _; omega⟩ hd kk
end ZLV
