/-! ===== the model: the best of all codes ===== -/
def sM (α : zM) (p c : Nat) (B : zB2) (τ : zM) : Prop := zg τ 69 43 = nI B.1 ∧ (¬ B.1 = 0 → zgl τ 2 = lN (OD α p c B.1 B.2) ∧ ∀ i, i ≤ B.1 → zg τ 97 i = nI (B.2 i))
theorem e_better {F n a b p c n0 : Nat} {f : Nat → Nat} {B : zB2} {α τ : zM} (hF : 20 ≤ F) (hn : n ≤ 16) (hB : OKB α n a b B) (hS : sM α p c B τ) (hv : Val α n a b n0 f) (h42 : zg τ 69 42 = nI n0) (hrow : ∀ i, i ≤ n0 → zg τ 96 i = nI (f i)) (hod : zgl τ 1 = lN (OD α p c n0 f)) : ∃ ok, f_X12_isBetter F τ = some (ok, τ) ∧ ((ok = 1 ∧ (¬ B.1 = 0 → btr α p c (n0, f) B)) ∨ (ok = 0 ∧ ¬ B.1 = 0 ∧ ¬ btr α p c (n0, f) B)) := by
  have ho := OD_le α p c f hv.2.1
  have hv6 := hv.2.1
  unfold f_X12_isBetter f_X12_isBetter_j19
  simp only [lg_p, lg_0]
  rw [hS.1]
  by_cases z : B.1 = 0
  · rw [if_pos (by rw [z]; rfl), if_pos (by rw [z]; rfl)]
    exact ⟨1, rfl, Or.inl ⟨rfl, fun q => absurd z q⟩⟩
  · obtain ⟨s1, s2⟩ := hS.2 z
    have vB := hB z
    have vB6 := vB.2.1
    have hoB := OD_le α p c B.2 vB.2.1
    have nz : ¬ nI B.1 = 0 := nI_ne0 (by omega) (by omega)
    rw [if_neg nz, if_neg nz, hod, s1, h42]
    by_cases c1 : OD α p c n0 f = OD α p c B.1 B.2
    · rw [if_pos (by rw [c1])]
      by_cases c2 : n0 = B.1
      · rw [if_pos (by rw [c2])]
        have bnd16 : ∀ i, i ≤ n0 → f i < 16 ∧ B.2 i < 16 := fun i hi => ⟨by have := (hv.2.2.1.2.1 i hi).1; omega, by have := (vB.2.2.1.2.1 i (by omega)).1; omega⟩
        have key : ∀ (d fu i : Nat), i + d = n0 + 1 → d < fu → (∀ j, j < i → f j = B.2 j) → ∃ ok, f_X12_isBetter_L74 F (fun s2 => some ((0 : Int32), s2)) fu (nI i) τ = some (ok, τ) ∧ ((ok = 1 ∧ lkf f n0 < lkf B.2 n0) ∨ (ok = 0 ∧ ¬ lkf f n0 < lkf B.2 n0)) := by
          intro d
          induction d with
          | zero =>
            intro fu i hi hfu he
            obtain ⟨fu, rfl⟩ : ∃ f', fu = f' + 1 := ⟨fu - 1, by omega⟩
            refine ⟨0, ?_, Or.inr ⟨rfl, ?_⟩⟩
            · rw [f_X12_isBetter_L74, h42, if_pos (by rw [nI_ltI (by omega) (by omega)]; omega)]
            · rw [lkf_ext n0 (fun j hj => he j (by omega))]; omega
          | succ d ih =>
            intro fu i hi hfu he
            obtain ⟨fu, rfl⟩ : ∃ f', fu = f' + 1 := ⟨fu - 1, by omega⟩
            have z7 : zin (nI i) 7 = true := zin_n (by omega) (by omega)
            obtain ⟨b1, b2⟩ := bnd16 i (by omega)
            rw [f_X12_isBetter_L74, h42, if_neg (by rw [nI_ltI (by omega) (by omega)]; omega), if_pos z7, if_pos z7, nI_clamp (by omega), hrow i (by omega), s2 i (by omega)]
            by_cases e : f i = B.2 i
            · rw [if_pos (by rw [e]), lt_eq, nI_1]
              exact ih fu (i + 1) (by omega) (by omega) (fun j hj => by
                by_cases q : j = i
                · subst q; exact e
                · exact he j (by omega))
            · rw [if_neg (by rw [nI_eq (by omega) (by omega)]; exact e), if_pos z7, if_pos z7]
              -- the first place at which they are unlike
              have low : ∀ g h : Nat → Nat, (∀ j, j < i → g j = h j) → g i < h i → lkf g i < lkf h i := by
                intro g h hj hlt
                cases i with
                | zero => exact hlt
                | succ i =>
                  rw [lkf, lkf, lkf_ext i (fun j hj' => hj j (by omega))]; omega
              by_cases c3 : f i < B.2 i
              · rw [if_pos ((nI_ltI (by omega) (by omega)).mpr c3)]
                exact ⟨1, rfl, Or.inl ⟨rfl, lkf_up (low f B.2 he c3) n0 (by omega) (fun j hj => (bnd16 j hj).1)⟩⟩
              · rw [if_neg (fun q => c3 ((nI_ltI (by omega) (by omega)).mp q))]
                have := lkf_up (low B.2 f (fun j hj => (he j hj).symm) (by omega)) n0 (by omega) (fun j hj => (bnd16 j hj).2)
                exact ⟨0, rfl, Or.inr ⟨rfl, by omega⟩⟩
        obtain ⟨ok, k1, k2⟩ := key (n0 + 1) F 0 (by omega) (by omega) (fun j hj => by omega)
        refine ⟨ok, k1, ?_⟩
        rcases k2 with ⟨q1, q2⟩ | ⟨q1, q2⟩
        · refine Or.inl ⟨q1, fun _ => Or.inr ⟨c1, Or.inr ⟨c2, ?_⟩⟩⟩
          show lkf f n0 < lkf B.2 B.1
          rw [← c2]; exact q2
        · refine Or.inr ⟨q1, z, ?_⟩
          unfold btr
          dsimp only
          have c1' := c1
          rw [← c2] at c1' ⊢
          omega
      · rw [if_neg (by rw [nI_eq (by omega) (by omega)]; exact c2)]
        by_cases c3 : n0 < B.1
        · rw [if_pos ((nI_ltI (by omega) (by omega)).mpr c3)]
          exact ⟨1, rfl, Or.inl ⟨rfl, fun _ => Or.inr ⟨c1, Or.inl c3⟩⟩⟩
        · rw [if_neg (fun q => c3 ((nI_ltI (by omega) (by omega)).mp q))]
          refine ⟨0, rfl, Or.inr ⟨rfl, z, ?_⟩⟩
          unfold btr
          dsimp only
          omega
    · rw [if_neg (fun q => c1 ((pk_lEQ (by omega) (by omega)).mp q))]
      by_cases c2 : OD α p c B.1 B.2 < OD α p c n0 f
      · rw [if_pos ((pk_lLT (by omega) (by omega)).mpr c2)]
        exact ⟨1, rfl, Or.inl ⟨rfl, fun _ => Or.inl c2⟩⟩
      · rw [if_neg (fun q => c2 ((pk_lLT (by omega) (by omega)).mp q))]
        refine ⟨0, rfl, Or.inr ⟨rfl, z, ?_⟩⟩
        unfold btr
        dsimp only
        omega
/-- each way has a code -/
theorem code_of : ∀ (m : Nat) (P : Nat → Nat → Prop), (∀ i, i < m → ∃ w, w < 3 ∧ P i w) → ∃ code, code < 3 ^ m ∧ ∀ i, i < m → P i (code / 3 ^ i % 3) := by
  intro m
  induction m with
  | zero => intro P _; exact ⟨0, by simp, fun i hi => by omega⟩
  | succ m ih =>
    intro P h
    obtain ⟨w, hw, hp⟩ := h 0 (by omega)
    obtain ⟨code, hc, hq⟩ := ih (fun i => P (i + 1)) (fun i hi => h (i + 1) (by omega))
    refine ⟨w + 3 * code, by rw [Nat.pow_succ]; omega, fun i hi => ?_⟩
    cases i with
    | zero => rw [show (w + 3 * code) / 3 ^ 0 % 3 = w by simp; omega]; exact hp
    | succ i =>
      have e : (w + 3 * code) / 3 ^ (i + 1) = code / 3 ^ i := by
        rw [Nat.pow_succ, Nat.mul_comm (3 ^ i) 3, ← Nat.div_div_eq_div_mul, show (w + 3 * code) / 3 = code by omega]
      rw [e]; exact hq i (by omega)
theorem good_of {α : zM} {n a b m : Nat} {f : Nat → Nat} (hG : IG n α) (hv : Val α n a b m f) : ∃ code, code < 3 ^ m ∧ Good α n a b m code f := by
  obtain ⟨code, h1, h2⟩ := code_of m (fun i w => besI (sN α (f i)) w = nI (sN α (f (i + 1)))) (fun i hi => by
    have w := hv.2.2.1.2.2.1 i hi
    obtain ⟨a1, a2⟩ := hv.2.2.1.2.1 i (by omega)
    obtain ⟨b1, b2⟩ := hv.2.2.1.2.1 (i + 1) (by omega)
    rcases hG.seat a1 with q | ⟨s, hs, q⟩
    · exact absurd q a2
    rcases hG.seat b1 with q' | ⟨t, ht, q'⟩
    · exact absurd q' b2
    rw [sN_n q hs, sN_n q' ht] at w ⊢
    rcases (v_nxt s hs t ht).mp w with e | e | e
    · exact ⟨0, by omega, e⟩
    · exact ⟨1, by omega, e⟩
    · exact ⟨2, by omega, e⟩)
  exact ⟨code, h1, hv, h2⟩
abbrev mLs : zMk := ([86, 87, 96, 97], [(69, 42), (69, 43)])
theorem e_laysB {F n p q c a b : Nat} {α τ0 : zM} (hF : 1100 ≤ F) (hG : IG n α) (hW : IW p q c α) (hB : BG n α τ0) (hL : BL α τ0) (hV : BW p c α τ0) (ha : a < n) (hb : b < n) (h6a : ¬ zg α 6 a = -1) (hab : ¬ a = b) : ∃ τ' B, f_X12_laysSmuggled F (nI a) (nI b) τ0 = some ((), τ') ∧ Fx mLs τ0 τ' ∧ sM α p c B τ' ∧ OKB α n a b B ∧ ∀ m f, Val α n a b m f → nb α p c (m, f) B := by
  have hn := hG.1
  have copy : ∀ (K : zM → Option (Unit × zM)) (n0 v5 : Nat) (f : Nat → Nat) (v3 : Int32) (d fu i : Nat) (τ : zM), n0 ≤ 6 → i + d = n0 + 1 → d < fu → zg τ 69 42 = nI n0 → (∀ j, j ≤ n0 → zg τ 96 j = nI (f j)) → (∀ j, j < i → zg τ 97 j = nI (f j)) → ∃ τ', f_X12_laysSmuggled_L72 F K (nI a) (nI b) v3 (nI n0) (nI v5) fu (nI i) τ = K τ' ∧ Fx ([97], []) τ τ' ∧ τ'.2 = τ.2 ∧ ∀ j, j ≤ n0 → zg τ' 97 j = nI (f j) := by
    intro K n0 v5 f v3 d
    induction d with
    | zero =>
      intro fu i τ hn0 hi hfu h42 h96 h97
      obtain ⟨fu, rfl⟩ : ∃ f', fu = f' + 1 := ⟨fu - 1, by omega⟩
      refine ⟨τ, ?_, Fx.rf, rfl, fun j hj => h97 j (by omega)⟩
      rw [f_X12_laysSmuggled_L72, h42, if_pos (by rw [nI_ltI (by omega) (by omega)]; omega)]
    | succ d ih =>
      intro fu i τ hn0 hi hfu h42 h96 h97
      obtain ⟨fu, rfl⟩ : ∃ f', fu = f' + 1 := ⟨fu - 1, by omega⟩
      have z7 : zin (nI i) 7 = true := zin_n (by omega) (by omega)
      obtain ⟨τ', a1, a2, a3, a4⟩ := ih fu (i + 1) (zs τ 97 i (nI (f i))) hn0 (by omega) (by omega) (by rw [zg_ne (by decide)]; exact h42) (fun j hj => by rw [zg_ne (by decide)]; exact h96 j hj) (fun j hj => by
        rw [zg_row]
        by_cases q : j = i
        · subst q; rw [if_pos rfl]
        · rw [if_neg q]; exact h97 j (by omega))
      refine ⟨τ', ?_, (Fx.rf.zs rfl).tr a2, a3, a4⟩
      rw [f_X12_laysSmuggled_L72, h42, if_neg (by rw [nI_ltI (by omega) (by omega)]; omega), if_pos z7, if_pos z7, nI_clamp (by omega), h96 i (by omega), lt_eq, lt_eq, nI_1]
      exact a1
  have codes : ∀ (K : zM → Option (Unit × zM)) (n0 N : Nat), 1 ≤ n0 → n0 ≤ 6 → N < 1000 → ∀ (d fu k : Nat) (B : zB2) (τ : zM), k + d = N → d < fu → Fx mLs τ0 τ → sM α p c B τ → OKB α n a b B → (∀ code f, code < k → Good α n a b n0 code f → nb α p c (n0, f) B) → ∃ τ' B', f_X12_laysSmuggled_L24 F K (nI a) (nI b) (nI N) (nI n0) fu (nI k) τ = K τ' ∧ Fx mLs τ τ' ∧ sM α p c B' τ' ∧ OKB α n a b B' ∧ (¬ B.1 = 0 → nb α p c B B') ∧ ∀ code f, code < N → Good α n a b n0 code f → nb α p c (n0, f) B' := by
    intro K n0 N h1 h6 hN d
    induction d with
    | zero =>
      intro fu k B τ hk hfu hx hS hO hG2
      obtain ⟨fu, rfl⟩ : ∃ f', fu = f' + 1 := ⟨fu - 1, by omega⟩
      have : k = N := by omega
      subst this
      refine ⟨τ, B, ?_, Fx.rf, hS, hO, fun z => nb.rf z, hG2⟩
      rw [f_X12_laysSmuggled_L24, if_neg (by rw [nI_ltI (by omega) (by omega)]; omega)]
    | succ d ih =>
      intro fu k B τ hk hfu hx hS hO hG2
      obtain ⟨fu, rfl⟩ : ∃ f', fu = f' + 1 := ⟨fu - 1, by omega⟩
      obtain ⟨ok, τ1, w1, w2, w3, w4, w5⟩ := e_walks (F := F) (n0 := n0) (code := k) (by omega) hG hW (hB.si hx rfl) (hL.si hx rfl) (hV.si hx rfl) ha hb h6a hab h1 h6 (by omega)
      have hS1 : sM α p c B τ1 := ⟨(w2 69 43 rfl).trans hS.1, fun z => ⟨w4.trans (hS.2 z).1, fun i hi => (w2 97 i rfl).trans ((hS.2 z).2 i hi)⟩⟩
      rw [f_X12_laysSmuggled_L24, if_pos (by rw [nI_ltI (by omega) (by omega)]; omega), w1, bnd_some]
      rcases w5 with ⟨rfl, hno⟩ | ⟨rfl, f, hgf, hrow, hod⟩
      · rw [if_pos rfl, lt_eq, nI_1]
        obtain ⟨τ', B', c1, c2, c3, c4, c5, c6⟩ := ih fu (k + 1) B τ1 (by omega) (by omega) (hx.tr (w2.sub rfl)) hS1 hO (fun code f hc hg => by
          by_cases q : code = k
          · subst q; exact absurd hg (hno f)
          · exact hG2 code f (by omega) hg)
        exact ⟨τ', B', c1, (w2.sub rfl).tr c2, c3, c4, c5, c6⟩
      · -- the rows of this code are all alike
        have uq : ∀ h, Good α n a b n0 k h → ∀ i, i ≤ n0 → h i = f i := by
          intro h hg i
          induction i with
          | zero => intro _; rw [hg.1.2.2.1.1, hgf.1.2.2.1.1]
          | succ i ihh =>
            intro hi
            have e := ihh (by omega)
            have d1 := hg.2 i (by omega)
            have d2 := hgf.2 i (by omega)
            rw [e] at d1
            have d3 := d1.symm.trans d2
            obtain ⟨r1, r2⟩ := hg.1.2.2.1.2.1 (i + 1) hi
            obtain ⟨r3, r4⟩ := hgf.1.2.2.1.2.1 (i + 1) hi
            rcases hG.seat r1 with q | ⟨s, hs, q⟩
            · exact absurd q r2
            rcases hG.seat r3 with q' | ⟨t, ht, q'⟩
            · exact absurd q' r4
            rw [sN_n q hs, sN_n q' ht] at d3
            rw [d3] at q
            exact hG.inj r1 r3 ht q q'
        obtain ⟨ok2, b1, b2⟩ := e_better (F := F) (by omega) hn hO hS1 hgf.1 w3 hrow hod
        rw [if_neg b1n, b1, bnd_some]
        rcases b2 with ⟨rfl, hbt⟩ | ⟨rfl, z, hnb⟩
        · rw [if_neg b1n, lt_eq, lt_eq]
          obtain ⟨τ2, c1, c2, c3, c4⟩ := copy (fun s12 => lt (nI k + (1 : Int32)) (fun y13 => f_X12_laysSmuggled_L24 F K (nI a) (nI b) (nI N) (nI n0) fu y13 s12)) n0 k f (nI N) (n0 + 1) F 0 (zsl (zs τ1 69 43 (zg τ1 69 42)) 2 (zgl (zs τ1 69 43 (zg τ1 69 42)) 1)) h6 (by omega) (by omega) (by rw [zg_sl, zg_nj (by decide)]; exact w3) (fun j hj => by rw [zg_sl, zg_ne (by decide)]; exact hrow j hj) (fun j hj => by omega)
          have f2 : Fx mLs τ τ2 := (w2.sub rfl).tr ((Fx.zsl (Fx.rf.zs rfl)).tr (c2.sub rfl))
          have hS2 : sM α p c (n0, f) τ2 := by
            refine ⟨?_, fun _ => ⟨?_, fun i hi => c4 i hi⟩⟩
            · rw [c2 69 43 rfl, zg_sl, zg_eq]; exact w3
            · show τ2.2 2 = _
              rw [c3]
              show zgl (zsl (zs τ1 69 43 (zg τ1 69 42)) 2 (zgl (zs τ1 69 43 (zg τ1 69 42)) 1)) 2 = _
              rw [zgl_eq, zgl_s]; exact hod
          have up : ∀ r, nb α p c r B → nb α p c r (n0, f) := fun r hr => hr.tr ⟨by show ¬ n0 = 0; omega, by
            have := hbt hr.1
            unfold btr at this ⊢
            dsimp only at this ⊢
            omega⟩
          obtain ⟨τ', B', d1, d2, d3, d4, d5, d6⟩ := ih fu (k + 1) (n0, f) τ2 (by omega) (by omega) (hx.tr f2) hS2 (fun _ => hgf.1) (fun code h hc hg => by
            by_cases qq : code = k
            · subst qq; exact nb_ext (uq h hg) (nb.rf (by show ¬ n0 = 0; omega))
            · exact up _ (hG2 code h (by omega) hg))
          refine ⟨τ', B', ?_, f2.tr d2, d3, d4, fun z => (up _ (nb.rf z)).tr (d5 (by show ¬ n0 = 0; omega)), d6⟩
          rw [show (0 : Int32) = nI 0 from rfl, c1, lt_eq, nI_1]; exact d1
        · rw [if_pos rfl, lt_eq, nI_1]
          obtain ⟨τ', B', c1, c2, c3, c4, c5, c6⟩ := ih fu (k + 1) B τ1 (by omega) (by omega) (hx.tr (w2.sub rfl)) hS1 hO (fun code h hc hg => by
            by_cases qq : code = k
            · subst qq; exact nb_ext (uq h hg) ⟨z, hnb⟩
            · exact hG2 code h (by omega) hg)
          exact ⟨τ', B', c1, (w2.sub rfl).tr c2, c3, c4, c5, c6⟩
  have p3 : ∀ m, m ≤ 6 → 3 ^ m < 1000 := by decide
  have longs : ∀ (d fu m : Nat) (B : zB2) (τ : zM), m + d = 7 → 1 ≤ m → d < fu → Fx mLs τ0 τ → sM α p c B τ → OKB α n a b B → (∀ n0 f, n0 < m → Val α n a b n0 f → nb α p c (n0, f) B) → ∃ τ' B', f_X12_laysSmuggled_L10 F (fun s17 => some ((), s17)) (nI a) (nI b) fu (nI (3 ^ (m - 1))) (nI m) τ = some ((), τ') ∧ Fx mLs τ τ' ∧ sM α p c B' τ' ∧ OKB α n a b B' ∧ ∀ n0 f, Val α n a b n0 f → nb α p c (n0, f) B' := by
    intro d
    induction d with
    | zero =>
      intro fu m B τ hm h1 hfu hx hS hO hV2
      obtain ⟨fu, rfl⟩ : ∃ f', fu = f' + 1 := ⟨fu - 1, by omega⟩
      have : m = 7 := by omega
      subst this
      refine ⟨τ, B, ?_, Fx.rf, hS, hO, fun n0 f hv => hV2 n0 f (by have := hv.2.1; omega) hv⟩
      rw [f_X12_laysSmuggled_L10, if_neg (by decide)]
    | succ d ih =>
      intro fu m B τ hm h1 hfu hx hS hO hV2
      obtain ⟨fu, rfl⟩ : ∃ f', fu = f' + 1 := ⟨fu - 1, by omega⟩
      have e3 : (3 : Int32) * nI (3 ^ (m - 1)) = nI (3 ^ m) := by
        rw [show (3 : Int32) = nI 3 from rfl, pk_mul]
        congr 1
        rw [show m = (m - 1) + 1 by omega, Nat.pow_succ, Nat.mul_comm]; rfl
      have hp := p3 m (by omega)
      obtain ⟨τ1, B1, c1, c2, c3, c4, c5, c6⟩ := codes (fun s15 => lt (nI m + (1 : Int32)) (fun y16 => f_X12_laysSmuggled_L10 F (fun s17 => some ((), s17)) (nI a) (nI b) fu (nI (3 ^ m)) y16 s15)) m (3 ^ m) h1 (by omega) hp (3 ^ m) F 0 B τ (by omega) (by omega) hx hS hO (fun code f hc _ => by omega)
      obtain ⟨τ', B', d1, d2, d3, d4, d5⟩ := ih fu (m + 1) B1 τ1 (by omega) (by omega) (by omega) (hx.tr c2) c3 c4 (fun n0 f hn0 hv => by
        by_cases qq : n0 = m
        · subst qq
          obtain ⟨code, g1, g2⟩ := good_of hG hv
          exact c6 code f g1 g2
        · have w := hV2 n0 f (by omega) hv
          exact w.tr (c5 w.1))
      refine ⟨τ', B', ?_, c2.tr d2, d3, d4, d5⟩
      rw [f_X12_laysSmuggled_L10, if_pos (show nI m < (7 : Int32) by rw [show (7 : Int32) = nI 7 from rfl, nI_ltI (by omega) (by omega)]; omega), lt_eq, e3, show (0 : Int32) = nI 0 from rfl, c1, lt_eq, nI_1]
      exact d1
  unfold f_X12_laysSmuggled
  rw [lt_eq]
  obtain ⟨τ', B, c1, c2, c3, c4, c5⟩ := longs 6 F 1 (0, fun _ => 0) (zs τ0 69 43 (0 : Int32)) (by omega) (by omega) (by omega) (Fx.rf.zs rfl) ⟨zg_eq, fun z => absurd rfl z⟩ (fun z => absurd rfl z) (fun n0 f h0 hv => by have := hv.1; omega)
  exact ⟨τ', B, c1, (Fx.rf.zs rfl).tr c2, c3, c4, c5⟩
