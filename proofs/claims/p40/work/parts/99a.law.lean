/-! ===== the law ===== -/
section ZFI
variable {F D L : Nat} {xs : Nat → Int32}
/-- what scratch and memory leave -/
theorem RR.q {n t r p kc x : Nat} {ko : Option Nat} {pl ql cl a : Nat} {α τ : zM} (h1 : RI n t r p kc x ko pl ql cl α) (h2 : RB n t r p kc x ko pl cl α α) (hf : Fx mQA α τ) (hQ : PM n pl cl a α τ) : RR a τ := by
  obtain ⟨hG, hH, hT, hN, hK, hD, hX, hW⟩ := h1
  obtain ⟨bG, bH, bL, bT, bN, bK, bP, bD, bX, bW⟩ := h2
  exact ⟨n, t, r, p, kc, x, ko, pl, ql, cl, ⟨hG.fx hf rfl, hH.fx hf rfl, hT.fx hf rfl, hN.fx hf rfl, hK.fx hf rfl, hD.fx hf rfl, hX.fx hf rfl, hW.fx hf rfl⟩, ⟨(bG.al hf rfl).si hf rfl, (bH.al hf rfl).si hf rfl, (bL.al hf rfl).si hf rfl, (bT.al hf rfl).si hf rfl, (bN.al hf rfl).si hf rfl, (bK.al hf rfl).si hf rfl, (bP.al hf rfl).si hf rfl, (bD.al hf rfl).si hf rfl, (bX.al hf rfl).si hf rfl, (bW.al hW.or hf rfl).si hf rfl⟩, hQ.fx hW.or hf rfl (Fx.rf (m := ([], []))) rfl⟩
/-- o's own questions, from what is held of both -/
theorem LQ.ow {A : Nat} {σ : zM} (h : LQ A σ) : ∃ r pp p q c a, OW 8 r pp p q c a (sub 0 σ) σ σ ∧ P8 (sub 0 σ) ∧ ∀ σ', OW 8 r pp p q c a (sub 0 σ) σ σ' → LQ A σ' := by
  obtain ⟨a, b, ha, hb, co, cp, m, h1, h2, hR, hR2, hP, h8⟩ := h
  obtain ⟨n, t, r, p, kc, x, ko, pl, ql, cl, hI, hB, hM⟩ := hR
  have hn : n = 8 := (nI_eq (by have := hI.1.1; omega) (by omega)).mp (hI.1.2.1.symm.trans hP.1)
  subst hn
  refine ⟨r, p, pl, ql, cl, a, ⟨⟨?_, ?_, ?_, Fx.rf, ?_⟩, fun x _ => rfl, rfl⟩, by rw [h1]; exact hP, fun σ' hO => ?_⟩
  · rw [h1]; exact hI.1
  · rw [h1]; exact hI.2.2.2.1
  · rw [h1]; exact hI.2.2.2.2.2.2.2
  · rw [h1]; exact hM
  · obtain ⟨⟨q1, q2, q3, q4, q5⟩, q6, q7⟩ := hO
    rw [h1] at q4 q5 q6
    have z : sub 0 σ' = zmx (sub 0 σ') m := zmx_of (by decide +kernel) ⟨q4, q6⟩
    refine ⟨a, b, ha, hb, sub 0 σ', cp, m, z, q7.trans h2, ?_, hR2, ?_, h8⟩
    · rw [← z]; exact RR.q hI hB q4 q5
    · rw [← z]; exact hP.fx q4 (by decide +kernel)
theorem j496_ok {A k : Nat} {K : Int32 → Int32 → zM → Option (Int32 × zM)} {σ : zM} (hF : 6000 ≤ F) (hD : 40 ≤ D) (hL : L ≤ 260) (hk : k + 1 < L) (hA : A < 985) (h : LQ A σ) : ∃ σ', f_L_law_j496 F D xs L K (nI k) σ = K 1 (nI k + 2) σ' ∧ LQ (A + 1) σ' := by
  have z1 : zin (nI k) L = true := zin_n (by omega) (by omega)
  have z2 : zin (nI k + (1 : Int32)) L = true := by rw [nI_1]; exact zin_n (by omega) hk
  obtain ⟨r, σ1, σ2, e1, e2, h2⟩ := h.pair (pr_act hF hD ((xs (nI k).toNatClampNeg) >>> ((1 : Int32) &&& 31)) (xs (nI k + (1 : Int32)).toNatClampNeg)) (by omega)
  obtain ⟨σ3, e3, h3⟩ := alike_ok hF (by omega) h2
  obtain ⟨rr, pp, p, q, c, a, hO, hP, back⟩ := h3.ow
  obtain ⟨σ4, e4, h4⟩ := in_555 (D := D) (xs := xs) (L := L) (K := tlK F D xs L K (nI k)) (v7 := nI k) hF hP.2.1 8 F 0 σ3 (by omega) (by omega) hO
  obtain ⟨σ5, e5, h5⟩ := in_tl (D := D) (xs := xs) (L := L) (K := K) (v7 := nI k) hF (got_gave hP.2.1) h4
  refine ⟨σ5, ?_, back σ5 h5⟩
  unfold f_L_law_j496
  rw [if_pos z1, if_pos z2, e1, bnd_some, if_pos z1, if_pos z2, e2, bnd_some, if_pos rfl, e3, bnd_some, if_neg b1n]
  exact e4.trans e5
theorem idle_step {A : Nat} {x : Int32} {σ : zM} (h : LQ A σ) : inT 1 (f_L_idle F D x) σ = some (1, σ) := by
  obtain ⟨a, b, ha, hb, co, cp, m, h1, h2, hR, hR2, hP, h8⟩ := h
  have hn : zg (sub 1 σ) 3 8 = nI 8 := by rw [h2, zg_mlo (by decide)]; exact h8
  unfold inT
  rw [idle_ok hn]
  show some (_, put 1 σ (sub 1 σ)) = _
  rw [put_sub (by decide)]
theorem loop_ok {K : Int32 → zM → Option (Int32 × zM)} (hF : 6000 ≤ F) (hD : 40 ≤ D) (hL : L ≤ 260) : ∀ (d fu k A : Nat) (σ : zM), 29 ≤ k + 2 * d → k ≤ 31 → d < fu → A + d < 985 → LQ A σ → ∃ σ', f_L_law_L452 F D xs L K fu 1 (nI k) σ = K 1 σ' := by
  intro d
  induction d with
  | zero =>
    intro fu k A σ hk hk2 hfu hA h
    obtain ⟨fu, rfl⟩ : ∃ f', fu = f' + 1 := ⟨fu - 1, by omega⟩
    rw [f_L_law_L452]
    by_cases q : nI k + 1 < nI L
    · rw [if_pos q, if_neg (by rw [show (29 : Int32) = nI 29 from rfl, nI_ltI (by omega) (by omega)]; omega)]; exact ⟨σ, rfl⟩
    · rw [if_neg q]; exact ⟨σ, rfl⟩
  | succ d ih =>
    intro fu k A σ hk hk2 hfu hA h
    obtain ⟨fu, rfl⟩ : ∃ f', fu = f' + 1 := ⟨fu - 1, by omega⟩
    rw [f_L_law_L452]
    by_cases q : nI k + 1 < nI L
    · have q' : k + 1 < L := by rw [nI_1] at q; exact (nI_ltI (by omega) (by omega)).mp q
      rw [if_pos q]
      by_cases q2 : nI k < (29 : Int32)
      · have q2' : k < 29 := by rw [show (29 : Int32) = nI 29 from rfl] at q2; exact (nI_ltI (by omega) (by omega)).mp q2
        have z2 : zin (nI k + (1 : Int32)) L = true := by rw [nI_1]; exact zin_n (by omega) q'
        obtain ⟨σ1, e1, h1⟩ := j496_ok (xs := xs) (K := f_L_law_L452 F D xs L K fu) hF hD hL q' (by omega) h
        obtain ⟨σ', e2⟩ := ih fu (k + 2) (A + 1) σ1 (by omega) (by omega) (by omega) (by omega) h1
        refine ⟨σ', ?_⟩
        have e3 : f_L_law_j496 F D xs L (f_L_law_L452 F D xs L K fu) (nI k) σ = K 1 σ' := by
          rw [e1, show (2 : Int32) = nI 2 from rfl, nI_add]; exact e2
        rw [if_pos q2, if_neg b1n, if_pos z2]
        by_cases q3 : xs (nI k + (1 : Int32)).toNatClampNeg = (-1 : Int32)
        · rw [if_pos q3]; exact e3
        · rw [if_neg q3, if_pos z2, idle_step h, bnd_some, if_neg b1n]; exact e3
      · rw [if_neg q2]; exact ⟨σ, rfl⟩
    · rw [if_neg q]; exact ⟨σ, rfl⟩
/-! the making of both -/
theorem sub_zclr {t k : Nat} {σ : zM} (ht : t < 2) (h1 : 138 ≤ k) (h2 : k < 141) : sub t (zclr σ k []) = sub t σ := by
  refine Prod.ext (funext fun a => funext fun b => ?_) (funext fun x => ?_)
  · rw [sub_1, sub_1]
    show (if sbx t a = k then _ else _) = _
    rw [if_neg]
    by_cases ha : a < 69
    · rw [sbx_lo ha]; omega
    · rw [sbx_hi ha]; omega
  · rfl
theorem sub_first : sub 0 (zclr z0 0 []) = z0 := by
  refine Prod.ext (funext fun a => funext fun b => ?_) (funext fun x => rfl)
  show (if sbx 0 a = 0 then (0 : Int32) else 0) = 0
  split <;> rfl
theorem sub_second {τ : zM} : sub 1 (zclr (put 0 (zclr z0 0 []) τ) 69 []) = z0 := by
  refine Prod.ext (funext fun a => funext fun b => ?_) (funext fun x => ?_)
  · rw [sub_1]
    show (if sbx 1 a = 69 then (0 : Int32) else (put 0 (zclr z0 0 []) τ).1 (sbx 1 a) b) = 0
    split
    · rfl
    · have h := sub_put_ne (t := 0) (u := 1) (by decide) (by decide) (by decide) (zclr z0 0 []) τ
      have h2 := congrFun (congrFun (congrArg Prod.fst h) a) b
      rw [sub_1, sub_1] at h2
      rw [h2]
      show (if sbx 1 a = 0 then (0 : Int32) else 0) = 0
      split <;> rfl
  · have h := sub_put_ne (t := 0) (u := 1) (by decide) (by decide) (by decide) (zclr z0 0 []) τ
    have h2 := congrFun (congrArg Prod.snd h) x
    exact h2
theorem sub_0_69 {σ : zM} : sub 0 (zclr σ 69 []) = sub 0 σ := by
  refine Prod.ext (funext fun a => funext fun b => ?_) (funext fun x => rfl)
  rw [sub_1, sub_1]
  show (if sbx 0 a = 69 then _ else _) = _
  rw [if_neg]
  by_cases ha : a < 69
  · rw [sbx_lo ha]; omega
  · rw [sbx_hi ha]; omega
theorem PQ_0 {h e s d : Nat → Int32} (h1 : ∀ j, h j = 0) (h2 : ∀ j, e j = 0) (h3 : ∀ j, s j = 0) (h4 : ∀ j, d j = 0) : PQ h e s d := by
  refine ⟨fun g _ => ?_, fun a b _ _ _ => h4 _⟩
  rw [h1, h2, h3, sumI_0 16 (fun x => h4 _), sumI_0 16 (fun x => h4 _)]
  rfl
/-- both tables made: what the rows are filled with is of no weight -/
theorem made_ok (hF : 6000 ≤ F) (hD : 40 ≤ D) (hL : L ≤ 260) {K : zM → Option (Int32 × zM)} : ∃ (τ1 τ2 : zM) (σ4 : zM), bnd (inT 0 (cal (f_X11_init F) (f_X12_init F)) (zclr z0 0 [])) (fun _ s2 => lt (zclr s2 69 []) (fun s3 => bnd (inT 1 (cal (f_X11_init F) (f_X12_init F)) s3) (fun _ s4 => K s4))) = K σ4 ∧ sub 0 σ4 = zmx τ1 τ2 ∧ sub 1 σ4 = zmx τ1 τ2 ∧ RR 1 (zmx τ1 τ2) ∧ zg τ1 3 8 = nI 0 ∧ zg τ1 1 1 = 0 ∧ ∀ k, 61 ≤ k → k ≤ 68 → ∀ j, zg τ1 k j = 0 := by
  obtain ⟨τ1, τ2, a1, a2, a3, a4, a5, a6⟩ := RR_00 (F := F) (by omega)
  have hc : cal (f_X11_init F) (f_X12_init F) z0 = some ((), zmx τ1 τ2) := by
    unfold cal; rw [a1]; simp only [bnd]; rw [a2]
  have e1 : inT 0 (cal (f_X11_init F) (f_X12_init F)) (zclr z0 0 []) = some ((), put 0 (zclr z0 0 []) (zmx τ1 τ2)) := by
    unfold inT; rw [sub_first, hc]
  have e2 : inT 1 (cal (f_X11_init F) (f_X12_init F)) (zclr (put 0 (zclr z0 0 []) (zmx τ1 τ2)) 69 []) = some ((), put 1 (zclr (put 0 (zclr z0 0 []) (zmx τ1 τ2)) 69 []) (zmx τ1 τ2)) := by
    unfold inT; rw [sub_second, hc]
  refine ⟨τ1, τ2, put 1 (zclr (put 0 (zclr z0 0 []) (zmx τ1 τ2)) 69 []) (zmx τ1 τ2), by rw [e1, bnd_some, lt_eq, e2, bnd_some], ?_, ?_, a3, a4, a5, a6⟩
  · rw [sub_put_ne (by decide) (by decide) (by decide), sub_0_69, sub_put (by decide)]
  · rw [sub_put (by decide)]
theorem laid_ok (hF : 6000 ≤ F) (hD : 40 ≤ D) (hL : L ≤ 260) {τ1 τ2 σ : zM} (s0 : sub 0 σ = zmx τ1 τ2) (s1 : sub 1 σ = zmx τ1 τ2) (hR : RR 1 (zmx τ1 τ2)) (h8 : zg τ1 3 8 = nI 0) (h11 : zg τ1 1 1 = 0) (hz : ∀ k, 61 ≤ k → k ≤ 68 → ∀ j, zg τ1 k j = 0) : ∃ σ1 σ2, f_L_lay F D 0 xs L σ = some (1, σ1) ∧ f_L_lay F D 1 xs L σ1 = some (1, σ2) ∧ LQ 77 σ2 := by
  obtain ⟨c1, σ1, e1, l1⟩ := lay_ok (xs := xs) (σ0 := σ) hF hD (show 0 < 2 by omega) hL ⟨s0, ⟨1, by omega, hR⟩, h8, hz, fun _ _ _ => rfl⟩ h11
  have q1 : sub 1 σ1 = zmx τ1 τ2 := (l1.2.2.2.2 1 (by omega) (by omega)).trans s1
  obtain ⟨c2, σ2, e2, l2⟩ := lay_ok (xs := xs) (σ0 := σ1) hF hD (show 1 < 2 by omega) hL ⟨q1, ⟨1, by omega, hR⟩, h8, hz, fun _ _ _ => rfl⟩ h11
  have q0 : sub 0 σ2 = zmx c1 (mL F xs L (x0q xs L) τ2) := (l2.2.2.2.2 0 (by omega) (by omega)).trans l1.1
  obtain ⟨-, ⟨a, ha, hRa⟩, n8, zz, -⟩ := l1
  obtain ⟨p1, ⟨b, hb, hRb⟩, m8, -, -⟩ := l2
  refine ⟨σ1, σ2, e1, e2, a, b, ha, hb, c1, c2, _, q0, p1, hRa, hRb, ⟨(zg_mlo (by decide)).trans n8, ?_, ?_⟩, m8⟩
  · have z : ∀ k, 61 ≤ k → k ≤ 68 → ∀ j, zg (zmx c1 (mL F xs L (x0q xs L) τ2)) k j = 0 := fun k h1 h2 j => (zg_mlo (by omega)).trans (zz k h1 h2 j)
    exact PQ_0 (z 61 (by omega) (by omega)) (z 62 (by omega) (by omega)) (z 63 (by omega) (by omega)) (z 64 (by omega) (by omega))
  · have z : ∀ k, 61 ≤ k → k ≤ 68 → ∀ j, zg (zmx c1 (mL F xs L (x0q xs L) τ2)) k j = 0 := fun k h1 h2 j => (zg_mlo (by omega)).trans (zz k h1 h2 j)
    exact PQ_0 (z 65 (by omega) (by omega)) (z 66 (by omega) (by omega)) (z 67 (by omega) (by omega)) (z 68 (by omega) (by omega))
/-- the law's end, once the rows are filled -/
def endK (F D : Nat) (xs : Nat → Int32) (L : Nat) (s87 : zM) : Option (Int32 × zM) :=
  bnd (f_L_lay F D 0 xs L s87) (fun r89 s88 =>
  if r89 = 0 then
    f_L_law_L452 F D xs L (fun y247 s246 =>
      if y247 = 1 then some (1, s246) else none) F (0 : Int32) (9 : Int32) s88
  else
    bnd (f_L_lay F D 1 xs L s88) (fun r250 s249 =>
    if r250 = 0 then
      f_L_law_L452 F D xs L (fun y252 s251 =>
        if y252 = 1 then some (1, s251) else none) F (0 : Int32) (9 : Int32) s249
    else
      f_L_law_L452 F D xs L (fun y255 s254 =>
        if y255 = 1 then some (1, s254) else none) F (1 : Int32) (9 : Int32) s249))
theorem end_ok (hF : 6000 ≤ F) (hD : 40 ≤ D) (hL : L ≤ 260) {τ1 τ2 σ : zM} (s0 : sub 0 σ = zmx τ1 τ2) (s1 : sub 1 σ = zmx τ1 τ2) (hR : RR 1 (zmx τ1 τ2)) (h8 : zg τ1 3 8 = nI 0) (h11 : zg τ1 1 1 = 0) (hz : ∀ k, 61 ≤ k → k ≤ 68 → ∀ j, zg τ1 k j = 0) : ∃ σ', endK F D xs L σ = some (1, σ') := by
  obtain ⟨σ1, σ2, e1, e2, h⟩ := laid_ok (xs := xs) hF hD hL s0 s1 hR h8 h11 hz
  obtain ⟨σ3, e3⟩ := loop_ok (xs := xs) (K := fun y255 s254 => if y255 = 1 then some (1, s254) else none) hF hD hL 10 F 9 77 σ2 (by omega) (by omega) (by omega) (by omega) h
  refine ⟨σ3, ?_⟩
  unfold endK
  rw [e1, bnd_some, if_neg b1n, e2, bnd_some, if_neg b1n]
  refine e3.trans ?_
  rw [if_pos rfl]
/-- filling of rows -/
def fil (k : Nat) : Nat → zM → zM
  | 0, s => s
  | n + 1, s => zs (fil k n s) k n 0
theorem sub_fil {t k : Nat} (ht : t < 2) (h1 : 138 ≤ k) (h2 : k < 141) : ∀ (n : Nat) (s : zM), sub t (fil k n s) = sub t s := by
  intro n
  induction n with
  | zero => intro s; rfl
  | succ n ih => intro s; rw [fil, sub_zs ht h1 h2, ih]
set_option maxRecDepth 100000 in
theorem law_eq (F D : Nat) (xs : Nat → Int32) (L : Nat) : f_L_law F D xs L z0 = bnd (inT 0 (cal (f_X11_init F) (f_X12_init F)) (zclr z0 0 [])) (fun _ s2 => lt (zclr s2 69 []) (fun s3 => bnd (inT 1 (cal (f_X11_init F) (f_X12_init F)) s3) (fun _ s4 => endK F D xs L (fil 140 64 (zclr (fil 139 8 (zclr (fil 138 8 (zclr s4 138 [])) 139 [])) 140 []))))) := rfl
theorem pure_law (xs : Nat → Int32) (L : Nat) (hL : L ≤ 260) : ∃ (F D : Nat) (σ' : zM), D ≤ 64 ∧ f_L_law F D xs L z0 = some (1, σ') := by
  obtain ⟨τ1, τ2, σ4, e1, s0, s1, hR, h8, h11, hz⟩ := made_ok (F := 6000) (D := 40) (L := L) (Nat.le_refl _) (Nat.le_refl _) hL (K := fun s4 => endK 6000 40 xs L (fil 140 64 (zclr (fil 139 8 (zclr (fil 138 8 (zclr s4 138 [])) 139 [])) 140 [])))
  have hs : ∀ t, t < 2 → sub t (fil 140 64 (zclr (fil 139 8 (zclr (fil 138 8 (zclr σ4 138 [])) 139 [])) 140 [])) = sub t σ4 := by
    intro t ht
    rw [sub_fil ht (by omega) (by omega), sub_zclr ht (by omega) (by omega), sub_fil ht (by omega) (by omega), sub_zclr ht (by omega) (by omega), sub_fil ht (by omega) (by omega), sub_zclr ht (by omega) (by omega)]
  obtain ⟨σ', e2⟩ := end_ok (F := 6000) (D := 40) (xs := xs) (Nat.le_refl _) (Nat.le_refl _) hL ((hs 0 (by omega)).trans s0) ((hs 1 (by omega)).trans s1) hR h8 h11 hz
  exact ⟨6000, 40, σ', by omega, (law_eq 6000 40 xs L).trans (e1.trans e2)⟩
end ZFI
