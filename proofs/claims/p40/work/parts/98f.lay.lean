/-! ===== eight guests, their likings, a law ===== -/
def z0 : zM := (fun _ _ => 0, fun _ => 0)
def gs {β : Type} (M : zM → Option (β × zM)) (m : zM) : zM := match M (zmx z0 m) with
  | none => m
  | some x => x.2
theorem gs_eq {β : Type} {M : zM → Option (β × zM)} (hcg : ∀ c c' m, CG c c' (M (zmx c m)) (M (zmx c' m))) {c m : zM} {r : β} {t : zM} (h : M (zmx c m) = some (r, t)) : t = zmx c (gs M m) := by
  rcases hcg c z0 m with ⟨w, -⟩ | ⟨r0, m', w1, w2⟩
  · rw [w] at h; cases h
  · rw [w1] at h; cases h
    unfold gs
    rw [w2, zmx_idr]
theorem call1 {β : Type} {X M : zM → Option (β × zM)} (mk : zMk) (hop : OP X M) (hfx : ∀ s, HF mk s (X s)) (hcg : ∀ c c' m, CG c c' (M (zmx c m)) (M (zmx c' m))) (hm : (mk.1.all (fun k => decide (k < 69)) && mk.2.all (fun f => decide (f.1 < 69))) = true) {a : Nat} {c m : zM} (ha : a < 1000) (h : RR a (zmx c m)) : ∃ r s1 a', X (zmx c m) = some (r, s1) ∧ cal X M (zmx c m) = some (r, zmx s1 (gs M m)) ∧ RR a' (zmx s1 (gs M m)) ∧ a' ≤ a + 1 ∧ Fx mk (zmx c m) s1 := by
  obtain ⟨r, s1, s2, e1, e2, a', ha', g1⟩ := hop a _ ha h
  have z1 := zmx_of hm (hfx _ _ _ e1)
  have e3 := e2
  rw [z1] at e3
  have e4 := gs_eq hcg e3
  refine ⟨r, s1, a', e1, ?_, by rw [← e4]; exact g1, ha', (hfx _ _ _ e1).1⟩
  unfold cal; rw [e1]; simp only [bnd]; rw [e2]; simp only []; rw [e4, zmx_idr]
theorem RR.ig {a n : Nat} {s : zM} (h : RR a s) (h8 : zg s 3 8 = nI n) (hn : n ≤ 16) : IG n s := by
  obtain ⟨n', t, r, p, kc, x, ko, pl, ql, cl, ⟨hG, -⟩, -, -⟩ := h
  have : n' = n := (nI_eq (by have := hG.1; omega) (by omega)).mp (hG.2.1.symm.trans h8)
  rw [← this]; exact hG
/-- table t while it is laid; the other stands -/
def LY (t n A : Nat) (σ0 : zM) (c m σ : zM) : Prop := sub t σ = zmx c m ∧ (∃ a, a ≤ A ∧ RR a (zmx c m)) ∧ zg c 3 8 = nI n ∧ (∀ k, 61 ≤ k → k ≤ 68 → ∀ j, zg c k j = 0) ∧ ∀ u, u < 2 → ¬ u = t → sub u σ = sub u σ0
theorem LY.ig {t n A : Nat} {σ0 c m σ : zM} (h : LY t n A σ0 c m σ) (hn : n ≤ 16) : IG n (zmx c m) := by
  obtain ⟨-, ⟨a, -, hr⟩, h8, -⟩ := h
  exact hr.ig ((zg_mlo (by decide)).trans h8) hn
theorem LY.arr {t n A : Nat} {σ0 c m σ : zM} (h : LY t n A σ0 c m σ) {k j : Nat} {v : Int32} (ht : t < 2) (h1 : 138 ≤ k) (h2 : k < 141) : LY t n A σ0 c m (zs σ k j v) := by
  obtain ⟨a1, a2, a3, a4, a5⟩ := h
  exact ⟨(sub_zs ht h1 h2).trans a1, a2, a3, a4, fun u hu hut => (sub_zs hu h1 h2).trans (a5 u hu hut)⟩
theorem LY.call {β : Type} {X M : zM → Option (β × zM)} (mk : zMk) (hop : OP X M) (hfx : ∀ s, HF mk s (X s)) (hcg : ∀ c c' m, CG c c' (M (zmx c m)) (M (zmx c' m))) (hm : (mk.1.all (fun k => decide (k < 69)) && mk.2.all (fun f => decide (f.1 < 69))) = true) (hd : dis mk ([61, 62, 63, 64, 65, 66, 67, 68], []) = true) {t n A : Nat} {σ0 c m σ : zM} (ht : t < 2) (hA : A < 999) (h : LY t n A σ0 c m σ) : ∃ r s1, X (zmx c m) = some (r, s1) ∧ inT t (cal X M) σ = some (r, put t σ (zmx s1 (gs M m))) ∧ Fx mk (zmx c m) s1 ∧ ∀ n', zg s1 3 8 = nI n' → LY t n' (A + 1) σ0 s1 (gs M m) (put t σ (zmx s1 (gs M m))) := by
  obtain ⟨a1, ⟨a, ha, hr⟩, a3, a4, a5⟩ := h
  obtain ⟨r, s1, a', e1, e2, e3, e4, e5⟩ := call1 mk hop hfx hcg hm (by omega) hr
  refine ⟨r, s1, e1, ?_, e5, fun n' hn' => ⟨sub_put ht _ _, ⟨a', by omega, e3⟩, hn', fun k h1 h2 j => ?_, fun u hu hut => ?_⟩⟩
  · unfold inT; rw [a1, e2]
  · have hk : k ∈ [61, 62, 63, 64, 65, 66, 67, 68] := by
      have : k = 61 ∨ k = 62 ∨ k = 63 ∨ k = 64 ∨ k = 65 ∨ k = 66 ∨ k = 67 ∨ k = 68 := by omega
      rcases this with rfl | rfl | rfl | rfl | rfl | rfl | rfl | rfl <;> simp
    exact (e5 k j (dis_row hd hk j)).trans ((zg_mlo (by omega)).trans (a4 k h1 h2 j))
  · exact (sub_put_ne ht hu (fun w => hut w.symm) _ _).trans (a5 u hu hut)
theorem LY.arg {t n A : Nat} {σ0 c m σ τ : zM} (ht : t < 2) {k j : Nat} (h1 : 138 ≤ k) (h2 : k < 141) : zg (put t σ τ) k j = zg σ k j := zg_put ht h1 h2
/-! a guest -/
theorem v_guest {n ld : Nat} {w : Int32} {σ : zM} (hG : IG n σ) (hn16 : n < 16) (hld : ld < 2) (hv : w = -1 ∨ ∃ k, k < 40 ∧ w = nI k ∧ zg σ 9 k = -1) : ∃ σ', f_X11_guest (nI ld) w σ = some (nI n, σ') ∧ (∀ k, zg σ' 6 k = if k = n then w else zg σ 6 k) ∧ zg σ' 3 8 = nI (n + 1) := by
  have hn := hG.1
  have z : zin (nI n) 16 = true := zin_n (by omega) (by omega)
  have X : f_X11_guest (nI ld) w σ = f_X11_guest_j21 (nI ld) w σ := by
    unfold f_X11_guest
    rw [if_neg (nI_pos (by omega)), if_neg (by rw [show (1 : Int32) = nI 1 from rfl, nI_ltI (by omega) (by omega)]; omega)]
    rcases hv with w1 | ⟨k, hk, rfl, -⟩
    · rw [if_pos w1]
    · rw [if_neg (nI_m1 (by omega)), e_isSeat_n hk, bnd_some, if_neg b1n]
  have f0 : Fx ([4, 5, 70], [(3, 8), (69, 0)]) σ (zs (zs (zs σ 3 8 (nI (n + 1))) 4 n (nI ld)) 5 n 1) := ((Fx.rf.zs rfl).zs rfl).zs rfl
  have hG1 : IG (n + 1) (zs (zs (zs σ 3 8 (nI (n + 1))) 4 n (nI ld)) 5 n 1) := by
    obtain ⟨-, g2, g3, g4, g5, g6⟩ := hG
    refine ⟨by omega, by simp [zg_zs], fun k hk => ?_, fun k hk => ?_, fun s hs => ?_, fun k hk hk' => ?_⟩
    · by_cases h : k = n
      · subst h
        rcases (show ld = 0 ∨ ld = 1 by omega) with rfl | rfl
        · exact Or.inl (by simp [zg_zs]; rfl)
        · exact Or.inr (by simp [zg_zs]; rfl)
      · have := g3 k (by omega)
        simpa [zg_zs, h] using this
    · rw [f0 6 k rfl]
      by_cases h : k = n
      · subst h
        exact Or.inr ⟨by simp [zg_zs], Or.inl (g6 k (Nat.le_refl _) (by omega))⟩
      · have e5 : zg (zs (zs (zs σ 3 8 (nI (n + 1))) 4 n (nI ld)) 5 n 1) 5 k = zg σ 5 k := by simp [zg_zs, h]
        rw [e5]
        rcases g4 k (by omega) with q | ⟨q1, q | ⟨s, hs, q2, q3⟩⟩
        · exact Or.inl q
        · exact Or.inr ⟨q1, Or.inl q⟩
        · exact Or.inr ⟨q1, Or.inr ⟨s, hs, q2, by rw [f0 9 s rfl]; exact q3⟩⟩
    · rw [f0 9 s rfl]
      rcases g5 s hs with q | ⟨k, hk, q1, q2⟩
      · exact Or.inl q
      · exact Or.inr ⟨k, by omega, q1, by rw [f0 6 k rfl]; exact q2⟩
    · rw [f0 6 k rfl]; exact g6 k (by omega) hk'
  have hal : zg (zs (zs (zs σ 3 8 (nI (n + 1))) 4 n (nI ld)) 5 n 1) 5 n = 1 := by simp [zg_zs]
  generalize hσ' : plc (zs (zs (zs σ 3 8 (nI (n + 1))) 4 n (nI ld)) 5 n 1) n w = σ'
  have A : f_X0_add (nI ld) w σ = some (nI n, σ') := by
    unfold f_X0_add
    rw [e_isFull hn hG.2.1, if_pos (by omega), bnd_some, if_pos rfl, hG.2.1, lt_eq, lt_eq, if_pos z, lt_eq, if_pos z, lt_eq, nI_1, nI_clamp (by omega), show vp_nar .boolean (1 : Int32) = 1 from rfl, e_place (n := n + 1) (by omega) hG1.2.1 (by omega) (hG1.seat (by omega)) (hv.imp id fun ⟨k, hk, e, _⟩ => ⟨k, hk, e⟩), bnd_some, hσ']
  refine ⟨σ', X.trans ?_, fun k => ?_, ?_⟩
  · unfold f_X11_guest_j21
    rw [e_isFull hn hG.2.1, if_pos (by omega), bnd_some, if_pos rfl]
    rcases hv with h | ⟨s, hs, rfl, h9⟩
    · rw [if_pos h, A, bnd_some]
    · rw [if_neg (nI_m1 (by omega)), e_at_n hs, bnd_some, if_pos h9, A, bnd_some]
  · rw [← hσ', plc_6, f0 6 k rfl]
  · rw [← hσ', plc_fx _ n w 3 8 rfl]; simp [zg_zs]
/-! where the guests sit -/
section ZLY
variable {xs : Nat → Int32} {L : Nat}
def frL (S : Nat → Int32) (t : Int32) : Nat → Nat → Int32 → Int32
  | 0, _, f => f
  | m + 1, h, f => frL S t m (h + 1) (if f = 0 then 0 else if S h = t then 0 else 1)
theorem frL_0 (S : Nat → Int32) (t : Int32) : ∀ m h, frL S t m h 0 = 0 := by
  intro m
  induction m with
  | zero => intro h; rfl
  | succ m ih => intro h; rw [frL, if_pos rfl]; exact ih (h + 1)
theorem frL_ok {S : Nat → Int32} {t : Int32} : ∀ m h f, ¬ frL S t m h f = 0 → ∀ i, h ≤ i → i < h + m → ¬ S i = t := by
  intro m
  induction m with
  | zero => intro h f _ i h1 h2; omega
  | succ m ih =>
    intro h f hf i h1 h2
    rw [frL] at hf
    by_cases q : i = h
    · subst q
      intro w
      rw [if_pos w] at hf
      have : (if f = 0 then (0 : Int32) else 0) = 0 := by split <;> rfl
      rw [this, frL_0] at hf
      exact hf rfl
    · exact ih (h + 1) _ hf i (by omega) (by omega)
theorem frL_cg {S S' : Nat → Int32} {t : Int32} : ∀ m h f, (∀ i, h ≤ i → i < h + m → S' i = S i) → frL S' t m h f = frL S t m h f := by
  intro m
  induction m with
  | zero => intros; rfl
  | succ m ih =>
    intro h f hs
    rw [frL, frL, hs h (Nat.le_refl _) (by omega)]
    exact ih (h + 1) _ (fun i h1 h2 => hs i (by omega) (by omega))
theorem v_free {F D t : Nat} {K : Int32 → zM → Option (Int32 × zM)} {v5 v6 at_ : Int32} {g : Nat} {S : Nat → Int32} {σ : zM} (hg : g ≤ 8) (hS : ∀ h, h < g → zg σ 138 h = S h) : ∀ (d fu h : Nat) (f : Int32), h + d = g → d < fu → f_L_lay_L100 F D t xs L K v5 v6 (nI g) at_ fu f (nI h) σ = K (frL S at_ d h f) σ := by
  intro d
  induction d with
  | zero =>
    intro fu h f hh hfu
    obtain ⟨fu, rfl⟩ : ∃ f', fu = f' + 1 := ⟨fu - 1, by omega⟩
    rw [f_L_lay_L100, if_neg (by rw [nI_ltI (by omega) (by omega)]; omega), frL]
  | succ d ih =>
    intro fu h f hh hfu
    obtain ⟨fu, rfl⟩ : ∃ f', fu = f' + 1 := ⟨fu - 1, by omega⟩
    rw [f_L_lay_L100, if_pos (by rw [nI_ltI (by omega) (by omega)]; omega), frL]
    by_cases h0 : f = 0
    · rw [if_pos h0, if_pos h0, lt_eq, nI_1]; exact ih fu (h + 1) 0 (by omega) (by omega)
    · rw [if_neg h0, if_neg h0, if_pos (zin_n (by omega) (by omega)), nI_clamp (by omega), hS h (by omega)]
      by_cases h1 : S h = at_
      · rw [if_pos h1, if_pos h1, lt_eq, nI_1]; exact ih fu (h + 1) 0 (by omega) (by omega)
      · rw [if_neg h1, if_neg h1, lt_eq, nI_1]; exact ih fu (h + 1) 1 (by omega) (by omega)
/-- the bits of a guest; where it would sit; where it sits -/
def vq (xs : Nat → Int32) (L : Nat) (x : Int32) (g : Nat) : Int32 := if nI (g + 1) < nI L then xs (g + 1) else (37 : Int32) * nI g + x
def atq (xs : Nat → Int32) (L : Nat) (x : Int32) (g : Nat) : Int32 := (2 : Int32) * (x &&& (3 : Int32)) + ((vq xs L x g >>> ((1 : Int32) &&& 31)) &&& (15 : Int32))
def nwq (xs : Nat → Int32) (L : Nat) (x : Int32) (g : Nat) (S : Nat → Int32) : Int32 := if frL S (atq xs L x g) g 0 (if 0 < ((vq xs L x g >>> ((5 : Int32) &&& 31)) &&& (7 : Int32)) then 1 else 0) = 0 then -1 else atq xs L x g
def sqs (xs : Nat → Int32) (L : Nat) (x : Int32) : Nat → Nat → Int32
  | 0 => fun _ => 0
  | g + 1 => fun k => if k = g then nwq xs L x g (sqs xs L x g) else sqs xs L x g k
/-- the shadow behind so many guests, so many likings -/
def GG (F : Nat) (xs : Nat → Int32) (L : Nat) (x : Int32) (m : zM) : Nat → zM
  | 0 => m
  | g + 1 => gs (f_X12_guest F (vq xs L x g &&& (1 : Int32)) (nwq xs L x g (sqs xs L x g))) (GG F xs L x m g)
theorem and1 (x : Int32) : ∃ b, b < 2 ∧ x &&& (1 : Int32) = nI b := pk_andE x 1 rfl
theorem and3 (x : Int32) : ∃ b, b < 4 ∧ x &&& (3 : Int32) = nI b := pk_andE x 2 rfl
theorem and15 (x : Int32) : ∃ b, b < 16 ∧ x &&& (15 : Int32) = nI b := pk_andE x 4 rfl
theorem atq_n (x : Int32) (g : Nat) : ∃ k, k < 40 ∧ atq xs L x g = nI k := by
  obtain ⟨a, ha, e1⟩ := and3 x
  obtain ⟨b, hb, e2⟩ := and15 (vq xs L x g >>> ((1 : Int32) &&& 31))
  refine ⟨2 * a + b, by omega, ?_⟩
  unfold atq
  rw [e1, e2, show (2 : Int32) = nI 2 from rfl, pk_mul, nI_add]
/-- a guest comes -/
theorem ly_148 {F D t A g : Nat} {σ0 c m σ : zM} {x v5 v6 w0 : Int32} {K : Int32 → zM → Option (Int32 × zM)} (hF : 6000 ≤ F) (ht : t < 2) (hA : A < 999) (hg : g < 8) (h : LY t g A σ0 c m σ) (hS : ∀ k, k < g → zg σ 138 k = sqs xs L x g k ∧ zg c 6 k = sqs xs L x g k) (h139 : zg σ 139 g = vq xs L x g &&& (1 : Int32)) (hw : w0 = nwq xs L x g (sqs xs L x g)) : ∃ c' σ', f_L_lay_j148 F D t xs L K v5 v6 (nI g) w0 (nI g) σ = K (nI (g + 1)) σ' ∧ LY t (g + 1) (A + 1) σ0 c' (gs (f_X12_guest F (vq xs L x g &&& (1 : Int32)) w0) m) σ' ∧ (∀ k, k < g + 1 → zg σ' 138 k = sqs xs L x (g + 1) k ∧ zg c' 6 k = sqs xs L x (g + 1) k) ∧ zg c' 1 1 = zg c 1 1 := by
  have z : zin (nI g) 8 = true := zin_n (by omega) (by omega)
  have h' := h.arr (k := 138) (j := g) (v := w0) ht (by omega) (by omega)
  obtain ⟨ld, hld, eld⟩ := and1 (vq xs L x g)
  have hG := h.ig (by omega)
  have hv : w0 = -1 ∨ ∃ k, k < 40 ∧ w0 = nI k ∧ zg (zmx c m) 9 k = -1 := by
    rw [hw]
    unfold nwq
    by_cases q : frL (sqs xs L x g) (atq xs L x g) g 0 (if 0 < ((vq xs L x g >>> ((5 : Int32) &&& 31)) &&& (7 : Int32)) then 1 else 0) = 0
    · rw [if_pos q]; exact Or.inl rfl
    · rw [if_neg q]
      obtain ⟨k, hk, e⟩ := atq_n (xs := xs) (L := L) x g
      refine Or.inr ⟨k, hk, e, ?_⟩
      rcases hG.2.2.2.2.1 k hk with q9 | ⟨g', hg', q9, q6⟩
      · exact q9
      · exact absurd ((hS g' hg').2.symm.trans ((zg_mlo (c := c) (m := m) (k := 6) (by decide)).symm.trans (q6.trans e.symm))) (frL_ok g 0 _ q g' (by omega) (by omega))
  obtain ⟨r, s1, e1, e2, e3, e4⟩ := LY.call ([4, 5, 6, 9], [(3, 8)]) (op_guest (F := F) (by omega) (vq xs L x g &&& (1 : Int32)) w0) (fun s => fx_f_X11_guest _ _ (by decide +kernel) s) (fun c c' m => cg_f_X12_guest c c' F _ _ m) (by decide +kernel) (by decide +kernel) ht hA h'
  obtain ⟨s2, g1, g2, g3⟩ := v_guest (w := w0) hG (by omega) hld hv
  rw [eld, g1] at e1
  cases e1
  refine ⟨s1, _, ?_, e4 (g + 1) g3, fun k hk => ?_, (e3 1 1 rfl).trans (zg_mlo (by decide))⟩
  · unfold f_L_lay_j148
    rw [if_pos z, nI_clamp (by omega), lt_eq, if_pos z, if_pos z, zg_ne (by decide), h139, zg_row, if_pos rfl, e2, bnd_some, if_pos rfl, lt_eq, nI_1]
  · rw [zg_put ht (by omega) (by omega), zg_row, g2]
    show (if k = g then w0 else zg σ 138 k) = (if k = g then nwq xs L x g (sqs xs L x g) else sqs xs L x g k) ∧ (if k = g then w0 else zg (zmx c m) 6 k) = (if k = g then nwq xs L x g (sqs xs L x g) else sqs xs L x g k)
    by_cases q : k = g
    · rw [if_pos q, if_pos q, if_pos q]; exact ⟨hw, hw⟩
    · rw [if_neg q, if_neg q, if_neg q, zg_mlo (by decide)]; exact hS k (by omega)
theorem ly_56 {F D t A g : Nat} {σ0 c m σ : zM} {x : Int32} {K : Int32 → zM → Option (Int32 × zM)} (hF : 6000 ≤ F) (ht : t < 2) (hA : A < 999) (hg : g < 8) (h : LY t g A σ0 c m σ) (hS : ∀ k, k < g → zg σ 138 k = sqs xs L x g k ∧ zg c 6 k = sqs xs L x g k) : ∃ c' σ', f_L_lay_j56 F D t xs L K x (x &&& (3 : Int32)) (nI g) (vq xs L x g) σ = K (nI (g + 1)) σ' ∧ LY t (g + 1) (A + 1) σ0 c' (gs (f_X12_guest F (vq xs L x g &&& (1 : Int32)) (nwq xs L x g (sqs xs L x g))) m) σ' ∧ (∀ k, k < g + 1 → zg σ' 138 k = sqs xs L x (g + 1) k ∧ zg c' 6 k = sqs xs L x (g + 1) k) ∧ zg c' 1 1 = zg c 1 1 := by
  have z : zin (nI g) 8 = true := zin_n (by omega) (by omega)
  have h' := h.arr (k := 139) (j := g) (v := vq xs L x g &&& (1 : Int32)) ht (by omega) (by omega)
  have hS' : ∀ k, k < g → zg (zs σ 139 g (vq xs L x g &&& (1 : Int32))) 138 k = sqs xs L x g k ∧ zg c 6 k = sqs xs L x g k := fun k hk => by rw [zg_ne (by decide)]; exact hS k hk
  have h139 : zg (zs σ 139 g (vq xs L x g &&& (1 : Int32))) 139 g = vq xs L x g &&& (1 : Int32) := zg_eq
  obtain ⟨c', σ', e1, e2, e3, e11⟩ := ly_148 (D := D) (K := K) (v5 := x) (v6 := x &&& (3 : Int32)) hF ht hA hg h' hS' h139 rfl
  refine ⟨c', σ', ?_, e2, e3, e11⟩
  have fin : ∀ f0 : Int32, nwq xs L x g (sqs xs L x g) = (if frL (sqs xs L x g) (atq xs L x g) g 0 f0 = 0 then -1 else atq xs L x g) → f_L_lay_L100 F D t xs L (fun y15 s14 => if y15 = 0 then f_L_lay_j148 F D t xs L K x (x &&& (3 : Int32)) (nI g) (-1 : Int32) (nI g) s14 else f_L_lay_j148 F D t xs L K x (x &&& (3 : Int32)) (nI g) (atq xs L x g) (nI g) s14) x (x &&& (3 : Int32)) (nI g) (atq xs L x g) F f0 (0 : Int32) (zs σ 139 g (vq xs L x g &&& (1 : Int32))) = K (nI (g + 1)) σ' := by
    intro f0 hf0
    refine (v_free (D := D) (t := t) (xs := xs) (L := L) (K := fun y15 s14 => if y15 = 0 then f_L_lay_j148 F D t xs L K x (x &&& (3 : Int32)) (nI g) (-1 : Int32) (nI g) s14 else f_L_lay_j148 F D t xs L K x (x &&& (3 : Int32)) (nI g) (atq xs L x g) (nI g) s14) (v5 := x) (v6 := x &&& (3 : Int32)) (by omega) (fun k hk => (hS' k hk).1) g F 0 f0 (by omega) (by omega)).trans ?_
    rw [hf0] at e1
    by_cases q : frL (sqs xs L x g) (atq xs L x g) g 0 f0 = 0
    · rw [if_pos q] at e1; rw [if_pos q]; exact e1
    · rw [if_neg q] at e1; rw [if_neg q]; exact e1
  unfold f_L_lay_j56
  rw [if_pos z, nI_clamp (by omega), lt_eq, lt_eq]
  by_cases q : 0 < ((vq xs L x g >>> ((5 : Int32) &&& 31)) &&& (7 : Int32))
  · rw [if_pos q]
    exact fin 1 (by unfold nwq; rw [if_pos q])
  · rw [if_neg q]
    exact fin 0 (by unfold nwq; rw [if_neg q])
theorem ly_23 {F D t : Nat} {σ0 m : zM} {x : Int32} {K : zM → Option (Int32 × zM)} (hF : 6000 ≤ F) (ht : t < 2) (hL : L < 2 ^ 31) : ∀ (d fu g A : Nat) (c σ : zM), g + d = 8 → d < fu → A + d < 999 → LY t g A σ0 c (GG F xs L x m g) σ → (∀ k, k < g → zg σ 138 k = sqs xs L x g k ∧ zg c 6 k = sqs xs L x g k) → ∃ c' σ', f_L_lay_L23 F D t xs L K x (x &&& (3 : Int32)) fu (nI g) σ = K σ' ∧ LY t 8 (A + d) σ0 c' (GG F xs L x m 8) σ' ∧ zg c' 1 1 = zg c 1 1 := by
  intro d
  induction d with
  | zero =>
    intro fu g A c σ hg hfu hA h hS
    obtain ⟨fu, rfl⟩ : ∃ f', fu = f' + 1 := ⟨fu - 1, by omega⟩
    have hg8 : g = 8 := by omega
    subst hg8
    exact ⟨c, σ, by rw [f_L_lay_L23, if_neg (by decide)], h, rfl⟩
  | succ d ih =>
    intro fu g A c σ hg hfu hA h hS
    obtain ⟨fu, rfl⟩ : ∃ f', fu = f' + 1 := ⟨fu - 1, by omega⟩
    obtain ⟨c1, σ1, e1, e2, e3, e11⟩ := ly_56 (D := D) (K := f_L_lay_L23 F D t xs L K x (x &&& (3 : Int32)) fu) hF ht (by omega) (by omega) h hS
    obtain ⟨c', σ', g1, g2, g11⟩ := ih fu (g + 1) (A + 1) c1 σ1 (by omega) (by omega) (by omega) e2 e3
    refine ⟨c', σ', ?_, by rw [show A + (d + 1) = A + 1 + d by omega]; exact g2, g11.trans e11⟩
    rw [f_L_lay_L23, if_pos (show nI g < (8 : Int32) by rw [show (8 : Int32) = nI 8 from rfl, nI_ltI (by omega) (by omega)]; omega), nI_1]
    rw [← g1, ← e1]
    by_cases q : nI (g + 1) < nI L
    · have q' := (nI_ltI (by omega) hL).mp q
      rw [if_pos q, if_pos (zin_n (by omega) (by omega)), nI_clamp (by omega), show vq xs L x g = xs (g + 1) from if_pos q]
    · rw [if_neg q, show vq xs L x g = (37 : Int32) * nI g + x from if_neg q]
end ZLY
