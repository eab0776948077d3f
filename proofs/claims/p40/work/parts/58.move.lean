/-! ===== the sum when one moves, when two change about ===== -/
theorem dst_sym (s t : Nat) : dst s t = dst t s := by unfold dst; split <;> split <;> omega
theorem qrl_sym (α : zM) (p c f s g t : Nat) : qrl α p c f s g t = qrl α p c g t f s := by
  unfold qrl
  rw [dst_sym t s]
  by_cases h : f = g
  · rw [if_pos h, if_pos h.symm]
  · rw [if_neg h, if_neg (show ¬ g = f from fun q => h q.symm)]
    by_cases h2 : 2 < dst s t
    · rw [if_pos h2, if_pos h2]
    · rw [if_neg h2, if_neg h2]
      by_cases h3 : f < g
      · rw [if_pos h3, if_neg (by omega)]
      · rw [if_neg h3, if_pos (by omega)]
theorem qv_sym (α : zM) (p c : Nat) (W : Int32) (a b : Nat) : qv α p c W a b = qv α p c W b a := by
  unfold qv
  rw [qrl_sym]
  by_cases h : prs α W a = true ∧ prs α W b = true
  · rw [if_pos h, if_pos h.symm]
  · rw [if_neg h, if_neg (fun q => h q.symm)]
def rmW (w : Nat → Int32) (i a : Nat) : Int32 := if a = i then 0 else w a
def rmQ (q : Nat → Nat → Int32) (i a b : Nat) : Int32 := if a = i ∨ b = i then 0 else q a b
theorem tri_rm1 {w : Nat → Int32} {q : Nat → Nat → Int32} {n i : Nat} (hi : i < n) (hsy : ∀ a b, q a b = q b a) : tri w q n = tri (rmW w i) (rmQ q i) n + (w i + rng (fun h => if h = i then 0 else q i h) 0 n) :=
  tri_rm hi hsy (fun a ha => by unfold rmW; rw [if_neg ha]) (by unfold rmW; rw [if_pos rfl]) (fun a b ha hb => by unfold rmQ; rw [if_neg (by rintro (h | h); exact ha h; exact hb h)]) (fun a => by unfold rmQ; rw [if_pos (Or.inl rfl)]) (fun a => by unfold rmQ; rw [if_pos (Or.inr rfl)])
theorem tv_tri (α : zM) (p c n : Nat) (W : Int32) : tv α p c n W = tri (wv α p c W) (qv α p c W) n := rfl
/-- the law says the same of both -/
def sameL (p c : Nat) (α α' : zM) : Prop := (∀ g s, wrt α' p c g s = wrt α p c g s) ∧ ∀ f s g t, qrl α' p c f s g t = qrl α p c f s g t
theorem sameL_fx {m : zMk} {p c : Nat} {α α' : zM} (hf : Fx m α α') (hd : dis m mLW = true) (hp : p = 16 ∨ p = 25) : sameL p c α α' :=
  ⟨fun g s => wrt_fx hf hd hp c g s, fun f s g t => by unfold qrl; rw [hrm_fx hf hd hp, hrm_fx hf hd hp]⟩
theorem prs_eq {α α' : zM} {W : Int32} {a : Nat} (h : zg α' 6 a = zg α 6 a) : prs α' W a = prs α W a := by unfold prs; rw [h]
theorem sN_eq {α α' : zM} {a : Nat} (h : zg α' 6 a = zg α 6 a) : sN α' a = sN α a := by unfold sN; rw [h]
theorem prs_nI {α : zM} {a s : Nat} (h : zg α 6 a = nI s) (hs : s < 40) : prs α 0 a = true := by
  have : ¬ nI s = -1 := nI_m1 (by omega)
  rw [prs0, h]; simp [this]
/-- what one at its seat adds -/
theorem cst_here {α : zM} {p c n g s : Nat} (h6 : zg α 6 g = nI s) (hs : s < 40) : wv α p c 0 g + rng (fun h => if h = g then 0 else qv α p c 0 g h) 0 n = cst α p c n g s 0 := by
  have hp := prs_nI h6 hs
  unfold cst
  rw [show wv α p c 0 g = -(wrt α p c g s) by unfold wv; rw [if_pos hp, sN_n h6 hs]]
  congr 1
  refine rng_ext n 0 (fun k _ _ => ?_)
  unfold cq qv
  by_cases hk : k = g
  · rw [if_pos hk, if_pos hk]
  · rw [if_neg hk, if_neg hk]
    by_cases hpk : prs α 0 k = true
    · rw [if_pos ⟨hp, hpk⟩, if_pos hpk, sN_n h6 hs]
    · rw [if_neg (fun q => hpk q.2), if_neg hpk]
theorem tv_one {α α' : zM} {p c n g s v : Nat} (hL : sameL p c α α') (hg : g < n) (hs : s < 40) (hv : v < 40) (h6 : zg α 6 g = nI s) (h6' : zg α' 6 g = nI v) (ho : ∀ a, ¬ a = g → zg α' 6 a = zg α 6 a) : tv α' p c n 0 = tv α p c n 0 + (cst α p c n g v 0 - cst α p c n g s 0) := by
  rw [tv_tri, tv_tri, tri_rm1 hg (qv_sym α p c 0), tri_rm1 hg (qv_sym α' p c 0), cst_here h6 hs, cst_here h6' hv]
  have e1 : rmW (wv α' p c 0) g = rmW (wv α p c 0) g := by
    funext a
    unfold rmW
    by_cases ha : a = g
    · rw [if_pos ha, if_pos ha]
    · rw [if_neg ha, if_neg ha]; unfold wv; rw [prs_eq (ho a ha), sN_eq (ho a ha), hL.1]
  have e2 : rmQ (qv α' p c 0) g = rmQ (qv α p c 0) g := by
    funext a b
    unfold rmQ
    by_cases ha : a = g ∨ b = g
    · rw [if_pos ha, if_pos ha]
    · rw [if_neg ha, if_neg ha]
      have ha1 : ¬ a = g := fun q => ha (Or.inl q)
      have hb1 : ¬ b = g := fun q => ha (Or.inr q)
      unfold qv; rw [prs_eq (ho a ha1), prs_eq (ho b hb1), sN_eq (ho a ha1), sN_eq (ho b hb1), hL.2]
  have e3 : cst α' p c n g v 0 = cst α p c n g v 0 := by
    unfold cst
    rw [hL.1]
    congr 1
    refine rng_ext n 0 (fun k _ _ => ?_)
    unfold cq
    by_cases hk : k = g
    · rw [if_pos hk, if_pos hk]
    · rw [if_neg hk, if_neg hk, prs_eq (ho k hk), sN_eq (ho k hk), hL.2]
  rw [e1, e2, e3]
  grind
/-- two told: neither counts -/
def both (g o : Nat) : Int32 := ((1 : Int32) <<< (nI g &&& 31)) ||| ((1 : Int32) <<< (nI o &&& 31))
theorem v_both : ∀ g, g < 16 → ∀ o, o < 16 → ∀ h, h < 16 → ((((both g o) >>> (nI h &&& 31)) &&& (1 : Int32)) = 0 ↔ (¬ h = g ∧ ¬ h = o)) := by decide +kernel
theorem prs_both {α : zM} {g o h : Nat} (hg : g < 16) (ho : o < 16) (hh : h < 16) : prs α (both g o) h = (prs α 0 h && (!(decide (h = g)) && !(decide (h = o)))) := by
  unfold prs
  have e := v_both g hg o ho h hh
  by_cases hb : (((both g o) >>> (nI h &&& 31)) &&& (1 : Int32)) = 0
  · have := e.mp hb
    rw [decide_eq_true hb, decide_eq_true (bit0 h)]; simp [this.1, this.2]
  · have : ¬ (¬ h = g ∧ ¬ h = o) := fun q => hb (e.mpr q)
    rw [decide_eq_false hb, decide_eq_true (bit0 h)]
    by_cases h1 : h = g
    · simp [h1]
    · have h2 : h = o := Classical.byContradiction fun q => this ⟨h1, q⟩
      simp [h2]
theorem tv_two {α : zM} {p c n g o s v : Nat} (hn : n ≤ 16) (hg : g < n) (ho : o < n) (hgo : ¬ g = o) (hs : s < 40) (hv : v < 40) (h6 : zg α 6 g = nI s) (h7 : zg α 6 o = nI v) : tv α p c n 0 = tri (rmW (rmW (wv α p c 0) g) o) (rmQ (rmQ (qv α p c 0) g) o) n + ((cst α p c n g s (both g o) + cst α p c n o v (both g o)) + qrl α p c g s o v) := by
  have hpg := prs_nI h6 hs
  have hpo := prs_nI h7 hv
  have sy1 : ∀ a b, rmQ (qv α p c 0) g a b = rmQ (qv α p c 0) g b a := by
    intro a b
    unfold rmQ
    rw [qv_sym]
    by_cases h : a = g ∨ b = g
    · rw [if_pos h, if_pos h.symm]
    · rw [if_neg h, if_neg (fun q => h q.symm)]
  rw [tv_tri, tri_rm1 hg (qv_sym α p c 0), tri_rm1 (w := rmW (wv α p c 0) g) (q := rmQ (qv α p c 0) g) ho sy1]
  have hgo' : ¬ o = g := fun q => hgo q.symm
  have ewo : rmW (wv α p c 0) g o = -(wrt α p c o v) := by unfold rmW wv; rw [if_neg hgo', if_pos hpo, sN_n h7 hv]
  have ewg : wv α p c 0 g = -(wrt α p c g s) := by unfold wv; rw [if_pos hpg, sN_n h6 hs]
  have eo : rng (fun h => if h = o then 0 else rmQ (qv α p c 0) g o h) 0 n = rng (cq α p c o v (both g o)) 0 n := by
    refine rng_ext n 0 (fun k _ hk => ?_)
    unfold cq rmQ
    by_cases h1 : k = o
    · rw [if_pos h1, if_pos h1]
    · rw [if_neg h1, if_neg h1, prs_both (by omega) (by omega) (by omega)]
      by_cases h2 : k = g
      · rw [if_pos (Or.inr h2)]; simp [h2]
      · rw [if_neg (by rintro (q | q); exact hgo' q; exact h2 q)]
        unfold qv
        by_cases hpk : prs α 0 k = true
        · rw [if_pos ⟨hpo, hpk⟩, if_pos (by simp [hpk, h1, h2]), sN_n h7 hv]
        · rw [if_neg (fun q => hpk q.2), if_neg (by simp [hpk])]
  have eg : rng (fun h => if h = g then 0 else qv α p c 0 g h) 0 n = rng (cq α p c g s (both g o)) 0 n + qrl α p c g s o v := by
    have e2 : rng (fun k => if k = o then qrl α p c g s o v else 0) 0 n = qrl α p c g s o v := by
      rw [rng_one (i := o) n 0 (by omega) (by omega) (fun k hk => if_neg hk), if_pos rfl]
    rw [← e2, ← rng_add]
    refine rng_ext n 0 (fun k _ hk => ?_)
    unfold cq
    by_cases h1 : k = g
    · rw [if_pos h1, if_pos h1, if_neg (by omega)]; simp
    · rw [if_neg h1, if_neg h1, prs_both (by omega) (by omega) (by omega)]
      unfold qv
      by_cases h2 : k = o
      · subst h2
        rw [if_pos rfl, if_pos ⟨hpg, hpo⟩, sN_n h6 hs, sN_n h7 hv]; simp
      · rw [if_neg h2]
        by_cases hpk : prs α 0 k = true
        · rw [if_pos ⟨hpg, hpk⟩, if_pos (by simp [hpk, h1, h2]), sN_n h6 hs]; simp
        · rw [if_neg (fun q => hpk q.2), if_neg (by simp [hpk])]; simp
  rw [ewo, ewg, eo, eg]
  unfold cst
  grind
