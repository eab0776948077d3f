/-! ===== what the judge remembers ===== -/
def pairI (f g : Nat) : Nat := f * (31 - f) / 2 + g - f - 1
def nearI (s t : Nat) : Nat := 2 * (t / 2 + 2 - s / 2) + t % 2
def harI (f g s e : Nat) : Nat := (pairI f g * 40 + s) * 10 + e
def PM (n p c a : Nat) (α σ : zM) : Prop := zg σ 12 5 = nI a ∧ a ≤ 1000 ∧
  (∀ f g s e, f < g → g < 16 → s < 40 → e < 10 → ∃ v, v < (a + 1) * 256 ∧ zg σ 14 (harI f g s e) = nI v ∧ (v / 256 = a → g < n ∧ ∀ t, t < 40 → dst s t ≤ 2 → nearI s t = e → nI (v % 256) = hrm α p c f s g t)) ∧
  (∀ g s, g < 16 → s < 40 → ∃ v, v < (a + 1) * 256 ∧ zg σ 15 (40 * g + s) = nI v ∧ (v / 256 = a → g < n ∧ nI (v % 256) - 99 = wrt α p c g s))
theorem v_two : ∀ f, f < 16 → ∀ g, g < 16 → f < g → ((((nI f * ((31 : Int32) - nI f)) / (2 : Int32)) + nI g) - nI f) - (1 : Int32) = nI (pairI f g) ∧ pairI f g < 120 := by decide +kernel
theorem v_pairA : ∀ f, f < 16 → ∀ f', f' < 16 → f < f' → f * (31 - f) / 2 + 14 - f < f' * (31 - f') / 2 := by decide +kernel
theorem v_pair {f g f' g' : Nat} (hf : f < g) (hg : g < 16) (hf' : f' < g') (hg' : g' < 16) (h : pairI f g = pairI f' g') : f = f' ∧ g = g' := by
  unfold pairI at h
  rcases Nat.lt_trichotomy f f' with q | q | q
  · have := v_pairA f (by omega) f' (by omega) q; omega
  · subst q; omega
  · have := v_pairA f' (by omega) f (by omega) q; omega
theorem v_near : ∀ s, s < 40 → ∀ t, t < 40 → dst s t ≤ 2 → ((2 : Int32) * (((nI t >>> ((1 : Int32) &&& 31)) - (nI s >>> ((1 : Int32) &&& 31))) + (2 : Int32))) + (nI t &&& (1 : Int32)) = nI (nearI s t) ∧ nearI s t < 10 := by decide +kernel
theorem near_inj {s t t' : Nat} (h : dst s t ≤ 2) (h' : dst s t' ≤ 2) (e : nearI s t = nearI s t') : t = t' := by
  unfold dst at h h'; unfold nearI at e
  split at h <;> split at h' <;> omega
theorem har_inj {f g s e f' g' s' e' : Nat} (hf : f < g) (hg : g < 16) (hs : s < 40) (he : e < 10) (hf' : f' < g') (hg' : g' < 16) (hs' : s' < 40) (he' : e' < 10) (h : harI f g s e = harI f' g' s' e') : f = f' ∧ g = g' ∧ s = s' ∧ e = e' := by
  unfold harI at h
  have h1 : pairI f g = pairI f' g' := by omega
  have h2 := v_pair hf hg hf' hg' h1
  omega
theorem v_shr8 {v : Nat} (h : v < 2 ^ 31) : nI v >>> ((8 : Int32) &&& 31) = nI (v / 256) := pk_shrN h _ 8 rfl
theorem v_and8 {v : Nat} (h : v < 2 ^ 31) : nI v &&& (255 : Int32) = nI (v % 256) := pk_andN (by omega) 8 rfl
theorem v_shl8 {v : Nat} (h : v < 2 ^ 23) : nI v <<< ((8 : Int32) &&& 31) = nI (v * 256) := pk_shlN _ 8 rfl (by omega)
theorem amt_b {α : zM} {p : Nat} {le : Nat → Int32} {kind lo hi : Int32} (hl : lo.toInt ≤ 0) (hh : 0 ≤ hi.toInt) : ∀ c k, lo.toInt ≤ (amt α p le kind lo hi c k).toInt ∧ (amt α p le kind lo hi c k).toInt ≤ hi.toInt := by
  intro c
  induction c with
  | zero => intro k; exact ⟨hl, hh⟩
  | succ c ih =>
    intro k
    rw [amt]
    split
    · split
      · exact ih (k + 1)
      · unfold clI
        simp only [i_lt]
        split
        · omega
        · split <;> omega
    · exact ih (k + 1)
theorem nI_of_b {v : Int32} {m : Nat} (h : 0 ≤ v.toInt ∧ v.toInt ≤ m) (hm : m < 2 ^ 31 - 1) : ∃ k, k ≤ m ∧ v = nI k := by
  obtain ⟨k, hk, e, -⟩ := nI_of' (v := v) (n := m + 1) ⟨h.1, by omega⟩ (by omega)
  exact ⟨k, by omega, e⟩
theorem hrm_n (α : zM) (p c f s g t : Nat) : ∃ k, k ≤ 99 ∧ hrm α p c f s g t = nI k := nI_of_b (amt_b (lo := 0) (hi := 99) (by decide) (by decide) c 0) (by omega)
theorem see_n (α : zM) (p c f s g t : Nat) : ∃ k, k ≤ 1000 ∧ see α p c f s g t = nI k := nI_of_b (amt_b (lo := 0) (hi := 1000) (by decide) (by decide) c 0) (by omega)
theorem wrt_n (α : zM) (p c f s : Nat) : ∃ k, k ≤ 198 ∧ wrt α p c f s + 99 = nI k := by
  have h := amt_b (α := α) (p := p) (le := lett1 α f s) (kind := 119) (lo := -99) (hi := 99) (by decide) (by decide) c 0
  rw [show ((-99 : Int32)).toInt = -99 from rfl, show ((99 : Int32)).toInt = 99 from rfl] at h
  have e : (wrt α p c f s + 99).toInt = (wrt α p c f s).toInt + 99 := by
    rw [Int32.toInt_add, show ((99 : Int32)).toInt = 99 from rfl]
    unfold wrt
    rw [Int.bmod_eq_of_le (by omega) (by omega)]
  refine nI_of_b ?_ (by omega)
  rw [e]
  unfold wrt
  omega
theorem wrt_back (α : zM) (p c f s k : Nat) (h : wrt α p c f s + 99 = nI k) : nI k - 99 = wrt α p c f s := by rw [← h]; grind
theorem v_harI {f g s e : Nat} (hf : f < g) (hg : g < 16) (hs : s < 40) (he : e < 10) : ((nI (pairI f g) * (40 : Int32)) + nI s) * (10 : Int32) + nI e = nI (harI f g s e) ∧ harI f g s e < 48000 := by
  have h1 := (v_two f (by omega) g hg hf).2
  refine ⟨?_, by unfold harI; omega⟩
  rw [show (40 : Int32) = nI 40 from rfl, show (10 : Int32) = nI 10 from rfl, pk_mul, nI_add, pk_mul, nI_add]; rfl
abbrev mQ : zMk := ([13, 14, 15, 23, 32, 40, 41, 42, 43, 44, 45, 46, 47, 48, 49, 50], [])
theorem e_quar {F n p q c a f g s t : Nat} {α σ : zM} (hF : 300 ≤ F) (hG : IG n α) (hW : IW p q c α) (hx : Fx mQ α σ) (hP : PM n p c a α σ) (hfg : f < g) (hg : g < n) (hs : s < 40) (ht : t < 40) (hd : dst s t ≤ 2) : ∃ σ', f_X1_quarrel_j57 F (nI f) (nI g) (nI s) (nI t) σ = some (hrm α p c f s g t, σ') ∧ Fx ([13, 14, 23, 32], []) σ σ' ∧ PM n p c a α σ' := by
  have hn := hG.1
  obtain ⟨he, he10⟩ := v_near s hs t ht hd
  obtain ⟨ht2, -⟩ := v_two f (by omega) g (by omega) hfg
  obtain ⟨hi, hi4⟩ := v_harI hfg (show g < 16 by omega) hs he10
  have z := zin_n (show (48000 : Nat) < 2 ^ 31 by omega) hi4
  have cl := nI_clamp (show harI f g s (nearI s t) < 2 ^ 31 by omega)
  have hGσ : IG n σ := hG.fx hx rfl
  have hWσ : IW p q c σ := hW.fx hx rfl
  obtain ⟨p1, p2, p3, p4⟩ := hP
  obtain ⟨v, hv, hv14, hvq⟩ := p3 f g s (nearI s t) hfg (by omega) hs he10
  unfold f_X1_quarrel_j57
  rw [lt_eq, he, lt_eq, ht2, lt_eq, hi, if_neg (nI_pos (by omega)), if_pos (by rw [show Int32.ofNat 48000 = nI 48000 from rfl, nI_ltI (by omega) (by omega)]; omega), if_pos z, cl, hv14, p1, v_shr8 (by omega)]
  by_cases hva : v / 256 = a
  · rw [if_pos (by rw [hva]), if_pos z, v_and8 (by omega), (hvq hva).2 t ht hd rfl]
    exact ⟨σ, rfl, Fx.rf, p1, p2, p3, p4⟩
  · rw [if_neg (by rw [nI_eq (by omega) (by omega)]; exact hva)]
    obtain ⟨σ1, e1, e2, e3⟩ := e_spell hGσ.1 hGσ.2.1 (show f < n by omega) hg hs ht
    have e2' : Fx scrL σ σ1 := e2.sub rfl
    obtain ⟨w1, w2, w3⟩ := e_inlaw hWσ e2'
    obtain ⟨σ2, g1, g2⟩ := e_amount (kind := 104) (lo := 0) (hi := 99) (by decide) (by decide) hF hWσ e2' e3
    have hh : amt σ p (lett σ f s g t) 104 0 99 c 0 = hrm α p c f s g t := hrm_fx hx rfl hW.or c f s g t
    obtain ⟨k, hk, hk'⟩ := hrm_n α p c f s g t
    have a5 : zg σ1 12 5 = nI a := (e2 12 5 rfl).trans p1
    rw [e1, bnd_some, w1, w2, if_pos w3, g1, bnd_some, if_pos z, lt_eq, if_pos z, hh, hk', a5, v_shl8 (by omega), nI_add, zg_eq, v_and8 (by omega), show (a * 256 + k) % 256 = k by omega]
    have fx : Fx ([13, 14, 23, 32], []) σ (zs σ2 14 (harI f g s (nearI s t)) (nI (a * 256 + k))) := ((e2.sub rfl).tr (g2.sub rfl)).zs rfl
    refine ⟨_, rfl, fx, (fx 12 5 rfl).trans p1, p2, ?_, ?_⟩
    · intro f' g' s' e' h1 h2 h3 h4
      rw [zg_row]
      split
      · rename_i hq
        obtain ⟨rfl, rfl, rfl, rfl⟩ := har_inj h1 h2 h3 h4 hfg (by omega) hs he10 hq
        refine ⟨a * 256 + k, by omega, rfl, fun _ => ⟨hg, fun t' ht' hd' hn' => ?_⟩⟩
        have := near_inj hd' hd hn'
        subst this
        rw [show (a * 256 + k) % 256 = k by omega, hk']
      · have : zg σ2 14 (harI f' g' s' e') = zg σ 14 (harI f' g' s' e') := (g2 14 _ rfl).trans (e2 14 _ rfl)
        rw [this]
        exact p3 f' g' s' e' h1 h2 h3 h4
    · intro g' s' h1 h2
      have : zg (zs σ2 14 (harI f g s (nearI s t)) (nI (a * 256 + k))) 15 (40 * g' + s') = zg σ 15 (40 * g' + s') := fx 15 _ rfl
      rw [this]
      exact p4 g' s' h1 h2
def qrl (α : zM) (p c f s g t : Nat) : Int32 := if f = g then 0 else if 2 < dst s t then 0 else if f < g then hrm α p c f s g t else hrm α p c g t f s
theorem e_quarrel {F n p q c a f g s t : Nat} {α σ : zM} (hF : 300 ≤ F) (hG : IG n α) (hW : IW p q c α) (hx : Fx mQ α σ) (hP : PM n p c a α σ) (hf : f < n) (hg : g < n) (hs : s < 40) (ht : t < 40) : ∃ σ', f_X1_quarrel F (nI f) (nI s) (nI g) (nI t) σ = some (qrl α p c f s g t, σ') ∧ Fx ([13, 14, 23, 32], []) σ σ' ∧ PM n p c a α σ' := by
  have hn := hG.1
  have hds : dst s t < 20 := by unfold dst; split <;> omega
  unfold f_X1_quarrel qrl f_X1_quarrel_j43
  simp only [nI_eq (show f < 2 ^ 31 by omega) (show g < 2 ^ 31 by omega), lt_eq]
  by_cases h1 : f = g
  · rw [if_pos h1, if_pos h1]; exact ⟨σ, rfl, Fx.rf, hP⟩
  rw [if_neg h1, if_neg h1, e_apart hs ht, bnd_some]
  have h22 : ((2 : Int32) < nI (dst s t)) ↔ 2 < dst s t := nI_ltI (a := 2) (by omega) (by omega)
  simp only [h22]
  by_cases h2 : 2 < dst s t
  · rw [if_pos h2, if_pos h2]; exact ⟨σ, rfl, Fx.rf, hP⟩
  rw [if_neg h2, if_neg h2]
  simp only [nI_ltI (show f < 2 ^ 31 by omega) (show g < 2 ^ 31 by omega), nI_ltI (show g < 2 ^ 31 by omega) (show f < 2 ^ 31 by omega)]
  by_cases h3 : f < g
  · simp only [if_neg (show ¬ g < f by omega), if_pos h3, if_true]
    exact e_quar hF hG hW hx hP h3 hg hs ht (by omega)
  · have hne : ¬ nI g = nI f := by rw [nI_eq (by omega) (by omega)]; omega
    simp only [if_pos (show g < f by omega), if_neg h3, if_neg hne]
    exact e_quar hF hG hW hx hP (by omega) hf ht hs (by unfold dst at h2 ⊢; split at h2 <;> split <;> omega)
theorem e_value {F n p q c a g s : Nat} {α σ : zM} (hF : 300 ≤ F) (hG : IG n α) (hW : IW p q c α) (hx : Fx mQ α σ) (hP : PM n p c a α σ) (hg : g < n) (hs : s < 40) : ∃ σ', f_X1_value F (nI g) (nI s) σ = some (wrt α p c g s, σ') ∧ Fx ([13, 15, 23, 32], []) σ σ' ∧ PM n p c a α σ' := by
  have hn := hG.1
  have hi : nI g * (40 : Int32) + nI s = nI (40 * g + s) := by
    rw [show (40 : Int32) = nI 40 from rfl, pk_mul, nI_add, Nat.mul_comm]
  have z := zin_n (show (640 : Nat) < 2 ^ 31 by omega) (show 40 * g + s < 640 by omega)
  have cl := nI_clamp (show 40 * g + s < 2 ^ 31 by omega)
  have hGσ : IG n σ := hG.fx hx rfl
  have hWσ : IW p q c σ := hW.fx hx rfl
  obtain ⟨p1, p2, p3, p4⟩ := hP
  obtain ⟨v, hv, hv15, hvq⟩ := p4 g s (by omega) hs
  unfold f_X1_value
  rw [lt_eq, hi, if_neg (nI_pos (by omega)), if_pos (by rw [show Int32.ofNat 640 = nI 640 from rfl, nI_ltI (by omega) (by omega)]; omega), if_pos z, cl, hv15, p1, v_shr8 (by omega)]
  by_cases hva : v / 256 = a
  · rw [if_pos (by rw [hva]), if_pos z, v_and8 (by omega), (hvq hva).2]
    exact ⟨σ, rfl, Fx.rf, p1, p2, p3, p4⟩
  · rw [if_neg (by rw [nI_eq (by omega) (by omega)]; exact hva)]
    obtain ⟨σ1, e1, e2, e3⟩ := e_spellAlone (F := F) (s := s) (by omega) hGσ.1 hGσ.2.1 hg
    have e2' : Fx scrL σ σ1 := e2.sub rfl
    obtain ⟨w1, w2, w3⟩ := e_inlaw hWσ e2'
    obtain ⟨σ2, g1, g2⟩ := e_amount (kind := 119) (lo := -99) (hi := 99) (by decide) (by decide) hF hWσ e2' e3
    have hh : amt σ p (lett1 σ g s) 119 (-99) 99 c 0 = wrt α p c g s := wrt_fx hx rfl hW.or c g s
    obtain ⟨k, hk, hk'⟩ := wrt_n α p c g s
    have a5 : zg σ1 12 5 = nI a := (e2 12 5 rfl).trans p1
    have hs3 : nI (a * 256) + wrt α p c g s + 99 = nI (a * 256 + k) := by
      rw [← nI_add, ← hk']; grind
    rw [e1, bnd_some, w1, w2, if_pos w3, g1, bnd_some, if_pos z, lt_eq, if_pos z, hh, a5, v_shl8 (by omega), hs3, zg_eq, v_and8 (by omega), show (a * 256 + k) % 256 = k by omega, wrt_back _ _ _ _ _ _ hk']
    have fx : Fx ([13, 15, 23, 32], []) σ (zs σ2 15 (40 * g + s) (nI (a * 256 + k))) := ((e2.sub rfl).tr (g2.sub rfl)).zs rfl
    refine ⟨_, rfl, fx, (fx 12 5 rfl).trans p1, p2, ?_, ?_⟩
    · intro f' g' s' e' h1 h2 h3 h4
      have : zg (zs σ2 15 (40 * g + s) (nI (a * 256 + k))) 14 (harI f' g' s' e') = zg σ 14 (harI f' g' s' e') := fx 14 _ rfl
      rw [this]
      exact p3 f' g' s' e' h1 h2 h3 h4
    · intro g' s' h1 h2
      rw [zg_row]
      split
      · rename_i hq
        have : g' = g ∧ s' = s := by omega
        obtain ⟨rfl, rfl⟩ := this
        exact ⟨a * 256 + k, by omega, rfl, fun _ => ⟨hg, by rw [show (a * 256 + k) % 256 = k by omega]; exact wrt_back _ _ _ _ _ _ hk'⟩⟩
      · have : zg σ2 15 (40 * g' + s') = zg σ 15 (40 * g' + s') := (g2 15 _ rfl).trans (e2 15 _ rfl)
        rw [this]
        exact p4 g' s' h1 h2
