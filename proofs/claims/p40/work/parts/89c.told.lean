/-! ===== which bits are set ===== -/
def nbW (W : Int32) : Nat → Bool := fun i => !bt W i
def tgf (W : Int32) (k : Nat) : Nat := nth (nbW W) 16 k 0
theorem nbW_t {W : Int32} {g : Nat} : nbW W g = false ↔ bt W g = true := by unfold nbW; simp
theorem fre_s {u : Nat → Bool} {g : Nat} : fre u (g + 1) = fre u g + (if u g = true then 0 else 1) := by rw [fre]
theorem fre_mono (u : Nat → Bool) : ∀ e x, fre u x ≤ fre u (x + e) := by
  intro e
  induction e with
  | zero => intro x; exact Nat.le_refl _
  | succ e ihe => intro x; rw [← Nat.add_assoc, fre]; have := ihe x; omega
theorem fre_onto {u : Nat → Bool} : ∀ n k, k < fre u n → ∃ g, g < n ∧ u g = false ∧ fre u g = k := by
  intro n
  induction n with
  | zero => intro k h; rw [fre] at h; omega
  | succ n ih =>
    intro k h
    by_cases hk : k < fre u n
    · obtain ⟨g, h1, h2, h3⟩ := ih k hk; exact ⟨g, by omega, h2, h3⟩
    · rw [fre] at h
      by_cases hu : u n = true
      · rw [if_pos hu] at h; omega
      · rw [if_neg hu] at h
        exact ⟨n, by omega, by simpa using hu, by omega⟩
theorem tgf_eq {W : Int32} {g : Nat} (hg : g < 16) (h : bt W g = true) : tgf W (fre (nbW W) g) = g :=
  nth_of (nbW_t.mpr h) g 16 0 (fre (nbW W) g) (by omega) (by omega) (by rw [fre]; omega)
theorem told_of {W : Int32} {n m : Nat} (hn : n ≤ 16) (hm : fre (nbW W) n = m) (h7 : m ≤ 7) : Told W n m (tgf W) := by
  have key : ∀ k, k < m → ∃ g, g < n ∧ bt W g = true ∧ fre (nbW W) g = k ∧ tgf W k = g := fun k hk => by
    obtain ⟨g, h1, h2, h3⟩ := fre_onto (u := nbW W) n k (by omega)
    exact ⟨g, h1, nbW_t.mp h2, h3, by rw [← h3]; exact tgf_eq (by omega) (nbW_t.mp h2)⟩
  refine ⟨h7, fun k hk => ?_, fun i j h1 h2 => ?_, fun g hg hb => ⟨fre (nbW W) g, ?_, (tgf_eq (by omega) hb).symm⟩⟩
  · obtain ⟨g, a, b, -, d⟩ := key k hk; rw [d]; exact ⟨a, b⟩
  · obtain ⟨g, a, b, c, d⟩ := key i (by omega)
    obtain ⟨g', a', b', c', d'⟩ := key j h2
    rw [d, d']
    by_cases q : g < g'
    · exact q
    · have := fre_mono (nbW W) (g - g') g'
      rw [show g' + (g - g') = g by omega] at this; omega
  · have := fre_mono (nbW W) (n - (g + 1)) (g + 1)
    rw [show g + 1 + (n - (g + 1)) = n by omega, fre, if_neg (show ¬ nbW W g = true by rw [nbW_t.mpr hb]; simp)] at this
    omega
/-! counted -/
theorem bt_nI {a i : Nat} (hi : i < 32) : bt (nI a) i = a.testBit i := by
  unfold bt nI
  rw [Int32.toBitVec_ofNat', BitVec.getLsbD_ofNat, decide_eq_true hi, Bool.true_and]
theorem nI_and (a b : Nat) : nI a &&& nI b = nI (a &&& b) := b_ext (fun i hi => by rw [b_and, bt_nI hi, bt_nI hi, bt_nI hi, Nat.testBit_and])
theorem nI_ushr {a k : Nat} (ha : a < 2 ^ 32) (hk : k < 32) : ((nI a).toUInt32 >>> ((nI k).toUInt32 &&& Int32.toUInt32 31)).toInt32 = nI (a >>> k) := b_ext (fun i hi => by
  rw [b_ushr k hk, bt_nI hi, Nat.testBit_shiftRight]
  by_cases q : k + i < 32
  · rw [bt_nI q]
  · rw [b_big (by omega), Nat.testBit_lt_two_pow (Nat.lt_of_lt_of_le ha (Nat.pow_le_pow_right (by omega) (by omega)))])
def c8 (a : Nat) : Nat := a % 2 + a / 2 % 2 + a / 4 % 2 + a / 8 % 2 + a / 16 % 2 + a / 32 % 2 + a / 64 % 2 + a / 128 % 2
def bn1 (w : Nat) : Nat := w - ((w >>> 1) &&& 1431655765)
def bn2 (w : Nat) : Nat := (w &&& 858993459) + ((w >>> 2) &&& 858993459)
def bn3 (w : Nat) : Nat := (w + (w >>> 4)) &&& 252645135
def bn4 (w : Nat) : Nat := w + (w >>> 8)
def bn5 (w : Nat) : Nat := w + (w >>> 16)
def allB (f : Nat → Bool) : Nat → Bool
  | 0 => true
  | n + 1 => f n && allB f n
theorem allB_of {f : Nat → Bool} : ∀ n, allB f n = true → ∀ i, i < n → f i = true := by
  intro n
  induction n with
  | zero => intro _ i hi; omega
  | succ n ih =>
    intro h i hi
    rw [allB, Bool.and_eq_true] at h
    by_cases q : i = n
    · rw [q]; exact h.1
    · exact ih h.2 i (by omega)
def bK1 (w : Nat) : Nat := Nat.sub w (Nat.land (Nat.shiftRight w 1) 1431655765)
def bK2 (w : Nat) : Nat := Nat.add (Nat.land w 858993459) (Nat.land (Nat.shiftRight w 2) 858993459)
def bK3 (w : Nat) : Nat := Nat.land (Nat.add w (Nat.shiftRight w 4)) 252645135
def bK4 (w : Nat) : Nat := Nat.add w (Nat.shiftRight w 8)
def bK5 (w : Nat) : Nat := Nat.add w (Nat.shiftRight w 16)
theorem v_bn0 : allB (fun a => allB (fun b => Nat.beq (Nat.land (bK5 (bK4 (bK3 (bK2 (bK1 (Nat.add (Nat.mul 256 a) b)))))) 63) (Nat.add (c8 a) (c8 b))) 256) 256 = true := by decide +kernel
theorem v_bn (a : Nat) (ha : a < 256) (b : Nat) (hb : b < 256) : (bn5 (bn4 (bn3 (bn2 (bn1 (256 * a + b)))))) &&& 63 = c8 a + c8 b :=
  Nat.eq_of_beq_eq_true (allB_of 256 (allB_of 256 v_bn0 a ha) b hb)
theorem nI_sb {a b : Nat} (h : b ≤ a) : nI a - nI b = nI (a - b) := by
  have : nI (a - b) + nI b = nI a := by rw [nI_add]; congr 1; omega
  rw [← this]; simp
theorem e_bitCount {w : Nat} (hw : w < 65536) (σ : zM) : f_J6_bitCount_0f7a4 (nI w) σ = some (nI (c8 (w / 256) + c8 (w % 256)), σ) := by
  have e1 : ∀ a, a < 2 ^ 32 → ((nI a).toUInt32 >>> ((1 : Int32).toUInt32 &&& Int32.toUInt32 31)).toInt32 = nI (a >>> 1) := fun a h => nI_ushr (k := 1) h (by omega)
  have e2 : ∀ a, a < 2 ^ 32 → ((nI a).toUInt32 >>> ((2 : Int32).toUInt32 &&& Int32.toUInt32 31)).toInt32 = nI (a >>> 2) := fun a h => nI_ushr (k := 2) h (by omega)
  have e4 : ∀ a, a < 2 ^ 32 → ((nI a).toUInt32 >>> ((4 : Int32).toUInt32 &&& Int32.toUInt32 31)).toInt32 = nI (a >>> 4) := fun a h => nI_ushr (k := 4) h (by omega)
  have e8 : ∀ a, a < 2 ^ 32 → ((nI a).toUInt32 >>> ((8 : Int32).toUInt32 &&& Int32.toUInt32 31)).toInt32 = nI (a >>> 8) := fun a h => nI_ushr (k := 8) h (by omega)
  have e16 : ∀ a, a < 2 ^ 32 → ((nI a).toUInt32 >>> ((16 : Int32).toUInt32 &&& Int32.toUInt32 31)).toInt32 = nI (a >>> 16) := fun a h => nI_ushr (k := 16) h (by omega)
  have hb1 : bn1 w < 2 ^ 17 := by unfold bn1; omega
  have l1 : (w >>> 1) &&& 1431655765 ≤ w := Nat.le_trans Nat.and_le_left (by rw [Nat.shiftRight_eq_div_pow]; exact Nat.div_le_self _ _)
  have hb2 : bn2 (bn1 w) < 2 ^ 19 := by
    unfold bn2
    have q1 : bn1 w &&& 858993459 ≤ bn1 w := Nat.and_le_left
    have q2 : (bn1 w >>> 2) &&& 858993459 ≤ bn1 w := Nat.le_trans Nat.and_le_left (by rw [Nat.shiftRight_eq_div_pow]; exact Nat.div_le_self _ _)
    omega
  have hb3 : bn3 (bn2 (bn1 w)) < 2 ^ 28 := by
    unfold bn3
    have q1 : (bn2 (bn1 w) + bn2 (bn1 w) >>> 4) &&& 252645135 ≤ 252645135 := Nat.and_le_right
    omega
  have hb4 : bn4 (bn3 (bn2 (bn1 w))) < 2 ^ 30 := by
    unfold bn4
    have q2 : bn3 (bn2 (bn1 w)) >>> 8 ≤ bn3 (bn2 (bn1 w)) := by rw [Nat.shiftRight_eq_div_pow]; exact Nat.div_le_self _ _
    omega
  have k1 : nI w - (nI (w >>> 1) &&& (1431655765 : Int32)) = nI (bn1 w) := by
    rw [show (1431655765 : Int32) = nI 1431655765 from by decide +kernel, nI_and, nI_sb l1]; rfl
  have k2 : ∀ y, (nI y &&& (858993459 : Int32)) + (nI (y >>> 2) &&& (858993459 : Int32)) = nI (bn2 y) := fun y => by
    rw [show (858993459 : Int32) = nI 858993459 from by decide +kernel, nI_and, nI_and, nI_add]; rfl
  have k3 : ∀ y, (nI y + nI (y >>> 4)) &&& (252645135 : Int32) = nI (bn3 y) := fun y => by
    rw [show (252645135 : Int32) = nI 252645135 from by decide +kernel, nI_add, nI_and]; rfl
  have k4 : ∀ y, nI y + nI (y >>> 8) = nI (bn4 y) := fun y => by rw [nI_add]; rfl
  have k5 : ∀ y, nI y + nI (y >>> 16) = nI (bn5 y) := fun y => by rw [nI_add]; rfl
  have hv : bn5 (bn4 (bn3 (bn2 (bn1 w)))) &&& 63 = c8 (w / 256) + c8 (w % 256) := by
    have := v_bn (w / 256) (by omega) (w % 256) (by omega)
    rw [show 256 * (w / 256) + w % 256 = w by omega] at this
    exact this
  have s1 := e1 w (by omega)
  have s2 := e2 (bn1 w) (by omega)
  have s3 := e4 (bn2 (bn1 w)) (by omega)
  have s4 := e8 (bn3 (bn2 (bn1 w))) (by omega)
  have s5 := e16 (bn4 (bn3 (bn2 (bn1 w)))) (by omega)
  unfold f_J6_bitCount_0f7a4
  rw [lt_eq, s1, k1, lt_eq, s2, k2, lt_eq, s3, k3, lt_eq, s4, k4, lt_eq, s5, k5, show (63 : Int32) = nI 63 from rfl, nI_and, hv]
theorem fre_w {w i : Nat} (hi : i < 32) : fre (nbW (nI w)) (i + 1) = fre (nbW (nI w)) i + w / 2 ^ i % 2 := by
  rw [fre]
  congr 1
  unfold nbW
  rw [bt_nI hi, Nat.testBit_eq_decide_div_mod_eq]
  by_cases q : w / 2 ^ i % 2 = 1
  · simp [q]
  · have : w / 2 ^ i % 2 = 0 := by omega
    simp [this]
theorem fre_lo {w : Nat} : fre (nbW (nI w)) 8 = c8 (w % 256) := by
  have h0 : w / 2 ^ 0 % 2 = w % 256 % 2 := by omega
  have h1 : w / 2 ^ 1 % 2 = w % 256 / 2 % 2 := by omega
  have h2 : w / 2 ^ 2 % 2 = w % 256 / 4 % 2 := by omega
  have h3 : w / 2 ^ 3 % 2 = w % 256 / 8 % 2 := by omega
  have h4 : w / 2 ^ 4 % 2 = w % 256 / 16 % 2 := by omega
  have h5 : w / 2 ^ 5 % 2 = w % 256 / 32 % 2 := by omega
  have h6 : w / 2 ^ 6 % 2 = w % 256 / 64 % 2 := by omega
  have h7 : w / 2 ^ 7 % 2 = w % 256 / 128 % 2 := by omega
  rw [fre_w (i := 7) (by omega), fre_w (i := 6) (by omega), fre_w (i := 5) (by omega), fre_w (i := 4) (by omega), fre_w (i := 3) (by omega), fre_w (i := 2) (by omega), fre_w (i := 1) (by omega), fre_w (i := 0) (by omega), fre, h0, h1, h2, h3, h4, h5, h6, h7, Nat.zero_add]
  rfl
theorem fre_c8 {w : Nat} : fre (nbW (nI w)) 16 = c8 (w / 256) + c8 (w % 256) := by
  have h8 : w / 2 ^ 8 % 2 = w / 256 % 2 := by omega
  have h9 : w / 2 ^ 9 % 2 = w / 256 / 2 % 2 := by omega
  have h10 : w / 2 ^ 10 % 2 = w / 256 / 4 % 2 := by omega
  have h11 : w / 2 ^ 11 % 2 = w / 256 / 8 % 2 := by omega
  have h12 : w / 2 ^ 12 % 2 = w / 256 / 16 % 2 := by omega
  have h13 : w / 2 ^ 13 % 2 = w / 256 / 32 % 2 := by omega
  have h14 : w / 2 ^ 14 % 2 = w / 256 / 64 % 2 := by omega
  have h15 : w / 2 ^ 15 % 2 = w / 256 / 128 % 2 := by omega
  rw [fre_w (i := 15) (by omega), fre_w (i := 14) (by omega), fre_w (i := 13) (by omega), fre_w (i := 12) (by omega), fre_w (i := 11) (by omega), fre_w (i := 10) (by omega), fre_w (i := 9) (by omega), fre_w (i := 8) (by omega), fre_lo, h8, h9, h10, h11, h12, h13, h14, h15]
  unfold c8
  ac_rfl
theorem fre_n {w n : Nat} (hn : n ≤ 16) (hw : w < 2 ^ n) : fre (nbW (nI w)) 16 = fre (nbW (nI w)) n := by
  have : ∀ e, n + e ≤ 16 → fre (nbW (nI w)) (n + e) = fre (nbW (nI w)) n := by
    intro e
    induction e with
    | zero => intro _; rfl
    | succ e ih =>
      intro he
      rw [← Nat.add_assoc, fre_w (by omega), ih (by omega), Nat.div_eq_of_lt (Nat.lt_of_lt_of_le hw (Nat.pow_le_pow_right (by omega) (by omega))), Nat.zero_mod, Nat.add_zero]
  have h := this (16 - n) (by omega)
  rw [show n + (16 - n) = 16 by omega] at h
  exact h
