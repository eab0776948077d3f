/-! ===== all move, by the class; one order by its number, by the model ===== -/
theorem SC.tb {n m p q c : Nat} {W : Int32} {tg fs : Nat → Nat} {α : zM} (h : SC n m p q c W tg fs α) : ∀ i, i < m → tg i < n ∧ zg α 5 (tg i) = 1 := fun i hi => ⟨(h.2.2.1.2.1 i hi).1, h.2.2.2.1 i hi⟩
theorem e_moveAll {F n m p q c : Nat} {W : Int32} {tg fs : Nat → Nat} {P : zPm} {α σ : zM} (hF : 20 ≤ F) (hS : SC n m p q c W tg fs α) (hG : IG n σ) (h5 : ∀ i, i < m → zg σ 5 (tg i) = 1) (h10 : zg σ 45 10 = nI m) (h46 : ∀ j, j < m → zg σ 46 j = nI (tg j)) (h50 : ∀ j, j < m → zg σ 50 j = nI (fs (P j))) (hP : ∀ j, j < m → P j < m) : f_X6_moveAll F σ = some ((), seaA tg (fun j => fs (P j)) m (lifA tg m σ)) := by
  have h7 := hS.2.2.1.1
  have hn := hS.1.1
  have hb : ∀ i, i < m → tg i < n := fun i hi => (hS.2.2.1.2.1 i hi).1
  have fl := fun k => lifA_fx tg σ k
  have fs' := fun k => seaA_fx tg (fun j => fs (P j)) (lifA tg m σ) k
  have k2 : ∀ (d fu k : Nat), k + d = m → d < fu → f_X6_moveAll_L38 F (fun s6 => some ((), s6)) fu (nI k) (seaA tg (fun j => fs (P j)) k (lifA tg m σ)) = some ((), seaA tg (fun j => fs (P j)) m (lifA tg m σ)) := by
    intro d
    induction d with
    | zero =>
      intro fu k hk hfu
      obtain ⟨fu, rfl⟩ : ∃ f', fu = f' + 1 := ⟨fu - 1, by omega⟩
      have : k = m := by omega
      subst this
      rw [f_X6_moveAll_L38, fs' k 45 10 rfl, fl k 45 10 rfl, h10, if_neg (by rw [nI_ltI (by omega) (by omega)]; omega)]
    | succ d ih =>
      intro fu k hk hfu
      obtain ⟨fu, rfl⟩ : ∃ f', fu = f' + 1 := ⟨fu - 1, by omega⟩
      have hkm : k < m := by omega
      have hm1 : zg (seaA tg (fun j => fs (P j)) k (lifA tg m σ)) 6 (tg k) = -1 := by
        rw [(seaA_6 (m := m) hS.2.2.1.inj k (tg k) (by omega)).2 (fun a ha e => hS.2.2.1.inj a k ha hkm e.symm)]
        exact (lifA_6 m (tg k)).1 ⟨k, hkm, rfl⟩
      rw [f_X6_moveAll_L38, fs' k 45 10 rfl, fl m 45 10 rfl, h10, if_pos (show nI k < nI m from (nI_ltI (by omega) (by omega)).mpr hkm), if_pos (show nI k < (7 : Int32) from (nI_ltI (b := 7) (by omega) (by omega)).mpr (by omega)), if_pos (zin_n (by omega) (by omega)), if_pos (zin_n (by omega) (by omega)), nI_clamp (by omega), fs' k 46 k rfl, fl m 46 k rfl, fs' k 50 k rfl, fl m 50 k rfl, h46 k hkm, h50 k hkm, e_place hn ((fs' k 3 8 rfl).trans ((fl m 3 8 rfl).trans hG.2.1)) (hb k hkm) (Or.inl hm1) (Or.inr ⟨fs (P k), hS.s40 (hP k hkm), rfl⟩), bnd_some, lt_eq, nI_1]
      exact ih fu (k + 1) (by omega) (by omega)
  have k1 : ∀ (d fu k : Nat), k + d = m → d < fu → f_X6_moveAll_L2 F (fun s3 => f_X6_moveAll_L38 F (fun s6 => some ((), s6)) F (nI 0) s3) fu (nI k) (lifA tg k σ) = some ((), seaA tg (fun j => fs (P j)) m (lifA tg m σ)) := by
    intro d
    induction d with
    | zero =>
      intro fu k hk hfu
      obtain ⟨fu, rfl⟩ : ∃ f', fu = f' + 1 := ⟨fu - 1, by omega⟩
      have : k = m := by omega
      subst this
      rw [f_X6_moveAll_L2, fl k 45 10 rfl, h10, if_neg (by rw [nI_ltI (by omega) (by omega)]; omega)]
      exact k2 k F 0 (by omega) (by omega)
    | succ d ih =>
      intro fu k hk hfu
      obtain ⟨fu, rfl⟩ : ∃ f', fu = f' + 1 := ⟨fu - 1, by omega⟩
      have hkm : k < m := by omega
      have hGk := lifA_IG (m := m) (tg := tg) hG (fun i hi => ⟨hb i hi, h5 i hi⟩) k (by omega)
      rw [f_X6_moveAll_L2, fl k 45 10 rfl, h10, if_pos (show nI k < nI m from (nI_ltI (by omega) (by omega)).mpr hkm), if_pos (show nI k < (7 : Int32) from (nI_ltI (b := 7) (by omega) (by omega)).mpr (by omega)), if_pos (zin_n (by omega) (by omega)), nI_clamp (by omega), fl k 46 k rfl, h46 k hkm, e_place hn ((fl k 3 8 rfl).trans hG.2.1) (hb k hkm) (hGk.seat (hb k hkm)) (Or.inl rfl), bnd_some, lt_eq, nI_1]
      exact ih fu (k + 1) (by omega) (by omega)
  exact k1 m F 0 (by omega) (by omega)
/-! an order by its number -/
theorem nth_ok {u : Nat → Bool} {m skip : Nat} (h : skip < fre u m) : nth u m skip 0 < m ∧ u (nth u m skip 0) = false ∧ fre u (nth u m skip 0) = skip := by
  obtain ⟨i, h1, h2, h3⟩ := fre_onto m skip h
  have : nth u m skip 0 = i := nth_of h2 i m 0 skip (by omega) (by omega) (by rw [fre]; omega)
  rw [this]; exact ⟨h1, h2, h3⟩
theorem skip_lt {r left : Nat} (h : left < fac (r + 1)) : left / fac r < r + 1 := (Nat.div_lt_iff_lt_mul (fac_pos r)).mpr (by rw [fac] at h; exact h)
theorem dcd_lo {m : Nat} : ∀ (r k : Nat) (u : Nat → Bool) (pm : zPm) (left j : Nat), j < k → dcd m r k u pm left j = pm j := by
  intro r
  induction r with
  | zero => intro k u pm left j _; rfl
  | succ r ih => intro k u pm left j hj; rw [dcd, ih (k + 1) _ _ _ j (by omega), put_ne (by omega)]
theorem dcd_ok {m : Nat} : ∀ (r k : Nat) (u : Nat → Bool) (pm : zPm) (left : Nat), k + r = m → fre u m = r → left < fac r → (∀ j, j < k → pm j < m ∧ u (pm j) = true) → (∀ i j, i < k → j < k → pm i = pm j → i = j) → (∀ j, j < m → dcd m r k u pm left j < m) ∧ ∀ i j, i < m → j < m → dcd m r k u pm left i = dcd m r k u pm left j → i = j := by
  intro r
  induction r with
  | zero =>
    intro k u pm left hk hr hl hp hinj
    have : k = m := by omega
    subst this
    exact ⟨fun j hj => (hp j hj).1, hinj⟩
  | succ r ih =>
    intro k u pm left hk hr hl hp hinj
    obtain ⟨n1, n2, n3⟩ := nth_ok (u := u) (m := m) (skip := left / fac r) (by rw [hr]; exact skip_lt hl)
    rw [dcd]
    generalize hi : nth u m (left / fac r) 0 = i at n1 n2 n3
    have hf := fre_ad n2 m
    rw [if_pos n1] at hf
    refine ih (k + 1) (ad u i) (pput pm k i) (left % fac r) (by omega) (by omega) (Nat.mod_lt _ (fac_pos r)) (fun j hj => ?_) (fun x y hx hy e => ?_)
    · by_cases q : j = k
      · rw [q, put_eq]; exact ⟨n1, by unfold ad; simp⟩
      · rw [put_ne q]; exact ⟨(hp j (by omega)).1, by unfold ad; rw [(hp j (by omega)).2]; rfl⟩
    · by_cases qx : x = k
      · by_cases qy : y = k
        · omega
        · rw [qx, put_eq, put_ne qy] at e
          have := (hp y (by omega)).2
          rw [← e, n2] at this; cases this
      · by_cases qy : y = k
        · rw [qy, put_eq, put_ne qx] at e
          have := (hp x (by omega)).2
          rw [e, n2] at this; cases this
        · rw [put_ne qx, put_ne qy] at e
          exact hinj x y (by omega) (by omega) e
theorem e_by61 {F m i : Nat} {W N l y M c g : Int32} {K : Int32 → zM → Option (Unit × zM)} {u : Nat → Bool} {σ : zM} (hm : m ≤ 7) (hi : i < m) (hu : u i = false) (hM : ∀ j, j < m → bt M j = u j) : ∀ (d fu q skip : Nat), q + d = i → d < fu → skip + fre u q = fre u i → f_X12_seatsBy_L61 F K W N l y M c g fu (nI skip) (nI q) σ = K (nI i) σ := by
  have hfb : fre u i ≤ i := by
    have : ∀ z, fre u z ≤ z := by
      intro z
      induction z with
      | zero => rw [fre]; omega
      | succ z ih => rw [fre]; split <;> omega
    exact this i
  intro d
  induction d with
  | zero =>
    intro fu q skip hq hfu hs
    obtain ⟨fu, rfl⟩ : ∃ f', fu = f' + 1 := ⟨fu - 1, by omega⟩
    have : q = i := by omega
    subst this
    have : skip = 0 := by omega
    subst this
    rw [f_X12_seatsBy_L61, if_neg (fun w => by rw [← hM q hi, (b_ask1 M (by omega)).mp w] at hu; cases hu), if_neg (by decide)]
  | succ d ih =>
    intro fu q skip hq hfu hs
    obtain ⟨fu, rfl⟩ : ∃ f', fu = f' + 1 := ⟨fu - 1, by omega⟩
    have hqm : q < m := by omega
    by_cases qu : u q = true
    · have hb : ((M >>> (nI q &&& 31)) &&& (1 : Int32)) = (1 : Int32) := (b_ask1 M (by omega)).mpr (by rw [hM q hqm]; exact qu)
      rw [f_X12_seatsBy_L61, if_pos hb, f_X12_seatsBy_j77, if_pos hb, lt_eq, nI_1]
      exact ih fu (q + 1) skip (by omega) (by omega) (by rw [fre, if_pos qu]; omega)
    · have hb : ¬ ((M >>> (nI q &&& 31)) &&& (1 : Int32)) = (1 : Int32) := fun w => qu (by rw [← hM q hqm]; exact (b_ask1 M (by omega)).mp w)
      have h1 : fre u (q + 1) = fre u q + 1 := by rw [fre, if_neg qu]
      have h2 := fre_mono u d (q + 1)
      rw [show q + 1 + d = i by omega] at h2
      obtain ⟨sk, rfl⟩ : ∃ sk, skip = sk + 1 := ⟨skip - 1, by omega⟩
      rw [f_X12_seatsBy_L61, if_neg hb, if_pos (show (0 : Int32) < nI (sk + 1) from (nI_ltI (a := 0) (by omega) (by omega)).mpr (by omega)), f_X12_seatsBy_j77, if_neg hb, lt_eq, lt_eq, nI_1, show nI (sk + 1) - (1 : Int32) = nI sk by rw [← nI_1]; simp]
      exact ih fu (q + 1) sk (by omega) (by omega) (by omega)
theorem v_fac : ∀ r, r < 7 → (nI (fac (r + 1)) / nI (r + 1) = nI (fac r)) ∧ fac (r + 1) < 5041 := by decide +kernel
