/-! ===== seats in their order ===== -/
def insF (v : Nat) : Nat → (Nat → Nat) → Option (Nat → Nat)
  | 0, f => some (pput f 0 v)
  | i + 1, f => if f i < v then some (pput f (i + 1) v) else if f i = v then none else insF v i (pput f (i + 1) (f i))
theorem put_eq {f : zPm} {k i : Nat} : pput f k i k = i := by unfold pput; rw [if_pos rfl]
theorem put_ne {f : zPm} {k i j : Nat} (h : ¬ j = k) : pput f k i j = f j := by unfold pput; rw [if_neg h]
theorem insF_ok {P : Nat → Prop} {v k : Nat} (hv : P v) : ∀ (i : Nat) (f f' : Nat → Nat), i ≤ k → insF v i f = some f' → (∀ j, j ≤ k → ¬ j = i → P (f j)) → (∀ a b, a < b → b ≤ k → ¬ a = i → ¬ b = i → f a < f b) → (∀ j, i < j → j ≤ k → v < f j) → (∀ j, j ≤ k → P (f' j)) ∧ ∀ a b, a < b → b ≤ k → f' a < f' b := by
  have fin : ∀ (i : Nat) (f : Nat → Nat), i ≤ k → (∀ j, j < i → f j < v) → (∀ j, j ≤ k → ¬ j = i → P (f j)) → (∀ a b, a < b → b ≤ k → ¬ a = i → ¬ b = i → f a < f b) → (∀ j, i < j → j ≤ k → v < f j) → (∀ j, j ≤ k → P (pput f i v j)) ∧ ∀ a b, a < b → b ≤ k → pput f i v a < pput f i v b := by
    intro i f hi hlo hP hs hu
    refine ⟨fun j hj => ?_, fun a b hab hb => ?_⟩
    · by_cases q : j = i
      · subst q; rw [put_eq]; exact hv
      · rw [put_ne q]; exact hP j hj q
    · by_cases qa : a = i
      · subst qa; rw [put_eq, put_ne (by omega)]; exact hu b hab hb
      · by_cases qb : b = i
        · subst qb; rw [put_eq, put_ne qa]; exact hlo a hab
        · rw [put_ne qa, put_ne qb]; exact hs a b hab hb qa qb
  intro i
  induction i with
  | zero =>
    intro f f' hi h hP hs hu
    rw [insF] at h
    rw [← Option.some.inj h]
    exact fin 0 f hi (fun j hj => by omega) hP hs hu
  | succ i ih =>
    intro f f' hi h hP hs hu
    rw [insF] at h
    by_cases q : f i < v
    · rw [if_pos q] at h
      rw [← Option.some.inj h]
      refine fin (i + 1) f hi (fun j hj => ?_) hP hs hu
      by_cases qj : j = i
      · rw [qj]; exact q
      · have := hs j i (by omega) (by omega) (by omega) (by omega); omega
    · rw [if_neg q] at h
      by_cases q2 : f i = v
      · rw [if_pos q2] at h; cases h
      · rw [if_neg q2] at h
        refine ih (pput f (i + 1) (f i)) f' (by omega) h (fun j hj hne => ?_) (fun a b hab hb ha hb' => ?_) (fun j hj hjk => ?_)
        · by_cases qj : j = i + 1
          · subst qj; rw [put_eq]; exact hP i (by omega) (by omega)
          · rw [put_ne qj]; exact hP j hj qj
        · by_cases qa : a = i + 1
          · subst qa; rw [put_eq, put_ne (by omega)]; exact hs i b (by omega) hb (by omega) (by omega)
          · by_cases qb : b = i + 1
            · subst qb; rw [put_eq, put_ne qa]; exact hs a i (by omega) (by omega) qa (by omega)
            · rw [put_ne qa, put_ne qb]; exact hs a b hab hb qa qb
        · by_cases qj : j = i + 1
          · subst qj; rw [put_eq]; omega
          · rw [put_ne qj]; exact hu j (by omega) hjk
def insS (b : Nat → Nat) (ok : Nat → Bool) (k : Nat) (f : Nat → Nat) : Option (Nat → Nat) := if ok (b k) = true then insF (b k) k f else none
def insA (b : Nat → Nat) (ok : Nat → Bool) : Nat → Option (Nat → Nat)
  | 0 => some (fun _ => 0)
  | k + 1 => (insA b ok k).bind (insS b ok k)
theorem insA_none {b : Nat → Nat} {ok : Nat → Bool} {k : Nat} (h : insA b ok k = none) : ∀ d, insA b ok (k + d) = none := by
  intro d
  induction d with
  | zero => exact h
  | succ d ih => rw [← Nat.add_assoc, insA, ih]; rfl
theorem insA_ok {b : Nat → Nat} {ok : Nat → Bool} : ∀ k f, insA b ok k = some f → (∀ i, i < k → ok (f i) = true) ∧ ∀ i j, i < j → j < k → f i < f j := by
  intro k
  induction k with
  | zero => intro f _; exact ⟨fun i hi => by omega, fun i j _ hj => by omega⟩
  | succ k ih =>
    intro f h
    rw [insA] at h
    cases e : insA b ok k with
    | none => rw [e] at h; cases h
    | some f0 =>
      rw [e] at h
      obtain ⟨i1, i2⟩ := ih f0 e
      change insS b ok k f0 = some f at h
      unfold insS at h
      by_cases q : ok (b k) = true
      · rw [if_pos q] at h
        obtain ⟨r1, r2⟩ := insF_ok (P := fun v => ok v = true) (k := k) q k f0 f (Nat.le_refl k) h (fun j hj hne => i1 j (by omega)) (fun a c hac hc ha hc' => i2 a c hac (by omega)) (fun j h1 h2 => by omega)
        exact ⟨fun i hi => r1 i (by omega), fun i j h1 h2 => r2 i j h1 (by omega)⟩
      · rw [if_neg q] at h; cases h
/-! by the class -/
theorem e_insC {F v k : Nat} (hv : v < 40) (hk : k < 7) : ∀ (i fu : Nat) (f : Nat → Nat) (σ : zM), i ≤ k → i < fu → (∀ j, j ≤ k → ¬ j = i → f j < 40 ∧ zg σ 47 j = nI (f j)) → ∃ σ', Fx ([47], []) σ σ' ∧ f_X6_insert_L2 F (fun y4 s3 => f_X6_insert_j58 F (nI v) y4 s3) (nI v) fu (nI i) σ = some (if (insF v i f).isSome = true then 1 else 0, σ') ∧ ∀ f', insF v i f = some f' → ∀ j, j ≤ k → zg σ' 47 j = nI (f' j) := by
  have fin : ∀ (i : Nat) (f : Nat → Nat) (σ : zM), i ≤ k → (∀ j, j ≤ k → ¬ j = i → f j < 40 ∧ zg σ 47 j = nI (f j)) → ∃ σ', Fx ([47], []) σ σ' ∧ f_X6_insert_j58 F (nI v) (nI i) σ = some (1, σ') ∧ ∀ j, j ≤ k → zg σ' 47 j = nI (pput f i v j) := by
    intro i f σ hi hr
    refine ⟨zs σ 47 i (nI v), Fx.rf.zs rfl, ?_, fun j hj => ?_⟩
    · unfold f_X6_insert_j58
      rw [if_neg (nI_pos (by omega)), if_pos (by rw [show (7 : Int32) = nI 7 from rfl, nI_ltI (by omega) (by omega)]; omega), if_pos (zin_n (by omega) (by omega)), lt_eq, nI_clamp (by omega)]
    · rw [zg_row]
      by_cases q : j = i
      · subst q; rw [if_pos rfl, put_eq]
      · rw [if_neg q, put_ne q]; exact (hr j hj q).2
  intro i
  induction i with
  | zero =>
    intro fu f σ hi hfu hr
    obtain ⟨fu, rfl⟩ : ∃ f', fu = f' + 1 := ⟨fu - 1, by omega⟩
    obtain ⟨σ', a, b, c⟩ := fin 0 f σ hi hr
    refine ⟨σ', a, ?_, fun f' hf => ?_⟩
    · rw [f_X6_insert_L2, if_neg (by decide), b]; rfl
    · rw [insF] at hf; rw [← Option.some.inj hf]; exact c
  | succ i ih =>
    intro fu f σ hi hfu hr
    obtain ⟨fu, rfl⟩ : ∃ f', fu = f' + 1 := ⟨fu - 1, by omega⟩
    obtain ⟨r1, r2⟩ := hr i (by omega) (by omega)
    have es : nI (i + 1) - (1 : Int32) = nI i := by rw [← nI_1]; simp
    rw [f_X6_insert_L2, if_pos (show (0 : Int32) < nI (i + 1) by rw [show (0 : Int32) = nI 0 from rfl, nI_ltI (by omega) (by omega)]; omega), if_pos (show nI (i + 1) < (7 : Int32) by rw [show (7 : Int32) = nI 7 from rfl, nI_ltI (by omega) (by omega)]; omega), es, if_pos (zin_n (by omega) (by omega)), if_pos (zin_n (by omega) (by omega)), if_pos (zin_n (by omega) (by omega)), if_pos (zin_n (by omega) (by omega)), nI_clamp (by omega), nI_clamp (by omega), r2, insF]
    by_cases q : f i < v
    · rw [if_pos ((nI_ltI (by omega) (by omega)).mpr q), if_pos q]
      exact let ⟨σ', a, b, c⟩ := fin (i + 1) f σ hi hr; ⟨σ', a, b, fun f' hf => by rw [← Option.some.inj hf]; exact c⟩
    · rw [if_neg (fun w => q ((nI_ltI (by omega) (by omega)).mp w)), if_neg q]
      by_cases q2 : f i = v
      · rw [if_pos (congrArg nI q2), if_pos q2]
        exact ⟨σ, Fx.rf, rfl, fun f' hf => by cases hf⟩
      · rw [if_neg (fun w => q2 ((nI_eq (by omega) (by omega)).mp w)), if_neg q2, lt_eq, lt_eq, show nI (i + 1) + (-1 : Int32) = nI i by rw [← nI_1, Int32.add_assoc, show (1 : Int32) + -1 = 0 from rfl, Int32.add_zero]]
        obtain ⟨σ', a, b, c⟩ := ih fu (pput f (i + 1) (f i)) (zs σ 47 (i + 1) (nI (f i))) (by omega) (by omega) (fun j hj hne => by
          rw [zg_row]
          by_cases qj : j = i + 1
          · subst qj; rw [if_pos rfl, put_eq]; exact ⟨r1, rfl⟩
          · rw [if_neg qj, put_ne qj]; exact hr j hj qj)
        exact ⟨σ', (Fx.rf.zs rfl).tr a, b, c⟩
/-! by the model -/
theorem e_insM {F v k : Nat} {W N : Int32} {C : zM → Option (Int32 × zM)} (hv : v < 40) (hk : k < 7) : ∀ (i fu : Nat) (f : Nat → Nat) (σ : zM), i ≤ k → i < fu → (∀ j, j ≤ k → ¬ j = i → f j < 40 ∧ zg σ 98 j = nI (f j)) → ∃ σ', Fx ([98], []) σ σ' ∧ f_X12_takesSeats_L53 F (fun y9 s8 => if zin y9 7 = true then lt (zs s8 98 (y9).toNatClampNeg (nI v)) (fun s10 => C s10) else none) W N (nI k) (nI v) fu (nI i) σ = (if (insF v i f).isSome = true then C σ' else some (0, σ')) ∧ ∀ f', insF v i f = some f' → ∀ j, j ≤ k → zg σ' 98 j = nI (f' j) := by
  have fin : ∀ (i : Nat) (f : Nat → Nat) (σ : zM), i ≤ k → (∀ j, j ≤ k → ¬ j = i → f j < 40 ∧ zg σ 98 j = nI (f j)) → ∃ σ', Fx ([98], []) σ σ' ∧ C (zs σ 98 i (nI v)) = C σ' ∧ ∀ j, j ≤ k → zg σ' 98 j = nI (pput f i v j) := by
    intro i f σ hi hr
    refine ⟨zs σ 98 i (nI v), Fx.rf.zs rfl, ?_, fun j hj => ?_⟩
    · rfl
    · rw [zg_row]
      by_cases q : j = i
      · subst q; rw [if_pos rfl, put_eq]
      · rw [if_neg q, put_ne q]; exact (hr j hj q).2
  intro i
  induction i with
  | zero =>
    intro fu f σ hi hfu hr
    obtain ⟨fu, rfl⟩ : ∃ f', fu = f' + 1 := ⟨fu - 1, by omega⟩
    obtain ⟨σ', a, b, c⟩ := fin 0 f σ hi hr
    refine ⟨σ', a, ?_, fun f' hf => ?_⟩
    · rw [f_X12_takesSeats_L53, if_neg (by decide), if_pos (zin_n (by omega) (by omega)), nI_clamp (by omega), lt_eq]; exact b
    · rw [insF] at hf; rw [← Option.some.inj hf]; exact c
  | succ i ih =>
    intro fu f σ hi hfu hr
    obtain ⟨fu, rfl⟩ : ∃ f', fu = f' + 1 := ⟨fu - 1, by omega⟩
    obtain ⟨r1, r2⟩ := hr i (by omega) (by omega)
    have es : nI (i + 1) - (1 : Int32) = nI i := by rw [← nI_1]; simp
    rw [f_X12_takesSeats_L53, if_pos (show (0 : Int32) < nI (i + 1) by rw [show (0 : Int32) = nI 0 from rfl, nI_ltI (by omega) (by omega)]; omega), es, if_pos (zin_n (by omega) (by omega)), if_pos (zin_n (by omega) (by omega)), if_pos (zin_n (by omega) (by omega)), if_pos (zin_n (by omega) (by omega)), if_pos (zin_n (by omega) (by omega)), nI_clamp (by omega), nI_clamp (by omega), r2, insF]
    by_cases q : f i < v
    · rw [if_pos ((nI_ltI (by omega) (by omega)).mpr q), if_pos q]
      exact let ⟨σ', a, b, c⟩ := fin (i + 1) f σ hi hr; ⟨σ', a, b, fun f' hf => by rw [← Option.some.inj hf]; exact c⟩
    · rw [if_neg (fun w => q ((nI_ltI (by omega) (by omega)).mp w)), if_neg q]
      by_cases q2 : f i = v
      · rw [if_pos (congrArg nI q2), if_pos q2]
        exact ⟨σ, Fx.rf, rfl, fun f' hf => by cases hf⟩
      · rw [if_neg (fun w => q2 ((nI_eq (by omega) (by omega)).mp w)), if_neg q2, lt_eq, lt_eq]
        obtain ⟨σ', a, b, c⟩ := ih fu (pput f (i + 1) (f i)) (zs σ 98 (i + 1) (nI (f i))) (by omega) (by omega) (fun j hj hne => by
          rw [zg_row]
          by_cases qj : j = i + 1
          · subst qj; rw [if_pos rfl, put_eq]; exact ⟨r1, rfl⟩
          · rw [if_neg qj, put_ne qj]; exact hr j hj qj)
        exact ⟨σ', (Fx.rf.zs rfl).tr a, b, c⟩
