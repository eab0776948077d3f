/-! ===== what the class's texts may change ===== -/
def HF {β : Type} (m : zMk) (s : zM) (o : Option (β × zM)) : Prop := ∀ r t, o = some (r, t) → Fx m s t ∧ ∀ x, 1 ≤ x → t.2 x = s.2 x
def HS (m : zMk) (s t : zM) : Prop := Fx m s t ∧ ∀ x, 1 ≤ x → t.2 x = s.2 x
theorem HS.rf {m : zMk} {s : zM} : HS m s s := ⟨Fx.rf, fun _ _ => rfl⟩
theorem inm_sub {m m' : zMk} {k j : Nat} (h : msub m m' = true) (hk : inm m k j = true) : inm m' k j = true := by
  cases h2 : inm m' k j with
  | true => rfl
  | false =>
    have w : Fx m (fun _ _ => 0, fun _ => 0) (zs (fun _ _ => 0, fun _ => 0) k j 1) := Fx.rf.zs hk
    have w2 := (w.sub h) k j h2
    rw [zg_eq] at w2
    have w3 : (1 : Int32) = 0 := w2
    exact absurd w3 (by decide)
theorem inm_r {m : zMk} {k j : Nat} (h : m.1.contains k = true) : inm m k j = true := by unfold inm; rw [h]; rfl
theorem msub_tr {a b c : zMk} (h : msub a b = true) (g : msub b c = true) : msub a c = true := by
  simp only [msub, Bool.and_eq_true, List.all_eq_true] at h ⊢
  refine ⟨fun k hk => ?_, fun f hf => inm_sub g (h.2 f hf)⟩
  have h1 := h.1 k hk
  simp only [msub, Bool.and_eq_true, List.all_eq_true] at g
  exact g.1 k (List.contains_iff_mem.mp h1)
theorem hs_zs {m m' : zMk} {s t : zM} {k j : Nat} {v : Int32} (hm : msub m' m = true) (h : HS m s t) (hk : inm m' k j = true) : HS m s (zs t k j v) := ⟨h.1.zs (inm_sub hm hk), h.2⟩
theorem hs_zcp {m m' : zMk} {s t : zM} {k0 k1 n : Nat} (hm : msub m' m = true) (h : HS m s t) (hk : m'.1.contains k1 = true) : HS m s (zcp t k0 k1 n) := by
  refine ⟨fun a b ha => ?_, h.2⟩
  show (if a = k1 then _ else _) = _
  have : ¬ a = k1 := by
    rintro rfl
    have h1 : inm m a b = true := inm_sub hm (by unfold inm; rw [hk]; rfl)
    rw [h1] at ha; cases ha
  rw [if_neg this]; exact h.1 a b ha
theorem hs_zsl {m : zMk} {s t : zM} {v : Int64} (h : HS m s t) : HS m s (zsl t 0 v) := by
  refine ⟨h.1, fun x hx => ?_⟩
  show (if x = 0 then _ else _) = _
  rw [if_neg (by omega)]; exact h.2 x hx
theorem hf_none {β : Type} {m : zMk} {s : zM} : HF m s (none : Option (β × zM)) := fun _ _ h => by cases h
theorem hf_some {β : Type} {m : zMk} {s t : zM} {r : β} (h : HS m s t) : HF m s (some (r, t)) := fun _ _ e => by cases e; exact h
theorem hf_ite {β : Type} {m : zMk} {s : zM} {c : Prop} [Decidable c] {A B : Option (β × zM)} (h1 : c → HF m s A) (h2 : ¬ c → HF m s B) : HF m s (if c then A else B) := by
  by_cases h : c
  · rw [if_pos h]; exact h1 h
  · rw [if_neg h]; exact h2 h
theorem hf_lts {β : Type} {m : zMk} {s v : zM} {f : zM → Option (β × zM)} (e : HS m s v) (h : ∀ y, HS m s y → HF m s (f y)) : HF m s (lt v f) := h v e
theorem hf_ltv {β α : Type} {m : zMk} {s : zM} {v : α} {f : α → Option (β × zM)} (h : ∀ y, HF m s (f y)) : HF m s (lt v f) := h v
theorem HF.of {β : Type} {m : zMk} {s t : zM} {o : Option (β × zM)} (h : HF m t o) (e : HS m s t) : HF m s o := fun r u q => ⟨e.1.tr (h r u q).1, fun x hx => ((h r u q).2 x hx).trans (e.2 x hx)⟩
theorem hf_bnd {α β : Type} {m : zMk} {s : zM} {o : Option (α × zM)} {f : α → zM → Option (β × zM)} (h : HF m s o) (g : ∀ r t, HS m s t → HF m s (f r t)) : HF m s (bnd o f) := by
  intro r t e
  cases ho : o with
  | none => rw [ho] at e; cases e
  | some x => rw [ho] at e; exact g x.1 x.2 (h x.1 x.2 ho) r t e
set_option maxHeartbeats 4000000 in
theorem fx_f_X0_isFull  {m : zMk} (hm : msub ([], []) m = true) (s : zM) : HF m s (f_X0_isFull s) := by
  unfold f_X0_isFull
  repeat' with_reducible first | exact hf_none | refine hf_ite (fun _ => ?_) (fun _ => ?_) | refine hf_bnd ?_ (fun _ _ _ => ?_) | refine hf_some ?_ | refine hf_lts ?_ (fun _ _ => ?_) | refine hf_ltv (fun _ => ?_) | refine hs_zs hm ?_ ?_ | refine hs_zcp hm ?_ (by decide +kernel) | refine hs_zsl ?_ | exact msub_tr (b := ([], [])) (by decide +kernel) hm | assumption | exact HS.rf | exact inm_r (by decide +kernel) | decide +kernel | intro _
set_option maxHeartbeats 4000000 in
theorem fx_f_X0_knows (v1 : Int32) {m : zMk} (hm : msub ([], []) m = true) (s : zM) : HF m s (f_X0_knows v1 s) := by
  unfold f_X0_knows
  repeat' with_reducible first | exact hf_none | refine hf_ite (fun _ => ?_) (fun _ => ?_) | refine hf_bnd ?_ (fun _ _ _ => ?_) | refine hf_some ?_ | refine hf_lts ?_ (fun _ _ => ?_) | refine hf_ltv (fun _ => ?_) | refine hs_zs hm ?_ ?_ | refine hs_zcp hm ?_ (by decide +kernel) | refine hs_zsl ?_ | exact msub_tr (b := ([], [])) (by decide +kernel) hm | assumption | exact HS.rf | exact inm_r (by decide +kernel) | decide +kernel | intro _
set_option maxHeartbeats 4000000 in
theorem fx_f_X8_isSeat (v0 : Int32) {m : zMk} (hm : msub ([], []) m = true) (s : zM) : HF m s (f_X8_isSeat v0 s) := by
  unfold f_X8_isSeat
  repeat' with_reducible first | exact hf_none | refine hf_ite (fun _ => ?_) (fun _ => ?_) | refine hf_bnd ?_ (fun _ _ _ => ?_) | refine hf_some ?_ | refine hf_lts ?_ (fun _ _ => ?_) | refine hf_ltv (fun _ => ?_) | refine hs_zs hm ?_ ?_ | refine hs_zcp hm ?_ (by decide +kernel) | refine hs_zsl ?_ | exact msub_tr (b := ([], [])) (by decide +kernel) hm | assumption | exact HS.rf | exact inm_r (by decide +kernel) | decide +kernel | intro _
set_option maxHeartbeats 4000000 in
theorem fx_f_X0_place_j33 (v1 : Int32) (v2 : Int32) {m : zMk} (hm : msub ([6, 9], []) m = true) (s : zM) : HF m s (f_X0_place_j33 v1 v2 s) := by
  unfold f_X0_place_j33
  repeat' with_reducible first | exact hf_none | refine hf_ite (fun _ => ?_) (fun _ => ?_) | refine hf_bnd ?_ (fun _ _ _ => ?_) | refine hf_some ?_ | refine hf_lts ?_ (fun _ _ => ?_) | refine hf_ltv (fun _ => ?_) | refine hs_zs hm ?_ ?_ | refine hs_zcp hm ?_ (by decide +kernel) | refine hs_zsl ?_ | (apply HF.of; apply fx_f_X8_isSeat) | exact msub_tr (b := ([6, 9], [])) (by decide +kernel) hm | assumption | exact HS.rf | exact inm_r (by decide +kernel) | decide +kernel | intro _
set_option maxHeartbeats 4000000 in
theorem fx_f_X0_place (v1 : Int32) (v2 : Int32) {m : zMk} (hm : msub ([6, 9], []) m = true) (s : zM) : HF m s (f_X0_place v1 v2 s) := by
  unfold f_X0_place
  repeat' with_reducible first | exact hf_none | refine hf_ite (fun _ => ?_) (fun _ => ?_) | refine hf_bnd ?_ (fun _ _ _ => ?_) | refine hf_some ?_ | refine hf_lts ?_ (fun _ _ => ?_) | refine hf_ltv (fun _ => ?_) | refine hs_zs hm ?_ ?_ | refine hs_zcp hm ?_ (by decide +kernel) | refine hs_zsl ?_ | (apply HF.of; apply fx_f_X0_knows) | (apply HF.of; apply fx_f_X8_isSeat) | (apply HF.of; apply fx_f_X0_place_j33) | exact msub_tr (b := ([6, 9], [])) (by decide +kernel) hm | assumption | exact HS.rf | exact inm_r (by decide +kernel) | decide +kernel | intro _
set_option maxHeartbeats 4000000 in
theorem fx_f_X0_add (v1 : Int32) (v2 : Int32) {m : zMk} (hm : msub ([4, 5, 6, 9], [(3, 8)]) m = true) (s : zM) : HF m s (f_X0_add v1 v2 s) := by
  unfold f_X0_add
  repeat' with_reducible first | exact hf_none | refine hf_ite (fun _ => ?_) (fun _ => ?_) | refine hf_bnd ?_ (fun _ _ _ => ?_) | refine hf_some ?_ | refine hf_lts ?_ (fun _ _ => ?_) | refine hf_ltv (fun _ => ?_) | refine hs_zs hm ?_ ?_ | refine hs_zcp hm ?_ (by decide +kernel) | refine hs_zsl ?_ | (apply HF.of; apply fx_f_X0_isFull) | (apply HF.of; apply fx_f_X0_place) | exact msub_tr (b := ([4, 5, 6, 9], [(3, 8)])) (by decide +kernel) hm | assumption | exact HS.rf | exact inm_r (by decide +kernel) | decide +kernel | intro _
set_option maxHeartbeats 4000000 in
theorem fx_f_X0_at (v1 : Int32) {m : zMk} (hm : msub ([], []) m = true) (s : zM) : HF m s (f_X0_at v1 s) := by
  unfold f_X0_at
  repeat' with_reducible first | exact hf_none | refine hf_ite (fun _ => ?_) (fun _ => ?_) | refine hf_bnd ?_ (fun _ _ _ => ?_) | refine hf_some ?_ | refine hf_lts ?_ (fun _ _ => ?_) | refine hf_ltv (fun _ => ?_) | refine hs_zs hm ?_ ?_ | refine hs_zcp hm ?_ (by decide +kernel) | refine hs_zsl ?_ | (apply HF.of; apply fx_f_X8_isSeat) | exact msub_tr (b := ([], [])) (by decide +kernel) hm | assumption | exact HS.rf | exact inm_r (by decide +kernel) | decide +kernel | intro _
set_option maxHeartbeats 4000000 in
theorem fx_f_X11_guest_j21 (v1 : Int32) (v2 : Int32) {m : zMk} (hm : msub ([4, 5, 6, 9], [(3, 8)]) m = true) (s : zM) : HF m s (f_X11_guest_j21 v1 v2 s) := by
  unfold f_X11_guest_j21
  repeat' with_reducible first | exact hf_none | refine hf_ite (fun _ => ?_) (fun _ => ?_) | refine hf_bnd ?_ (fun _ _ _ => ?_) | refine hf_some ?_ | refine hf_lts ?_ (fun _ _ => ?_) | refine hf_ltv (fun _ => ?_) | refine hs_zs hm ?_ ?_ | refine hs_zcp hm ?_ (by decide +kernel) | refine hs_zsl ?_ | (apply HF.of; apply fx_f_X0_isFull) | (apply HF.of; apply fx_f_X0_add) | (apply HF.of; apply fx_f_X0_at) | exact msub_tr (b := ([4, 5, 6, 9], [(3, 8)])) (by decide +kernel) hm | assumption | exact HS.rf | exact inm_r (by decide +kernel) | decide +kernel | intro _
set_option maxHeartbeats 4000000 in
theorem fx_f_X11_guest (v1 : Int32) (v2 : Int32) {m : zMk} (hm : msub ([4, 5, 6, 9], [(3, 8)]) m = true) (s : zM) : HF m s (f_X11_guest v1 v2 s) := by
  unfold f_X11_guest
  repeat' with_reducible first | exact hf_none | refine hf_ite (fun _ => ?_) (fun _ => ?_) | refine hf_bnd ?_ (fun _ _ _ => ?_) | refine hf_some ?_ | refine hf_lts ?_ (fun _ _ => ?_) | refine hf_ltv (fun _ => ?_) | refine hs_zs hm ?_ ?_ | refine hs_zcp hm ?_ (by decide +kernel) | refine hs_zsl ?_ | (apply HF.of; apply fx_f_X11_guest_j21) | (apply HF.of; apply fx_f_X8_isSeat) | exact msub_tr (b := ([4, 5, 6, 9], [(3, 8)])) (by decide +kernel) hm | assumption | exact HS.rf | exact inm_r (by decide +kernel) | decide +kernel | intro _
set_option maxHeartbeats 4000000 in
theorem fx_f_X11_areTwo (v1 : Int32) (v2 : Int32) {m : zMk} (hm : msub ([], []) m = true) (s : zM) : HF m s (f_X11_areTwo v1 v2 s) := by
  unfold f_X11_areTwo
  repeat' with_reducible first | exact hf_none | refine hf_ite (fun _ => ?_) (fun _ => ?_) | refine hf_bnd ?_ (fun _ _ _ => ?_) | refine hf_some ?_ | refine hf_lts ?_ (fun _ _ => ?_) | refine hf_ltv (fun _ => ?_) | refine hs_zs hm ?_ ?_ | refine hs_zcp hm ?_ (by decide +kernel) | refine hs_zsl ?_ | (apply HF.of; apply fx_f_X0_knows) | exact msub_tr (b := ([], [])) (by decide +kernel) hm | assumption | exact HS.rf | exact inm_r (by decide +kernel) | decide +kernel | intro _
set_option maxHeartbeats 4000000 in
theorem fx_f_X0_like (v1 : Int32) (v2 : Int32) (v3 : Int32) {m : zMk} (hm : msub ([8], []) m = true) (s : zM) : HF m s (f_X0_like v1 v2 v3 s) := by
  unfold f_X0_like
  repeat' with_reducible first | exact hf_none | refine hf_ite (fun _ => ?_) (fun _ => ?_) | refine hf_bnd ?_ (fun _ _ _ => ?_) | refine hf_some ?_ | refine hf_lts ?_ (fun _ _ => ?_) | refine hf_ltv (fun _ => ?_) | refine hs_zs hm ?_ ?_ | refine hs_zcp hm ?_ (by decide +kernel) | refine hs_zsl ?_ | (apply HF.of; apply fx_f_X0_knows) | exact msub_tr (b := ([8], [])) (by decide +kernel) hm | assumption | exact HS.rf | exact inm_r (by decide +kernel) | decide +kernel | intro _
set_option maxHeartbeats 4000000 in
theorem fx_f_X1_forget  {m : zMk} (hm : msub ([], [(12, 5)]) m = true) (s : zM) : HF m s (f_X1_forget s) := by
  unfold f_X1_forget
  repeat' with_reducible first | exact hf_none | refine hf_ite (fun _ => ?_) (fun _ => ?_) | refine hf_bnd ?_ (fun _ _ _ => ?_) | refine hf_some ?_ | refine hf_lts ?_ (fun _ _ => ?_) | refine hf_ltv (fun _ => ?_) | refine hs_zs hm ?_ ?_ | refine hs_zcp hm ?_ (by decide +kernel) | refine hs_zsl ?_ | exact msub_tr (b := ([], [(12, 5)])) (by decide +kernel) hm | assumption | exact HS.rf | exact inm_r (by decide +kernel) | decide +kernel | intro _
set_option maxHeartbeats 4000000 in
theorem fx_f_X11_liking (v1 : Int32) (v2 : Int32) (v3 : Int32) {m : zMk} (hm : msub ([8], [(12, 5)]) m = true) (s : zM) : HF m s (f_X11_liking v1 v2 v3 s) := by
  unfold f_X11_liking
  repeat' with_reducible first | exact hf_none | refine hf_ite (fun _ => ?_) (fun _ => ?_) | refine hf_bnd ?_ (fun _ _ _ => ?_) | refine hf_some ?_ | refine hf_lts ?_ (fun _ _ => ?_) | refine hf_ltv (fun _ => ?_) | refine hs_zs hm ?_ ?_ | refine hs_zcp hm ?_ (by decide +kernel) | refine hs_zsl ?_ | (apply HF.of; apply fx_f_X11_areTwo) | (apply HF.of; apply fx_f_X0_like) | (apply HF.of; apply fx_f_X1_forget) | exact msub_tr (b := ([8], [(12, 5)])) (by decide +kernel) hm | assumption | exact HS.rf | exact inm_r (by decide +kernel) | decide +kernel | intro _
set_option maxHeartbeats 4000000 in
theorem fx_f_X0_lives (v1 : Int32) {m : zMk} (hm : msub ([], []) m = true) (s : zM) : HF m s (f_X0_lives v1 s) := by
  unfold f_X0_lives
  repeat' with_reducible first | exact hf_none | refine hf_ite (fun _ => ?_) (fun _ => ?_) | refine hf_bnd ?_ (fun _ _ _ => ?_) | refine hf_some ?_ | refine hf_lts ?_ (fun _ _ => ?_) | refine hf_ltv (fun _ => ?_) | refine hs_zs hm ?_ ?_ | refine hs_zcp hm ?_ (by decide +kernel) | refine hs_zsl ?_ | (apply HF.of; apply fx_f_X0_knows) | exact msub_tr (b := ([], [])) (by decide +kernel) hm | assumption | exact HS.rf | exact inm_r (by decide +kernel) | decide +kernel | intro _
set_option maxHeartbeats 4000000 in
theorem fx_f_X11_sit (v1 : Int32) (v2 : Int32) {m : zMk} (hm : msub ([6, 9], []) m = true) (s : zM) : HF m s (f_X11_sit v1 v2 s) := by
  unfold f_X11_sit
  repeat' with_reducible first | exact hf_none | refine hf_ite (fun _ => ?_) (fun _ => ?_) | refine hf_bnd ?_ (fun _ _ _ => ?_) | refine hf_some ?_ | refine hf_lts ?_ (fun _ _ => ?_) | refine hf_ltv (fun _ => ?_) | refine hs_zs hm ?_ ?_ | refine hs_zcp hm ?_ (by decide +kernel) | refine hs_zsl ?_ | (apply HF.of; apply fx_f_X0_lives) | (apply HF.of; apply fx_f_X0_place) | (apply HF.of; apply fx_f_X8_isSeat) | (apply HF.of; apply fx_f_X0_at) | exact msub_tr (b := ([6, 9], [])) (by decide +kernel) hm | assumption | exact HS.rf | exact inm_r (by decide +kernel) | decide +kernel | intro _
set_option maxHeartbeats 4000000 in
theorem fx_f_X10_hasRoom  {m : zMk} (hm : msub ([], []) m = true) (s : zM) : HF m s (f_X10_hasRoom s) := by
  unfold f_X10_hasRoom
  repeat' with_reducible first | exact hf_none | refine hf_ite (fun _ => ?_) (fun _ => ?_) | refine hf_bnd ?_ (fun _ _ _ => ?_) | refine hf_some ?_ | refine hf_lts ?_ (fun _ _ => ?_) | refine hf_ltv (fun _ => ?_) | refine hs_zs hm ?_ ?_ | refine hs_zcp hm ?_ (by decide +kernel) | refine hs_zsl ?_ | exact msub_tr (b := ([], [])) (by decide +kernel) hm | assumption | exact HS.rf | exact inm_r (by decide +kernel) | decide +kernel | intro _
set_option maxHeartbeats 4000000 in
theorem fx_f_X10_add_L3 (F : Nat) (k49 : zM → Option (Unit × zM)) (v1 : Int32) {m : zMk} (hm : msub ([2], [(1, 1)]) m = true) (hk49 : ∀ (s : zM), HF m s (k49 s)) : ∀ (n : Nat) (w0 : Int32) (s : zM), HF m s (f_X10_add_L3 F k49 v1 n w0 s) := by
  intro n
  induction n with
  | zero => intros; exact hf_none
  | succ n ih =>
    intro w0 s
    rw [f_X10_add_L3]
    repeat' with_reducible first | exact hf_none | refine hf_ite (fun _ => ?_) (fun _ => ?_) | refine hf_bnd ?_ (fun _ _ _ => ?_) | refine hf_some ?_ | refine hf_lts ?_ (fun _ _ => ?_) | refine hf_ltv (fun _ => ?_) | refine hs_zs hm ?_ ?_ | refine hs_zcp hm ?_ (by decide +kernel) | refine hs_zsl ?_ | (apply HF.of; apply hk49) | (apply HF.of; apply ih) | exact msub_tr (b := ([2], [(1, 1)])) (by decide +kernel) hm | assumption | exact HS.rf | exact inm_r (by decide +kernel) | decide +kernel | intro _
set_option maxHeartbeats 4000000 in
theorem fx_f_X10_add (F : Nat) (v1 : Int32) {m : zMk} (hm : msub ([2], [(1, 1)]) m = true) (s : zM) : HF m s (f_X10_add F v1 s) := by
  unfold f_X10_add
  repeat' with_reducible first | exact hf_none | refine hf_ite (fun _ => ?_) (fun _ => ?_) | refine hf_bnd ?_ (fun _ _ _ => ?_) | refine hf_some ?_ | refine hf_lts ?_ (fun _ _ => ?_) | refine hf_ltv (fun _ => ?_) | refine hs_zs hm ?_ ?_ | refine hs_zcp hm ?_ (by decide +kernel) | refine hs_zsl ?_ | (apply HF.of; apply fx_f_X10_add_L3) | exact msub_tr (b := ([2], [(1, 1)])) (by decide +kernel) hm | assumption | exact HS.rf | exact inm_r (by decide +kernel) | decide +kernel | intro _
set_option maxHeartbeats 4000000 in
theorem fx_f_X10_length  {m : zMk} (hm : msub ([], []) m = true) (s : zM) : HF m s (f_X10_length s) := by
  unfold f_X10_length
  repeat' with_reducible first | exact hf_none | refine hf_ite (fun _ => ?_) (fun _ => ?_) | refine hf_bnd ?_ (fun _ _ _ => ?_) | refine hf_some ?_ | refine hf_lts ?_ (fun _ _ => ?_) | refine hf_ltv (fun _ => ?_) | refine hs_zs hm ?_ ?_ | refine hs_zcp hm ?_ (by decide +kernel) | refine hs_zsl ?_ | exact msub_tr (b := ([], [])) (by decide +kernel) hm | assumption | exact HS.rf | exact inm_r (by decide +kernel) | decide +kernel | intro _
set_option maxHeartbeats 4000000 in
theorem fx_f_X11_feed (F : Nat) (v1 : Int32) (v2 : Int32) (v3 : Int32) (v4 : Int32) (v5 : Int32) {m : zMk} (hm : msub ([2], [(1, 1)]) m = true) (s : zM) : HF m s (f_X11_feed F v1 v2 v3 v4 v5 s) := by
  unfold f_X11_feed
  repeat' with_reducible first | exact hf_none | refine hf_ite (fun _ => ?_) (fun _ => ?_) | refine hf_bnd ?_ (fun _ _ _ => ?_) | refine hf_some ?_ | refine hf_lts ?_ (fun _ _ => ?_) | refine hf_ltv (fun _ => ?_) | refine hs_zs hm ?_ ?_ | refine hs_zcp hm ?_ (by decide +kernel) | refine hs_zsl ?_ | (apply HF.of; apply fx_f_X10_hasRoom) | (apply HF.of; apply fx_f_X10_add) | (apply HF.of; apply fx_f_X10_length) | exact msub_tr (b := ([2], [(1, 1)])) (by decide +kernel) hm | assumption | exact HS.rf | exact inm_r (by decide +kernel) | decide +kernel | intro _
set_option maxHeartbeats 4000000 in
theorem fx_f_X3_clear (i : Nat) {m : zMk} (hm : msub ([], [(16, 7), (16, 8), (25, 7), (25, 8)]) m = true) (hi : zLw i = true) (s : zM) : HF m s (f_X3_clear i s) := by
  unfold f_X3_clear
  repeat' with_reducible first | exact hf_none | refine hf_ite (fun _ => ?_) (fun _ => ?_) | refine hf_bnd ?_ (fun _ _ _ => ?_) | refine hf_some ?_ | refine hf_lts ?_ (fun _ _ => ?_) | refine hf_ltv (fun _ => ?_) | refine hs_zs hm ?_ ?_ | refine hs_zcp hm ?_ (by decide +kernel) | refine hs_zsl ?_ | exact msub_tr (b := ([], [(16, 7), (16, 8), (25, 7), (25, 8)])) (by decide +kernel) hm | assumption | exact HS.rf | exact inm_r (by decide +kernel) | decide +kernel | (rcases zLw_or hi with rfl | rfl <;> first | exact inm_r (by decide +kernel) | decide +kernel) | intro _
set_option maxHeartbeats 4000000 in
theorem fx_f_X10_byteAt (v1 : Int32) {m : zMk} (hm : msub ([], []) m = true) (s : zM) : HF m s (f_X10_byteAt v1 s) := by
  unfold f_X10_byteAt
  repeat' with_reducible first | exact hf_none | refine hf_ite (fun _ => ?_) (fun _ => ?_) | refine hf_bnd ?_ (fun _ _ _ => ?_) | refine hf_some ?_ | refine hf_lts ?_ (fun _ _ => ?_) | refine hf_ltv (fun _ => ?_) | refine hs_zs hm ?_ ?_ | refine hs_zcp hm ?_ (by decide +kernel) | refine hs_zsl ?_ | exact msub_tr (b := ([], [])) (by decide +kernel) hm | assumption | exact HS.rf | exact inm_r (by decide +kernel) | decide +kernel | intro _
set_option maxHeartbeats 4000000 in
theorem fx_f_X4_peek  {m : zMk} (hm : msub ([], []) m = true) (s : zM) : HF m s (f_X4_peek s) := by
  unfold f_X4_peek
  repeat' with_reducible first | exact hf_none | refine hf_ite (fun _ => ?_) (fun _ => ?_) | refine hf_bnd ?_ (fun _ _ _ => ?_) | refine hf_some ?_ | refine hf_lts ?_ (fun _ _ => ?_) | refine hf_ltv (fun _ => ?_) | refine hs_zs hm ?_ ?_ | refine hs_zcp hm ?_ (by decide +kernel) | refine hs_zsl ?_ | (apply HF.of; apply fx_f_X10_byteAt) | exact msub_tr (b := ([], [])) (by decide +kernel) hm | assumption | exact HS.rf | exact inm_r (by decide +kernel) | decide +kernel | intro _
set_option maxHeartbeats 4000000 in
theorem fx_f_X3_isFull (i : Nat) {m : zMk} (hm : msub ([], []) m = true) (hi : zLw i = true) (s : zM) : HF m s (f_X3_isFull i s) := by
  unfold f_X3_isFull
  repeat' with_reducible first | exact hf_none | refine hf_ite (fun _ => ?_) (fun _ => ?_) | refine hf_bnd ?_ (fun _ _ _ => ?_) | refine hf_some ?_ | refine hf_lts ?_ (fun _ _ => ?_) | refine hf_ltv (fun _ => ?_) | refine hs_zs hm ?_ ?_ | refine hs_zcp hm ?_ (by decide +kernel) | refine hs_zsl ?_ | exact msub_tr (b := ([], [])) (by decide +kernel) hm | assumption | exact HS.rf | exact inm_r (by decide +kernel) | decide +kernel | (rcases zLw_or hi with rfl | rfl <;> first | exact inm_r (by decide +kernel) | decide +kernel) | intro _
set_option maxHeartbeats 4000000 in
theorem fx_f_X3_begin (i : Nat) (v1 : Int32) {m : zMk} (hm : msub ([17, 18, 26, 27], []) m = true) (hi : zLw i = true) (s : zM) : HF m s (f_X3_begin i v1 s) := by
  unfold f_X3_begin
  repeat' with_reducible first | exact hf_none | refine hf_ite (fun _ => ?_) (fun _ => ?_) | refine hf_bnd ?_ (fun _ _ _ => ?_) | refine hf_some ?_ | refine hf_lts ?_ (fun _ _ => ?_) | refine hf_ltv (fun _ => ?_) | refine hs_zs hm ?_ ?_ | refine hs_zcp hm ?_ (by decide +kernel) | refine hs_zsl ?_ | (apply HF.of; apply fx_f_X3_isFull) | exact msub_tr (b := ([17, 18, 26, 27], [])) (by decide +kernel) hm | assumption | exact HS.rf | exact inm_r (by decide +kernel) | decide +kernel | (rcases zLw_or hi with rfl | rfl <;> first | exact inm_r (by decide +kernel) | decide +kernel) | intro _
set_option maxHeartbeats 4000000 in
theorem fx_f_X3_beginCondition (i : Nat) {m : zMk} (hm : msub ([19, 28], []) m = true) (hi : zLw i = true) (s : zM) : HF m s (f_X3_beginCondition i s) := by
  unfold f_X3_beginCondition
  repeat' with_reducible first | exact hf_none | refine hf_ite (fun _ => ?_) (fun _ => ?_) | refine hf_bnd ?_ (fun _ _ _ => ?_) | refine hf_some ?_ | refine hf_lts ?_ (fun _ _ => ?_) | refine hf_ltv (fun _ => ?_) | refine hs_zs hm ?_ ?_ | refine hs_zcp hm ?_ (by decide +kernel) | refine hs_zsl ?_ | (apply HF.of; apply fx_f_X3_isFull) | exact msub_tr (b := ([19, 28], [])) (by decide +kernel) hm | assumption | exact HS.rf | exact inm_r (by decide +kernel) | decide +kernel | (rcases zLw_or hi with rfl | rfl <;> first | exact inm_r (by decide +kernel) | decide +kernel) | intro _
set_option maxHeartbeats 4000000 in
theorem fx_f_X4_fail (v1 : Int32) {m : zMk} (hm : msub ([], [(24, 4)]) m = true) (s : zM) : HF m s (f_X4_fail v1 s) := by
  unfold f_X4_fail
  repeat' with_reducible first | exact hf_none | refine hf_ite (fun _ => ?_) (fun _ => ?_) | refine hf_bnd ?_ (fun _ _ _ => ?_) | refine hf_some ?_ | refine hf_lts ?_ (fun _ _ => ?_) | refine hf_ltv (fun _ => ?_) | refine hs_zs hm ?_ ?_ | refine hs_zcp hm ?_ (by decide +kernel) | refine hs_zsl ?_ | exact msub_tr (b := ([], [(24, 4)])) (by decide +kernel) hm | assumption | exact HS.rf | exact inm_r (by decide +kernel) | decide +kernel | intro _
set_option maxHeartbeats 4000000 in
theorem fx_f_X4_accept (v1 : Int32) {m : zMk} (hm : msub ([], [(24, 2), (24, 4)]) m = true) (s : zM) : HF m s (f_X4_accept v1 s) := by
  unfold f_X4_accept
  repeat' with_reducible first | exact hf_none | refine hf_ite (fun _ => ?_) (fun _ => ?_) | refine hf_bnd ?_ (fun _ _ _ => ?_) | refine hf_some ?_ | refine hf_lts ?_ (fun _ _ => ?_) | refine hf_ltv (fun _ => ?_) | refine hs_zs hm ?_ ?_ | refine hs_zcp hm ?_ (by decide +kernel) | refine hs_zsl ?_ | (apply HF.of; apply fx_f_X4_peek) | (apply HF.of; apply fx_f_X4_fail) | exact msub_tr (b := ([], [(24, 2), (24, 4)])) (by decide +kernel) hm | assumption | exact HS.rf | exact inm_r (by decide +kernel) | decide +kernel | intro _
set_option maxHeartbeats 4000000 in
theorem fx_f_X3_add (i : Nat) (v1 : Int32) (v2 : Int32) {m : zMk} (hm : msub ([21, 22, 30, 31], [(16, 8), (25, 8)]) m = true) (hi : zLw i = true) (s : zM) : HF m s (f_X3_add i v1 v2 s) := by
  unfold f_X3_add
  repeat' with_reducible first | exact hf_none | refine hf_ite (fun _ => ?_) (fun _ => ?_) | refine hf_bnd ?_ (fun _ _ _ => ?_) | refine hf_some ?_ | refine hf_lts ?_ (fun _ _ => ?_) | refine hf_ltv (fun _ => ?_) | refine hs_zs hm ?_ ?_ | refine hs_zcp hm ?_ (by decide +kernel) | refine hs_zsl ?_ | exact msub_tr (b := ([21, 22, 30, 31], [(16, 8), (25, 8)])) (by decide +kernel) hm | assumption | exact HS.rf | exact inm_r (by decide +kernel) | decide +kernel | (rcases zLw_or hi with rfl | rfl <;> first | exact inm_r (by decide +kernel) | decide +kernel) | intro _
set_option maxHeartbeats 4000000 in
theorem fx_f_X3_land (i : Nat) (v1 : Int32) {m : zMk} (hm : msub ([22, 31], []) m = true) (hi : zLw i = true) (s : zM) : HF m s (f_X3_land i v1 s) := by
  unfold f_X3_land
  repeat' with_reducible first | exact hf_none | refine hf_ite (fun _ => ?_) (fun _ => ?_) | refine hf_bnd ?_ (fun _ _ _ => ?_) | refine hf_some ?_ | refine hf_lts ?_ (fun _ _ => ?_) | refine hf_ltv (fun _ => ?_) | refine hs_zs hm ?_ ?_ | refine hs_zcp hm ?_ (by decide +kernel) | refine hs_zsl ?_ | exact msub_tr (b := ([22, 31], [])) (by decide +kernel) hm | assumption | exact HS.rf | exact inm_r (by decide +kernel) | decide +kernel | (rcases zLw_or hi with rfl | rfl <;> first | exact inm_r (by decide +kernel) | decide +kernel) | intro _
set_option maxHeartbeats 4000000 in
theorem fx_f_X4_readCondition_L8 (F : Nat) (rec : Nat → Int32 → zM → Option (Int32 × zM)) (k71 : Int32 → zM → Option (Int32 × zM)) (v1 : Int32) {m : zMk} (hm : msub ([21, 22, 30, 31], [(16, 8), (24, 2), (25, 8)]) m = true) (hrec : ∀ (a0 : Nat) (a1 : Int32) (s : zM), HF m s (rec a0 a1 s)) (hk71 : ∀ (a0 : Int32) (s : zM), HF m s (k71 a0 s)) : ∀ (n : Nat) (w0 : Int32) (w1 : Int32) (s : zM), HF m s (f_X4_readCondition_L8 F rec k71 v1 n w0 w1 s) := by
  intro n
  induction n with
  | zero => intros; exact hf_none
  | succ n ih =>
    intro w0 w1 s
    rw [f_X4_readCondition_L8]
    repeat' with_reducible first | exact hf_none | refine hf_ite (fun _ => ?_) (fun _ => ?_) | refine hf_bnd ?_ (fun _ _ _ => ?_) | refine hf_some ?_ | refine hf_lts ?_ (fun _ _ => ?_) | refine hf_ltv (fun _ => ?_) | refine hs_zs hm ?_ ?_ | refine hs_zcp hm ?_ (by decide +kernel) | refine hs_zsl ?_ | (apply HF.of; apply hrec) | (apply HF.of; apply hk71) | (apply HF.of; apply fx_f_X4_peek) | (apply HF.of; apply fx_f_X3_add) | (apply HF.of; apply fx_f_X3_land) | (apply HF.of; apply ih) | exact msub_tr (b := ([21, 22, 30, 31], [(16, 8), (24, 2), (25, 8)])) (by decide +kernel) hm | assumption | exact HS.rf | exact inm_r (by decide +kernel) | decide +kernel | intro _
set_option maxHeartbeats 4000000 in
theorem fx_b_X4_readCondition (F : Nat) (rec : Nat → Int32 → zM → Option (Int32 × zM)) (v1 : Int32) {m : zMk} (hm : msub ([21, 22, 30, 31], [(16, 8), (24, 2), (25, 8)]) m = true) (hrec : ∀ (a0 : Nat) (a1 : Int32) (s : zM), HF m s (rec a0 a1 s)) (s : zM) : HF m s (b_X4_readCondition F rec v1 s) := by
  unfold b_X4_readCondition
  repeat' with_reducible first | exact hf_none | refine hf_ite (fun _ => ?_) (fun _ => ?_) | refine hf_bnd ?_ (fun _ _ _ => ?_) | refine hf_some ?_ | refine hf_lts ?_ (fun _ _ => ?_) | refine hf_ltv (fun _ => ?_) | refine hs_zs hm ?_ ?_ | refine hs_zcp hm ?_ (by decide +kernel) | refine hs_zsl ?_ | (apply HF.of; apply hrec) | (apply HF.of; apply fx_f_X4_readCondition_L8) | exact msub_tr (b := ([21, 22, 30, 31], [(16, 8), (24, 2), (25, 8)])) (by decide +kernel) hm | assumption | exact HS.rf | exact inm_r (by decide +kernel) | decide +kernel | intro _
set_option maxHeartbeats 4000000 in
theorem fx_f_X4_readPart_L8 (F : Nat) (rec : Nat → Int32 → zM → Option (Int32 × zM)) (k71 : Int32 → zM → Option (Int32 × zM)) (v1 : Int32) {m : zMk} (hm : msub ([21, 22, 30, 31], [(16, 8), (24, 2), (25, 8)]) m = true) (hrec : ∀ (a0 : Nat) (a1 : Int32) (s : zM), HF m s (rec a0 a1 s)) (hk71 : ∀ (a0 : Int32) (s : zM), HF m s (k71 a0 s)) : ∀ (n : Nat) (w0 : Int32) (w1 : Int32) (s : zM), HF m s (f_X4_readPart_L8 F rec k71 v1 n w0 w1 s) := by
  intro n
  induction n with
  | zero => intros; exact hf_none
  | succ n ih =>
    intro w0 w1 s
    rw [f_X4_readPart_L8]
    repeat' with_reducible first | exact hf_none | refine hf_ite (fun _ => ?_) (fun _ => ?_) | refine hf_bnd ?_ (fun _ _ _ => ?_) | refine hf_some ?_ | refine hf_lts ?_ (fun _ _ => ?_) | refine hf_ltv (fun _ => ?_) | refine hs_zs hm ?_ ?_ | refine hs_zcp hm ?_ (by decide +kernel) | refine hs_zsl ?_ | (apply HF.of; apply hrec) | (apply HF.of; apply hk71) | (apply HF.of; apply fx_f_X4_peek) | (apply HF.of; apply fx_f_X3_add) | (apply HF.of; apply fx_f_X3_land) | (apply HF.of; apply ih) | exact msub_tr (b := ([21, 22, 30, 31], [(16, 8), (24, 2), (25, 8)])) (by decide +kernel) hm | assumption | exact HS.rf | exact inm_r (by decide +kernel) | decide +kernel | intro _
set_option maxHeartbeats 4000000 in
theorem fx_b_X4_readPart (F : Nat) (rec : Nat → Int32 → zM → Option (Int32 × zM)) (v1 : Int32) {m : zMk} (hm : msub ([21, 22, 30, 31], [(16, 8), (24, 2), (25, 8)]) m = true) (hrec : ∀ (a0 : Nat) (a1 : Int32) (s : zM), HF m s (rec a0 a1 s)) (s : zM) : HF m s (b_X4_readPart F rec v1 s) := by
  unfold b_X4_readPart
  repeat' with_reducible first | exact hf_none | refine hf_ite (fun _ => ?_) (fun _ => ?_) | refine hf_bnd ?_ (fun _ _ _ => ?_) | refine hf_some ?_ | refine hf_lts ?_ (fun _ _ => ?_) | refine hf_ltv (fun _ => ?_) | refine hs_zs hm ?_ ?_ | refine hs_zcp hm ?_ (by decide +kernel) | refine hs_zsl ?_ | (apply HF.of; apply hrec) | (apply HF.of; apply fx_f_X4_readPart_L8) | exact msub_tr (b := ([21, 22, 30, 31], [(16, 8), (24, 2), (25, 8)])) (by decide +kernel) hm | assumption | exact HS.rf | exact inm_r (by decide +kernel) | decide +kernel | intro _
set_option maxHeartbeats 4000000 in
theorem fx_b_X4_readInner (rec : Nat → Int32 → zM → Option (Int32 × zM)) (v1 : Int32) (v2 : Int32) {m : zMk} (hm : msub ([21, 22, 30, 31], [(16, 8), (24, 2), (24, 4), (25, 8)]) m = true) (hrec : ∀ (a0 : Nat) (a1 : Int32) (s : zM), HF m s (rec a0 a1 s)) (s : zM) : HF m s (b_X4_readInner rec v1 v2 s) := by
  unfold b_X4_readInner
  repeat' with_reducible first | exact hf_none | refine hf_ite (fun _ => ?_) (fun _ => ?_) | refine hf_bnd ?_ (fun _ _ _ => ?_) | refine hf_some ?_ | refine hf_lts ?_ (fun _ _ => ?_) | refine hf_ltv (fun _ => ?_) | refine hs_zs hm ?_ ?_ | refine hs_zcp hm ?_ (by decide +kernel) | refine hs_zsl ?_ | (apply HF.of; apply hrec) | (apply HF.of; apply fx_f_X4_accept) | (apply HF.of; apply fx_f_X3_add) | (apply HF.of; apply fx_f_X4_fail) | exact msub_tr (b := ([21, 22, 30, 31], [(16, 8), (24, 2), (24, 4), (25, 8)])) (by decide +kernel) hm | assumption | exact HS.rf | exact inm_r (by decide +kernel) | decide +kernel | intro _
set_option maxHeartbeats 4000000 in
theorem fx_f_X4_readPiece_j63 (rec : Nat → Int32 → zM → Option (Int32 × zM)) (v1 : Int32) (v3 : Int32) {m : zMk} (hm : msub ([21, 22, 30, 31], [(16, 8), (24, 2), (25, 8)]) m = true) (hrec : ∀ (a0 : Nat) (a1 : Int32) (s : zM), HF m s (rec a0 a1 s)) (s : zM) : HF m s (f_X4_readPiece_j63 rec v1 v3 s) := by
  unfold f_X4_readPiece_j63
  repeat' with_reducible first | exact hf_none | refine hf_ite (fun _ => ?_) (fun _ => ?_) | refine hf_bnd ?_ (fun _ _ _ => ?_) | refine hf_some ?_ | refine hf_lts ?_ (fun _ _ => ?_) | refine hf_ltv (fun _ => ?_) | refine hs_zs hm ?_ ?_ | refine hs_zcp hm ?_ (by decide +kernel) | refine hs_zsl ?_ | (apply HF.of; apply hrec) | (apply HF.of; apply fx_f_X3_add) | exact msub_tr (b := ([21, 22, 30, 31], [(16, 8), (24, 2), (25, 8)])) (by decide +kernel) hm | assumption | exact HS.rf | exact inm_r (by decide +kernel) | decide +kernel | intro _
set_option maxHeartbeats 4000000 in
theorem fx_b_X4_readPiece (rec : Nat → Int32 → zM → Option (Int32 × zM)) (v1 : Int32) {m : zMk} (hm : msub ([21, 22, 30, 31], [(16, 8), (24, 2), (24, 4), (25, 8)]) m = true) (hrec : ∀ (a0 : Nat) (a1 : Int32) (s : zM), HF m s (rec a0 a1 s)) (s : zM) : HF m s (b_X4_readPiece rec v1 s) := by
  unfold b_X4_readPiece
  repeat' with_reducible first | exact hf_none | refine hf_ite (fun _ => ?_) (fun _ => ?_) | refine hf_bnd ?_ (fun _ _ _ => ?_) | refine hf_some ?_ | refine hf_lts ?_ (fun _ _ => ?_) | refine hf_ltv (fun _ => ?_) | refine hs_zs hm ?_ ?_ | refine hs_zcp hm ?_ (by decide +kernel) | refine hs_zsl ?_ | (apply HF.of; apply hrec) | (apply HF.of; apply fx_f_X4_peek) | (apply HF.of; apply fx_b_X4_readInner) | (apply HF.of; apply fx_f_X4_readPiece_j63) | (apply HF.of; apply fx_f_X4_fail) | exact msub_tr (b := ([21, 22, 30, 31], [(16, 8), (24, 2), (24, 4), (25, 8)])) (by decide +kernel) hm | assumption | exact HS.rf | exact inm_r (by decide +kernel) | decide +kernel | intro _
set_option maxHeartbeats 4000000 in
theorem fx_f_X4_isPlus (v0 : Int32) {m : zMk} (hm : msub ([], []) m = true) (s : zM) : HF m s (f_X4_isPlus v0 s) := by
  unfold f_X4_isPlus
  repeat' with_reducible first | exact hf_none | refine hf_ite (fun _ => ?_) (fun _ => ?_) | refine hf_bnd ?_ (fun _ _ _ => ?_) | refine hf_some ?_ | refine hf_lts ?_ (fun _ _ => ?_) | refine hf_ltv (fun _ => ?_) | refine hs_zs hm ?_ ?_ | refine hs_zcp hm ?_ (by decide +kernel) | refine hs_zsl ?_ | exact msub_tr (b := ([], [])) (by decide +kernel) hm | assumption | exact HS.rf | exact inm_r (by decide +kernel) | decide +kernel | intro _
set_option maxHeartbeats 4000000 in
theorem fx_f_X4_readSum_L8 (F : Nat) (rec : Nat → Int32 → zM → Option (Int32 × zM)) (k68 : Int32 → zM → Option (Int32 × zM)) (v1 : Int32) {m : zMk} (hm : msub ([21, 22, 30, 31], [(16, 8), (24, 2), (25, 8)]) m = true) (hrec : ∀ (a0 : Nat) (a1 : Int32) (s : zM), HF m s (rec a0 a1 s)) (hk68 : ∀ (a0 : Int32) (s : zM), HF m s (k68 a0 s)) : ∀ (n : Nat) (w0 : Int32) (w1 : Int32) (s : zM), HF m s (f_X4_readSum_L8 F rec k68 v1 n w0 w1 s) := by
  intro n
  induction n with
  | zero => intros; exact hf_none
  | succ n ih =>
    intro w0 w1 s
    rw [f_X4_readSum_L8]
    repeat' with_reducible first | exact hf_none | refine hf_ite (fun _ => ?_) (fun _ => ?_) | refine hf_bnd ?_ (fun _ _ _ => ?_) | refine hf_some ?_ | refine hf_lts ?_ (fun _ _ => ?_) | refine hf_ltv (fun _ => ?_) | refine hs_zs hm ?_ ?_ | refine hs_zcp hm ?_ (by decide +kernel) | refine hs_zsl ?_ | (apply HF.of; apply hrec) | (apply HF.of; apply hk68) | (apply HF.of; apply fx_f_X4_peek) | (apply HF.of; apply fx_f_X4_isPlus) | (apply HF.of; apply fx_f_X3_add) | (apply HF.of; apply ih) | exact msub_tr (b := ([21, 22, 30, 31], [(16, 8), (24, 2), (25, 8)])) (by decide +kernel) hm | assumption | exact HS.rf | exact inm_r (by decide +kernel) | decide +kernel | intro _
set_option maxHeartbeats 4000000 in
theorem fx_b_X4_readSum (F : Nat) (rec : Nat → Int32 → zM → Option (Int32 × zM)) (v1 : Int32) {m : zMk} (hm : msub ([21, 22, 30, 31], [(16, 8), (24, 2), (25, 8)]) m = true) (hrec : ∀ (a0 : Nat) (a1 : Int32) (s : zM), HF m s (rec a0 a1 s)) (s : zM) : HF m s (b_X4_readSum F rec v1 s) := by
  unfold b_X4_readSum
  repeat' with_reducible first | exact hf_none | refine hf_ite (fun _ => ?_) (fun _ => ?_) | refine hf_bnd ?_ (fun _ _ _ => ?_) | refine hf_some ?_ | refine hf_lts ?_ (fun _ _ => ?_) | refine hf_ltv (fun _ => ?_) | refine hs_zs hm ?_ ?_ | refine hs_zcp hm ?_ (by decide +kernel) | refine hs_zsl ?_ | (apply HF.of; apply hrec) | (apply HF.of; apply fx_f_X4_readSum_L8) | exact msub_tr (b := ([21, 22, 30, 31], [(16, 8), (24, 2), (25, 8)])) (by decide +kernel) hm | assumption | exact HS.rf | exact inm_r (by decide +kernel) | decide +kernel | intro _
set_option maxHeartbeats 4000000 in
theorem fx_f_X4_isTimes (v0 : Int32) {m : zMk} (hm : msub ([], []) m = true) (s : zM) : HF m s (f_X4_isTimes v0 s) := by
  unfold f_X4_isTimes
  repeat' with_reducible first | exact hf_none | refine hf_ite (fun _ => ?_) (fun _ => ?_) | refine hf_bnd ?_ (fun _ _ _ => ?_) | refine hf_some ?_ | refine hf_lts ?_ (fun _ _ => ?_) | refine hf_ltv (fun _ => ?_) | refine hs_zs hm ?_ ?_ | refine hs_zcp hm ?_ (by decide +kernel) | refine hs_zsl ?_ | exact msub_tr (b := ([], [])) (by decide +kernel) hm | assumption | exact HS.rf | exact inm_r (by decide +kernel) | decide +kernel | intro _
set_option maxHeartbeats 4000000 in
theorem fx_f_X4_readTerm_L8 (F : Nat) (rec : Nat → Int32 → zM → Option (Int32 × zM)) (k68 : Int32 → zM → Option (Int32 × zM)) (v1 : Int32) {m : zMk} (hm : msub ([21, 22, 30, 31], [(16, 8), (24, 2), (25, 8)]) m = true) (hrec : ∀ (a0 : Nat) (a1 : Int32) (s : zM), HF m s (rec a0 a1 s)) (hk68 : ∀ (a0 : Int32) (s : zM), HF m s (k68 a0 s)) : ∀ (n : Nat) (w0 : Int32) (w1 : Int32) (s : zM), HF m s (f_X4_readTerm_L8 F rec k68 v1 n w0 w1 s) := by
  intro n
  induction n with
  | zero => intros; exact hf_none
  | succ n ih =>
    intro w0 w1 s
    rw [f_X4_readTerm_L8]
    repeat' with_reducible first | exact hf_none | refine hf_ite (fun _ => ?_) (fun _ => ?_) | refine hf_bnd ?_ (fun _ _ _ => ?_) | refine hf_some ?_ | refine hf_lts ?_ (fun _ _ => ?_) | refine hf_ltv (fun _ => ?_) | refine hs_zs hm ?_ ?_ | refine hs_zcp hm ?_ (by decide +kernel) | refine hs_zsl ?_ | (apply HF.of; apply hrec) | (apply HF.of; apply hk68) | (apply HF.of; apply fx_f_X4_peek) | (apply HF.of; apply fx_f_X4_isTimes) | (apply HF.of; apply fx_f_X3_add) | (apply HF.of; apply ih) | exact msub_tr (b := ([21, 22, 30, 31], [(16, 8), (24, 2), (25, 8)])) (by decide +kernel) hm | assumption | exact HS.rf | exact inm_r (by decide +kernel) | decide +kernel | intro _
set_option maxHeartbeats 4000000 in
theorem fx_b_X4_readTerm (F : Nat) (rec : Nat → Int32 → zM → Option (Int32 × zM)) (v1 : Int32) {m : zMk} (hm : msub ([21, 22, 30, 31], [(16, 8), (24, 2), (25, 8)]) m = true) (hrec : ∀ (a0 : Nat) (a1 : Int32) (s : zM), HF m s (rec a0 a1 s)) (s : zM) : HF m s (b_X4_readTerm F rec v1 s) := by
  unfold b_X4_readTerm
  repeat' with_reducible first | exact hf_none | refine hf_ite (fun _ => ?_) (fun _ => ?_) | refine hf_bnd ?_ (fun _ _ _ => ?_) | refine hf_some ?_ | refine hf_lts ?_ (fun _ _ => ?_) | refine hf_ltv (fun _ => ?_) | refine hs_zs hm ?_ ?_ | refine hs_zcp hm ?_ (by decide +kernel) | refine hs_zsl ?_ | (apply HF.of; apply hrec) | (apply HF.of; apply fx_f_X4_readTerm_L8) | exact msub_tr (b := ([21, 22, 30, 31], [(16, 8), (24, 2), (25, 8)])) (by decide +kernel) hm | assumption | exact HS.rf | exact inm_r (by decide +kernel) | decide +kernel | intro _
set_option maxHeartbeats 4000000 in
theorem fx_f_X4_isDigit (v0 : Int32) {m : zMk} (hm : msub ([], []) m = true) (s : zM) : HF m s (f_X4_isDigit v0 s) := by
  unfold f_X4_isDigit
  repeat' with_reducible first | exact hf_none | refine hf_ite (fun _ => ?_) (fun _ => ?_) | refine hf_bnd ?_ (fun _ _ _ => ?_) | refine hf_some ?_ | refine hf_lts ?_ (fun _ _ => ?_) | refine hf_ltv (fun _ => ?_) | refine hs_zs hm ?_ ?_ | refine hs_zcp hm ?_ (by decide +kernel) | refine hs_zsl ?_ | exact msub_tr (b := ([], [])) (by decide +kernel) hm | assumption | exact HS.rf | exact inm_r (by decide +kernel) | decide +kernel | intro _
set_option maxHeartbeats 4000000 in
theorem fx_f_X1_letterPlace (v0 : Int32) {m : zMk} (hm : msub ([], []) m = true) (s : zM) : HF m s (f_X1_letterPlace v0 s) := by
  unfold f_X1_letterPlace
  repeat' with_reducible first | exact hf_none | refine hf_ite (fun _ => ?_) (fun _ => ?_) | refine hf_bnd ?_ (fun _ _ _ => ?_) | refine hf_some ?_ | refine hf_lts ?_ (fun _ _ => ?_) | refine hf_ltv (fun _ => ?_) | refine hs_zs hm ?_ ?_ | refine hs_zcp hm ?_ (by decide +kernel) | refine hs_zsl ?_ | exact msub_tr (b := ([], [])) (by decide +kernel) hm | assumption | exact HS.rf | exact inm_r (by decide +kernel) | decide +kernel | intro _
set_option maxHeartbeats 4000000 in
theorem fx_f_X4_readNumber_L4 (F : Nat) (k48 : Int32 → zM → Option (Int32 × zM)) {m : zMk} (hm : msub ([], [(24, 2)]) m = true) (hk48 : ∀ (a0 : Int32) (s : zM), HF m s (k48 a0 s)) : ∀ (n : Nat) (w0 : Int32) (w1 : Int32) (s : zM), HF m s (f_X4_readNumber_L4 F k48 n w0 w1 s) := by
  intro n
  induction n with
  | zero => intros; exact hf_none
  | succ n ih =>
    intro w0 w1 s
    rw [f_X4_readNumber_L4]
    repeat' with_reducible first | exact hf_none | refine hf_ite (fun _ => ?_) (fun _ => ?_) | refine hf_bnd ?_ (fun _ _ _ => ?_) | refine hf_some ?_ | refine hf_lts ?_ (fun _ _ => ?_) | refine hf_ltv (fun _ => ?_) | refine hs_zs hm ?_ ?_ | refine hs_zcp hm ?_ (by decide +kernel) | refine hs_zsl ?_ | (apply HF.of; apply hk48) | (apply HF.of; apply fx_f_X4_peek) | (apply HF.of; apply fx_f_X4_isDigit) | (apply HF.of; apply ih) | exact msub_tr (b := ([], [(24, 2)])) (by decide +kernel) hm | assumption | exact HS.rf | exact inm_r (by decide +kernel) | decide +kernel | intro _
set_option maxHeartbeats 4000000 in
theorem fx_f_X4_readNumber_j48 (F : Nat) (v1 : Int32) {m : zMk} (hm : msub ([21, 22, 30, 31], [(16, 8), (24, 4), (25, 8)]) m = true) (s : zM) : HF m s (f_X4_readNumber_j48 F v1 s) := by
  unfold f_X4_readNumber_j48
  repeat' with_reducible first | exact hf_none | refine hf_ite (fun _ => ?_) (fun _ => ?_) | refine hf_bnd ?_ (fun _ _ _ => ?_) | refine hf_some ?_ | refine hf_lts ?_ (fun _ _ => ?_) | refine hf_ltv (fun _ => ?_) | refine hs_zs hm ?_ ?_ | refine hs_zcp hm ?_ (by decide +kernel) | refine hs_zsl ?_ | (apply HF.of; apply fx_f_X4_peek) | (apply HF.of; apply fx_f_X4_isDigit) | (apply HF.of; apply fx_f_X3_add) | (apply HF.of; apply fx_f_X4_fail) | exact msub_tr (b := ([21, 22, 30, 31], [(16, 8), (24, 4), (25, 8)])) (by decide +kernel) hm | assumption | exact HS.rf | exact inm_r (by decide +kernel) | decide +kernel | intro _
set_option maxHeartbeats 4000000 in
theorem fx_f_X4_readNumber (F : Nat) {m : zMk} (hm : msub ([21, 22, 30, 31], [(16, 8), (24, 2), (24, 4), (25, 8)]) m = true) (s : zM) : HF m s (f_X4_readNumber F s) := by
  unfold f_X4_readNumber
  repeat' with_reducible first | exact hf_none | refine hf_ite (fun _ => ?_) (fun _ => ?_) | refine hf_bnd ?_ (fun _ _ _ => ?_) | refine hf_some ?_ | refine hf_lts ?_ (fun _ _ => ?_) | refine hf_ltv (fun _ => ?_) | refine hs_zs hm ?_ ?_ | refine hs_zcp hm ?_ (by decide +kernel) | refine hs_zsl ?_ | (apply HF.of; apply fx_f_X4_readNumber_L4) | (apply HF.of; apply fx_f_X4_readNumber_j48) | exact msub_tr (b := ([21, 22, 30, 31], [(16, 8), (24, 2), (24, 4), (25, 8)])) (by decide +kernel) hm | assumption | exact HS.rf | exact inm_r (by decide +kernel) | decide +kernel | intro _
set_option maxHeartbeats 4000000 in
theorem fx_b_X4_readFactor (F : Nat) (rec : Nat → Int32 → zM → Option (Int32 × zM)) (v1 : Int32) {m : zMk} (hm : msub ([21, 22, 30, 31], [(16, 8), (24, 2), (24, 4), (25, 8)]) m = true) (hrec : ∀ (a0 : Nat) (a1 : Int32) (s : zM), HF m s (rec a0 a1 s)) (s : zM) : HF m s (b_X4_readFactor F rec v1 s) := by
  unfold b_X4_readFactor
  repeat' with_reducible first | exact hf_none | refine hf_ite (fun _ => ?_) (fun _ => ?_) | refine hf_bnd ?_ (fun _ _ _ => ?_) | refine hf_some ?_ | refine hf_lts ?_ (fun _ _ => ?_) | refine hf_ltv (fun _ => ?_) | refine hs_zs hm ?_ ?_ | refine hs_zcp hm ?_ (by decide +kernel) | refine hs_zsl ?_ | (apply HF.of; apply hrec) | (apply HF.of; apply fx_f_X4_peek) | (apply HF.of; apply fx_f_X4_isDigit) | (apply HF.of; apply fx_f_X4_accept) | (apply HF.of; apply fx_f_X4_fail) | (apply HF.of; apply fx_f_X1_letterPlace) | (apply HF.of; apply fx_f_X3_add) | (apply HF.of; apply fx_f_X4_readNumber) | exact msub_tr (b := ([21, 22, 30, 31], [(16, 8), (24, 2), (24, 4), (25, 8)])) (by decide +kernel) hm | assumption | exact HS.rf | exact inm_r (by decide +kernel) | decide +kernel | intro _
set_option maxHeartbeats 4000000 in
theorem fx_f_G0 (F : Nat) {m : zMk} (hm : msub ([21, 22, 30, 31], [(16, 8), (24, 2), (24, 4), (25, 8)]) m = true) : ∀ (n i : Nat) (x : Int32) (s : zM), HF m s (f_G0 F n i x s) := by
  intro n
  induction n with
  | zero => intros; exact hf_none
  | succ n ih =>
    intro i x s
    match i with
    | 0 => rw [f_G0]; repeat' with_reducible first | exact hf_none | refine hf_ite (fun _ => ?_) (fun _ => ?_) | refine hf_bnd ?_ (fun _ _ _ => ?_) | refine hf_some ?_ | refine hf_lts ?_ (fun _ _ => ?_) | refine hf_ltv (fun _ => ?_) | refine hs_zs hm ?_ ?_ | refine hs_zcp hm ?_ (by decide +kernel) | refine hs_zsl ?_ | (apply HF.of; apply fx_b_X4_readCondition) | (apply HF.of; apply fx_b_X4_readPart) | (apply HF.of; apply fx_b_X4_readPiece) | (apply HF.of; apply fx_b_X4_readSum) | (apply HF.of; apply fx_b_X4_readTerm) | (apply HF.of; apply fx_b_X4_readFactor) | (apply HF.of; apply ih) | exact msub_tr (b := ([21, 22, 30, 31], [(16, 8), (24, 2), (24, 4), (25, 8)])) (by decide +kernel) hm | assumption | exact HS.rf | exact inm_r (by decide +kernel) | decide +kernel | intro _
    | 1 => rw [f_G0]; repeat' with_reducible first | exact hf_none | refine hf_ite (fun _ => ?_) (fun _ => ?_) | refine hf_bnd ?_ (fun _ _ _ => ?_) | refine hf_some ?_ | refine hf_lts ?_ (fun _ _ => ?_) | refine hf_ltv (fun _ => ?_) | refine hs_zs hm ?_ ?_ | refine hs_zcp hm ?_ (by decide +kernel) | refine hs_zsl ?_ | (apply HF.of; apply fx_b_X4_readCondition) | (apply HF.of; apply fx_b_X4_readPart) | (apply HF.of; apply fx_b_X4_readPiece) | (apply HF.of; apply fx_b_X4_readSum) | (apply HF.of; apply fx_b_X4_readTerm) | (apply HF.of; apply fx_b_X4_readFactor) | (apply HF.of; apply ih) | exact msub_tr (b := ([21, 22, 30, 31], [(16, 8), (24, 2), (24, 4), (25, 8)])) (by decide +kernel) hm | assumption | exact HS.rf | exact inm_r (by decide +kernel) | decide +kernel | intro _
    | 2 => rw [f_G0]; repeat' with_reducible first | exact hf_none | refine hf_ite (fun _ => ?_) (fun _ => ?_) | refine hf_bnd ?_ (fun _ _ _ => ?_) | refine hf_some ?_ | refine hf_lts ?_ (fun _ _ => ?_) | refine hf_ltv (fun _ => ?_) | refine hs_zs hm ?_ ?_ | refine hs_zcp hm ?_ (by decide +kernel) | refine hs_zsl ?_ | (apply HF.of; apply fx_b_X4_readCondition) | (apply HF.of; apply fx_b_X4_readPart) | (apply HF.of; apply fx_b_X4_readPiece) | (apply HF.of; apply fx_b_X4_readSum) | (apply HF.of; apply fx_b_X4_readTerm) | (apply HF.of; apply fx_b_X4_readFactor) | (apply HF.of; apply ih) | exact msub_tr (b := ([21, 22, 30, 31], [(16, 8), (24, 2), (24, 4), (25, 8)])) (by decide +kernel) hm | assumption | exact HS.rf | exact inm_r (by decide +kernel) | decide +kernel | intro _
    | 3 => rw [f_G0]; repeat' with_reducible first | exact hf_none | refine hf_ite (fun _ => ?_) (fun _ => ?_) | refine hf_bnd ?_ (fun _ _ _ => ?_) | refine hf_some ?_ | refine hf_lts ?_ (fun _ _ => ?_) | refine hf_ltv (fun _ => ?_) | refine hs_zs hm ?_ ?_ | refine hs_zcp hm ?_ (by decide +kernel) | refine hs_zsl ?_ | (apply HF.of; apply fx_b_X4_readCondition) | (apply HF.of; apply fx_b_X4_readPart) | (apply HF.of; apply fx_b_X4_readPiece) | (apply HF.of; apply fx_b_X4_readSum) | (apply HF.of; apply fx_b_X4_readTerm) | (apply HF.of; apply fx_b_X4_readFactor) | (apply HF.of; apply ih) | exact msub_tr (b := ([21, 22, 30, 31], [(16, 8), (24, 2), (24, 4), (25, 8)])) (by decide +kernel) hm | assumption | exact HS.rf | exact inm_r (by decide +kernel) | decide +kernel | intro _
    | 4 => rw [f_G0]; repeat' with_reducible first | exact hf_none | refine hf_ite (fun _ => ?_) (fun _ => ?_) | refine hf_bnd ?_ (fun _ _ _ => ?_) | refine hf_some ?_ | refine hf_lts ?_ (fun _ _ => ?_) | refine hf_ltv (fun _ => ?_) | refine hs_zs hm ?_ ?_ | refine hs_zcp hm ?_ (by decide +kernel) | refine hs_zsl ?_ | (apply HF.of; apply fx_b_X4_readCondition) | (apply HF.of; apply fx_b_X4_readPart) | (apply HF.of; apply fx_b_X4_readPiece) | (apply HF.of; apply fx_b_X4_readSum) | (apply HF.of; apply fx_b_X4_readTerm) | (apply HF.of; apply fx_b_X4_readFactor) | (apply HF.of; apply ih) | exact msub_tr (b := ([21, 22, 30, 31], [(16, 8), (24, 2), (24, 4), (25, 8)])) (by decide +kernel) hm | assumption | exact HS.rf | exact inm_r (by decide +kernel) | decide +kernel | intro _
    | 5 => rw [f_G0]; repeat' with_reducible first | exact hf_none | refine hf_ite (fun _ => ?_) (fun _ => ?_) | refine hf_bnd ?_ (fun _ _ _ => ?_) | refine hf_some ?_ | refine hf_lts ?_ (fun _ _ => ?_) | refine hf_ltv (fun _ => ?_) | refine hs_zs hm ?_ ?_ | refine hs_zcp hm ?_ (by decide +kernel) | refine hs_zsl ?_ | (apply HF.of; apply fx_b_X4_readCondition) | (apply HF.of; apply fx_b_X4_readPart) | (apply HF.of; apply fx_b_X4_readPiece) | (apply HF.of; apply fx_b_X4_readSum) | (apply HF.of; apply fx_b_X4_readTerm) | (apply HF.of; apply fx_b_X4_readFactor) | (apply HF.of; apply ih) | exact msub_tr (b := ([21, 22, 30, 31], [(16, 8), (24, 2), (24, 4), (25, 8)])) (by decide +kernel) hm | assumption | exact HS.rf | exact inm_r (by decide +kernel) | decide +kernel | intro _
    | j + 6 => exact hf_none
set_option maxHeartbeats 4000000 in
theorem fx_f_X3_end (i : Nat) {m : zMk} (hm : msub ([20, 29], [(16, 7), (25, 7)]) m = true) (hi : zLw i = true) (s : zM) : HF m s (f_X3_end i s) := by
  unfold f_X3_end
  repeat' with_reducible first | exact hf_none | refine hf_ite (fun _ => ?_) (fun _ => ?_) | refine hf_bnd ?_ (fun _ _ _ => ?_) | refine hf_some ?_ | refine hf_lts ?_ (fun _ _ => ?_) | refine hf_ltv (fun _ => ?_) | refine hs_zs hm ?_ ?_ | refine hs_zcp hm ?_ (by decide +kernel) | refine hs_zsl ?_ | (apply HF.of; apply fx_f_X3_isFull) | exact msub_tr (b := ([20, 29], [(16, 7), (25, 7)])) (by decide +kernel) hm | assumption | exact HS.rf | exact inm_r (by decide +kernel) | decide +kernel | (rcases zLw_or hi with rfl | rfl <;> first | exact inm_r (by decide +kernel) | decide +kernel) | intro _
set_option maxHeartbeats 4000000 in
theorem fx_f_X4_readClause_j85 (F : Nat) (D : Nat) {m : zMk} (hm : msub ([19, 20, 21, 22, 28, 29, 30, 31], [(16, 7), (16, 8), (24, 2), (24, 4), (25, 7), (25, 8)]) m = true) (s : zM) : HF m s (f_X4_readClause_j85 F D s) := by
  unfold f_X4_readClause_j85
  repeat' with_reducible first | exact hf_none | refine hf_ite (fun _ => ?_) (fun _ => ?_) | refine hf_bnd ?_ (fun _ _ _ => ?_) | refine hf_some ?_ | refine hf_lts ?_ (fun _ _ => ?_) | refine hf_ltv (fun _ => ?_) | refine hs_zs hm ?_ ?_ | refine hs_zcp hm ?_ (by decide +kernel) | refine hs_zsl ?_ | (apply HF.of; apply fx_f_X3_beginCondition) | (apply HF.of; apply fx_f_X4_accept) | (apply HF.of; apply fx_f_G0) | (apply HF.of; apply fx_f_X3_end) | exact msub_tr (b := ([19, 20, 21, 22, 28, 29, 30, 31], [(16, 7), (16, 8), (24, 2), (24, 4), (25, 7), (25, 8)])) (by decide +kernel) hm | assumption | exact HS.rf | exact inm_r (by decide +kernel) | decide +kernel | intro _
set_option maxHeartbeats 4000000 in
theorem fx_f_X4_readClause_j35 (F : Nat) (D : Nat) (v1 : Int32) {m : zMk} (hm : msub ([17, 18, 19, 20, 21, 22, 26, 27, 28, 29, 30, 31], [(16, 7), (16, 8), (24, 2), (24, 4), (25, 7), (25, 8)]) m = true) (s : zM) : HF m s (f_X4_readClause_j35 F D v1 s) := by
  unfold f_X4_readClause_j35
  repeat' with_reducible first | exact hf_none | refine hf_ite (fun _ => ?_) (fun _ => ?_) | refine hf_bnd ?_ (fun _ _ _ => ?_) | refine hf_some ?_ | refine hf_lts ?_ (fun _ _ => ?_) | refine hf_ltv (fun _ => ?_) | refine hs_zs hm ?_ ?_ | refine hs_zcp hm ?_ (by decide +kernel) | refine hs_zsl ?_ | (apply HF.of; apply fx_f_X3_isFull) | (apply HF.of; apply fx_f_X3_begin) | (apply HF.of; apply fx_f_X4_readClause_j85) | (apply HF.of; apply fx_f_G0) | (apply HF.of; apply fx_f_X4_fail) | exact msub_tr (b := ([17, 18, 19, 20, 21, 22, 26, 27, 28, 29, 30, 31], [(16, 7), (16, 8), (24, 2), (24, 4), (25, 7), (25, 8)])) (by decide +kernel) hm | assumption | exact HS.rf | exact inm_r (by decide +kernel) | decide +kernel | intro _
set_option maxHeartbeats 4000000 in
theorem fx_f_X4_readClause (F : Nat) (D : Nat) {m : zMk} (hm : msub ([17, 18, 19, 20, 21, 22, 26, 27, 28, 29, 30, 31], [(16, 7), (16, 8), (24, 2), (24, 4), (25, 7), (25, 8)]) m = true) (s : zM) : HF m s (f_X4_readClause F D s) := by
  unfold f_X4_readClause
  repeat' with_reducible first | exact hf_none | refine hf_ite (fun _ => ?_) (fun _ => ?_) | refine hf_bnd ?_ (fun _ _ _ => ?_) | refine hf_some ?_ | refine hf_lts ?_ (fun _ _ => ?_) | refine hf_ltv (fun _ => ?_) | refine hs_zs hm ?_ ?_ | refine hs_zcp hm ?_ (by decide +kernel) | refine hs_zsl ?_ | (apply HF.of; apply fx_f_X4_peek) | (apply HF.of; apply fx_f_X4_readClause_j35) | (apply HF.of; apply fx_f_X4_fail) | exact msub_tr (b := ([17, 18, 19, 20, 21, 22, 26, 27, 28, 29, 30, 31], [(16, 7), (16, 8), (24, 2), (24, 4), (25, 7), (25, 8)])) (by decide +kernel) hm | assumption | exact HS.rf | exact inm_r (by decide +kernel) | decide +kernel | intro _
set_option maxHeartbeats 4000000 in
theorem fx_f_X4_read_L26 (F : Nat) (D : Nat) (k75 : zM → Option (Int32 × zM)) {m : zMk} (hm : msub ([17, 18, 19, 20, 21, 22, 26, 27, 28, 29, 30, 31], [(16, 7), (16, 8), (24, 2), (24, 4), (25, 7), (25, 8)]) m = true) (hk75 : ∀ (s : zM), HF m s (k75 s)) : ∀ (n : Nat) (w0 : Int32) (w1 : Int32) (s : zM), HF m s (f_X4_read_L26 F D k75 n w0 w1 s) := by
  intro n
  induction n with
  | zero => intros; exact hf_none
  | succ n ih =>
    intro w0 w1 s
    rw [f_X4_read_L26]
    repeat' with_reducible first | exact hf_none | refine hf_ite (fun _ => ?_) (fun _ => ?_) | refine hf_bnd ?_ (fun _ _ _ => ?_) | refine hf_some ?_ | refine hf_lts ?_ (fun _ _ => ?_) | refine hf_ltv (fun _ => ?_) | refine hs_zs hm ?_ ?_ | refine hs_zcp hm ?_ (by decide +kernel) | refine hs_zsl ?_ | (apply HF.of; apply hk75) | (apply HF.of; apply fx_f_X4_readClause) | (apply HF.of; apply fx_f_X4_accept) | (apply HF.of; apply ih) | exact msub_tr (b := ([17, 18, 19, 20, 21, 22, 26, 27, 28, 29, 30, 31], [(16, 7), (16, 8), (24, 2), (24, 4), (25, 7), (25, 8)])) (by decide +kernel) hm | assumption | exact HS.rf | exact inm_r (by decide +kernel) | decide +kernel | intro _
set_option maxHeartbeats 4000000 in
theorem fx_f_X3_number (i : Nat) {m : zMk} (hm : msub ([], []) m = true) (hi : zLw i = true) (s : zM) : HF m s (f_X3_number i s) := by
  unfold f_X3_number
  repeat' with_reducible first | exact hf_none | refine hf_ite (fun _ => ?_) (fun _ => ?_) | refine hf_bnd ?_ (fun _ _ _ => ?_) | refine hf_some ?_ | refine hf_lts ?_ (fun _ _ => ?_) | refine hf_ltv (fun _ => ?_) | refine hs_zs hm ?_ ?_ | refine hs_zcp hm ?_ (by decide +kernel) | refine hs_zsl ?_ | exact msub_tr (b := ([], [])) (by decide +kernel) hm | assumption | exact HS.rf | exact inm_r (by decide +kernel) | decide +kernel | (rcases zLw_or hi with rfl | rfl <;> first | exact inm_r (by decide +kernel) | decide +kernel) | intro _
set_option maxHeartbeats 4000000 in
theorem fx_f_X4_read_j75 (F : Nat) (D : Nat) {m : zMk} (hm : msub ([], []) m = true) (s : zM) : HF m s (f_X4_read_j75 F D s) := by
  unfold f_X4_read_j75
  repeat' with_reducible first | exact hf_none | refine hf_ite (fun _ => ?_) (fun _ => ?_) | refine hf_bnd ?_ (fun _ _ _ => ?_) | refine hf_some ?_ | refine hf_lts ?_ (fun _ _ => ?_) | refine hf_ltv (fun _ => ?_) | refine hs_zs hm ?_ ?_ | refine hs_zcp hm ?_ (by decide +kernel) | refine hs_zsl ?_ | (apply HF.of; apply fx_f_X3_number) | exact msub_tr (b := ([], [])) (by decide +kernel) hm | assumption | exact HS.rf | exact inm_r (by decide +kernel) | decide +kernel | intro _
set_option maxHeartbeats 4000000 in
theorem fx_f_X4_read (F : Nat) (D : Nat) (v1 : Int32) {m : zMk} (hm : msub ([17, 18, 19, 20, 21, 22, 26, 27, 28, 29, 30, 31], [(16, 7), (16, 8), (24, 2), (24, 3), (24, 4), (25, 7), (25, 8)]) m = true) (s : zM) : HF m s (f_X4_read F D v1 s) := by
  unfold f_X4_read
  repeat' with_reducible first | exact hf_none | refine hf_ite (fun _ => ?_) (fun _ => ?_) | refine hf_bnd ?_ (fun _ _ _ => ?_) | refine hf_some ?_ | refine hf_lts ?_ (fun _ _ => ?_) | refine hf_ltv (fun _ => ?_) | refine hs_zs hm ?_ ?_ | refine hs_zcp hm ?_ (by decide +kernel) | refine hs_zsl ?_ | (apply HF.of; apply fx_f_X3_clear) | (apply HF.of; apply fx_f_X4_read_L26) | (apply HF.of; apply fx_f_X4_read_j75) | exact msub_tr (b := ([17, 18, 19, 20, 21, 22, 26, 27, 28, 29, 30, 31], [(16, 7), (16, 8), (24, 2), (24, 3), (24, 4), (25, 7), (25, 8)])) (by decide +kernel) hm | assumption | exact HS.rf | exact inm_r (by decide +kernel) | decide +kernel | intro _
set_option maxHeartbeats 4000000 in
theorem fx_f_X10_clear  {m : zMk} (hm : msub ([], [(1, 1)]) m = true) (s : zM) : HF m s (f_X10_clear s) := by
  unfold f_X10_clear
  repeat' with_reducible first | exact hf_none | refine hf_ite (fun _ => ?_) (fun _ => ?_) | refine hf_bnd ?_ (fun _ _ _ => ?_) | refine hf_some ?_ | refine hf_lts ?_ (fun _ _ => ?_) | refine hf_ltv (fun _ => ?_) | refine hs_zs hm ?_ ?_ | refine hs_zcp hm ?_ (by decide +kernel) | refine hs_zsl ?_ | exact msub_tr (b := ([], [(1, 1)])) (by decide +kernel) hm | assumption | exact HS.rf | exact inm_r (by decide +kernel) | decide +kernel | intro _
set_option maxHeartbeats 4000000 in
theorem fx_f_X1_inForce  {m : zMk} (hm : msub ([], []) m = true) (s : zM) : HF m s (f_X1_inForce s) := by
  unfold f_X1_inForce
  repeat' with_reducible first | exact hf_none | refine hf_ite (fun _ => ?_) (fun _ => ?_) | refine hf_bnd ?_ (fun _ _ _ => ?_) | refine hf_some ?_ | refine hf_lts ?_ (fun _ _ => ?_) | refine hf_ltv (fun _ => ?_) | refine hs_zs hm ?_ ?_ | refine hs_zcp hm ?_ (by decide +kernel) | refine hs_zsl ?_ | exact msub_tr (b := ([], [])) (by decide +kernel) hm | assumption | exact HS.rf | exact inm_r (by decide +kernel) | decide +kernel | intro _
set_option maxHeartbeats 4000000 in
theorem fx_f_X4_handOut (j : Nat) {m : zMk} (hm : msub ([], [(24, 1)]) m = true) (s : zM) : HF m s (f_X4_handOut j s) := by
  unfold f_X4_handOut
  repeat' with_reducible first | exact hf_none | refine hf_ite (fun _ => ?_) (fun _ => ?_) | refine hf_bnd ?_ (fun _ _ _ => ?_) | refine hf_some ?_ | refine hf_lts ?_ (fun _ _ => ?_) | refine hf_ltv (fun _ => ?_) | refine hs_zs hm ?_ ?_ | refine hs_zcp hm ?_ (by decide +kernel) | refine hs_zsl ?_ | exact msub_tr (b := ([], [(24, 1)])) (by decide +kernel) hm | assumption | exact HS.rf | exact inm_r (by decide +kernel) | decide +kernel | intro _
set_option maxHeartbeats 4000000 in
theorem fx_f_X1_take (j : Nat) {m : zMk} (hm : msub ([], [(12, 4), (12, 5)]) m = true) (s : zM) : HF m s (f_X1_take j s) := by
  unfold f_X1_take
  repeat' with_reducible first | exact hf_none | refine hf_ite (fun _ => ?_) (fun _ => ?_) | refine hf_bnd ?_ (fun _ _ _ => ?_) | refine hf_some ?_ | refine hf_lts ?_ (fun _ _ => ?_) | refine hf_ltv (fun _ => ?_) | refine hs_zs hm ?_ ?_ | refine hs_zcp hm ?_ (by decide +kernel) | refine hs_zsl ?_ | (apply HF.of; apply fx_f_X1_forget) | exact msub_tr (b := ([], [(12, 4), (12, 5)])) (by decide +kernel) hm | assumption | exact HS.rf | exact inm_r (by decide +kernel) | decide +kernel | intro _
set_option maxHeartbeats 4000000 in
theorem fx_f_X11_law (F : Nat) (D : Nat) (v1 : Int32) {m : zMk} (hm : msub ([17, 18, 19, 20, 21, 22, 26, 27, 28, 29, 30, 31], [(1, 1), (12, 4), (12, 5), (16, 7), (16, 8), (24, 1), (24, 2), (24, 3), (24, 4), (25, 7), (25, 8)]) m = true) (s : zM) : HF m s (f_X11_law F D v1 s) := by
  unfold f_X11_law
  repeat' with_reducible first | exact hf_none | refine hf_ite (fun _ => ?_) (fun _ => ?_) | refine hf_bnd ?_ (fun _ _ _ => ?_) | refine hf_some ?_ | refine hf_lts ?_ (fun _ _ => ?_) | refine hf_ltv (fun _ => ?_) | refine hs_zs hm ?_ ?_ | refine hs_zcp hm ?_ (by decide +kernel) | refine hs_zsl ?_ | (apply HF.of; apply fx_f_X10_length) | (apply HF.of; apply fx_f_X4_read) | (apply HF.of; apply fx_f_X10_clear) | (apply HF.of; apply fx_f_X1_inForce) | (apply HF.of; apply fx_f_X4_handOut) | (apply HF.of; apply fx_f_X1_take) | exact msub_tr (b := ([17, 18, 19, 20, 21, 22, 26, 27, 28, 29, 30, 31], [(1, 1), (12, 4), (12, 5), (16, 7), (16, 8), (24, 1), (24, 2), (24, 3), (24, 4), (25, 7), (25, 8)])) (by decide +kernel) hm | assumption | exact HS.rf | exact inm_r (by decide +kernel) | decide +kernel | intro _
set_option maxHeartbeats 4000000 in
theorem fx_f_X0_seatOf (v1 : Int32) {m : zMk} (hm : msub ([], []) m = true) (s : zM) : HF m s (f_X0_seatOf v1 s) := by
  unfold f_X0_seatOf
  repeat' with_reducible first | exact hf_none | refine hf_ite (fun _ => ?_) (fun _ => ?_) | refine hf_bnd ?_ (fun _ _ _ => ?_) | refine hf_some ?_ | refine hf_lts ?_ (fun _ _ => ?_) | refine hf_ltv (fun _ => ?_) | refine hs_zs hm ?_ ?_ | refine hs_zcp hm ?_ (by decide +kernel) | refine hs_zsl ?_ | (apply HF.of; apply fx_f_X0_knows) | exact msub_tr (b := ([], [])) (by decide +kernel) hm | assumption | exact HS.rf | exact inm_r (by decide +kernel) | decide +kernel | intro _
set_option maxHeartbeats 4000000 in
theorem fx_f_X0_landOf (v1 : Int32) {m : zMk} (hm : msub ([], []) m = true) (s : zM) : HF m s (f_X0_landOf v1 s) := by
  unfold f_X0_landOf
  repeat' with_reducible first | exact hf_none | refine hf_ite (fun _ => ?_) (fun _ => ?_) | refine hf_bnd ?_ (fun _ _ _ => ?_) | refine hf_some ?_ | refine hf_lts ?_ (fun _ _ => ?_) | refine hf_ltv (fun _ => ?_) | refine hs_zs hm ?_ ?_ | refine hs_zcp hm ?_ (by decide +kernel) | refine hs_zsl ?_ | (apply HF.of; apply fx_f_X0_knows) | exact msub_tr (b := ([], [])) (by decide +kernel) hm | assumption | exact HS.rf | exact inm_r (by decide +kernel) | decide +kernel | intro _
set_option maxHeartbeats 4000000 in
theorem fx_f_X0_likingOf (v1 : Int32) (v2 : Int32) {m : zMk} (hm : msub ([], []) m = true) (s : zM) : HF m s (f_X0_likingOf v1 v2 s) := by
  unfold f_X0_likingOf
  repeat' with_reducible first | exact hf_none | refine hf_ite (fun _ => ?_) (fun _ => ?_) | refine hf_bnd ?_ (fun _ _ _ => ?_) | refine hf_some ?_ | refine hf_lts ?_ (fun _ _ => ?_) | refine hf_ltv (fun _ => ?_) | refine hs_zs hm ?_ ?_ | refine hs_zcp hm ?_ (by decide +kernel) | refine hs_zsl ?_ | (apply HF.of; apply fx_f_X0_knows) | exact msub_tr (b := ([], [])) (by decide +kernel) hm | assumption | exact HS.rf | exact inm_r (by decide +kernel) | decide +kernel | intro _
set_option maxHeartbeats 4000000 in
theorem fx_f_X8_apart (v0 : Int32) (v1 : Int32) {m : zMk} (hm : msub ([], []) m = true) (s : zM) : HF m s (f_X8_apart v0 v1 s) := by
  unfold f_X8_apart
  repeat' with_reducible first | exact hf_none | refine hf_ite (fun _ => ?_) (fun _ => ?_) | refine hf_bnd ?_ (fun _ _ _ => ?_) | refine hf_some ?_ | refine hf_lts ?_ (fun _ _ => ?_) | refine hf_ltv (fun _ => ?_) | refine hs_zs hm ?_ ?_ | refine hs_zcp hm ?_ (by decide +kernel) | refine hs_zsl ?_ | exact msub_tr (b := ([], [])) (by decide +kernel) hm | assumption | exact HS.rf | exact inm_r (by decide +kernel) | decide +kernel | intro _
set_option maxHeartbeats 4000000 in
theorem fx_f_X1_spell (v1 : Int32) (v2 : Int32) (v3 : Int32) (v4 : Int32) {m : zMk} (hm : msub ([13], []) m = true) (s : zM) : HF m s (f_X1_spell v1 v2 v3 v4 s) := by
  unfold f_X1_spell
  repeat' with_reducible first | exact hf_none | refine hf_ite (fun _ => ?_) (fun _ => ?_) | refine hf_bnd ?_ (fun _ _ _ => ?_) | refine hf_some ?_ | refine hf_lts ?_ (fun _ _ => ?_) | refine hf_ltv (fun _ => ?_) | refine hs_zs hm ?_ ?_ | refine hs_zcp hm ?_ (by decide +kernel) | refine hs_zsl ?_ | (apply HF.of; apply fx_f_X0_landOf) | (apply HF.of; apply fx_f_X0_likingOf) | (apply HF.of; apply fx_f_X8_apart) | exact msub_tr (b := ([13], [])) (by decide +kernel) hm | assumption | exact HS.rf | exact inm_r (by decide +kernel) | decide +kernel | intro _
set_option maxHeartbeats 4000000 in
theorem fx_f_X3_taken (v0 : Int32) {m : zMk} (hm : msub ([], []) m = true) (s : zM) : HF m s (f_X3_taken v0 s) := by
  unfold f_X3_taken
  repeat' with_reducible first | exact hf_none | refine hf_ite (fun _ => ?_) (fun _ => ?_) | refine hf_bnd ?_ (fun _ _ _ => ?_) | refine hf_some ?_ | refine hf_lts ?_ (fun _ _ => ?_) | refine hf_ltv (fun _ => ?_) | refine hs_zs hm ?_ ?_ | refine hs_zcp hm ?_ (by decide +kernel) | refine hs_zsl ?_ | exact msub_tr (b := ([], [])) (by decide +kernel) hm | assumption | exact HS.rf | exact inm_r (by decide +kernel) | decide +kernel | intro _
set_option maxHeartbeats 4000000 in
theorem fx_f_X3_reckon_j209 (F : Nat) (i : Nat) (k9 : Int32 → Int32 → Int32 → zM → Option (Int32 × zM)) (v2 : Int32) (v4 : Int32) (v5 : Int32) (v6 : Int32) (v8 : Int32) (w0 : Int32) (w1 : Int32) {m : zMk} (hm : msub ([], []) m = true) (hi : zLw i = true) (hk9 : ∀ (a0 : Int32) (a1 : Int32) (a2 : Int32) (s : zM), HF m s (k9 a0 a1 a2 s)) (s : zM) : HF m s (f_X3_reckon_j209 F i k9 v2 v4 v5 v6 v8 w0 w1 s) := by
  unfold f_X3_reckon_j209
  repeat' with_reducible first | exact hf_none | refine hf_ite (fun _ => ?_) (fun _ => ?_) | refine hf_bnd ?_ (fun _ _ _ => ?_) | refine hf_some ?_ | refine hf_lts ?_ (fun _ _ => ?_) | refine hf_ltv (fun _ => ?_) | refine hs_zs hm ?_ ?_ | refine hs_zcp hm ?_ (by decide +kernel) | refine hs_zsl ?_ | (apply HF.of; apply hk9) | exact msub_tr (b := ([], [])) (by decide +kernel) hm | assumption | exact HS.rf | exact inm_r (by decide +kernel) | decide +kernel | (rcases zLw_or hi with rfl | rfl <;> first | exact inm_r (by decide +kernel) | decide +kernel) | intro _
set_option maxHeartbeats 4000000 in
theorem fx_f_X3_reckon_j197 (F : Nat) (i : Nat) (k9 : Int32 → Int32 → Int32 → zM → Option (Int32 × zM)) (v2 : Int32) (v4 : Int32) (v5 : Int32) (v6 : Int32) (v7 : Int32) (v8 : Int32) (w0 : Int32) {m : zMk} (hm : msub ([], []) m = true) (hi : zLw i = true) (hk9 : ∀ (a0 : Int32) (a1 : Int32) (a2 : Int32) (s : zM), HF m s (k9 a0 a1 a2 s)) (s : zM) : HF m s (f_X3_reckon_j197 F i k9 v2 v4 v5 v6 v7 v8 w0 s) := by
  unfold f_X3_reckon_j197
  repeat' with_reducible first | exact hf_none | refine hf_ite (fun _ => ?_) (fun _ => ?_) | refine hf_bnd ?_ (fun _ _ _ => ?_) | refine hf_some ?_ | refine hf_lts ?_ (fun _ _ => ?_) | refine hf_ltv (fun _ => ?_) | refine hs_zs hm ?_ ?_ | refine hs_zcp hm ?_ (by decide +kernel) | refine hs_zsl ?_ | (apply HF.of; apply hk9) | (apply HF.of; apply fx_f_X3_reckon_j209) | exact msub_tr (b := ([], [])) (by decide +kernel) hm | assumption | exact HS.rf | exact inm_r (by decide +kernel) | decide +kernel | (rcases zLw_or hi with rfl | rfl <;> first | exact inm_r (by decide +kernel) | decide +kernel) | intro _
set_option maxHeartbeats 4000000 in
theorem fx_f_X3_reckon_j180 (F : Nat) (i : Nat) (k9 : Int32 → Int32 → Int32 → zM → Option (Int32 × zM)) (v2 : Int32) (v4 : Int32) (v5 : Int32) (v6 : Int32) (v7 : Int32) (v8 : Int32) {m : zMk} (hm : msub ([], []) m = true) (hi : zLw i = true) (hk9 : ∀ (a0 : Int32) (a1 : Int32) (a2 : Int32) (s : zM), HF m s (k9 a0 a1 a2 s)) (s : zM) : HF m s (f_X3_reckon_j180 F i k9 v2 v4 v5 v6 v7 v8 s) := by
  unfold f_X3_reckon_j180
  repeat' with_reducible first | exact hf_none | refine hf_ite (fun _ => ?_) (fun _ => ?_) | refine hf_bnd ?_ (fun _ _ _ => ?_) | refine hf_some ?_ | refine hf_lts ?_ (fun _ _ => ?_) | refine hf_ltv (fun _ => ?_) | refine hs_zs hm ?_ ?_ | refine hs_zcp hm ?_ (by decide +kernel) | refine hs_zsl ?_ | (apply HF.of; apply hk9) | (apply HF.of; apply fx_f_X3_reckon_j197) | exact msub_tr (b := ([], [])) (by decide +kernel) hm | assumption | exact HS.rf | exact inm_r (by decide +kernel) | decide +kernel | (rcases zLw_or hi with rfl | rfl <;> first | exact inm_r (by decide +kernel) | decide +kernel) | intro _
set_option maxHeartbeats 4000000 in
theorem fx_f_X3_combined (v0 : Int32) (v1 : Int32) (v2 : Int32) {m : zMk} (hm : msub ([], []) m = true) (s : zM) : HF m s (f_X3_combined v0 v1 v2 s) := by
  unfold f_X3_combined
  repeat' with_reducible first | exact hf_none | refine hf_ite (fun _ => ?_) (fun _ => ?_) | refine hf_bnd ?_ (fun _ _ _ => ?_) | refine hf_some ?_ | refine hf_lts ?_ (fun _ _ => ?_) | refine hf_ltv (fun _ => ?_) | refine hs_zs hm ?_ ?_ | refine hs_zcp hm ?_ (by decide +kernel) | refine hs_zsl ?_ | exact msub_tr (b := ([], [])) (by decide +kernel) hm | assumption | exact HS.rf | exact inm_r (by decide +kernel) | decide +kernel | intro _
set_option maxHeartbeats 4000000 in
theorem fx_f_X3_reckon_j259 (F : Nat) (i : Nat) (k9 : Int32 → Int32 → Int32 → zM → Option (Int32 × zM)) (v2 : Int32) (v4 : Int32) (v5 : Int32) (v6 : Int32) (v7 : Int32) {m : zMk} (hm : msub ([23, 32], []) m = true) (hi : zLw i = true) (hk9 : ∀ (a0 : Int32) (a1 : Int32) (a2 : Int32) (s : zM), HF m s (k9 a0 a1 a2 s)) (s : zM) : HF m s (f_X3_reckon_j259 F i k9 v2 v4 v5 v6 v7 s) := by
  unfold f_X3_reckon_j259
  repeat' with_reducible first | exact hf_none | refine hf_ite (fun _ => ?_) (fun _ => ?_) | refine hf_bnd ?_ (fun _ _ _ => ?_) | refine hf_some ?_ | refine hf_lts ?_ (fun _ _ => ?_) | refine hf_ltv (fun _ => ?_) | refine hs_zs hm ?_ ?_ | refine hs_zcp hm ?_ (by decide +kernel) | refine hs_zsl ?_ | (apply HF.of; apply hk9) | (apply HF.of; apply fx_f_X3_combined) | exact msub_tr (b := ([23, 32], [])) (by decide +kernel) hm | assumption | exact HS.rf | exact inm_r (by decide +kernel) | decide +kernel | (rcases zLw_or hi with rfl | rfl <;> first | exact inm_r (by decide +kernel) | decide +kernel) | intro _
set_option maxHeartbeats 4000000 in
theorem fx_f_X3_reckon_L9 (F : Nat) (i : Nat) (k295 : Int32 → zM → Option (Int32 × zM)) (v2 : Int32) {m : zMk} (hm : msub ([23, 32], []) m = true) (hi : zLw i = true) (hk295 : ∀ (a0 : Int32) (s : zM), HF m s (k295 a0 s)) : ∀ (n : Nat) (w0 : Int32) (w1 : Int32) (w2 : Int32) (s : zM), HF m s (f_X3_reckon_L9 F i k295 v2 n w0 w1 w2 s) := by
  intro n
  induction n with
  | zero => intros; exact hf_none
  | succ n ih =>
    intro w0 w1 w2 s
    rw [f_X3_reckon_L9]
    repeat' with_reducible first | exact hf_none | refine hf_ite (fun _ => ?_) (fun _ => ?_) | refine hf_bnd ?_ (fun _ _ _ => ?_) | refine hf_some ?_ | refine hf_lts ?_ (fun _ _ => ?_) | refine hf_ltv (fun _ => ?_) | refine hs_zs hm ?_ ?_ | refine hs_zcp hm ?_ (by decide +kernel) | refine hs_zsl ?_ | (apply HF.of; apply hk295) | (apply HF.of; apply fx_f_X3_taken) | (apply HF.of; apply fx_f_X3_reckon_j180) | (apply HF.of; apply fx_f_X3_reckon_j259) | (apply HF.of; apply ih) | exact msub_tr (b := ([23, 32], [])) (by decide +kernel) hm | assumption | exact HS.rf | exact inm_r (by decide +kernel) | decide +kernel | (rcases zLw_or hi with rfl | rfl <;> first | exact inm_r (by decide +kernel) | decide +kernel) | intro _
set_option maxHeartbeats 4000000 in
theorem fx_f_X3_reckon_j295 (F : Nat) (i : Nat) (v4 : Int32) {m : zMk} (hm : msub ([], []) m = true) (hi : zLw i = true) (s : zM) : HF m s (f_X3_reckon_j295 F i v4 s) := by
  unfold f_X3_reckon_j295
  repeat' with_reducible first | exact hf_none | refine hf_ite (fun _ => ?_) (fun _ => ?_) | refine hf_bnd ?_ (fun _ _ _ => ?_) | refine hf_some ?_ | refine hf_lts ?_ (fun _ _ => ?_) | refine hf_ltv (fun _ => ?_) | refine hs_zs hm ?_ ?_ | refine hs_zcp hm ?_ (by decide +kernel) | refine hs_zsl ?_ | exact msub_tr (b := ([], [])) (by decide +kernel) hm | assumption | exact HS.rf | exact inm_r (by decide +kernel) | decide +kernel | (rcases zLw_or hi with rfl | rfl <;> first | exact inm_r (by decide +kernel) | decide +kernel) | intro _
set_option maxHeartbeats 4000000 in
theorem fx_f_X3_reckon (F : Nat) (i : Nat) (v1 : Int32) (v2 : Int32) {m : zMk} (hm : msub ([23, 32], []) m = true) (hi : zLw i = true) (s : zM) : HF m s (f_X3_reckon F i v1 v2 s) := by
  unfold f_X3_reckon
  repeat' with_reducible first | exact hf_none | refine hf_ite (fun _ => ?_) (fun _ => ?_) | refine hf_bnd ?_ (fun _ _ _ => ?_) | refine hf_some ?_ | refine hf_lts ?_ (fun _ _ => ?_) | refine hf_ltv (fun _ => ?_) | refine hs_zs hm ?_ ?_ | refine hs_zcp hm ?_ (by decide +kernel) | refine hs_zsl ?_ | (apply HF.of; apply fx_f_X3_reckon_L9) | (apply HF.of; apply fx_f_X3_reckon_j295) | exact msub_tr (b := ([23, 32], [])) (by decide +kernel) hm | assumption | exact HS.rf | exact inm_r (by decide +kernel) | decide +kernel | (rcases zLw_or hi with rfl | rfl <;> first | exact inm_r (by decide +kernel) | decide +kernel) | intro _
set_option maxHeartbeats 4000000 in
theorem fx_f_X3_amount_L3 (F : Nat) (i : Nat) (k87 : zM → Option (Int32 × zM)) (v1 : Int32) (v3 : Int32) (v4 : Int32) {m : zMk} (hm : msub ([23, 32], []) m = true) (hi : zLw i = true) (hk87 : ∀ (s : zM), HF m s (k87 s)) : ∀ (n : Nat) (w0 : Int32) (s : zM), HF m s (f_X3_amount_L3 F i k87 v1 v3 v4 n w0 s) := by
  intro n
  induction n with
  | zero => intros; exact hf_none
  | succ n ih =>
    intro w0 s
    rw [f_X3_amount_L3]
    repeat' with_reducible first | exact hf_none | refine hf_ite (fun _ => ?_) (fun _ => ?_) | refine hf_bnd ?_ (fun _ _ _ => ?_) | refine hf_some ?_ | refine hf_lts ?_ (fun _ _ => ?_) | refine hf_ltv (fun _ => ?_) | refine hs_zs hm ?_ ?_ | refine hs_zcp hm ?_ (by decide +kernel) | refine hs_zsl ?_ | (apply HF.of; apply hk87) | (apply HF.of; apply fx_f_X3_reckon) | (apply HF.of; apply ih) | exact msub_tr (b := ([23, 32], [])) (by decide +kernel) hm | assumption | exact HS.rf | exact inm_r (by decide +kernel) | decide +kernel | (rcases zLw_or hi with rfl | rfl <;> first | exact inm_r (by decide +kernel) | decide +kernel) | intro _
set_option maxHeartbeats 4000000 in
theorem fx_f_X3_amount (F : Nat) (i : Nat) (v1 : Int32) (v3 : Int32) (v4 : Int32) {m : zMk} (hm : msub ([23, 32], []) m = true) (hi : zLw i = true) (s : zM) : HF m s (f_X3_amount F i v1 v3 v4 s) := by
  unfold f_X3_amount
  repeat' with_reducible first | exact hf_none | refine hf_ite (fun _ => ?_) (fun _ => ?_) | refine hf_bnd ?_ (fun _ _ _ => ?_) | refine hf_some ?_ | refine hf_lts ?_ (fun _ _ => ?_) | refine hf_ltv (fun _ => ?_) | refine hs_zs hm ?_ ?_ | refine hs_zcp hm ?_ (by decide +kernel) | refine hs_zsl ?_ | (apply HF.of; apply fx_f_X3_amount_L3) | exact msub_tr (b := ([23, 32], [])) (by decide +kernel) hm | assumption | exact HS.rf | exact inm_r (by decide +kernel) | decide +kernel | (rcases zLw_or hi with rfl | rfl <;> first | exact inm_r (by decide +kernel) | decide +kernel) | intro _
set_option maxHeartbeats 4000000 in
theorem fx_f_X1_harm (F : Nat) (v1 : Int32) (v2 : Int32) {m : zMk} (hm : msub ([13, 23, 32], []) m = true) (s : zM) : HF m s (f_X1_harm F v1 v2 s) := by
  unfold f_X1_harm
  repeat' with_reducible first | exact hf_none | refine hf_ite (fun _ => ?_) (fun _ => ?_) | refine hf_bnd ?_ (fun _ _ _ => ?_) | refine hf_some ?_ | refine hf_lts ?_ (fun _ _ => ?_) | refine hf_ltv (fun _ => ?_) | refine hs_zs hm ?_ ?_ | refine hs_zcp hm ?_ (by decide +kernel) | refine hs_zsl ?_ | (apply HF.of; apply fx_f_X0_seatOf) | (apply HF.of; apply fx_f_X1_spell) | (apply HF.of; apply fx_f_X3_amount) | exact msub_tr (b := ([13, 23, 32], [])) (by decide +kernel) hm | assumption | exact HS.rf | exact inm_r (by decide +kernel) | decide +kernel | intro _
set_option maxHeartbeats 4000000 in
theorem fx_f_X1_seen (F : Nat) (v1 : Int32) (v2 : Int32) {m : zMk} (hm : msub ([13, 23, 32], []) m = true) (s : zM) : HF m s (f_X1_seen F v1 v2 s) := by
  unfold f_X1_seen
  repeat' with_reducible first | exact hf_none | refine hf_ite (fun _ => ?_) (fun _ => ?_) | refine hf_bnd ?_ (fun _ _ _ => ?_) | refine hf_some ?_ | refine hf_lts ?_ (fun _ _ => ?_) | refine hf_ltv (fun _ => ?_) | refine hs_zs hm ?_ ?_ | refine hs_zcp hm ?_ (by decide +kernel) | refine hs_zsl ?_ | (apply HF.of; apply fx_f_X0_seatOf) | (apply HF.of; apply fx_f_X1_spell) | (apply HF.of; apply fx_f_X3_amount) | exact msub_tr (b := ([13, 23, 32], [])) (by decide +kernel) hm | assumption | exact HS.rf | exact inm_r (by decide +kernel) | decide +kernel | intro _
set_option maxHeartbeats 4000000 in
theorem fx_f_X3_permits_L4 (F : Nat) (i : Nat) (k59 : Int32 → zM → Option (Int32 × zM)) {m : zMk} (hm : msub ([23, 32], []) m = true) (hi : zLw i = true) (hk59 : ∀ (a0 : Int32) (s : zM), HF m s (k59 a0 s)) : ∀ (n : Nat) (w0 : Int32) (w1 : Int32) (s : zM), HF m s (f_X3_permits_L4 F i k59 n w0 w1 s) := by
  intro n
  induction n with
  | zero => intros; exact hf_none
  | succ n ih =>
    intro w0 w1 s
    rw [f_X3_permits_L4]
    repeat' with_reducible first | exact hf_none | refine hf_ite (fun _ => ?_) (fun _ => ?_) | refine hf_bnd ?_ (fun _ _ _ => ?_) | refine hf_some ?_ | refine hf_lts ?_ (fun _ _ => ?_) | refine hf_ltv (fun _ => ?_) | refine hs_zs hm ?_ ?_ | refine hs_zcp hm ?_ (by decide +kernel) | refine hs_zsl ?_ | (apply HF.of; apply hk59) | (apply HF.of; apply fx_f_X3_reckon) | (apply HF.of; apply ih) | exact msub_tr (b := ([23, 32], [])) (by decide +kernel) hm | assumption | exact HS.rf | exact inm_r (by decide +kernel) | decide +kernel | (rcases zLw_or hi with rfl | rfl <;> first | exact inm_r (by decide +kernel) | decide +kernel) | intro _
set_option maxHeartbeats 4000000 in
theorem fx_f_X3_permits (F : Nat) (i : Nat) {m : zMk} (hm : msub ([23, 32], []) m = true) (hi : zLw i = true) (s : zM) : HF m s (f_X3_permits F i s) := by
  unfold f_X3_permits
  repeat' with_reducible first | exact hf_none | refine hf_ite (fun _ => ?_) (fun _ => ?_) | refine hf_bnd ?_ (fun _ _ _ => ?_) | refine hf_some ?_ | refine hf_lts ?_ (fun _ _ => ?_) | refine hf_ltv (fun _ => ?_) | refine hs_zs hm ?_ ?_ | refine hs_zcp hm ?_ (by decide +kernel) | refine hs_zsl ?_ | (apply HF.of; apply fx_f_X3_permits_L4) | exact msub_tr (b := ([23, 32], [])) (by decide +kernel) hm | assumption | exact HS.rf | exact inm_r (by decide +kernel) | decide +kernel | (rcases zLw_or hi with rfl | rfl <;> first | exact inm_r (by decide +kernel) | decide +kernel) | intro _
set_option maxHeartbeats 4000000 in
theorem fx_f_X1_allows (F : Nat) (v1 : Int32) (v2 : Int32) {m : zMk} (hm : msub ([13, 23, 32], []) m = true) (s : zM) : HF m s (f_X1_allows F v1 v2 s) := by
  unfold f_X1_allows
  repeat' with_reducible first | exact hf_none | refine hf_ite (fun _ => ?_) (fun _ => ?_) | refine hf_bnd ?_ (fun _ _ _ => ?_) | refine hf_some ?_ | refine hf_lts ?_ (fun _ _ => ?_) | refine hf_ltv (fun _ => ?_) | refine hs_zs hm ?_ ?_ | refine hs_zcp hm ?_ (by decide +kernel) | refine hs_zsl ?_ | (apply HF.of; apply fx_f_X0_seatOf) | (apply HF.of; apply fx_f_X1_spell) | (apply HF.of; apply fx_f_X3_permits) | exact msub_tr (b := ([13, 23, 32], [])) (by decide +kernel) hm | assumption | exact HS.rf | exact inm_r (by decide +kernel) | decide +kernel | intro _
set_option maxHeartbeats 4000000 in
theorem fx_f_X11_two_j70 (F : Nat) (v1 : Int32) (v2 : Int32) (v3 : Int32) {m : zMk} (hm : msub ([13, 23, 32], []) m = true) (s : zM) : HF m s (f_X11_two_j70 F v1 v2 v3 s) := by
  unfold f_X11_two_j70
  repeat' with_reducible first | exact hf_none | refine hf_ite (fun _ => ?_) (fun _ => ?_) | refine hf_bnd ?_ (fun _ _ _ => ?_) | refine hf_some ?_ | refine hf_lts ?_ (fun _ _ => ?_) | refine hf_ltv (fun _ => ?_) | refine hs_zs hm ?_ ?_ | refine hs_zcp hm ?_ (by decide +kernel) | refine hs_zsl ?_ | (apply HF.of; apply fx_f_X1_harm) | (apply HF.of; apply fx_f_X1_seen) | (apply HF.of; apply fx_f_X1_allows) | exact msub_tr (b := ([13, 23, 32], [])) (by decide +kernel) hm | assumption | exact HS.rf | exact inm_r (by decide +kernel) | decide +kernel | intro _
set_option maxHeartbeats 4000000 in
theorem fx_f_X8_areNext (v0 : Int32) (v1 : Int32) {m : zMk} (hm : msub ([], []) m = true) (s : zM) : HF m s (f_X8_areNext v0 v1 s) := by
  unfold f_X8_areNext
  repeat' with_reducible first | exact hf_none | refine hf_ite (fun _ => ?_) (fun _ => ?_) | refine hf_bnd ?_ (fun _ _ _ => ?_) | refine hf_some ?_ | refine hf_lts ?_ (fun _ _ => ?_) | refine hf_ltv (fun _ => ?_) | refine hs_zs hm ?_ ?_ | refine hs_zcp hm ?_ (by decide +kernel) | refine hs_zsl ?_ | (apply HF.of; apply fx_f_X8_apart) | exact msub_tr (b := ([], [])) (by decide +kernel) hm | assumption | exact HS.rf | exact inm_r (by decide +kernel) | decide +kernel | intro _
set_option maxHeartbeats 4000000 in
theorem fx_f_X11_two (F : Nat) (v1 : Int32) (v2 : Int32) (v3 : Int32) {m : zMk} (hm : msub ([13, 23, 32], []) m = true) (s : zM) : HF m s (f_X11_two F v1 v2 v3 s) := by
  unfold f_X11_two
  repeat' with_reducible first | exact hf_none | refine hf_ite (fun _ => ?_) (fun _ => ?_) | refine hf_bnd ?_ (fun _ _ _ => ?_) | refine hf_some ?_ | refine hf_lts ?_ (fun _ _ => ?_) | refine hf_ltv (fun _ => ?_) | refine hs_zs hm ?_ ?_ | refine hs_zcp hm ?_ (by decide +kernel) | refine hs_zsl ?_ | (apply HF.of; apply fx_f_X11_areTwo) | (apply HF.of; apply fx_f_X0_seatOf) | (apply HF.of; apply fx_f_X11_two_j70) | (apply HF.of; apply fx_f_X8_areNext) | exact msub_tr (b := ([13, 23, 32], [])) (by decide +kernel) hm | assumption | exact HS.rf | exact inm_r (by decide +kernel) | decide +kernel | intro _
set_option maxHeartbeats 4000000 in
theorem fx_f_X1_spellAlone_L2 (F : Nat) (k21 : zM → Option (Unit × zM)) (v1 : Int32) (v2 : Int32) {m : zMk} (hm : msub ([13], []) m = true) (hk21 : ∀ (s : zM), HF m s (k21 s)) : ∀ (n : Nat) (w0 : Int32) (s : zM), HF m s (f_X1_spellAlone_L2 F k21 v1 v2 n w0 s) := by
  intro n
  induction n with
  | zero => intros; exact hf_none
  | succ n ih =>
    intro w0 s
    rw [f_X1_spellAlone_L2]
    repeat' with_reducible first | exact hf_none | refine hf_ite (fun _ => ?_) (fun _ => ?_) | refine hf_bnd ?_ (fun _ _ _ => ?_) | refine hf_some ?_ | refine hf_lts ?_ (fun _ _ => ?_) | refine hf_ltv (fun _ => ?_) | refine hs_zs hm ?_ ?_ | refine hs_zcp hm ?_ (by decide +kernel) | refine hs_zsl ?_ | (apply HF.of; apply hk21) | (apply HF.of; apply ih) | exact msub_tr (b := ([13], [])) (by decide +kernel) hm | assumption | exact HS.rf | exact inm_r (by decide +kernel) | decide +kernel | intro _
set_option maxHeartbeats 4000000 in
theorem fx_f_X1_spellAlone (F : Nat) (v1 : Int32) (v2 : Int32) {m : zMk} (hm : msub ([13], []) m = true) (s : zM) : HF m s (f_X1_spellAlone F v1 v2 s) := by
  unfold f_X1_spellAlone
  repeat' with_reducible first | exact hf_none | refine hf_ite (fun _ => ?_) (fun _ => ?_) | refine hf_bnd ?_ (fun _ _ _ => ?_) | refine hf_some ?_ | refine hf_lts ?_ (fun _ _ => ?_) | refine hf_ltv (fun _ => ?_) | refine hs_zs hm ?_ ?_ | refine hs_zcp hm ?_ (by decide +kernel) | refine hs_zsl ?_ | (apply HF.of; apply fx_f_X1_spellAlone_L2) | (apply HF.of; apply fx_f_X0_landOf) | exact msub_tr (b := ([13], [])) (by decide +kernel) hm | assumption | exact HS.rf | exact inm_r (by decide +kernel) | decide +kernel | intro _
set_option maxHeartbeats 4000000 in
theorem fx_f_X1_value (F : Nat) (v1 : Int32) (v2 : Int32) {m : zMk} (hm : msub ([13, 15, 23, 32], []) m = true) (s : zM) : HF m s (f_X1_value F v1 v2 s) := by
  unfold f_X1_value
  repeat' with_reducible first | exact hf_none | refine hf_ite (fun _ => ?_) (fun _ => ?_) | refine hf_bnd ?_ (fun _ _ _ => ?_) | refine hf_some ?_ | refine hf_lts ?_ (fun _ _ => ?_) | refine hf_ltv (fun _ => ?_) | refine hs_zs hm ?_ ?_ | refine hs_zcp hm ?_ (by decide +kernel) | refine hs_zsl ?_ | (apply HF.of; apply fx_f_X1_spellAlone) | (apply HF.of; apply fx_f_X3_amount) | exact msub_tr (b := ([13, 15, 23, 32], [])) (by decide +kernel) hm | assumption | exact HS.rf | exact inm_r (by decide +kernel) | decide +kernel | intro _
set_option maxHeartbeats 4000000 in
theorem fx_f_X11_worth (F : Nat) (v1 : Int32) (v2 : Int32) {m : zMk} (hm : msub ([13, 15, 23, 32], []) m = true) (s : zM) : HF m s (f_X11_worth F v1 v2 s) := by
  unfold f_X11_worth
  repeat' with_reducible first | exact hf_none | refine hf_ite (fun _ => ?_) (fun _ => ?_) | refine hf_bnd ?_ (fun _ _ _ => ?_) | refine hf_some ?_ | refine hf_lts ?_ (fun _ _ => ?_) | refine hf_ltv (fun _ => ?_) | refine hs_zs hm ?_ ?_ | refine hs_zcp hm ?_ (by decide +kernel) | refine hs_zsl ?_ | (apply HF.of; apply fx_f_X0_knows) | (apply HF.of; apply fx_f_X8_isSeat) | (apply HF.of; apply fx_f_X1_value) | exact msub_tr (b := ([13, 15, 23, 32], [])) (by decide +kernel) hm | assumption | exact HS.rf | exact inm_r (by decide +kernel) | decide +kernel | intro _
set_option maxHeartbeats 4000000 in
theorem fx_f_X5_isMinute (v0 : Int32) {m : zMk} (hm : msub ([], []) m = true) (s : zM) : HF m s (f_X5_isMinute v0 s) := by
  unfold f_X5_isMinute
  repeat' with_reducible first | exact hf_none | refine hf_ite (fun _ => ?_) (fun _ => ?_) | refine hf_bnd ?_ (fun _ _ _ => ?_) | refine hf_some ?_ | refine hf_lts ?_ (fun _ _ => ?_) | refine hf_ltv (fun _ => ?_) | refine hs_zs hm ?_ ?_ | refine hs_zcp hm ?_ (by decide +kernel) | refine hs_zsl ?_ | exact msub_tr (b := ([], [])) (by decide +kernel) hm | assumption | exact HS.rf | exact inm_r (by decide +kernel) | decide +kernel | intro _
set_option maxHeartbeats 4000000 in
theorem fx_f_X8_isPlace (v0 : Int32) {m : zMk} (hm : msub ([], []) m = true) (s : zM) : HF m s (f_X8_isPlace v0 s) := by
  unfold f_X8_isPlace
  repeat' with_reducible first | exact hf_none | refine hf_ite (fun _ => ?_) (fun _ => ?_) | refine hf_bnd ?_ (fun _ _ _ => ?_) | refine hf_some ?_ | refine hf_lts ?_ (fun _ _ => ?_) | refine hf_ltv (fun _ => ?_) | refine hs_zs hm ?_ ?_ | refine hs_zcp hm ?_ (by decide +kernel) | refine hs_zsl ?_ | exact msub_tr (b := ([], [])) (by decide +kernel) hm | assumption | exact HS.rf | exact inm_r (by decide +kernel) | decide +kernel | intro _
set_option maxHeartbeats 4000000 in
theorem fx_f_X8_isRow (v0 : Int32) (v1 : Int32) {m : zMk} (hm : msub ([], []) m = true) (s : zM) : HF m s (f_X8_isRow v0 v1 s) := by
  unfold f_X8_isRow
  repeat' with_reducible first | exact hf_none | refine hf_ite (fun _ => ?_) (fun _ => ?_) | refine hf_bnd ?_ (fun _ _ _ => ?_) | refine hf_some ?_ | refine hf_lts ?_ (fun _ _ => ?_) | refine hf_ltv (fun _ => ?_) | refine hs_zs hm ?_ ?_ | refine hs_zcp hm ?_ (by decide +kernel) | refine hs_zsl ?_ | (apply HF.of; apply fx_f_X8_isPlace) | exact msub_tr (b := ([], [])) (by decide +kernel) hm | assumption | exact HS.rf | exact inm_r (by decide +kernel) | decide +kernel | intro _
set_option maxHeartbeats 4000000 in
theorem fx_f_X5_addRain (v1 : Int32) (v2 : Int32) (v3 : Int32) {m : zMk} (hm : msub ([34, 35, 36], [(33, 10)]) m = true) (s : zM) : HF m s (f_X5_addRain v1 v2 v3 s) := by
  unfold f_X5_addRain
  repeat' with_reducible first | exact hf_none | refine hf_ite (fun _ => ?_) (fun _ => ?_) | refine hf_bnd ?_ (fun _ _ _ => ?_) | refine hf_some ?_ | refine hf_lts ?_ (fun _ _ => ?_) | refine hf_ltv (fun _ => ?_) | refine hs_zs hm ?_ ?_ | refine hs_zcp hm ?_ (by decide +kernel) | refine hs_zsl ?_ | exact msub_tr (b := ([34, 35, 36], [(33, 10)])) (by decide +kernel) hm | assumption | exact HS.rf | exact inm_r (by decide +kernel) | decide +kernel | intro _
set_option maxHeartbeats 4000000 in
theorem fx_f_X11_rain (v1 : Int32) (v2 : Int32) (v3 : Int32) {m : zMk} (hm : msub ([34, 35, 36], [(33, 10)]) m = true) (s : zM) : HF m s (f_X11_rain v1 v2 v3 s) := by
  unfold f_X11_rain
  repeat' with_reducible first | exact hf_none | refine hf_ite (fun _ => ?_) (fun _ => ?_) | refine hf_bnd ?_ (fun _ _ _ => ?_) | refine hf_some ?_ | refine hf_lts ?_ (fun _ _ => ?_) | refine hf_ltv (fun _ => ?_) | refine hs_zs hm ?_ ?_ | refine hs_zcp hm ?_ (by decide +kernel) | refine hs_zsl ?_ | (apply HF.of; apply fx_f_X5_isMinute) | (apply HF.of; apply fx_f_X8_isRow) | (apply HF.of; apply fx_f_X5_addRain) | exact msub_tr (b := ([34, 35, 36], [(33, 10)])) (by decide +kernel) hm | assumption | exact HS.rf | exact inm_r (by decide +kernel) | decide +kernel | intro _
set_option maxHeartbeats 4000000 in
theorem fx_f_X5_isStart (v0 : Int32) {m : zMk} (hm : msub ([], []) m = true) (s : zM) : HF m s (f_X5_isStart v0 s) := by
  unfold f_X5_isStart
  repeat' with_reducible first | exact hf_none | refine hf_ite (fun _ => ?_) (fun _ => ?_) | refine hf_bnd ?_ (fun _ _ _ => ?_) | refine hf_some ?_ | refine hf_lts ?_ (fun _ _ => ?_) | refine hf_ltv (fun _ => ?_) | refine hs_zs hm ?_ ?_ | refine hs_zcp hm ?_ (by decide +kernel) | refine hs_zsl ?_ | exact msub_tr (b := ([], [])) (by decide +kernel) hm | assumption | exact HS.rf | exact inm_r (by decide +kernel) | decide +kernel | intro _
set_option maxHeartbeats 4000000 in
theorem fx_f_X0_sits (v1 : Int32) {m : zMk} (hm : msub ([], []) m = true) (s : zM) : HF m s (f_X0_sits v1 s) := by
  unfold f_X0_sits
  repeat' with_reducible first | exact hf_none | refine hf_ite (fun _ => ?_) (fun _ => ?_) | refine hf_bnd ?_ (fun _ _ _ => ?_) | refine hf_some ?_ | refine hf_lts ?_ (fun _ _ => ?_) | refine hf_ltv (fun _ => ?_) | refine hs_zs hm ?_ ?_ | refine hs_zcp hm ?_ (by decide +kernel) | refine hs_zsl ?_ | (apply HF.of; apply fx_f_X0_seatOf) | exact msub_tr (b := ([], [])) (by decide +kernel) hm | assumption | exact HS.rf | exact inm_r (by decide +kernel) | decide +kernel | intro _
set_option maxHeartbeats 4000000 in
theorem fx_f_X5_spread_L2 (F : Nat) (k37 : zM → Option (Unit × zM)) (v1 : Int32) (v2 : Int32) {m : zMk} (hm : msub ([40, 41], []) m = true) (hk37 : ∀ (s : zM), HF m s (k37 s)) : ∀ (n : Nat) (w0 : Int32) (s : zM), HF m s (f_X5_spread_L2 F k37 v1 v2 n w0 s) := by
  intro n
  induction n with
  | zero => intros; exact hf_none
  | succ n ih =>
    intro w0 s
    rw [f_X5_spread_L2]
    repeat' with_reducible first | exact hf_none | refine hf_ite (fun _ => ?_) (fun _ => ?_) | refine hf_bnd ?_ (fun _ _ _ => ?_) | refine hf_some ?_ | refine hf_lts ?_ (fun _ _ => ?_) | refine hf_ltv (fun _ => ?_) | refine hs_zs hm ?_ ?_ | refine hs_zcp hm ?_ (by decide +kernel) | refine hs_zsl ?_ | (apply HF.of; apply hk37) | (apply HF.of; apply ih) | exact msub_tr (b := ([40, 41], [])) (by decide +kernel) hm | assumption | exact HS.rf | exact inm_r (by decide +kernel) | decide +kernel | intro _
set_option maxHeartbeats 4000000 in
theorem fx_f_X0_number  {m : zMk} (hm : msub ([], []) m = true) (s : zM) : HF m s (f_X0_number s) := by
  unfold f_X0_number
  repeat' with_reducible first | exact hf_none | refine hf_ite (fun _ => ?_) (fun _ => ?_) | refine hf_bnd ?_ (fun _ _ _ => ?_) | refine hf_some ?_ | refine hf_lts ?_ (fun _ _ => ?_) | refine hf_ltv (fun _ => ?_) | refine hs_zs hm ?_ ?_ | refine hs_zcp hm ?_ (by decide +kernel) | refine hs_zsl ?_ | exact msub_tr (b := ([], [])) (by decide +kernel) hm | assumption | exact HS.rf | exact inm_r (by decide +kernel) | decide +kernel | intro _
set_option maxHeartbeats 4000000 in
theorem fx_f_X8_beside (v0 : Int32) (v1 : Int32) {m : zMk} (hm : msub ([], []) m = true) (s : zM) : HF m s (f_X8_beside v0 v1 s) := by
  unfold f_X8_beside
  repeat' with_reducible first | exact hf_none | refine hf_ite (fun _ => ?_) (fun _ => ?_) | refine hf_bnd ?_ (fun _ _ _ => ?_) | refine hf_some ?_ | refine hf_lts ?_ (fun _ _ => ?_) | refine hf_ltv (fun _ => ?_) | refine hs_zs hm ?_ ?_ | refine hs_zcp hm ?_ (by decide +kernel) | refine hs_zsl ?_ | (apply HF.of; apply fx_f_X8_isSeat) | exact msub_tr (b := ([], [])) (by decide +kernel) hm | assumption | exact HS.rf | exact inm_r (by decide +kernel) | decide +kernel | intro _
set_option maxHeartbeats 4000000 in
theorem fx_f_X5_isDry_L7 (F : Nat) (k64 : zM → Option (Int32 × zM)) (v2 : Int32) (v3 : Int32) {m : zMk} (hm : msub ([], []) m = true) (hk64 : ∀ (s : zM), HF m s (k64 s)) : ∀ (n : Nat) (w0 : Int32) (s : zM), HF m s (f_X5_isDry_L7 F k64 v2 v3 n w0 s) := by
  intro n
  induction n with
  | zero => intros; exact hf_none
  | succ n ih =>
    intro w0 s
    rw [f_X5_isDry_L7]
    repeat' with_reducible first | exact hf_none | refine hf_ite (fun _ => ?_) (fun _ => ?_) | refine hf_bnd ?_ (fun _ _ _ => ?_) | refine hf_some ?_ | refine hf_lts ?_ (fun _ _ => ?_) | refine hf_ltv (fun _ => ?_) | refine hs_zs hm ?_ ?_ | refine hs_zcp hm ?_ (by decide +kernel) | refine hs_zsl ?_ | (apply HF.of; apply hk64) | (apply HF.of; apply ih) | exact msub_tr (b := ([], [])) (by decide +kernel) hm | assumption | exact HS.rf | exact inm_r (by decide +kernel) | decide +kernel | intro _
set_option maxHeartbeats 4000000 in
theorem fx_f_X5_isDry (F : Nat) (v1 : Int32) (v2 : Int32) {m : zMk} (hm : msub ([], []) m = true) (s : zM) : HF m s (f_X5_isDry F v1 v2 s) := by
  unfold f_X5_isDry
  repeat' with_reducible first | exact hf_none | refine hf_ite (fun _ => ?_) (fun _ => ?_) | refine hf_bnd ?_ (fun _ _ _ => ?_) | refine hf_some ?_ | refine hf_lts ?_ (fun _ _ => ?_) | refine hf_ltv (fun _ => ?_) | refine hs_zs hm ?_ ?_ | refine hs_zcp hm ?_ (by decide +kernel) | refine hs_zsl ?_ | (apply HF.of; apply fx_f_X5_isDry_L7) | exact msub_tr (b := ([], [])) (by decide +kernel) hm | assumption | exact HS.rf | exact inm_r (by decide +kernel) | decide +kernel | intro _
set_option maxHeartbeats 4000000 in
theorem fx_f_X5_passOn_L5 (F : Nat) (k125 : Int32 → zM → Option (Int32 × zM)) (v1 : Int32) (v2 : Int32) {m : zMk} (hm : msub ([13, 23, 32, 40, 41], []) m = true) (hk125 : ∀ (a0 : Int32) (s : zM), HF m s (k125 a0 s)) : ∀ (n : Nat) (w0 : Int32) (w1 : Int32) (s : zM), HF m s (f_X5_passOn_L5 F k125 v1 v2 n w0 w1 s) := by
  intro n
  induction n with
  | zero => intros; exact hf_none
  | succ n ih =>
    intro w0 w1 s
    rw [f_X5_passOn_L5]
    repeat' with_reducible first | exact hf_none | refine hf_ite (fun _ => ?_) (fun _ => ?_) | refine hf_bnd ?_ (fun _ _ _ => ?_) | refine hf_some ?_ | refine hf_lts ?_ (fun _ _ => ?_) | refine hf_ltv (fun _ => ?_) | refine hs_zs hm ?_ ?_ | refine hs_zcp hm ?_ (by decide +kernel) | refine hs_zsl ?_ | (apply HF.of; apply hk125) | (apply HF.of; apply fx_f_X0_seatOf) | (apply HF.of; apply fx_f_X8_beside) | (apply HF.of; apply fx_f_X0_at) | (apply HF.of; apply fx_f_X5_isDry) | (apply HF.of; apply fx_f_X1_allows) | (apply HF.of; apply ih) | exact msub_tr (b := ([13, 23, 32, 40, 41], [])) (by decide +kernel) hm | assumption | exact HS.rf | exact inm_r (by decide +kernel) | decide +kernel | intro _
set_option maxHeartbeats 4000000 in
theorem fx_f_X5_passOn (F : Nat) (v1 : Int32) (v2 : Int32) {m : zMk} (hm : msub ([13, 23, 32, 40, 41], []) m = true) (s : zM) : HF m s (f_X5_passOn F v1 v2 s) := by
  unfold f_X5_passOn
  repeat' with_reducible first | exact hf_none | refine hf_ite (fun _ => ?_) (fun _ => ?_) | refine hf_bnd ?_ (fun _ _ _ => ?_) | refine hf_some ?_ | refine hf_lts ?_ (fun _ _ => ?_) | refine hf_ltv (fun _ => ?_) | refine hs_zs hm ?_ ?_ | refine hs_zcp hm ?_ (by decide +kernel) | refine hs_zsl ?_ | (apply HF.of; apply fx_f_X5_passOn_L5) | exact msub_tr (b := ([13, 23, 32, 40, 41], [])) (by decide +kernel) hm | assumption | exact HS.rf | exact inm_r (by decide +kernel) | decide +kernel | intro _
set_option maxHeartbeats 4000000 in
theorem fx_f_X5_spread_L58 (F : Nat) (k112 : Int32 → zM → Option (Unit × zM)) (v2 : Int32) (v4 : Int32) {m : zMk} (hm : msub ([13, 23, 32, 40, 41], []) m = true) (hk112 : ∀ (a0 : Int32) (s : zM), HF m s (k112 a0 s)) : ∀ (n : Nat) (w0 : Int32) (w1 : Int32) (s : zM), HF m s (f_X5_spread_L58 F k112 v2 v4 n w0 w1 s) := by
  intro n
  induction n with
  | zero => intros; exact hf_none
  | succ n ih =>
    intro w0 w1 s
    rw [f_X5_spread_L58]
    repeat' with_reducible first | exact hf_none | refine hf_ite (fun _ => ?_) (fun _ => ?_) | refine hf_bnd ?_ (fun _ _ _ => ?_) | refine hf_some ?_ | refine hf_lts ?_ (fun _ _ => ?_) | refine hf_ltv (fun _ => ?_) | refine hs_zs hm ?_ ?_ | refine hs_zcp hm ?_ (by decide +kernel) | refine hs_zsl ?_ | (apply HF.of; apply hk112) | (apply HF.of; apply fx_f_X0_number) | (apply HF.of; apply fx_f_X5_passOn) | (apply HF.of; apply ih) | exact msub_tr (b := ([13, 23, 32, 40, 41], [])) (by decide +kernel) hm | assumption | exact HS.rf | exact inm_r (by decide +kernel) | decide +kernel | intro _
set_option maxHeartbeats 4000000 in
theorem fx_f_X5_spread_L42 (F : Nat) (k118 : zM → Option (Unit × zM)) (v2 : Int32) {m : zMk} (hm : msub ([13, 23, 32, 40, 41], []) m = true) (hk118 : ∀ (s : zM), HF m s (k118 s)) : ∀ (n : Nat) (w0 : Int32) (w1 : Int32) (s : zM), HF m s (f_X5_spread_L42 F k118 v2 n w0 w1 s) := by
  intro n
  induction n with
  | zero => intros; exact hf_none
  | succ n ih =>
    intro w0 w1 s
    rw [f_X5_spread_L42]
    repeat' with_reducible first | exact hf_none | refine hf_ite (fun _ => ?_) (fun _ => ?_) | refine hf_bnd ?_ (fun _ _ _ => ?_) | refine hf_some ?_ | refine hf_lts ?_ (fun _ _ => ?_) | refine hf_ltv (fun _ => ?_) | refine hs_zs hm ?_ ?_ | refine hs_zcp hm ?_ (by decide +kernel) | refine hs_zsl ?_ | (apply HF.of; apply hk118) | (apply HF.of; apply fx_f_X5_spread_L58) | (apply HF.of; apply ih) | exact msub_tr (b := ([13, 23, 32, 40, 41], [])) (by decide +kernel) hm | assumption | exact HS.rf | exact inm_r (by decide +kernel) | decide +kernel | intro _
set_option maxHeartbeats 4000000 in
theorem fx_f_X5_spread (F : Nat) (v1 : Int32) (v2 : Int32) {m : zMk} (hm : msub ([13, 23, 32, 40, 41], []) m = true) (s : zM) : HF m s (f_X5_spread F v1 v2 s) := by
  unfold f_X5_spread
  repeat' with_reducible first | exact hf_none | refine hf_ite (fun _ => ?_) (fun _ => ?_) | refine hf_bnd ?_ (fun _ _ _ => ?_) | refine hf_some ?_ | refine hf_lts ?_ (fun _ _ => ?_) | refine hf_ltv (fun _ => ?_) | refine hs_zs hm ?_ ?_ | refine hs_zcp hm ?_ (by decide +kernel) | refine hs_zsl ?_ | (apply HF.of; apply fx_f_X5_spread_L2) | (apply HF.of; apply fx_f_X5_spread_L42) | exact msub_tr (b := ([13, 23, 32, 40, 41], [])) (by decide +kernel) hm | assumption | exact HS.rf | exact inm_r (by decide +kernel) | decide +kernel | intro _
set_option maxHeartbeats 4000000 in
theorem fx_f_X5_minuteOf (v1 : Int32) {m : zMk} (hm : msub ([], []) m = true) (s : zM) : HF m s (f_X5_minuteOf v1 s) := by
  unfold f_X5_minuteOf
  repeat' with_reducible first | exact hf_none | refine hf_ite (fun _ => ?_) (fun _ => ?_) | refine hf_bnd ?_ (fun _ _ _ => ?_) | refine hf_some ?_ | refine hf_lts ?_ (fun _ _ => ?_) | refine hf_ltv (fun _ => ?_) | refine hs_zs hm ?_ ?_ | refine hs_zcp hm ?_ (by decide +kernel) | refine hs_zsl ?_ | exact msub_tr (b := ([], [])) (by decide +kernel) hm | assumption | exact HS.rf | exact inm_r (by decide +kernel) | decide +kernel | intro _
set_option maxHeartbeats 4000000 in
theorem fx_f_X11_soonest (F : Nat) (v1 : Int32) (v2 : Int32) (v3 : Int32) {m : zMk} (hm : msub ([13, 23, 32, 40, 41], []) m = true) (s : zM) : HF m s (f_X11_soonest F v1 v2 v3 s) := by
  unfold f_X11_soonest
  repeat' with_reducible first | exact hf_none | refine hf_ite (fun _ => ?_) (fun _ => ?_) | refine hf_bnd ?_ (fun _ _ _ => ?_) | refine hf_some ?_ | refine hf_lts ?_ (fun _ _ => ?_) | refine hf_ltv (fun _ => ?_) | refine hs_zs hm ?_ ?_ | refine hs_zcp hm ?_ (by decide +kernel) | refine hs_zsl ?_ | (apply HF.of; apply fx_f_X5_isStart) | (apply HF.of; apply fx_f_X0_sits) | (apply HF.of; apply fx_f_X5_spread) | (apply HF.of; apply fx_f_X5_minuteOf) | exact msub_tr (b := ([13, 23, 32, 40, 41], [])) (by decide +kernel) hm | assumption | exact HS.rf | exact inm_r (by decide +kernel) | decide +kernel | intro _
set_option maxHeartbeats 4000000 in
theorem fx_f_X5_howMany_L4 (F : Nat) (k29 : Int32 → zM → Option (Int32 × zM)) {m : zMk} (hm : msub ([], []) m = true) (hk29 : ∀ (a0 : Int32) (s : zM), HF m s (k29 a0 s)) : ∀ (n : Nat) (w0 : Int32) (w1 : Int32) (s : zM), HF m s (f_X5_howMany_L4 F k29 n w0 w1 s) := by
  intro n
  induction n with
  | zero => intros; exact hf_none
  | succ n ih =>
    intro w0 w1 s
    rw [f_X5_howMany_L4]
    repeat' with_reducible first | exact hf_none | refine hf_ite (fun _ => ?_) (fun _ => ?_) | refine hf_bnd ?_ (fun _ _ _ => ?_) | refine hf_some ?_ | refine hf_lts ?_ (fun _ _ => ?_) | refine hf_ltv (fun _ => ?_) | refine hs_zs hm ?_ ?_ | refine hs_zcp hm ?_ (by decide +kernel) | refine hs_zsl ?_ | (apply HF.of; apply hk29) | (apply HF.of; apply ih) | exact msub_tr (b := ([], [])) (by decide +kernel) hm | assumption | exact HS.rf | exact inm_r (by decide +kernel) | decide +kernel | intro _
set_option maxHeartbeats 4000000 in
theorem fx_f_X5_howMany (F : Nat) {m : zMk} (hm : msub ([], []) m = true) (s : zM) : HF m s (f_X5_howMany F s) := by
  unfold f_X5_howMany
  repeat' with_reducible first | exact hf_none | refine hf_ite (fun _ => ?_) (fun _ => ?_) | refine hf_bnd ?_ (fun _ _ _ => ?_) | refine hf_some ?_ | refine hf_lts ?_ (fun _ _ => ?_) | refine hf_ltv (fun _ => ?_) | refine hs_zs hm ?_ ?_ | refine hs_zcp hm ?_ (by decide +kernel) | refine hs_zsl ?_ | (apply HF.of; apply fx_f_X5_howMany_L4) | exact msub_tr (b := ([], [])) (by decide +kernel) hm | assumption | exact HS.rf | exact inm_r (by decide +kernel) | decide +kernel | intro _
set_option maxHeartbeats 4000000 in
theorem fx_f_X5_lastMinute_L4 (F : Nat) (k27 : Int32 → zM → Option (Int32 × zM)) {m : zMk} (hm : msub ([], []) m = true) (hk27 : ∀ (a0 : Int32) (s : zM), HF m s (k27 a0 s)) : ∀ (n : Nat) (w0 : Int32) (w1 : Int32) (s : zM), HF m s (f_X5_lastMinute_L4 F k27 n w0 w1 s) := by
  intro n
  induction n with
  | zero => intros; exact hf_none
  | succ n ih =>
    intro w0 w1 s
    rw [f_X5_lastMinute_L4]
    repeat' with_reducible first | exact hf_none | refine hf_ite (fun _ => ?_) (fun _ => ?_) | refine hf_bnd ?_ (fun _ _ _ => ?_) | refine hf_some ?_ | refine hf_lts ?_ (fun _ _ => ?_) | refine hf_ltv (fun _ => ?_) | refine hs_zs hm ?_ ?_ | refine hs_zcp hm ?_ (by decide +kernel) | refine hs_zsl ?_ | (apply HF.of; apply hk27) | (apply HF.of; apply ih) | exact msub_tr (b := ([], [])) (by decide +kernel) hm | assumption | exact HS.rf | exact inm_r (by decide +kernel) | decide +kernel | intro _
set_option maxHeartbeats 4000000 in
theorem fx_f_X5_lastMinute (F : Nat) {m : zMk} (hm : msub ([], []) m = true) (s : zM) : HF m s (f_X5_lastMinute F s) := by
  unfold f_X5_lastMinute
  repeat' with_reducible first | exact hf_none | refine hf_ite (fun _ => ?_) (fun _ => ?_) | refine hf_bnd ?_ (fun _ _ _ => ?_) | refine hf_some ?_ | refine hf_lts ?_ (fun _ _ => ?_) | refine hf_ltv (fun _ => ?_) | refine hs_zs hm ?_ ?_ | refine hs_zcp hm ?_ (by decide +kernel) | refine hs_zsl ?_ | (apply HF.of; apply fx_f_X5_lastMinute_L4) | exact msub_tr (b := ([], [])) (by decide +kernel) hm | assumption | exact HS.rf | exact inm_r (by decide +kernel) | decide +kernel | intro _
set_option maxHeartbeats 4000000 in
theorem fx_f_X5_teller (v1 : Int32) {m : zMk} (hm : msub ([], []) m = true) (s : zM) : HF m s (f_X5_teller v1 s) := by
  unfold f_X5_teller
  repeat' with_reducible first | exact hf_none | refine hf_ite (fun _ => ?_) (fun _ => ?_) | refine hf_bnd ?_ (fun _ _ _ => ?_) | refine hf_some ?_ | refine hf_lts ?_ (fun _ _ => ?_) | refine hf_ltv (fun _ => ?_) | refine hs_zs hm ?_ ?_ | refine hs_zcp hm ?_ (by decide +kernel) | refine hs_zsl ?_ | exact msub_tr (b := ([], [])) (by decide +kernel) hm | assumption | exact HS.rf | exact inm_r (by decide +kernel) | decide +kernel | intro _
set_option maxHeartbeats 4000000 in
theorem fx_f_X11_rumour_j27 (F : Nat) (v1 : Int32) (v2 : Int32) (v3 : Int32) (w0 : Int32) {m : zMk} (hm : msub ([13, 23, 32, 40, 41], []) m = true) (s : zM) : HF m s (f_X11_rumour_j27 F v1 v2 v3 w0 s) := by
  unfold f_X11_rumour_j27
  repeat' with_reducible first | exact hf_none | refine hf_ite (fun _ => ?_) (fun _ => ?_) | refine hf_bnd ?_ (fun _ _ _ => ?_) | refine hf_some ?_ | refine hf_lts ?_ (fun _ _ => ?_) | refine hf_ltv (fun _ => ?_) | refine hs_zs hm ?_ ?_ | refine hs_zcp hm ?_ (by decide +kernel) | refine hs_zsl ?_ | (apply HF.of; apply fx_f_X5_isStart) | (apply HF.of; apply fx_f_X0_sits) | (apply HF.of; apply fx_f_X5_spread) | (apply HF.of; apply fx_f_X5_howMany) | (apply HF.of; apply fx_f_X5_lastMinute) | (apply HF.of; apply fx_f_X5_minuteOf) | (apply HF.of; apply fx_f_X5_teller) | exact msub_tr (b := ([13, 23, 32, 40, 41], [])) (by decide +kernel) hm | assumption | exact HS.rf | exact inm_r (by decide +kernel) | decide +kernel | intro _
set_option maxHeartbeats 4000000 in
theorem fx_f_X11_rumour_j22 (F : Nat) (v1 : Int32) (v2 : Int32) (v3 : Int32) {m : zMk} (hm : msub ([13, 23, 32, 40, 41], []) m = true) (s : zM) : HF m s (f_X11_rumour_j22 F v1 v2 v3 s) := by
  unfold f_X11_rumour_j22
  repeat' with_reducible first | exact hf_none | refine hf_ite (fun _ => ?_) (fun _ => ?_) | refine hf_bnd ?_ (fun _ _ _ => ?_) | refine hf_some ?_ | refine hf_lts ?_ (fun _ _ => ?_) | refine hf_ltv (fun _ => ?_) | refine hs_zs hm ?_ ?_ | refine hs_zcp hm ?_ (by decide +kernel) | refine hs_zsl ?_ | (apply HF.of; apply fx_f_X11_rumour_j27) | exact msub_tr (b := ([13, 23, 32, 40, 41], [])) (by decide +kernel) hm | assumption | exact HS.rf | exact inm_r (by decide +kernel) | decide +kernel | intro _
set_option maxHeartbeats 4000000 in
theorem fx_f_X11_rumour (F : Nat) (v1 : Int32) (v2 : Int32) (v3 : Int32) {m : zMk} (hm : msub ([13, 23, 32, 40, 41], []) m = true) (s : zM) : HF m s (f_X11_rumour F v1 v2 v3 s) := by
  unfold f_X11_rumour
  repeat' with_reducible first | exact hf_none | refine hf_ite (fun _ => ?_) (fun _ => ?_) | refine hf_bnd ?_ (fun _ _ _ => ?_) | refine hf_some ?_ | refine hf_lts ?_ (fun _ _ => ?_) | refine hf_ltv (fun _ => ?_) | refine hs_zs hm ?_ ?_ | refine hs_zcp hm ?_ (by decide +kernel) | refine hs_zsl ?_ | (apply HF.of; apply fx_f_X11_rumour_j22) | (apply HF.of; apply fx_f_X0_knows) | (apply HF.of; apply fx_f_X11_rumour_j27) | exact msub_tr (b := ([13, 23, 32, 40, 41], [])) (by decide +kernel) hm | assumption | exact HS.rf | exact inm_r (by decide +kernel) | decide +kernel | intro _
set_option maxHeartbeats 4000000 in
theorem fx_f_X5_addSpeech (v1 : Int32) (v2 : Int32) (v3 : Int32) {m : zMk} (hm : msub ([37, 38, 39], [(33, 11)]) m = true) (s : zM) : HF m s (f_X5_addSpeech v1 v2 v3 s) := by
  unfold f_X5_addSpeech
  repeat' with_reducible first | exact hf_none | refine hf_ite (fun _ => ?_) (fun _ => ?_) | refine hf_bnd ?_ (fun _ _ _ => ?_) | refine hf_some ?_ | refine hf_lts ?_ (fun _ _ => ?_) | refine hf_ltv (fun _ => ?_) | refine hs_zs hm ?_ ?_ | refine hs_zcp hm ?_ (by decide +kernel) | refine hs_zsl ?_ | exact msub_tr (b := ([37, 38, 39], [(33, 11)])) (by decide +kernel) hm | assumption | exact HS.rf | exact inm_r (by decide +kernel) | decide +kernel | intro _
set_option maxHeartbeats 4000000 in
theorem fx_f_X11_speech_j29 (v1 : Int32) (v2 : Int32) (v3 : Int32) (w0 : Int32) {m : zMk} (hm : msub ([37, 38, 39], [(33, 11)]) m = true) (s : zM) : HF m s (f_X11_speech_j29 v1 v2 v3 w0 s) := by
  unfold f_X11_speech_j29
  repeat' with_reducible first | exact hf_none | refine hf_ite (fun _ => ?_) (fun _ => ?_) | refine hf_bnd ?_ (fun _ _ _ => ?_) | refine hf_some ?_ | refine hf_lts ?_ (fun _ _ => ?_) | refine hf_ltv (fun _ => ?_) | refine hs_zs hm ?_ ?_ | refine hs_zcp hm ?_ (by decide +kernel) | refine hs_zsl ?_ | (apply HF.of; apply fx_f_X5_addSpeech) | exact msub_tr (b := ([37, 38, 39], [(33, 11)])) (by decide +kernel) hm | assumption | exact HS.rf | exact inm_r (by decide +kernel) | decide +kernel | intro _
set_option maxHeartbeats 4000000 in
theorem fx_f_X11_speech_j28 (v1 : Int32) (v2 : Int32) (v3 : Int32) {m : zMk} (hm : msub ([37, 38, 39], [(33, 11)]) m = true) (s : zM) : HF m s (f_X11_speech_j28 v1 v2 v3 s) := by
  unfold f_X11_speech_j28
  repeat' with_reducible first | exact hf_none | refine hf_ite (fun _ => ?_) (fun _ => ?_) | refine hf_bnd ?_ (fun _ _ _ => ?_) | refine hf_some ?_ | refine hf_lts ?_ (fun _ _ => ?_) | refine hf_ltv (fun _ => ?_) | refine hs_zs hm ?_ ?_ | refine hs_zcp hm ?_ (by decide +kernel) | refine hs_zsl ?_ | (apply HF.of; apply fx_f_X11_speech_j29) | exact msub_tr (b := ([37, 38, 39], [(33, 11)])) (by decide +kernel) hm | assumption | exact HS.rf | exact inm_r (by decide +kernel) | decide +kernel | intro _
set_option maxHeartbeats 4000000 in
theorem fx_f_X11_speech (v1 : Int32) (v2 : Int32) (v3 : Int32) {m : zMk} (hm : msub ([37, 38, 39], [(33, 11)]) m = true) (s : zM) : HF m s (f_X11_speech v1 v2 v3 s) := by
  unfold f_X11_speech
  repeat' with_reducible first | exact hf_none | refine hf_ite (fun _ => ?_) (fun _ => ?_) | refine hf_bnd ?_ (fun _ _ _ => ?_) | refine hf_some ?_ | refine hf_lts ?_ (fun _ _ => ?_) | refine hf_ltv (fun _ => ?_) | refine hs_zs hm ?_ ?_ | refine hs_zcp hm ?_ (by decide +kernel) | refine hs_zsl ?_ | (apply HF.of; apply fx_f_X8_isPlace) | (apply HF.of; apply fx_f_X11_speech_j28) | (apply HF.of; apply fx_f_X5_isMinute) | (apply HF.of; apply fx_f_X11_speech_j29) | exact msub_tr (b := ([37, 38, 39], [(33, 11)])) (by decide +kernel) hm | assumption | exact HS.rf | exact inm_r (by decide +kernel) | decide +kernel | intro _
set_option maxHeartbeats 4000000 in
theorem fx_f_X5_speechesAt_L5 (F : Nat) (k81 : Int32 → zM → Option (Int32 × zM)) (v1 : Int32) (v2 : Int32) {m : zMk} (hm : msub ([], []) m = true) (hk81 : ∀ (a0 : Int32) (s : zM), HF m s (k81 a0 s)) : ∀ (n : Nat) (w0 : Int32) (w1 : Int32) (s : zM), HF m s (f_X5_speechesAt_L5 F k81 v1 v2 n w0 w1 s) := by
  intro n
  induction n with
  | zero => intros; exact hf_none
  | succ n ih =>
    intro w0 w1 s
    rw [f_X5_speechesAt_L5]
    repeat' with_reducible first | exact hf_none | refine hf_ite (fun _ => ?_) (fun _ => ?_) | refine hf_bnd ?_ (fun _ _ _ => ?_) | refine hf_some ?_ | refine hf_lts ?_ (fun _ _ => ?_) | refine hf_ltv (fun _ => ?_) | refine hs_zs hm ?_ ?_ | refine hs_zcp hm ?_ (by decide +kernel) | refine hs_zsl ?_ | (apply HF.of; apply hk81) | (apply HF.of; apply ih) | exact msub_tr (b := ([], [])) (by decide +kernel) hm | assumption | exact HS.rf | exact inm_r (by decide +kernel) | decide +kernel | intro _
set_option maxHeartbeats 4000000 in
theorem fx_f_X5_speechesAt (F : Nat) (v1 : Int32) (v2 : Int32) {m : zMk} (hm : msub ([], []) m = true) (s : zM) : HF m s (f_X5_speechesAt F v1 v2 s) := by
  unfold f_X5_speechesAt
  repeat' with_reducible first | exact hf_none | refine hf_ite (fun _ => ?_) (fun _ => ?_) | refine hf_bnd ?_ (fun _ _ _ => ?_) | refine hf_some ?_ | refine hf_lts ?_ (fun _ _ => ?_) | refine hf_ltv (fun _ => ?_) | refine hs_zs hm ?_ ?_ | refine hs_zcp hm ?_ (by decide +kernel) | refine hs_zsl ?_ | (apply HF.of; apply fx_f_X5_speechesAt_L5) | exact msub_tr (b := ([], [])) (by decide +kernel) hm | assumption | exact HS.rf | exact inm_r (by decide +kernel) | decide +kernel | intro _
set_option maxHeartbeats 4000000 in
theorem fx_f_X11_heard (F : Nat) (v1 : Int32) (v2 : Int32) {m : zMk} (hm : msub ([], []) m = true) (s : zM) : HF m s (f_X11_heard F v1 v2 s) := by
  unfold f_X11_heard
  repeat' with_reducible first | exact hf_none | refine hf_ite (fun _ => ?_) (fun _ => ?_) | refine hf_bnd ?_ (fun _ _ _ => ?_) | refine hf_some ?_ | refine hf_lts ?_ (fun _ _ => ?_) | refine hf_ltv (fun _ => ?_) | refine hs_zs hm ?_ ?_ | refine hs_zcp hm ?_ (by decide +kernel) | refine hs_zsl ?_ | (apply HF.of; apply fx_f_X8_isSeat) | (apply HF.of; apply fx_f_X5_isMinute) | (apply HF.of; apply fx_f_X5_speechesAt) | exact msub_tr (b := ([], [])) (by decide +kernel) hm | assumption | exact HS.rf | exact inm_r (by decide +kernel) | decide +kernel | intro _
set_option maxHeartbeats 4000000 in
theorem fx_f_X9_noteIfBetter_j26 (v1 : Int32) (v2 : Int64) {m : zMk} (hm : msub ([44], [(42, 4)]) m = true) (s : zM) : HF m s (f_X9_noteIfBetter_j26 v1 v2 s) := by
  unfold f_X9_noteIfBetter_j26
  repeat' with_reducible first | exact hf_none | refine hf_ite (fun _ => ?_) (fun _ => ?_) | refine hf_bnd ?_ (fun _ _ _ => ?_) | refine hf_some ?_ | refine hf_lts ?_ (fun _ _ => ?_) | refine hf_ltv (fun _ => ?_) | refine hs_zs hm ?_ ?_ | refine hs_zcp hm ?_ (by decide +kernel) | refine hs_zsl ?_ | exact msub_tr (b := ([44], [(42, 4)])) (by decide +kernel) hm | assumption | exact HS.rf | exact inm_r (by decide +kernel) | decide +kernel | intro _
set_option maxHeartbeats 4000000 in
theorem fx_f_X9_noteIfBetter (v1 : Int32) (v2 : Int64) {m : zMk} (hm : msub ([44], [(42, 4)]) m = true) (s : zM) : HF m s (f_X9_noteIfBetter v1 v2 s) := by
  unfold f_X9_noteIfBetter
  repeat' with_reducible first | exact hf_none | refine hf_ite (fun _ => ?_) (fun _ => ?_) | refine hf_bnd ?_ (fun _ _ _ => ?_) | refine hf_some ?_ | refine hf_lts ?_ (fun _ _ => ?_) | refine hf_ltv (fun _ => ?_) | refine hs_zs hm ?_ ?_ | refine hs_zcp hm ?_ (by decide +kernel) | refine hs_zsl ?_ | (apply HF.of; apply fx_f_X9_noteIfBetter_j26) | exact msub_tr (b := ([44], [(42, 4)])) (by decide +kernel) hm | assumption | exact HS.rf | exact inm_r (by decide +kernel) | decide +kernel | intro _
set_option maxHeartbeats 4000000 in
theorem fx_f_X9_tryNext_L22 (F : Nat) (rec : Int32 → Int64 → Int32 → zM → Option (Unit × zM)) (k132 : zM → Option (Unit × zM)) (v1 : Int32) (v2 : Int64) (v4 : Int32) (v5 : Int32) {m : zMk} (hm : msub ([13, 23, 32, 43], []) m = true) (hrec : ∀ (a0 : Int32) (a1 : Int64) (a2 : Int32) (s : zM), HF m s (rec a0 a1 a2 s)) (hk132 : ∀ (s : zM), HF m s (k132 s)) : ∀ (n : Nat) (w0 : Int32) (s : zM), HF m s (f_X9_tryNext_L22 F rec k132 v1 v2 v4 v5 n w0 s) := by
  intro n
  induction n with
  | zero => intros; exact hf_none
  | succ n ih =>
    intro w0 s
    rw [f_X9_tryNext_L22]
    repeat' with_reducible first | exact hf_none | refine hf_ite (fun _ => ?_) (fun _ => ?_) | refine hf_bnd ?_ (fun _ _ _ => ?_) | refine hf_some ?_ | refine hf_lts ?_ (fun _ _ => ?_) | refine hf_ltv (fun _ => ?_) | refine hs_zs hm ?_ ?_ | refine hs_zcp hm ?_ (by decide +kernel) | refine hs_zsl ?_ | (apply HF.of; apply hrec) | (apply HF.of; apply hk132) | (apply HF.of; apply fx_f_X0_number) | (apply HF.of; apply fx_f_X0_sits) | (apply HF.of; apply fx_f_X0_seatOf) | (apply HF.of; apply fx_f_X8_areNext) | (apply HF.of; apply fx_f_X1_seen) | (apply HF.of; apply ih) | exact msub_tr (b := ([13, 23, 32, 43], [])) (by decide +kernel) hm | assumption | exact HS.rf | exact inm_r (by decide +kernel) | decide +kernel | intro _
set_option maxHeartbeats 4000000 in
theorem fx_b_X9_tryNext (F : Nat) (rec : Int32 → Int64 → Int32 → zM → Option (Unit × zM)) (v1 : Int32) (v2 : Int64) (v4 : Int32) {m : zMk} (hm : msub ([13, 23, 32, 43], []) m = true) (hrec : ∀ (a0 : Int32) (a1 : Int64) (a2 : Int32) (s : zM), HF m s (rec a0 a1 a2 s)) (s : zM) : HF m s (b_X9_tryNext F rec v1 v2 v4 s) := by
  unfold b_X9_tryNext
  repeat' with_reducible first | exact hf_none | refine hf_ite (fun _ => ?_) (fun _ => ?_) | refine hf_bnd ?_ (fun _ _ _ => ?_) | refine hf_some ?_ | refine hf_lts ?_ (fun _ _ => ?_) | refine hf_ltv (fun _ => ?_) | refine hs_zs hm ?_ ?_ | refine hs_zcp hm ?_ (by decide +kernel) | refine hs_zsl ?_ | (apply HF.of; apply hrec) | (apply HF.of; apply fx_f_X9_tryNext_L22) | exact msub_tr (b := ([13, 23, 32, 43], [])) (by decide +kernel) hm | assumption | exact HS.rf | exact inm_r (by decide +kernel) | decide +kernel | intro _
set_option maxHeartbeats 4000000 in
theorem fx_b_X9_goOn (F : Nat) (rec : Int32 → Int64 → Int32 → zM → Option (Unit × zM)) (v1 : Int32) (v2 : Int64) (v4 : Int32) {m : zMk} (hm : msub ([13, 23, 32, 43, 44], [(42, 4)]) m = true) (hrec : ∀ (a0 : Int32) (a1 : Int64) (a2 : Int32) (s : zM), HF m s (rec a0 a1 a2 s)) (s : zM) : HF m s (b_X9_goOn F rec v1 v2 v4 s) := by
  unfold b_X9_goOn
  repeat' with_reducible first | exact hf_none | refine hf_ite (fun _ => ?_) (fun _ => ?_) | refine hf_bnd ?_ (fun _ _ _ => ?_) | refine hf_some ?_ | refine hf_lts ?_ (fun _ _ => ?_) | refine hf_ltv (fun _ => ?_) | refine hs_zs hm ?_ ?_ | refine hs_zcp hm ?_ (by decide +kernel) | refine hs_zsl ?_ | (apply HF.of; apply hrec) | (apply HF.of; apply fx_f_X9_noteIfBetter) | (apply HF.of; apply fx_b_X9_tryNext) | exact msub_tr (b := ([13, 23, 32, 43, 44], [(42, 4)])) (by decide +kernel) hm | assumption | exact HS.rf | exact inm_r (by decide +kernel) | decide +kernel | intro _
set_option maxHeartbeats 4000000 in
theorem fx_f_X9_goOn (F : Nat) {m : zMk} (hm : msub ([13, 23, 32, 43, 44], [(42, 4)]) m = true) : ∀ (n : Nat) (w0 : Int32) (w1 : Int64) (w2 : Int32) (s : zM), HF m s (f_X9_goOn F n w0 w1 w2 s) := by
  intro n
  induction n with
  | zero => intros; exact hf_none
  | succ n ih =>
    intro w0 w1 w2 s
    rw [f_X9_goOn]
    repeat' with_reducible first | exact hf_none | refine hf_ite (fun _ => ?_) (fun _ => ?_) | refine hf_bnd ?_ (fun _ _ _ => ?_) | refine hf_some ?_ | refine hf_lts ?_ (fun _ _ => ?_) | refine hf_ltv (fun _ => ?_) | refine hs_zs hm ?_ ?_ | refine hs_zcp hm ?_ (by decide +kernel) | refine hs_zsl ?_ | (apply HF.of; apply fx_b_X9_goOn) | (apply HF.of; apply ih) | exact msub_tr (b := ([13, 23, 32, 43, 44], [(42, 4)])) (by decide +kernel) hm | assumption | exact HS.rf | exact inm_r (by decide +kernel) | decide +kernel | intro _
set_option maxHeartbeats 4000000 in
theorem fx_f_X9_find (F : Nat) (D : Nat) (v1 : Int32) (v2 : Int32) {m : zMk} (hm : msub ([13, 23, 32, 43, 44], [(42, 4), (42, 6)]) m = true) (s : zM) : HF m s (f_X9_find F D v1 v2 s) := by
  unfold f_X9_find
  repeat' with_reducible first | exact hf_none | refine hf_ite (fun _ => ?_) (fun _ => ?_) | refine hf_bnd ?_ (fun _ _ _ => ?_) | refine hf_some ?_ | refine hf_lts ?_ (fun _ _ => ?_) | refine hf_ltv (fun _ => ?_) | refine hs_zs hm ?_ ?_ | refine hs_zcp hm ?_ (by decide +kernel) | refine hs_zsl ?_ | (apply HF.of; apply fx_f_X9_goOn) | exact msub_tr (b := ([13, 23, 32, 43, 44], [(42, 4), (42, 6)])) (by decide +kernel) hm | assumption | exact HS.rf | exact inm_r (by decide +kernel) | decide +kernel | intro _
set_option maxHeartbeats 4000000 in
theorem fx_f_X9_passings  {m : zMk} (hm : msub ([], []) m = true) (s : zM) : HF m s (f_X9_passings s) := by
  unfold f_X9_passings
  repeat' with_reducible first | exact hf_none | refine hf_ite (fun _ => ?_) (fun _ => ?_) | refine hf_bnd ?_ (fun _ _ _ => ?_) | refine hf_some ?_ | refine hf_lts ?_ (fun _ _ => ?_) | refine hf_ltv (fun _ => ?_) | refine hs_zs hm ?_ ?_ | refine hs_zcp hm ?_ (by decide +kernel) | refine hs_zsl ?_ | exact msub_tr (b := ([], [])) (by decide +kernel) hm | assumption | exact HS.rf | exact inm_r (by decide +kernel) | decide +kernel | intro _
set_option maxHeartbeats 4000000 in
theorem fx_f_X9_divisor_L12 (F : Nat) (k42 : Int64 → zM → Option (Int64 × zM)) {m : zMk} (hm : msub ([], []) m = true) (hk42 : ∀ (a0 : Int64) (s : zM), HF m s (k42 a0 s)) : ∀ (n : Nat) (w0 : Int64) (w1 : Int64) (w2 : Int32) (s : zM), HF m s (f_X9_divisor_L12 F k42 n w0 w1 w2 s) := by
  intro n
  induction n with
  | zero => intros; exact hf_none
  | succ n ih =>
    intro w0 w1 w2 s
    rw [f_X9_divisor_L12]
    repeat' with_reducible first | exact hf_none | refine hf_ite (fun _ => ?_) (fun _ => ?_) | refine hf_bnd ?_ (fun _ _ _ => ?_) | refine hf_some ?_ | refine hf_lts ?_ (fun _ _ => ?_) | refine hf_ltv (fun _ => ?_) | refine hs_zs hm ?_ ?_ | refine hs_zcp hm ?_ (by decide +kernel) | refine hs_zsl ?_ | (apply HF.of; apply hk42) | (apply HF.of; apply ih) | exact msub_tr (b := ([], [])) (by decide +kernel) hm | assumption | exact HS.rf | exact inm_r (by decide +kernel) | decide +kernel | intro _
set_option maxHeartbeats 4000000 in
theorem fx_f_X9_divisor (F : Nat) {m : zMk} (hm : msub ([], []) m = true) (s : zM) : HF m s (f_X9_divisor F s) := by
  unfold f_X9_divisor
  repeat' with_reducible first | exact hf_none | refine hf_ite (fun _ => ?_) (fun _ => ?_) | refine hf_bnd ?_ (fun _ _ _ => ?_) | refine hf_some ?_ | refine hf_lts ?_ (fun _ _ => ?_) | refine hf_ltv (fun _ => ?_) | refine hs_zs hm ?_ ?_ | refine hs_zcp hm ?_ (by decide +kernel) | refine hs_zsl ?_ | (apply HF.of; apply fx_f_X9_divisor_L12) | exact msub_tr (b := ([], [])) (by decide +kernel) hm | assumption | exact HS.rf | exact inm_r (by decide +kernel) | decide +kernel | intro _
set_option maxHeartbeats 4000000 in
theorem fx_f_X9_above (F : Nat) {m : zMk} (hm : msub ([], []) m = true) (s : zM) : HF m s (f_X9_above F s) := by
  unfold f_X9_above
  repeat' with_reducible first | exact hf_none | refine hf_ite (fun _ => ?_) (fun _ => ?_) | refine hf_bnd ?_ (fun _ _ _ => ?_) | refine hf_some ?_ | refine hf_lts ?_ (fun _ _ => ?_) | refine hf_ltv (fun _ => ?_) | refine hs_zs hm ?_ ?_ | refine hs_zcp hm ?_ (by decide +kernel) | refine hs_zsl ?_ | (apply HF.of; apply fx_f_X9_divisor) | exact msub_tr (b := ([], [])) (by decide +kernel) hm | assumption | exact HS.rf | exact inm_r (by decide +kernel) | decide +kernel | intro _
set_option maxHeartbeats 4000000 in
theorem fx_f_X9_below (F : Nat) {m : zMk} (hm : msub ([], []) m = true) (s : zM) : HF m s (f_X9_below F s) := by
  unfold f_X9_below
  repeat' with_reducible first | exact hf_none | refine hf_ite (fun _ => ?_) (fun _ => ?_) | refine hf_bnd ?_ (fun _ _ _ => ?_) | refine hf_some ?_ | refine hf_lts ?_ (fun _ _ => ?_) | refine hf_ltv (fun _ => ?_) | refine hs_zs hm ?_ ?_ | refine hs_zcp hm ?_ (by decide +kernel) | refine hs_zsl ?_ | (apply HF.of; apply fx_f_X9_divisor) | exact msub_tr (b := ([], [])) (by decide +kernel) hm | assumption | exact HS.rf | exact inm_r (by decide +kernel) | decide +kernel | intro _
set_option maxHeartbeats 4000000 in
theorem fx_f_X9_guestAt (v1 : Int32) {m : zMk} (hm : msub ([], []) m = true) (s : zM) : HF m s (f_X9_guestAt v1 s) := by
  unfold f_X9_guestAt
  repeat' with_reducible first | exact hf_none | refine hf_ite (fun _ => ?_) (fun _ => ?_) | refine hf_bnd ?_ (fun _ _ _ => ?_) | refine hf_some ?_ | refine hf_lts ?_ (fun _ _ => ?_) | refine hf_ltv (fun _ => ?_) | refine hs_zs hm ?_ ?_ | refine hs_zcp hm ?_ (by decide +kernel) | refine hs_zsl ?_ | exact msub_tr (b := ([], [])) (by decide +kernel) hm | assumption | exact HS.rf | exact inm_r (by decide +kernel) | decide +kernel | intro _
set_option maxHeartbeats 4000000 in
theorem fx_f_X11_smuggled_j38 (F : Nat) (D : Nat) (v1 : Int32) (v2 : Int32) (v3 : Int32) (v4 : Int32) (w0 : Int32) {m : zMk} (hm : msub ([13, 23, 32, 43, 44], [(42, 4), (42, 6)]) m = true) (s : zM) : HF m s (f_X11_smuggled_j38 F D v1 v2 v3 v4 w0 s) := by
  unfold f_X11_smuggled_j38
  repeat' with_reducible first | exact hf_none | refine hf_ite (fun _ => ?_) (fun _ => ?_) | refine hf_bnd ?_ (fun _ _ _ => ?_) | refine hf_some ?_ | refine hf_lts ?_ (fun _ _ => ?_) | refine hf_ltv (fun _ => ?_) | refine hs_zs hm ?_ ?_ | refine hs_zcp hm ?_ (by decide +kernel) | refine hs_zsl ?_ | (apply HF.of; apply fx_f_X0_sits) | (apply HF.of; apply fx_f_X9_find) | (apply HF.of; apply fx_f_X9_passings) | (apply HF.of; apply fx_f_X9_above) | (apply HF.of; apply fx_f_X9_below) | (apply HF.of; apply fx_f_X9_guestAt) | exact msub_tr (b := ([13, 23, 32, 43, 44], [(42, 4), (42, 6)])) (by decide +kernel) hm | assumption | exact HS.rf | exact inm_r (by decide +kernel) | decide +kernel | intro _
set_option maxHeartbeats 4000000 in
theorem fx_f_X11_smuggled_j37 (F : Nat) (D : Nat) (v1 : Int32) (v2 : Int32) (v3 : Int32) (v4 : Int32) {m : zMk} (hm : msub ([13, 23, 32, 43, 44], [(42, 4), (42, 6)]) m = true) (s : zM) : HF m s (f_X11_smuggled_j37 F D v1 v2 v3 v4 s) := by
  unfold f_X11_smuggled_j37
  repeat' with_reducible first | exact hf_none | refine hf_ite (fun _ => ?_) (fun _ => ?_) | refine hf_bnd ?_ (fun _ _ _ => ?_) | refine hf_some ?_ | refine hf_lts ?_ (fun _ _ => ?_) | refine hf_ltv (fun _ => ?_) | refine hs_zs hm ?_ ?_ | refine hs_zcp hm ?_ (by decide +kernel) | refine hs_zsl ?_ | (apply HF.of; apply fx_f_X11_smuggled_j38) | exact msub_tr (b := ([13, 23, 32, 43, 44], [(42, 4), (42, 6)])) (by decide +kernel) hm | assumption | exact HS.rf | exact inm_r (by decide +kernel) | decide +kernel | intro _
set_option maxHeartbeats 4000000 in
theorem fx_f_X11_smuggled_j33 (F : Nat) (D : Nat) (v1 : Int32) (v2 : Int32) (v3 : Int32) (v4 : Int32) {m : zMk} (hm : msub ([13, 23, 32, 43, 44], [(42, 4), (42, 6)]) m = true) (s : zM) : HF m s (f_X11_smuggled_j33 F D v1 v2 v3 v4 s) := by
  unfold f_X11_smuggled_j33
  repeat' with_reducible first | exact hf_none | refine hf_ite (fun _ => ?_) (fun _ => ?_) | refine hf_bnd ?_ (fun _ _ _ => ?_) | refine hf_some ?_ | refine hf_lts ?_ (fun _ _ => ?_) | refine hf_ltv (fun _ => ?_) | refine hs_zs hm ?_ ?_ | refine hs_zcp hm ?_ (by decide +kernel) | refine hs_zsl ?_ | (apply HF.of; apply fx_f_X11_smuggled_j38) | exact msub_tr (b := ([13, 23, 32, 43, 44], [(42, 4), (42, 6)])) (by decide +kernel) hm | assumption | exact HS.rf | exact inm_r (by decide +kernel) | decide +kernel | intro _
set_option maxHeartbeats 4000000 in
theorem fx_f_X11_smuggled_j17 (F : Nat) (D : Nat) (v1 : Int32) (v2 : Int32) (v3 : Int32) (w0 : Int32) {m : zMk} (hm : msub ([13, 23, 32, 43, 44], [(42, 4), (42, 6)]) m = true) (s : zM) : HF m s (f_X11_smuggled_j17 F D v1 v2 v3 w0 s) := by
  unfold f_X11_smuggled_j17
  repeat' with_reducible first | exact hf_none | refine hf_ite (fun _ => ?_) (fun _ => ?_) | refine hf_bnd ?_ (fun _ _ _ => ?_) | refine hf_some ?_ | refine hf_lts ?_ (fun _ _ => ?_) | refine hf_ltv (fun _ => ?_) | refine hs_zs hm ?_ ?_ | refine hs_zcp hm ?_ (by decide +kernel) | refine hs_zsl ?_ | (apply HF.of; apply fx_f_X11_smuggled_j37) | (apply HF.of; apply fx_f_X11_smuggled_j33) | exact msub_tr (b := ([13, 23, 32, 43, 44], [(42, 4), (42, 6)])) (by decide +kernel) hm | assumption | exact HS.rf | exact inm_r (by decide +kernel) | decide +kernel | intro _
set_option maxHeartbeats 4000000 in
theorem fx_f_X11_smuggled_j16 (F : Nat) (D : Nat) (v1 : Int32) (v2 : Int32) (v3 : Int32) {m : zMk} (hm : msub ([13, 23, 32, 43, 44], [(42, 4), (42, 6)]) m = true) (s : zM) : HF m s (f_X11_smuggled_j16 F D v1 v2 v3 s) := by
  unfold f_X11_smuggled_j16
  repeat' with_reducible first | exact hf_none | refine hf_ite (fun _ => ?_) (fun _ => ?_) | refine hf_bnd ?_ (fun _ _ _ => ?_) | refine hf_some ?_ | refine hf_lts ?_ (fun _ _ => ?_) | refine hf_ltv (fun _ => ?_) | refine hs_zs hm ?_ ?_ | refine hs_zcp hm ?_ (by decide +kernel) | refine hs_zsl ?_ | (apply HF.of; apply fx_f_X11_smuggled_j17) | exact msub_tr (b := ([13, 23, 32, 43, 44], [(42, 4), (42, 6)])) (by decide +kernel) hm | assumption | exact HS.rf | exact inm_r (by decide +kernel) | decide +kernel | intro _
set_option maxHeartbeats 4000000 in
theorem fx_f_X11_smuggled (F : Nat) (D : Nat) (v1 : Int32) (v2 : Int32) (v3 : Int32) {m : zMk} (hm : msub ([13, 23, 32, 43, 44], [(42, 4), (42, 6)]) m = true) (s : zM) : HF m s (f_X11_smuggled F D v1 v2 v3 s) := by
  unfold f_X11_smuggled
  repeat' with_reducible first | exact hf_none | refine hf_ite (fun _ => ?_) (fun _ => ?_) | refine hf_bnd ?_ (fun _ _ _ => ?_) | refine hf_some ?_ | refine hf_lts ?_ (fun _ _ => ?_) | refine hf_ltv (fun _ => ?_) | refine hs_zs hm ?_ ?_ | refine hs_zcp hm ?_ (by decide +kernel) | refine hs_zsl ?_ | (apply HF.of; apply fx_f_X11_smuggled_j16) | (apply HF.of; apply fx_f_X11_smuggled_j17) | exact msub_tr (b := ([13, 23, 32, 43, 44], [(42, 4), (42, 6)])) (by decide +kernel) hm | assumption | exact HS.rf | exact inm_r (by decide +kernel) | decide +kernel | intro _
set_option maxHeartbeats 4000000 in
theorem fx_f_X1_quarrel_j57 (F : Nat) (v5 : Int32) (v6 : Int32) (v7 : Int32) (w0 : Int32) {m : zMk} (hm : msub ([13, 14, 23, 32], []) m = true) (s : zM) : HF m s (f_X1_quarrel_j57 F v5 v6 v7 w0 s) := by
  unfold f_X1_quarrel_j57
  repeat' with_reducible first | exact hf_none | refine hf_ite (fun _ => ?_) (fun _ => ?_) | refine hf_bnd ?_ (fun _ _ _ => ?_) | refine hf_some ?_ | refine hf_lts ?_ (fun _ _ => ?_) | refine hf_ltv (fun _ => ?_) | refine hs_zs hm ?_ ?_ | refine hs_zcp hm ?_ (by decide +kernel) | refine hs_zsl ?_ | (apply HF.of; apply fx_f_X1_spell) | (apply HF.of; apply fx_f_X3_amount) | exact msub_tr (b := ([13, 14, 23, 32], [])) (by decide +kernel) hm | assumption | exact HS.rf | exact inm_r (by decide +kernel) | decide +kernel | intro _
set_option maxHeartbeats 4000000 in
theorem fx_f_X1_quarrel_j43 (F : Nat) (v1 : Int32) (v2 : Int32) (v4 : Int32) (v5 : Int32) (v6 : Int32) (w0 : Int32) {m : zMk} (hm : msub ([13, 14, 23, 32], []) m = true) (s : zM) : HF m s (f_X1_quarrel_j43 F v1 v2 v4 v5 v6 w0 s) := by
  unfold f_X1_quarrel_j43
  repeat' with_reducible first | exact hf_none | refine hf_ite (fun _ => ?_) (fun _ => ?_) | refine hf_bnd ?_ (fun _ _ _ => ?_) | refine hf_some ?_ | refine hf_lts ?_ (fun _ _ => ?_) | refine hf_ltv (fun _ => ?_) | refine hs_zs hm ?_ ?_ | refine hs_zcp hm ?_ (by decide +kernel) | refine hs_zsl ?_ | (apply HF.of; apply fx_f_X1_quarrel_j57) | exact msub_tr (b := ([13, 14, 23, 32], [])) (by decide +kernel) hm | assumption | exact HS.rf | exact inm_r (by decide +kernel) | decide +kernel | intro _
set_option maxHeartbeats 4000000 in
theorem fx_f_X1_quarrel (F : Nat) (v1 : Int32) (v2 : Int32) (v3 : Int32) (v4 : Int32) {m : zMk} (hm : msub ([13, 14, 23, 32], []) m = true) (s : zM) : HF m s (f_X1_quarrel F v1 v2 v3 v4 s) := by
  unfold f_X1_quarrel
  repeat' with_reducible first | exact hf_none | refine hf_ite (fun _ => ?_) (fun _ => ?_) | refine hf_bnd ?_ (fun _ _ _ => ?_) | refine hf_some ?_ | refine hf_lts ?_ (fun _ _ => ?_) | refine hf_ltv (fun _ => ?_) | refine hs_zs hm ?_ ?_ | refine hs_zcp hm ?_ (by decide +kernel) | refine hs_zsl ?_ | (apply HF.of; apply fx_f_X8_apart) | (apply HF.of; apply fx_f_X1_quarrel_j43) | exact msub_tr (b := ([13, 14, 23, 32], [])) (by decide +kernel) hm | assumption | exact HS.rf | exact inm_r (by decide +kernel) | decide +kernel | intro _
set_option maxHeartbeats 4000000 in
theorem fx_f_X6_total_L60 (F : Nat) (k121 : Int32 → zM → Option (Int32 × zM)) (v1 : Int32) (v3 : Int32) (v4 : Int32) {m : zMk} (hm : msub ([13, 14, 23, 32], []) m = true) (hk121 : ∀ (a0 : Int32) (s : zM), HF m s (k121 a0 s)) : ∀ (n : Nat) (w0 : Int32) (w1 : Int32) (s : zM), HF m s (f_X6_total_L60 F k121 v1 v3 v4 n w0 w1 s) := by
  intro n
  induction n with
  | zero => intros; exact hf_none
  | succ n ih =>
    intro w0 w1 s
    rw [f_X6_total_L60]
    repeat' with_reducible first | exact hf_none | refine hf_ite (fun _ => ?_) (fun _ => ?_) | refine hf_bnd ?_ (fun _ _ _ => ?_) | refine hf_some ?_ | refine hf_lts ?_ (fun _ _ => ?_) | refine hf_ltv (fun _ => ?_) | refine hs_zs hm ?_ ?_ | refine hs_zcp hm ?_ (by decide +kernel) | refine hs_zsl ?_ | (apply HF.of; apply hk121) | (apply HF.of; apply fx_f_X0_number) | (apply HF.of; apply fx_f_X0_seatOf) | (apply HF.of; apply fx_f_X1_quarrel) | (apply HF.of; apply ih) | exact msub_tr (b := ([13, 14, 23, 32], [])) (by decide +kernel) hm | assumption | exact HS.rf | exact inm_r (by decide +kernel) | decide +kernel | intro _
set_option maxHeartbeats 4000000 in
theorem fx_f_X6_total_L4 (F : Nat) (k127 : Int32 → zM → Option (Int32 × zM)) (v1 : Int32) {m : zMk} (hm : msub ([13, 14, 15, 23, 32], []) m = true) (hk127 : ∀ (a0 : Int32) (s : zM), HF m s (k127 a0 s)) : ∀ (n : Nat) (w0 : Int32) (w1 : Int32) (s : zM), HF m s (f_X6_total_L4 F k127 v1 n w0 w1 s) := by
  intro n
  induction n with
  | zero => intros; exact hf_none
  | succ n ih =>
    intro w0 w1 s
    rw [f_X6_total_L4]
    repeat' with_reducible first | exact hf_none | refine hf_ite (fun _ => ?_) (fun _ => ?_) | refine hf_bnd ?_ (fun _ _ _ => ?_) | refine hf_some ?_ | refine hf_lts ?_ (fun _ _ => ?_) | refine hf_ltv (fun _ => ?_) | refine hs_zs hm ?_ ?_ | refine hs_zcp hm ?_ (by decide +kernel) | refine hs_zsl ?_ | (apply HF.of; apply hk127) | (apply HF.of; apply fx_f_X0_number) | (apply HF.of; apply fx_f_X0_seatOf) | (apply HF.of; apply fx_f_X1_value) | (apply HF.of; apply fx_f_X6_total_L60) | (apply HF.of; apply ih) | exact msub_tr (b := ([13, 14, 15, 23, 32], [])) (by decide +kernel) hm | assumption | exact HS.rf | exact inm_r (by decide +kernel) | decide +kernel | intro _
set_option maxHeartbeats 4000000 in
theorem fx_f_X6_total (F : Nat) (v1 : Int32) {m : zMk} (hm : msub ([13, 14, 15, 23, 32], []) m = true) (s : zM) : HF m s (f_X6_total F v1 s) := by
  unfold f_X6_total
  repeat' with_reducible first | exact hf_none | refine hf_ite (fun _ => ?_) (fun _ => ?_) | refine hf_bnd ?_ (fun _ _ _ => ?_) | refine hf_some ?_ | refine hf_lts ?_ (fun _ _ => ?_) | refine hf_ltv (fun _ => ?_) | refine hs_zs hm ?_ ?_ | refine hs_zcp hm ?_ (by decide +kernel) | refine hs_zsl ?_ | (apply HF.of; apply fx_f_X6_total_L4) | exact msub_tr (b := ([13, 14, 15, 23, 32], [])) (by decide +kernel) hm | assumption | exact HS.rf | exact inm_r (by decide +kernel) | decide +kernel | intro _
set_option maxHeartbeats 4000000 in
theorem fx_f_X11_sum (F : Nat) {m : zMk} (hm : msub ([13, 14, 15, 23, 32], []) m = true) (s : zM) : HF m s (f_X11_sum F s) := by
  unfold f_X11_sum
  repeat' with_reducible first | exact hf_none | refine hf_ite (fun _ => ?_) (fun _ => ?_) | refine hf_bnd ?_ (fun _ _ _ => ?_) | refine hf_some ?_ | refine hf_lts ?_ (fun _ _ => ?_) | refine hf_ltv (fun _ => ?_) | refine hs_zs hm ?_ ?_ | refine hs_zcp hm ?_ (by decide +kernel) | refine hs_zsl ?_ | (apply HF.of; apply fx_f_X6_total) | exact msub_tr (b := ([13, 14, 15, 23, 32], [])) (by decide +kernel) hm | assumption | exact HS.rf | exact inm_r (by decide +kernel) | decide +kernel | intro _
set_option maxHeartbeats 4000000 in
theorem fx_f_J6_bitCount_0f7a4 (v0 : Int32) {m : zMk} (hm : msub ([], []) m = true) (s : zM) : HF m s (f_J6_bitCount_0f7a4 v0 s) := by
  unfold f_J6_bitCount_0f7a4
  repeat' with_reducible first | exact hf_none | refine hf_ite (fun _ => ?_) (fun _ => ?_) | refine hf_bnd ?_ (fun _ _ _ => ?_) | refine hf_some ?_ | refine hf_lts ?_ (fun _ _ => ?_) | refine hf_ltv (fun _ => ?_) | refine hs_zs hm ?_ ?_ | refine hs_zcp hm ?_ (by decide +kernel) | refine hs_zsl ?_ | exact msub_tr (b := ([], [])) (by decide +kernel) hm | assumption | exact HS.rf | exact inm_r (by decide +kernel) | decide +kernel | intro _
set_option maxHeartbeats 4000000 in
theorem fx_f_X6_canTell (v1 : Int32) (v2 : Int32) {m : zMk} (hm : msub ([], []) m = true) (s : zM) : HF m s (f_X6_canTell v1 v2 s) := by
  unfold f_X6_canTell
  repeat' with_reducible first | exact hf_none | refine hf_ite (fun _ => ?_) (fun _ => ?_) | refine hf_bnd ?_ (fun _ _ _ => ?_) | refine hf_some ?_ | refine hf_lts ?_ (fun _ _ => ?_) | refine hf_ltv (fun _ => ?_) | refine hs_zs hm ?_ ?_ | refine hs_zcp hm ?_ (by decide +kernel) | refine hs_zsl ?_ | (apply HF.of; apply fx_f_J6_bitCount_0f7a4) | (apply HF.of; apply fx_f_X0_number) | exact msub_tr (b := ([], [])) (by decide +kernel) hm | assumption | exact HS.rf | exact inm_r (by decide +kernel) | decide +kernel | intro _
set_option maxHeartbeats 4000000 in
theorem fx_f_X6_isTold (v1 : Int32) (v2 : Int32) {m : zMk} (hm : msub ([], []) m = true) (s : zM) : HF m s (f_X6_isTold v1 v2 s) := by
  unfold f_X6_isTold
  repeat' with_reducible first | exact hf_none | refine hf_ite (fun _ => ?_) (fun _ => ?_) | refine hf_bnd ?_ (fun _ _ _ => ?_) | refine hf_some ?_ | refine hf_lts ?_ (fun _ _ => ?_) | refine hf_ltv (fun _ => ?_) | refine hs_zs hm ?_ ?_ | refine hs_zcp hm ?_ (by decide +kernel) | refine hs_zsl ?_ | (apply HF.of; apply fx_f_X0_knows) | exact msub_tr (b := ([], [])) (by decide +kernel) hm | assumption | exact HS.rf | exact inm_r (by decide +kernel) | decide +kernel | intro _
set_option maxHeartbeats 4000000 in
theorem fx_f_X6_tell_L12 (F : Nat) (k80 : zM → Option (Int32 × zM)) (v1 : Int32) {m : zMk} (hm : msub ([46], [(45, 10)]) m = true) (hk80 : ∀ (s : zM), HF m s (k80 s)) : ∀ (n : Nat) (w0 : Int32) (s : zM), HF m s (f_X6_tell_L12 F k80 v1 n w0 s) := by
  intro n
  induction n with
  | zero => intros; exact hf_none
  | succ n ih =>
    intro w0 s
    rw [f_X6_tell_L12]
    repeat' with_reducible first | exact hf_none | refine hf_ite (fun _ => ?_) (fun _ => ?_) | refine hf_bnd ?_ (fun _ _ _ => ?_) | refine hf_some ?_ | refine hf_lts ?_ (fun _ _ => ?_) | refine hf_ltv (fun _ => ?_) | refine hs_zs hm ?_ ?_ | refine hs_zcp hm ?_ (by decide +kernel) | refine hs_zsl ?_ | (apply HF.of; apply hk80) | (apply HF.of; apply fx_f_X0_number) | (apply HF.of; apply fx_f_X6_isTold) | (apply HF.of; apply fx_f_X0_lives) | (apply HF.of; apply ih) | exact msub_tr (b := ([46], [(45, 10)])) (by decide +kernel) hm | assumption | exact HS.rf | exact inm_r (by decide +kernel) | decide +kernel | intro _
set_option maxHeartbeats 4000000 in
theorem fx_f_X6_insert_L2 (F : Nat) (k58 : Int32 → zM → Option (Int32 × zM)) (v2 : Int32) {m : zMk} (hm : msub ([47], []) m = true) (hk58 : ∀ (a0 : Int32) (s : zM), HF m s (k58 a0 s)) : ∀ (n : Nat) (w0 : Int32) (s : zM), HF m s (f_X6_insert_L2 F k58 v2 n w0 s) := by
  intro n
  induction n with
  | zero => intros; exact hf_none
  | succ n ih =>
    intro w0 s
    rw [f_X6_insert_L2]
    repeat' with_reducible first | exact hf_none | refine hf_ite (fun _ => ?_) (fun _ => ?_) | refine hf_bnd ?_ (fun _ _ _ => ?_) | refine hf_some ?_ | refine hf_lts ?_ (fun _ _ => ?_) | refine hf_ltv (fun _ => ?_) | refine hs_zs hm ?_ ?_ | refine hs_zcp hm ?_ (by decide +kernel) | refine hs_zsl ?_ | (apply HF.of; apply hk58) | (apply HF.of; apply ih) | exact msub_tr (b := ([47], [])) (by decide +kernel) hm | assumption | exact HS.rf | exact inm_r (by decide +kernel) | decide +kernel | intro _
set_option maxHeartbeats 4000000 in
theorem fx_f_X6_insert_j58 (F : Nat) (v2 : Int32) (v3 : Int32) {m : zMk} (hm : msub ([47], []) m = true) (s : zM) : HF m s (f_X6_insert_j58 F v2 v3 s) := by
  unfold f_X6_insert_j58
  repeat' with_reducible first | exact hf_none | refine hf_ite (fun _ => ?_) (fun _ => ?_) | refine hf_bnd ?_ (fun _ _ _ => ?_) | refine hf_some ?_ | refine hf_lts ?_ (fun _ _ => ?_) | refine hf_ltv (fun _ => ?_) | refine hs_zs hm ?_ ?_ | refine hs_zcp hm ?_ (by decide +kernel) | refine hs_zsl ?_ | exact msub_tr (b := ([47], [])) (by decide +kernel) hm | assumption | exact HS.rf | exact inm_r (by decide +kernel) | decide +kernel | intro _
set_option maxHeartbeats 4000000 in
theorem fx_f_X6_insert (F : Nat) (v1 : Int32) (v2 : Int32) {m : zMk} (hm : msub ([47], []) m = true) (s : zM) : HF m s (f_X6_insert F v1 v2 s) := by
  unfold f_X6_insert
  repeat' with_reducible first | exact hf_none | refine hf_ite (fun _ => ?_) (fun _ => ?_) | refine hf_bnd ?_ (fun _ _ _ => ?_) | refine hf_some ?_ | refine hf_lts ?_ (fun _ _ => ?_) | refine hf_ltv (fun _ => ?_) | refine hs_zs hm ?_ ?_ | refine hs_zcp hm ?_ (by decide +kernel) | refine hs_zsl ?_ | (apply HF.of; apply fx_f_X6_insert_L2) | (apply HF.of; apply fx_f_X6_insert_j58) | exact msub_tr (b := ([47], [])) (by decide +kernel) hm | assumption | exact HS.rf | exact inm_r (by decide +kernel) | decide +kernel | intro _
set_option maxHeartbeats 4000000 in
theorem fx_f_X6_tell_j132 (F : Nat) (k82 : Int32 → zM → Option (Int32 × zM)) (v1 : Int32) (v3 : Int32) (v4 : Int32) {m : zMk} (hm : msub ([47], []) m = true) (hk82 : ∀ (a0 : Int32) (s : zM), HF m s (k82 a0 s)) (s : zM) : HF m s (f_X6_tell_j132 F k82 v1 v3 v4 s) := by
  unfold f_X6_tell_j132
  repeat' with_reducible first | exact hf_none | refine hf_ite (fun _ => ?_) (fun _ => ?_) | refine hf_bnd ?_ (fun _ _ _ => ?_) | refine hf_some ?_ | refine hf_lts ?_ (fun _ _ => ?_) | refine hf_ltv (fun _ => ?_) | refine hs_zs hm ?_ ?_ | refine hs_zcp hm ?_ (by decide +kernel) | refine hs_zsl ?_ | (apply HF.of; apply hk82) | (apply HF.of; apply fx_f_X6_insert) | exact msub_tr (b := ([47], [])) (by decide +kernel) hm | assumption | exact HS.rf | exact inm_r (by decide +kernel) | decide +kernel | intro _
set_option maxHeartbeats 4000000 in
theorem fx_f_X6_tell_L82 (F : Nat) (k150 : zM → Option (Int32 × zM)) (v1 : Int32) {m : zMk} (hm : msub ([47], []) m = true) (hk150 : ∀ (s : zM), HF m s (k150 s)) : ∀ (n : Nat) (w0 : Int32) (s : zM), HF m s (f_X6_tell_L82 F k150 v1 n w0 s) := by
  intro n
  induction n with
  | zero => intros; exact hf_none
  | succ n ih =>
    intro w0 s
    rw [f_X6_tell_L82]
    repeat' with_reducible first | exact hf_none | refine hf_ite (fun _ => ?_) (fun _ => ?_) | refine hf_bnd ?_ (fun _ _ _ => ?_) | refine hf_some ?_ | refine hf_lts ?_ (fun _ _ => ?_) | refine hf_ltv (fun _ => ?_) | refine hs_zs hm ?_ ?_ | refine hs_zcp hm ?_ (by decide +kernel) | refine hs_zsl ?_ | (apply HF.of; apply hk150) | (apply HF.of; apply fx_f_X10_byteAt) | (apply HF.of; apply fx_f_X0_at) | (apply HF.of; apply fx_f_X8_isSeat) | (apply HF.of; apply fx_f_X6_tell_j132) | (apply HF.of; apply fx_f_X6_isTold) | (apply HF.of; apply ih) | exact msub_tr (b := ([47], [])) (by decide +kernel) hm | assumption | exact HS.rf | exact inm_r (by decide +kernel) | decide +kernel | intro _
set_option maxHeartbeats 4000000 in
theorem fx_f_X6_tell (F : Nat) (v1 : Int32) {m : zMk} (hm : msub ([46, 47], [(45, 10), (45, 11)]) m = true) (s : zM) : HF m s (f_X6_tell F v1 s) := by
  unfold f_X6_tell
  repeat' with_reducible first | exact hf_none | refine hf_ite (fun _ => ?_) (fun _ => ?_) | refine hf_bnd ?_ (fun _ _ _ => ?_) | refine hf_some ?_ | refine hf_lts ?_ (fun _ _ => ?_) | refine hf_ltv (fun _ => ?_) | refine hs_zs hm ?_ ?_ | refine hs_zcp hm ?_ (by decide +kernel) | refine hs_zsl ?_ | (apply HF.of; apply fx_f_X6_tell_L12) | (apply HF.of; apply fx_f_X6_tell_L82) | exact msub_tr (b := ([46, 47], [(45, 10), (45, 11)])) (by decide +kernel) hm | assumption | exact HS.rf | exact inm_r (by decide +kernel) | decide +kernel | intro _
set_option maxHeartbeats 4000000 in
theorem fx_f_X6_cost_L15 (F : Nat) (k83 : Int32 → zM → Option (Int32 × zM)) (v1 : Int32) (v2 : Int32) (v3 : Int32) {m : zMk} (hm : msub ([13, 14, 23, 32], []) m = true) (hk83 : ∀ (a0 : Int32) (s : zM), HF m s (k83 a0 s)) : ∀ (n : Nat) (w0 : Int32) (w1 : Int32) (s : zM), HF m s (f_X6_cost_L15 F k83 v1 v2 v3 n w0 w1 s) := by
  intro n
  induction n with
  | zero => intros; exact hf_none
  | succ n ih =>
    intro w0 w1 s
    rw [f_X6_cost_L15]
    repeat' with_reducible first | exact hf_none | refine hf_ite (fun _ => ?_) (fun _ => ?_) | refine hf_bnd ?_ (fun _ _ _ => ?_) | refine hf_some ?_ | refine hf_lts ?_ (fun _ _ => ?_) | refine hf_ltv (fun _ => ?_) | refine hs_zs hm ?_ ?_ | refine hs_zcp hm ?_ (by decide +kernel) | refine hs_zsl ?_ | (apply HF.of; apply hk83) | (apply HF.of; apply fx_f_X0_number) | (apply HF.of; apply fx_f_X0_seatOf) | (apply HF.of; apply fx_f_X1_quarrel) | (apply HF.of; apply ih) | exact msub_tr (b := ([13, 14, 23, 32], [])) (by decide +kernel) hm | assumption | exact HS.rf | exact inm_r (by decide +kernel) | decide +kernel | intro _
set_option maxHeartbeats 4000000 in
theorem fx_f_X6_cost (F : Nat) (v1 : Int32) (v2 : Int32) (v3 : Int32) {m : zMk} (hm : msub ([13, 14, 15, 23, 32], []) m = true) (s : zM) : HF m s (f_X6_cost F v1 v2 v3 s) := by
  unfold f_X6_cost
  repeat' with_reducible first | exact hf_none | refine hf_ite (fun _ => ?_) (fun _ => ?_) | refine hf_bnd ?_ (fun _ _ _ => ?_) | refine hf_some ?_ | refine hf_lts ?_ (fun _ _ => ?_) | refine hf_ltv (fun _ => ?_) | refine hs_zs hm ?_ ?_ | refine hs_zcp hm ?_ (by decide +kernel) | refine hs_zsl ?_ | (apply HF.of; apply fx_f_X1_value) | (apply HF.of; apply fx_f_X6_cost_L15) | exact msub_tr (b := ([13, 14, 15, 23, 32], [])) (by decide +kernel) hm | assumption | exact HS.rf | exact inm_r (by decide +kernel) | decide +kernel | intro _
set_option maxHeartbeats 4000000 in
theorem fx_f_X6_seatBest_L18 (F : Nat) (D : Nat) (k69 : zM → Option (Int32 × zM)) (v1 : Int32) {m : zMk} (hm : msub ([13, 14, 15, 23, 32, 48], []) m = true) (hk69 : ∀ (s : zM), HF m s (k69 s)) : ∀ (n : Nat) (w0 : Int32) (s : zM), HF m s (f_X6_seatBest_L18 F D k69 v1 n w0 s) := by
  intro n
  induction n with
  | zero => intros; exact hf_none
  | succ n ih =>
    intro w0 s
    rw [f_X6_seatBest_L18]
    repeat' with_reducible first | exact hf_none | refine hf_ite (fun _ => ?_) (fun _ => ?_) | refine hf_bnd ?_ (fun _ _ _ => ?_) | refine hf_some ?_ | refine hf_lts ?_ (fun _ _ => ?_) | refine hf_ltv (fun _ => ?_) | refine hs_zs hm ?_ ?_ | refine hs_zcp hm ?_ (by decide +kernel) | refine hs_zsl ?_ | (apply HF.of; apply hk69) | (apply HF.of; apply fx_f_X6_cost) | (apply HF.of; apply ih) | exact msub_tr (b := ([13, 14, 15, 23, 32, 48], [])) (by decide +kernel) hm | assumption | exact HS.rf | exact inm_r (by decide +kernel) | decide +kernel | intro _
set_option maxHeartbeats 4000000 in
theorem fx_f_X6_seatBest_L2 (F : Nat) (D : Nat) (k75 : zM → Option (Int32 × zM)) {m : zMk} (hm : msub ([13, 14, 15, 23, 32, 48], []) m = true) (hk75 : ∀ (s : zM), HF m s (k75 s)) : ∀ (n : Nat) (w0 : Int32) (s : zM), HF m s (f_X6_seatBest_L2 F D k75 n w0 s) := by
  intro n
  induction n with
  | zero => intros; exact hf_none
  | succ n ih =>
    intro w0 s
    rw [f_X6_seatBest_L2]
    repeat' with_reducible first | exact hf_none | refine hf_ite (fun _ => ?_) (fun _ => ?_) | refine hf_bnd ?_ (fun _ _ _ => ?_) | refine hf_some ?_ | refine hf_lts ?_ (fun _ _ => ?_) | refine hf_ltv (fun _ => ?_) | refine hs_zs hm ?_ ?_ | refine hs_zcp hm ?_ (by decide +kernel) | refine hs_zsl ?_ | (apply HF.of; apply hk75) | (apply HF.of; apply fx_f_X6_seatBest_L18) | (apply HF.of; apply ih) | exact msub_tr (b := ([13, 14, 15, 23, 32, 48], [])) (by decide +kernel) hm | assumption | exact HS.rf | exact inm_r (by decide +kernel) | decide +kernel | intro _
set_option maxHeartbeats 4000000 in
theorem fx_f_X6_noteIfLess_j15 (v1 : Int32) {m : zMk} (hm : msub ([50], [(45, 12), (45, 13)]) m = true) (s : zM) : HF m s (f_X6_noteIfLess_j15 v1 s) := by
  unfold f_X6_noteIfLess_j15
  repeat' with_reducible first | exact hf_none | refine hf_ite (fun _ => ?_) (fun _ => ?_) | refine hf_bnd ?_ (fun _ _ _ => ?_) | refine hf_some ?_ | refine hf_lts ?_ (fun _ _ => ?_) | refine hf_ltv (fun _ => ?_) | refine hs_zs hm ?_ ?_ | refine hs_zcp hm ?_ (by decide +kernel) | refine hs_zsl ?_ | exact msub_tr (b := ([50], [(45, 12), (45, 13)])) (by decide +kernel) hm | assumption | exact HS.rf | exact inm_r (by decide +kernel) | decide +kernel | intro _
set_option maxHeartbeats 4000000 in
theorem fx_f_X6_noteIfLess (v1 : Int32) {m : zMk} (hm : msub ([50], [(45, 12), (45, 13)]) m = true) (s : zM) : HF m s (f_X6_noteIfLess v1 s) := by
  unfold f_X6_noteIfLess
  repeat' with_reducible first | exact hf_none | refine hf_ite (fun _ => ?_) (fun _ => ?_) | refine hf_bnd ?_ (fun _ _ _ => ?_) | refine hf_some ?_ | refine hf_lts ?_ (fun _ _ => ?_) | refine hf_ltv (fun _ => ?_) | refine hs_zs hm ?_ ?_ | refine hs_zcp hm ?_ (by decide +kernel) | refine hs_zsl ?_ | (apply HF.of; apply fx_f_X6_noteIfLess_j15) | exact msub_tr (b := ([50], [(45, 12), (45, 13)])) (by decide +kernel) hm | assumption | exact HS.rf | exact inm_r (by decide +kernel) | decide +kernel | intro _
set_option maxHeartbeats 4000000 in
theorem fx_f_X6_seatOthers_L6 (F : Nat) (rec : Int32 → Int32 → Int32 → zM → Option (Unit × zM)) (k62 : Int32 → zM → Option (Unit × zM)) (v1 : Int32) (v3 : Int32) {m : zMk} (hm : msub ([13, 14, 23, 32], []) m = true) (hrec : ∀ (a0 : Int32) (a1 : Int32) (a2 : Int32) (s : zM), HF m s (rec a0 a1 a2 s)) (hk62 : ∀ (a0 : Int32) (s : zM), HF m s (k62 a0 s)) : ∀ (n : Nat) (w0 : Int32) (w1 : Int32) (s : zM), HF m s (f_X6_seatOthers_L6 F rec k62 v1 v3 n w0 w1 s) := by
  intro n
  induction n with
  | zero => intros; exact hf_none
  | succ n ih =>
    intro w0 w1 s
    rw [f_X6_seatOthers_L6]
    repeat' with_reducible first | exact hf_none | refine hf_ite (fun _ => ?_) (fun _ => ?_) | refine hf_bnd ?_ (fun _ _ _ => ?_) | refine hf_some ?_ | refine hf_lts ?_ (fun _ _ => ?_) | refine hf_ltv (fun _ => ?_) | refine hs_zs hm ?_ ?_ | refine hs_zcp hm ?_ (by decide +kernel) | refine hs_zsl ?_ | (apply HF.of; apply hrec) | (apply HF.of; apply hk62) | (apply HF.of; apply fx_f_X1_quarrel) | (apply HF.of; apply ih) | exact msub_tr (b := ([13, 14, 23, 32], [])) (by decide +kernel) hm | assumption | exact HS.rf | exact inm_r (by decide +kernel) | decide +kernel | intro _
set_option maxHeartbeats 4000000 in
theorem fx_b_X6_seatOthers (F : Nat) (rec : Int32 → Int32 → Int32 → zM → Option (Unit × zM)) (v1 : Int32) (v2 : Int32) (v3 : Int32) {m : zMk} (hm : msub ([13, 14, 23, 32], []) m = true) (hrec : ∀ (a0 : Int32) (a1 : Int32) (a2 : Int32) (s : zM), HF m s (rec a0 a1 a2 s)) (s : zM) : HF m s (b_X6_seatOthers F rec v1 v2 v3 s) := by
  unfold b_X6_seatOthers
  repeat' with_reducible first | exact hf_none | refine hf_ite (fun _ => ?_) (fun _ => ?_) | refine hf_bnd ?_ (fun _ _ _ => ?_) | refine hf_some ?_ | refine hf_lts ?_ (fun _ _ => ?_) | refine hf_ltv (fun _ => ?_) | refine hs_zs hm ?_ ?_ | refine hs_zcp hm ?_ (by decide +kernel) | refine hs_zsl ?_ | (apply HF.of; apply hrec) | (apply HF.of; apply fx_f_X6_seatOthers_L6) | exact msub_tr (b := ([13, 14, 23, 32], [])) (by decide +kernel) hm | assumption | exact HS.rf | exact inm_r (by decide +kernel) | decide +kernel | intro _
set_option maxHeartbeats 4000000 in
theorem fx_f_X6_choose_L27 (F : Nat) (rec : Int32 → Int32 → Int32 → zM → Option (Unit × zM)) (k96 : zM → Option (Unit × zM)) (v1 : Int32) (v2 : Int32) (v3 : Int32) {m : zMk} (hm : msub ([13, 14, 23, 32, 49], []) m = true) (hrec : ∀ (a0 : Int32) (a1 : Int32) (a2 : Int32) (s : zM), HF m s (rec a0 a1 a2 s)) (hk96 : ∀ (s : zM), HF m s (k96 s)) : ∀ (n : Nat) (w0 : Int32) (s : zM), HF m s (f_X6_choose_L27 F rec k96 v1 v2 v3 n w0 s) := by
  intro n
  induction n with
  | zero => intros; exact hf_none
  | succ n ih =>
    intro w0 s
    rw [f_X6_choose_L27]
    repeat' with_reducible first | exact hf_none | refine hf_ite (fun _ => ?_) (fun _ => ?_) | refine hf_bnd ?_ (fun _ _ _ => ?_) | refine hf_some ?_ | refine hf_lts ?_ (fun _ _ => ?_) | refine hf_ltv (fun _ => ?_) | refine hs_zs hm ?_ ?_ | refine hs_zcp hm ?_ (by decide +kernel) | refine hs_zsl ?_ | (apply HF.of; apply hrec) | (apply HF.of; apply hk96) | (apply HF.of; apply fx_b_X6_seatOthers) | (apply HF.of; apply ih) | exact msub_tr (b := ([13, 14, 23, 32, 49], [])) (by decide +kernel) hm | assumption | exact HS.rf | exact inm_r (by decide +kernel) | decide +kernel | intro _
set_option maxHeartbeats 4000000 in
theorem fx_b_X6_choose (F : Nat) (rec : Int32 → Int32 → Int32 → zM → Option (Unit × zM)) (v1 : Int32) (v2 : Int32) (v3 : Int32) {m : zMk} (hm : msub ([13, 14, 23, 32, 49, 50], [(45, 12), (45, 13)]) m = true) (hrec : ∀ (a0 : Int32) (a1 : Int32) (a2 : Int32) (s : zM), HF m s (rec a0 a1 a2 s)) (s : zM) : HF m s (b_X6_choose F rec v1 v2 v3 s) := by
  unfold b_X6_choose
  repeat' with_reducible first | exact hf_none | refine hf_ite (fun _ => ?_) (fun _ => ?_) | refine hf_bnd ?_ (fun _ _ _ => ?_) | refine hf_some ?_ | refine hf_lts ?_ (fun _ _ => ?_) | refine hf_ltv (fun _ => ?_) | refine hs_zs hm ?_ ?_ | refine hs_zcp hm ?_ (by decide +kernel) | refine hs_zsl ?_ | (apply HF.of; apply hrec) | (apply HF.of; apply fx_f_X6_noteIfLess) | (apply HF.of; apply fx_f_X6_choose_L27) | exact msub_tr (b := ([13, 14, 23, 32, 49, 50], [(45, 12), (45, 13)])) (by decide +kernel) hm | assumption | exact HS.rf | exact inm_r (by decide +kernel) | decide +kernel | intro _
set_option maxHeartbeats 4000000 in
theorem fx_f_X6_choose (F : Nat) {m : zMk} (hm : msub ([13, 14, 23, 32, 49, 50], [(45, 12), (45, 13)]) m = true) : ∀ (n : Nat) (w0 : Int32) (w1 : Int32) (w2 : Int32) (s : zM), HF m s (f_X6_choose F n w0 w1 w2 s) := by
  intro n
  induction n with
  | zero => intros; exact hf_none
  | succ n ih =>
    intro w0 w1 w2 s
    rw [f_X6_choose]
    repeat' with_reducible first | exact hf_none | refine hf_ite (fun _ => ?_) (fun _ => ?_) | refine hf_bnd ?_ (fun _ _ _ => ?_) | refine hf_some ?_ | refine hf_lts ?_ (fun _ _ => ?_) | refine hf_ltv (fun _ => ?_) | refine hs_zs hm ?_ ?_ | refine hs_zcp hm ?_ (by decide +kernel) | refine hs_zsl ?_ | (apply HF.of; apply fx_b_X6_choose) | (apply HF.of; apply ih) | exact msub_tr (b := ([13, 14, 23, 32, 49, 50], [(45, 12), (45, 13)])) (by decide +kernel) hm | assumption | exact HS.rf | exact inm_r (by decide +kernel) | decide +kernel | intro _
set_option maxHeartbeats 4000000 in
theorem fx_f_X6_seatBest_j75 (F : Nat) (D : Nat) {m : zMk} (hm : msub ([13, 14, 15, 23, 32, 49, 50], [(45, 12), (45, 13)]) m = true) (s : zM) : HF m s (f_X6_seatBest_j75 F D s) := by
  unfold f_X6_seatBest_j75
  repeat' with_reducible first | exact hf_none | refine hf_ite (fun _ => ?_) (fun _ => ?_) | refine hf_bnd ?_ (fun _ _ _ => ?_) | refine hf_some ?_ | refine hf_lts ?_ (fun _ _ => ?_) | refine hf_ltv (fun _ => ?_) | refine hs_zs hm ?_ ?_ | refine hs_zcp hm ?_ (by decide +kernel) | refine hs_zsl ?_ | (apply HF.of; apply fx_f_X6_choose) | (apply HF.of; apply fx_f_X6_total) | exact msub_tr (b := ([13, 14, 15, 23, 32, 49, 50], [(45, 12), (45, 13)])) (by decide +kernel) hm | assumption | exact HS.rf | exact inm_r (by decide +kernel) | decide +kernel | intro _
set_option maxHeartbeats 4000000 in
theorem fx_f_X6_seatBest (F : Nat) (D : Nat) {m : zMk} (hm : msub ([13, 14, 15, 23, 32, 48, 49, 50], [(45, 12), (45, 13)]) m = true) (s : zM) : HF m s (f_X6_seatBest F D s) := by
  unfold f_X6_seatBest
  repeat' with_reducible first | exact hf_none | refine hf_ite (fun _ => ?_) (fun _ => ?_) | refine hf_bnd ?_ (fun _ _ _ => ?_) | refine hf_some ?_ | refine hf_lts ?_ (fun _ _ => ?_) | refine hf_ltv (fun _ => ?_) | refine hs_zs hm ?_ ?_ | refine hs_zcp hm ?_ (by decide +kernel) | refine hs_zsl ?_ | (apply HF.of; apply fx_f_X6_seatBest_L2) | (apply HF.of; apply fx_f_X6_seatBest_j75) | exact msub_tr (b := ([13, 14, 15, 23, 32, 48, 49, 50], [(45, 12), (45, 13)])) (by decide +kernel) hm | assumption | exact HS.rf | exact inm_r (by decide +kernel) | decide +kernel | intro _
set_option maxHeartbeats 4000000 in
theorem fx_f_X6_moveAll_L2 (F : Nat) (k36 : zM → Option (Unit × zM)) {m : zMk} (hm : msub ([6, 9], []) m = true) (hk36 : ∀ (s : zM), HF m s (k36 s)) : ∀ (n : Nat) (w0 : Int32) (s : zM), HF m s (f_X6_moveAll_L2 F k36 n w0 s) := by
  intro n
  induction n with
  | zero => intros; exact hf_none
  | succ n ih =>
    intro w0 s
    rw [f_X6_moveAll_L2]
    repeat' with_reducible first | exact hf_none | refine hf_ite (fun _ => ?_) (fun _ => ?_) | refine hf_bnd ?_ (fun _ _ _ => ?_) | refine hf_some ?_ | refine hf_lts ?_ (fun _ _ => ?_) | refine hf_ltv (fun _ => ?_) | refine hs_zs hm ?_ ?_ | refine hs_zcp hm ?_ (by decide +kernel) | refine hs_zsl ?_ | (apply HF.of; apply hk36) | (apply HF.of; apply fx_f_X0_place) | (apply HF.of; apply ih) | exact msub_tr (b := ([6, 9], [])) (by decide +kernel) hm | assumption | exact HS.rf | exact inm_r (by decide +kernel) | decide +kernel | intro _
set_option maxHeartbeats 4000000 in
theorem fx_f_X6_moveAll_L38 (F : Nat) (k77 : zM → Option (Unit × zM)) {m : zMk} (hm : msub ([6, 9], []) m = true) (hk77 : ∀ (s : zM), HF m s (k77 s)) : ∀ (n : Nat) (w0 : Int32) (s : zM), HF m s (f_X6_moveAll_L38 F k77 n w0 s) := by
  intro n
  induction n with
  | zero => intros; exact hf_none
  | succ n ih =>
    intro w0 s
    rw [f_X6_moveAll_L38]
    repeat' with_reducible first | exact hf_none | refine hf_ite (fun _ => ?_) (fun _ => ?_) | refine hf_bnd ?_ (fun _ _ _ => ?_) | refine hf_some ?_ | refine hf_lts ?_ (fun _ _ => ?_) | refine hf_ltv (fun _ => ?_) | refine hs_zs hm ?_ ?_ | refine hs_zcp hm ?_ (by decide +kernel) | refine hs_zsl ?_ | (apply HF.of; apply hk77) | (apply HF.of; apply fx_f_X0_place) | (apply HF.of; apply ih) | exact msub_tr (b := ([6, 9], [])) (by decide +kernel) hm | assumption | exact HS.rf | exact inm_r (by decide +kernel) | decide +kernel | intro _
set_option maxHeartbeats 4000000 in
theorem fx_f_X6_moveAll (F : Nat) {m : zMk} (hm : msub ([6, 9], []) m = true) (s : zM) : HF m s (f_X6_moveAll F s) := by
  unfold f_X6_moveAll
  repeat' with_reducible first | exact hf_none | refine hf_ite (fun _ => ?_) (fun _ => ?_) | refine hf_bnd ?_ (fun _ _ _ => ?_) | refine hf_some ?_ | refine hf_lts ?_ (fun _ _ => ?_) | refine hf_ltv (fun _ => ?_) | refine hs_zs hm ?_ ?_ | refine hs_zcp hm ?_ (by decide +kernel) | refine hs_zsl ?_ | (apply HF.of; apply fx_f_X6_moveAll_L2) | (apply HF.of; apply fx_f_X6_moveAll_L38) | exact msub_tr (b := ([6, 9], [])) (by decide +kernel) hm | assumption | exact HS.rf | exact inm_r (by decide +kernel) | decide +kernel | intro _
set_option maxHeartbeats 4000000 in
theorem fx_f_X6_seatFor_L2 (F : Nat) (k39 : zM → Option (Int32 × zM)) (v1 : Int32) {m : zMk} (hm : msub ([], []) m = true) (hk39 : ∀ (s : zM), HF m s (k39 s)) : ∀ (n : Nat) (w0 : Int32) (s : zM), HF m s (f_X6_seatFor_L2 F k39 v1 n w0 s) := by
  intro n
  induction n with
  | zero => intros; exact hf_none
  | succ n ih =>
    intro w0 s
    rw [f_X6_seatFor_L2]
    repeat' with_reducible first | exact hf_none | refine hf_ite (fun _ => ?_) (fun _ => ?_) | refine hf_bnd ?_ (fun _ _ _ => ?_) | refine hf_some ?_ | refine hf_lts ?_ (fun _ _ => ?_) | refine hf_ltv (fun _ => ?_) | refine hs_zs hm ?_ ?_ | refine hs_zcp hm ?_ (by decide +kernel) | refine hs_zsl ?_ | (apply HF.of; apply hk39) | (apply HF.of; apply ih) | exact msub_tr (b := ([], [])) (by decide +kernel) hm | assumption | exact HS.rf | exact inm_r (by decide +kernel) | decide +kernel | intro _
set_option maxHeartbeats 4000000 in
theorem fx_f_X6_seatFor (F : Nat) (v1 : Int32) {m : zMk} (hm : msub ([], []) m = true) (s : zM) : HF m s (f_X6_seatFor F v1 s) := by
  unfold f_X6_seatFor
  repeat' with_reducible first | exact hf_none | refine hf_ite (fun _ => ?_) (fun _ => ?_) | refine hf_bnd ?_ (fun _ _ _ => ?_) | refine hf_some ?_ | refine hf_lts ?_ (fun _ _ => ?_) | refine hf_ltv (fun _ => ?_) | refine hs_zs hm ?_ ?_ | refine hs_zcp hm ?_ (by decide +kernel) | refine hs_zsl ?_ | (apply HF.of; apply fx_f_X6_seatFor_L2) | exact msub_tr (b := ([], [])) (by decide +kernel) hm | assumption | exact HS.rf | exact inm_r (by decide +kernel) | decide +kernel | intro _
set_option maxHeartbeats 4000000 in
theorem fx_f_X11_seating_j103 (F : Nat) (D : Nat) (v3 : Int32) (v5 : Int32) {m : zMk} (hm : msub ([], []) m = true) (s : zM) : HF m s (f_X11_seating_j103 F D v3 v5 s) := by
  unfold f_X11_seating_j103
  repeat' with_reducible first | exact hf_none | refine hf_ite (fun _ => ?_) (fun _ => ?_) | refine hf_bnd ?_ (fun _ _ _ => ?_) | refine hf_some ?_ | refine hf_lts ?_ (fun _ _ => ?_) | refine hf_ltv (fun _ => ?_) | refine hs_zs hm ?_ ?_ | refine hs_zcp hm ?_ (by decide +kernel) | refine hs_zsl ?_ | (apply HF.of; apply fx_f_X6_seatFor) | exact msub_tr (b := ([], [])) (by decide +kernel) hm | assumption | exact HS.rf | exact inm_r (by decide +kernel) | decide +kernel | intro _
set_option maxHeartbeats 4000000 in
theorem fx_f_X11_seating_j52 (F : Nat) (D : Nat) (v1 : Int32) (v3 : Int32) {m : zMk} (hm : msub ([6, 9, 13, 14, 15, 23, 32, 46, 47, 48, 49, 50], [(1, 1), (45, 10), (45, 11), (45, 12), (45, 13)]) m = true) (s : zM) : HF m s (f_X11_seating_j52 F D v1 v3 s) := by
  unfold f_X11_seating_j52
  repeat' with_reducible first | exact hf_none | refine hf_ite (fun _ => ?_) (fun _ => ?_) | refine hf_bnd ?_ (fun _ _ _ => ?_) | refine hf_some ?_ | refine hf_lts ?_ (fun _ _ => ?_) | refine hf_ltv (fun _ => ?_) | refine hs_zs hm ?_ ?_ | refine hs_zcp hm ?_ (by decide +kernel) | refine hs_zsl ?_ | (apply HF.of; apply fx_f_X6_tell) | (apply HF.of; apply fx_f_X10_clear) | (apply HF.of; apply fx_f_X6_seatBest) | (apply HF.of; apply fx_f_X6_moveAll) | (apply HF.of; apply fx_f_X11_seating_j103) | exact msub_tr (b := ([6, 9, 13, 14, 15, 23, 32, 46, 47, 48, 49, 50], [(1, 1), (45, 10), (45, 11), (45, 12), (45, 13)])) (by decide +kernel) hm | assumption | exact HS.rf | exact inm_r (by decide +kernel) | decide +kernel | intro _
set_option maxHeartbeats 4000000 in
theorem fx_f_X11_seating (F : Nat) (D : Nat) (v1 : Int32) (v2 : Int32) (v3 : Int32) {m : zMk} (hm : msub ([6, 9, 13, 14, 15, 23, 32, 46, 47, 48, 49, 50], [(1, 1), (45, 10), (45, 11), (45, 12), (45, 13)]) m = true) (s : zM) : HF m s (f_X11_seating F D v1 v2 v3 s) := by
  unfold f_X11_seating
  repeat' with_reducible first | exact hf_none | refine hf_ite (fun _ => ?_) (fun _ => ?_) | refine hf_bnd ?_ (fun _ _ _ => ?_) | refine hf_some ?_ | refine hf_lts ?_ (fun _ _ => ?_) | refine hf_ltv (fun _ => ?_) | refine hs_zs hm ?_ ?_ | refine hs_zcp hm ?_ (by decide +kernel) | refine hs_zsl ?_ | (apply HF.of; apply fx_f_X6_canTell) | (apply HF.of; apply fx_f_X10_length) | (apply HF.of; apply fx_f_X11_seating_j52) | (apply HF.of; apply fx_f_X6_isTold) | exact msub_tr (b := ([6, 9, 13, 14, 15, 23, 32, 46, 47, 48, 49, 50], [(1, 1), (45, 10), (45, 11), (45, 12), (45, 13)])) (by decide +kernel) hm | assumption | exact HS.rf | exact inm_r (by decide +kernel) | decide +kernel | intro _
set_option maxHeartbeats 4000000 in
theorem fx_f_X6_find_j140 (F : Nat) (k70 : Int32 → zM → Option (Int32 × zM)) (v1 : Int32) (v2 : Int32) (v3 : Int32) (v4 : Int32) (v5 : Int32) (v7 : Int32) {m : zMk} (hm : msub ([], [(45, 2), (45, 3), (45, 4)]) m = true) (hk70 : ∀ (a0 : Int32) (s : zM), HF m s (k70 a0 s)) (s : zM) : HF m s (f_X6_find_j140 F k70 v1 v2 v3 v4 v5 v7 s) := by
  unfold f_X6_find_j140
  repeat' with_reducible first | exact hf_none | refine hf_ite (fun _ => ?_) (fun _ => ?_) | refine hf_bnd ?_ (fun _ _ _ => ?_) | refine hf_some ?_ | refine hf_lts ?_ (fun _ _ => ?_) | refine hf_ltv (fun _ => ?_) | refine hs_zs hm ?_ ?_ | refine hs_zcp hm ?_ (by decide +kernel) | refine hs_zsl ?_ | (apply HF.of; apply hk70) | exact msub_tr (b := ([], [(45, 2), (45, 3), (45, 4)])) (by decide +kernel) hm | assumption | exact HS.rf | exact inm_r (by decide +kernel) | decide +kernel | intro _
set_option maxHeartbeats 4000000 in
theorem fx_f_X6_change (F : Nat) (v1 : Int32) (v2 : Int32) (v3 : Int32) {m : zMk} (hm : msub ([13, 14, 15, 23, 32], []) m = true) (s : zM) : HF m s (f_X6_change F v1 v2 v3 s) := by
  unfold f_X6_change
  repeat' with_reducible first | exact hf_none | refine hf_ite (fun _ => ?_) (fun _ => ?_) | refine hf_bnd ?_ (fun _ _ _ => ?_) | refine hf_some ?_ | refine hf_lts ?_ (fun _ _ => ?_) | refine hf_ltv (fun _ => ?_) | refine hs_zs hm ?_ ?_ | refine hs_zcp hm ?_ (by decide +kernel) | refine hs_zsl ?_ | (apply HF.of; apply fx_f_X0_seatOf) | (apply HF.of; apply fx_f_X6_cost) | (apply HF.of; apply fx_f_X1_quarrel) | exact msub_tr (b := ([13, 14, 15, 23, 32], [])) (by decide +kernel) hm | assumption | exact HS.rf | exact inm_r (by decide +kernel) | decide +kernel | intro _
set_option maxHeartbeats 4000000 in
theorem fx_f_X6_find_L70 (F : Nat) (k172 : zM → Option (Int32 × zM)) (v1 : Int32) (v2 : Int32) (v3 : Int32) (v4 : Int32) {m : zMk} (hm : msub ([13, 14, 15, 23, 32], [(45, 2), (45, 3), (45, 4)]) m = true) (hk172 : ∀ (s : zM), HF m s (k172 s)) : ∀ (n : Nat) (w0 : Int32) (s : zM), HF m s (f_X6_find_L70 F k172 v1 v2 v3 v4 n w0 s) := by
  intro n
  induction n with
  | zero => intros; exact hf_none
  | succ n ih =>
    intro w0 s
    rw [f_X6_find_L70]
    repeat' with_reducible first | exact hf_none | refine hf_ite (fun _ => ?_) (fun _ => ?_) | refine hf_bnd ?_ (fun _ _ _ => ?_) | refine hf_some ?_ | refine hf_lts ?_ (fun _ _ => ?_) | refine hf_ltv (fun _ => ?_) | refine hs_zs hm ?_ ?_ | refine hs_zcp hm ?_ (by decide +kernel) | refine hs_zsl ?_ | (apply HF.of; apply hk172) | (apply HF.of; apply fx_f_X0_at) | (apply HF.of; apply fx_f_X6_cost) | (apply HF.of; apply fx_f_X6_find_j140) | (apply HF.of; apply fx_f_X6_change) | (apply HF.of; apply ih) | exact msub_tr (b := ([13, 14, 15, 23, 32], [(45, 2), (45, 3), (45, 4)])) (by decide +kernel) hm | assumption | exact HS.rf | exact inm_r (by decide +kernel) | decide +kernel | intro _
set_option maxHeartbeats 4000000 in
theorem fx_f_X6_find_L23 (F : Nat) (k178 : zM → Option (Int32 × zM)) (v1 : Int32) {m : zMk} (hm : msub ([13, 14, 15, 23, 32], [(45, 2), (45, 3), (45, 4)]) m = true) (hk178 : ∀ (s : zM), HF m s (k178 s)) : ∀ (n : Nat) (w0 : Int32) (s : zM), HF m s (f_X6_find_L23 F k178 v1 n w0 s) := by
  intro n
  induction n with
  | zero => intros; exact hf_none
  | succ n ih =>
    intro w0 s
    rw [f_X6_find_L23]
    repeat' with_reducible first | exact hf_none | refine hf_ite (fun _ => ?_) (fun _ => ?_) | refine hf_bnd ?_ (fun _ _ _ => ?_) | refine hf_some ?_ | refine hf_lts ?_ (fun _ _ => ?_) | refine hf_ltv (fun _ => ?_) | refine hs_zs hm ?_ ?_ | refine hs_zcp hm ?_ (by decide +kernel) | refine hs_zsl ?_ | (apply HF.of; apply hk178) | (apply HF.of; apply fx_f_X0_number) | (apply HF.of; apply fx_f_X0_sits) | (apply HF.of; apply fx_f_X6_find_L70) | (apply HF.of; apply fx_f_X0_seatOf) | (apply HF.of; apply fx_f_X6_cost) | (apply HF.of; apply ih) | exact msub_tr (b := ([13, 14, 15, 23, 32], [(45, 2), (45, 3), (45, 4)])) (by decide +kernel) hm | assumption | exact HS.rf | exact inm_r (by decide +kernel) | decide +kernel | intro _
set_option maxHeartbeats 4000000 in
theorem fx_f_X6_find (F : Nat) {m : zMk} (hm : msub ([13, 14, 15, 23, 32], [(45, 2), (45, 3), (45, 4)]) m = true) (s : zM) : HF m s (f_X6_find F s) := by
  unfold f_X6_find
  repeat' with_reducible first | exact hf_none | refine hf_ite (fun _ => ?_) (fun _ => ?_) | refine hf_bnd ?_ (fun _ _ _ => ?_) | refine hf_some ?_ | refine hf_lts ?_ (fun _ _ => ?_) | refine hf_ltv (fun _ => ?_) | refine hs_zs hm ?_ ?_ | refine hs_zcp hm ?_ (by decide +kernel) | refine hs_zsl ?_ | (apply HF.of; apply fx_f_X6_total) | (apply HF.of; apply fx_f_X6_find_L23) | exact msub_tr (b := ([13, 14, 15, 23, 32], [(45, 2), (45, 3), (45, 4)])) (by decide +kernel) hm | assumption | exact HS.rf | exact inm_r (by decide +kernel) | decide +kernel | intro _
set_option maxHeartbeats 4000000 in
theorem fx_f_X6_sumThen  {m : zMk} (hm : msub ([], []) m = true) (s : zM) : HF m s (f_X6_sumThen s) := by
  unfold f_X6_sumThen
  repeat' with_reducible first | exact hf_none | refine hf_ite (fun _ => ?_) (fun _ => ?_) | refine hf_bnd ?_ (fun _ _ _ => ?_) | refine hf_some ?_ | refine hf_lts ?_ (fun _ _ => ?_) | refine hf_ltv (fun _ => ?_) | refine hs_zs hm ?_ ?_ | refine hs_zcp hm ?_ (by decide +kernel) | refine hs_zsl ?_ | exact msub_tr (b := ([], [])) (by decide +kernel) hm | assumption | exact HS.rf | exact inm_r (by decide +kernel) | decide +kernel | intro _
set_option maxHeartbeats 4000000 in
theorem fx_f_X6_guestToMove  {m : zMk} (hm : msub ([], []) m = true) (s : zM) : HF m s (f_X6_guestToMove s) := by
  unfold f_X6_guestToMove
  repeat' with_reducible first | exact hf_none | refine hf_ite (fun _ => ?_) (fun _ => ?_) | refine hf_bnd ?_ (fun _ _ _ => ?_) | refine hf_some ?_ | refine hf_lts ?_ (fun _ _ => ?_) | refine hf_ltv (fun _ => ?_) | refine hs_zs hm ?_ ?_ | refine hs_zcp hm ?_ (by decide +kernel) | refine hs_zsl ?_ | exact msub_tr (b := ([], [])) (by decide +kernel) hm | assumption | exact HS.rf | exact inm_r (by decide +kernel) | decide +kernel | intro _
set_option maxHeartbeats 4000000 in
theorem fx_f_X6_seatToTake  {m : zMk} (hm : msub ([], []) m = true) (s : zM) : HF m s (f_X6_seatToTake s) := by
  unfold f_X6_seatToTake
  repeat' with_reducible first | exact hf_none | refine hf_ite (fun _ => ?_) (fun _ => ?_) | refine hf_bnd ?_ (fun _ _ _ => ?_) | refine hf_some ?_ | refine hf_lts ?_ (fun _ _ => ?_) | refine hf_ltv (fun _ => ?_) | refine hs_zs hm ?_ ?_ | refine hs_zcp hm ?_ (by decide +kernel) | refine hs_zsl ?_ | exact msub_tr (b := ([], [])) (by decide +kernel) hm | assumption | exact HS.rf | exact inm_r (by decide +kernel) | decide +kernel | intro _
set_option maxHeartbeats 4000000 in
theorem fx_f_X11_exchange (F : Nat) (v1 : Int32) {m : zMk} (hm : msub ([13, 14, 15, 23, 32], [(45, 2), (45, 3), (45, 4)]) m = true) (s : zM) : HF m s (f_X11_exchange F v1 s) := by
  unfold f_X11_exchange
  repeat' with_reducible first | exact hf_none | refine hf_ite (fun _ => ?_) (fun _ => ?_) | refine hf_bnd ?_ (fun _ _ _ => ?_) | refine hf_some ?_ | refine hf_lts ?_ (fun _ _ => ?_) | refine hf_ltv (fun _ => ?_) | refine hs_zs hm ?_ ?_ | refine hs_zcp hm ?_ (by decide +kernel) | refine hs_zsl ?_ | (apply HF.of; apply fx_f_X6_find) | (apply HF.of; apply fx_f_X6_sumThen) | (apply HF.of; apply fx_f_X6_guestToMove) | (apply HF.of; apply fx_f_X6_seatToTake) | exact msub_tr (b := ([13, 14, 15, 23, 32], [(45, 2), (45, 3), (45, 4)])) (by decide +kernel) hm | assumption | exact HS.rf | exact inm_r (by decide +kernel) | decide +kernel | intro _
set_option maxHeartbeats 4000000 in
theorem fx_f_X0_isStray (v1 : Int32) {m : zMk} (hm : msub ([], []) m = true) (s : zM) : HF m s (f_X0_isStray v1 s) := by
  unfold f_X0_isStray
  repeat' with_reducible first | exact hf_none | refine hf_ite (fun _ => ?_) (fun _ => ?_) | refine hf_bnd ?_ (fun _ _ _ => ?_) | refine hf_some ?_ | refine hf_lts ?_ (fun _ _ => ?_) | refine hf_ltv (fun _ => ?_) | refine hs_zs hm ?_ ?_ | refine hs_zcp hm ?_ (by decide +kernel) | refine hs_zsl ?_ | (apply HF.of; apply fx_f_X0_sits) | (apply HF.of; apply fx_f_X0_seatOf) | (apply HF.of; apply fx_f_X0_landOf) | exact msub_tr (b := ([], [])) (by decide +kernel) hm | assumption | exact HS.rf | exact inm_r (by decide +kernel) | decide +kernel | intro _
set_option maxHeartbeats 4000000 in
theorem fx_f_X11_strays_L4 (F : Nat) (k38 : Int32 → zM → Option (Int32 × zM)) {m : zMk} (hm : msub ([], []) m = true) (hk38 : ∀ (a0 : Int32) (s : zM), HF m s (k38 a0 s)) : ∀ (n : Nat) (w0 : Int32) (w1 : Int32) (s : zM), HF m s (f_X11_strays_L4 F k38 n w0 w1 s) := by
  intro n
  induction n with
  | zero => intros; exact hf_none
  | succ n ih =>
    intro w0 w1 s
    rw [f_X11_strays_L4]
    repeat' with_reducible first | exact hf_none | refine hf_ite (fun _ => ?_) (fun _ => ?_) | refine hf_bnd ?_ (fun _ _ _ => ?_) | refine hf_some ?_ | refine hf_lts ?_ (fun _ _ => ?_) | refine hf_ltv (fun _ => ?_) | refine hs_zs hm ?_ ?_ | refine hs_zcp hm ?_ (by decide +kernel) | refine hs_zsl ?_ | (apply HF.of; apply hk38) | (apply HF.of; apply fx_f_X0_number) | (apply HF.of; apply fx_f_X0_isStray) | (apply HF.of; apply ih) | exact msub_tr (b := ([], [])) (by decide +kernel) hm | assumption | exact HS.rf | exact inm_r (by decide +kernel) | decide +kernel | intro _
set_option maxHeartbeats 4000000 in
theorem fx_f_X11_strays (F : Nat) {m : zMk} (hm : msub ([], []) m = true) (s : zM) : HF m s (f_X11_strays F s) := by
  unfold f_X11_strays
  repeat' with_reducible first | exact hf_none | refine hf_ite (fun _ => ?_) (fun _ => ?_) | refine hf_bnd ?_ (fun _ _ _ => ?_) | refine hf_some ?_ | refine hf_lts ?_ (fun _ _ => ?_) | refine hf_ltv (fun _ => ?_) | refine hs_zs hm ?_ ?_ | refine hs_zcp hm ?_ (by decide +kernel) | refine hs_zsl ?_ | (apply HF.of; apply fx_f_X11_strays_L4) | exact msub_tr (b := ([], [])) (by decide +kernel) hm | assumption | exact HS.rf | exact inm_r (by decide +kernel) | decide +kernel | intro _
set_option maxHeartbeats 4000000 in
theorem fx_f_X11_home_j45 (F : Nat) (k6 : Int32 → Int32 → Int32 → zM → Option (Int32 × zM)) (v1 : Int32) (v2 : Int32) (v3 : Int32) {m : zMk} (hm : msub ([], []) m = true) (hk6 : ∀ (a0 : Int32) (a1 : Int32) (a2 : Int32) (s : zM), HF m s (k6 a0 a1 a2 s)) (s : zM) : HF m s (f_X11_home_j45 F k6 v1 v2 v3 s) := by
  unfold f_X11_home_j45
  repeat' with_reducible first | exact hf_none | refine hf_ite (fun _ => ?_) (fun _ => ?_) | refine hf_bnd ?_ (fun _ _ _ => ?_) | refine hf_some ?_ | refine hf_lts ?_ (fun _ _ => ?_) | refine hf_ltv (fun _ => ?_) | refine hs_zs hm ?_ ?_ | refine hs_zcp hm ?_ (by decide +kernel) | refine hs_zsl ?_ | (apply HF.of; apply hk6) | (apply HF.of; apply fx_f_X0_isStray) | exact msub_tr (b := ([], [])) (by decide +kernel) hm | assumption | exact HS.rf | exact inm_r (by decide +kernel) | decide +kernel | intro _
set_option maxHeartbeats 4000000 in
theorem fx_f_X11_home_L6 (F : Nat) (k65 : Int32 → Int32 → zM → Option (Int32 × zM)) {m : zMk} (hm : msub ([], []) m = true) (hk65 : ∀ (a0 : Int32) (a1 : Int32) (s : zM), HF m s (k65 a0 a1 s)) : ∀ (n : Nat) (w0 : Int32) (w1 : Int32) (w2 : Int32) (s : zM), HF m s (f_X11_home_L6 F k65 n w0 w1 w2 s) := by
  intro n
  induction n with
  | zero => intros; exact hf_none
  | succ n ih =>
    intro w0 w1 w2 s
    rw [f_X11_home_L6]
    repeat' with_reducible first | exact hf_none | refine hf_ite (fun _ => ?_) (fun _ => ?_) | refine hf_bnd ?_ (fun _ _ _ => ?_) | refine hf_some ?_ | refine hf_lts ?_ (fun _ _ => ?_) | refine hf_ltv (fun _ => ?_) | refine hs_zs hm ?_ ?_ | refine hs_zcp hm ?_ (by decide +kernel) | refine hs_zsl ?_ | (apply HF.of; apply hk65) | (apply HF.of; apply fx_f_X0_number) | (apply HF.of; apply fx_f_X0_isStray) | (apply HF.of; apply fx_f_X11_home_j45) | (apply HF.of; apply fx_f_X0_landOf) | (apply HF.of; apply ih) | exact msub_tr (b := ([], [])) (by decide +kernel) hm | assumption | exact HS.rf | exact inm_r (by decide +kernel) | decide +kernel | intro _
set_option maxHeartbeats 4000000 in
theorem fx_f_X11_home (F : Nat) {m : zMk} (hm : msub ([], []) m = true) (s : zM) : HF m s (f_X11_home F s) := by
  unfold f_X11_home
  repeat' with_reducible first | exact hf_none | refine hf_ite (fun _ => ?_) (fun _ => ?_) | refine hf_bnd ?_ (fun _ _ _ => ?_) | refine hf_some ?_ | refine hf_lts ?_ (fun _ _ => ?_) | refine hf_ltv (fun _ => ?_) | refine hs_zs hm ?_ ?_ | refine hs_zcp hm ?_ (by decide +kernel) | refine hs_zsl ?_ | (apply HF.of; apply fx_f_X11_home_L6) | exact msub_tr (b := ([], [])) (by decide +kernel) hm | assumption | exact HS.rf | exact inm_r (by decide +kernel) | decide +kernel | intro _
set_option maxHeartbeats 4000000 in
theorem fx_f_X0_bequeath (v1 : Int32) (v2 : Int32) {m : zMk} (hm : msub ([7], []) m = true) (s : zM) : HF m s (f_X0_bequeath v1 v2 s) := by
  unfold f_X0_bequeath
  repeat' with_reducible first | exact hf_none | refine hf_ite (fun _ => ?_) (fun _ => ?_) | refine hf_bnd ?_ (fun _ _ _ => ?_) | refine hf_some ?_ | refine hf_lts ?_ (fun _ _ => ?_) | refine hf_ltv (fun _ => ?_) | refine hs_zs hm ?_ ?_ | refine hs_zcp hm ?_ (by decide +kernel) | refine hs_zsl ?_ | (apply HF.of; apply fx_f_X0_knows) | exact msub_tr (b := ([7], [])) (by decide +kernel) hm | assumption | exact HS.rf | exact inm_r (by decide +kernel) | decide +kernel | intro _
set_option maxHeartbeats 4000000 in
theorem fx_f_X11_heir (v1 : Int32) (v2 : Int32) {m : zMk} (hm : msub ([7], []) m = true) (s : zM) : HF m s (f_X11_heir v1 v2 s) := by
  unfold f_X11_heir
  repeat' with_reducible first | exact hf_none | refine hf_ite (fun _ => ?_) (fun _ => ?_) | refine hf_bnd ?_ (fun _ _ _ => ?_) | refine hf_some ?_ | refine hf_lts ?_ (fun _ _ => ?_) | refine hf_ltv (fun _ => ?_) | refine hs_zs hm ?_ ?_ | refine hs_zcp hm ?_ (by decide +kernel) | refine hs_zsl ?_ | (apply HF.of; apply fx_f_X0_knows) | (apply HF.of; apply fx_f_X0_bequeath) | exact msub_tr (b := ([7], [])) (by decide +kernel) hm | assumption | exact HS.rf | exact inm_r (by decide +kernel) | decide +kernel | intro _
set_option maxHeartbeats 4000000 in
theorem fx_f_X0_bury (v1 : Int32) {m : zMk} (hm : msub ([5, 6, 9], []) m = true) (s : zM) : HF m s (f_X0_bury v1 s) := by
  unfold f_X0_bury
  repeat' with_reducible first | exact hf_none | refine hf_ite (fun _ => ?_) (fun _ => ?_) | refine hf_bnd ?_ (fun _ _ _ => ?_) | refine hf_some ?_ | refine hf_lts ?_ (fun _ _ => ?_) | refine hf_ltv (fun _ => ?_) | refine hs_zs hm ?_ ?_ | refine hs_zcp hm ?_ (by decide +kernel) | refine hs_zsl ?_ | (apply HF.of; apply fx_f_X0_knows) | (apply HF.of; apply fx_f_X0_place) | exact msub_tr (b := ([5, 6, 9], [])) (by decide +kernel) hm | assumption | exact HS.rf | exact inm_r (by decide +kernel) | decide +kernel | intro _
set_option maxHeartbeats 4000000 in
theorem fx_f_X0_heirOf (v1 : Int32) {m : zMk} (hm : msub ([], []) m = true) (s : zM) : HF m s (f_X0_heirOf v1 s) := by
  unfold f_X0_heirOf
  repeat' with_reducible first | exact hf_none | refine hf_ite (fun _ => ?_) (fun _ => ?_) | refine hf_bnd ?_ (fun _ _ _ => ?_) | refine hf_some ?_ | refine hf_lts ?_ (fun _ _ => ?_) | refine hf_ltv (fun _ => ?_) | refine hs_zs hm ?_ ?_ | refine hs_zcp hm ?_ (by decide +kernel) | refine hs_zsl ?_ | (apply HF.of; apply fx_f_X0_knows) | exact msub_tr (b := ([], [])) (by decide +kernel) hm | assumption | exact HS.rf | exact inm_r (by decide +kernel) | decide +kernel | intro _
set_option maxHeartbeats 4000000 in
theorem fx_f_X11_dies_L42 (F : Nat) (k107 : zM → Option (Int32 × zM)) (v2 : Int32) {m : zMk} (hm : msub ([6, 9], []) m = true) (hk107 : ∀ (s : zM), HF m s (k107 s)) : ∀ (n : Nat) (w0 : Int32) (w1 : Int32) (s : zM), HF m s (f_X11_dies_L42 F k107 v2 n w0 w1 s) := by
  intro n
  induction n with
  | zero => intros; exact hf_none
  | succ n ih =>
    intro w0 w1 s
    rw [f_X11_dies_L42]
    repeat' with_reducible first | exact hf_none | refine hf_ite (fun _ => ?_) (fun _ => ?_) | refine hf_bnd ?_ (fun _ _ _ => ?_) | refine hf_some ?_ | refine hf_lts ?_ (fun _ _ => ?_) | refine hf_ltv (fun _ => ?_) | refine hs_zs hm ?_ ?_ | refine hs_zcp hm ?_ (by decide +kernel) | refine hs_zsl ?_ | (apply HF.of; apply hk107) | (apply HF.of; apply fx_f_X0_lives) | (apply HF.of; apply fx_f_X0_heirOf) | (apply HF.of; apply fx_f_X0_sits) | (apply HF.of; apply fx_f_X0_place) | (apply HF.of; apply ih) | exact msub_tr (b := ([6, 9], [])) (by decide +kernel) hm | assumption | exact HS.rf | exact inm_r (by decide +kernel) | decide +kernel | intro _
set_option maxHeartbeats 4000000 in
theorem fx_f_X11_dies (F : Nat) (v1 : Int32) {m : zMk} (hm : msub ([5, 6, 9], []) m = true) (s : zM) : HF m s (f_X11_dies F v1 s) := by
  unfold f_X11_dies
  repeat' with_reducible first | exact hf_none | refine hf_ite (fun _ => ?_) (fun _ => ?_) | refine hf_bnd ?_ (fun _ _ _ => ?_) | refine hf_some ?_ | refine hf_lts ?_ (fun _ _ => ?_) | refine hf_ltv (fun _ => ?_) | refine hs_zs hm ?_ ?_ | refine hs_zcp hm ?_ (by decide +kernel) | refine hs_zsl ?_ | (apply HF.of; apply fx_f_X0_lives) | (apply HF.of; apply fx_f_X0_seatOf) | (apply HF.of; apply fx_f_X0_bury) | (apply HF.of; apply fx_f_X0_heirOf) | (apply HF.of; apply fx_f_X11_dies_L42) | exact msub_tr (b := ([5, 6, 9], [])) (by decide +kernel) hm | assumption | exact HS.rf | exact inm_r (by decide +kernel) | decide +kernel | intro _
set_option maxHeartbeats 4000000 in
theorem fx_f_X2_lay (v1 : Int32) (v2 : Int32) {m : zMk} (hm : msub ([52], []) m = true) (s : zM) : HF m s (f_X2_lay v1 v2 s) := by
  unfold f_X2_lay
  repeat' with_reducible first | exact hf_none | refine hf_ite (fun _ => ?_) (fun _ => ?_) | refine hf_bnd ?_ (fun _ _ _ => ?_) | refine hf_some ?_ | refine hf_lts ?_ (fun _ _ => ?_) | refine hf_ltv (fun _ => ?_) | refine hs_zs hm ?_ ?_ | refine hs_zcp hm ?_ (by decide +kernel) | refine hs_zsl ?_ | (apply HF.of; apply fx_f_X8_isSeat) | exact msub_tr (b := ([52], [])) (by decide +kernel) hm | assumption | exact HS.rf | exact inm_r (by decide +kernel) | decide +kernel | intro _
set_option maxHeartbeats 4000000 in
theorem fx_f_X11_knives (v1 : Int32) (v2 : Int32) {m : zMk} (hm : msub ([52], []) m = true) (s : zM) : HF m s (f_X11_knives v1 v2 s) := by
  unfold f_X11_knives
  repeat' with_reducible first | exact hf_none | refine hf_ite (fun _ => ?_) (fun _ => ?_) | refine hf_bnd ?_ (fun _ _ _ => ?_) | refine hf_some ?_ | refine hf_lts ?_ (fun _ _ => ?_) | refine hf_ltv (fun _ => ?_) | refine hs_zs hm ?_ ?_ | refine hs_zcp hm ?_ (by decide +kernel) | refine hs_zsl ?_ | (apply HF.of; apply fx_f_X8_isSeat) | (apply HF.of; apply fx_f_X2_lay) | exact msub_tr (b := ([52], [])) (by decide +kernel) hm | assumption | exact HS.rf | exact inm_r (by decide +kernel) | decide +kernel | intro _
set_option maxHeartbeats 4000000 in
theorem fx_f_X2_move (v1 : Int32) (v2 : Int32) (v3 : Int32) {m : zMk} (hm : msub ([52], []) m = true) (s : zM) : HF m s (f_X2_move v1 v2 v3 s) := by
  unfold f_X2_move
  repeat' with_reducible first | exact hf_none | refine hf_ite (fun _ => ?_) (fun _ => ?_) | refine hf_bnd ?_ (fun _ _ _ => ?_) | refine hf_some ?_ | refine hf_lts ?_ (fun _ _ => ?_) | refine hf_ltv (fun _ => ?_) | refine hs_zs hm ?_ ?_ | refine hs_zcp hm ?_ (by decide +kernel) | refine hs_zsl ?_ | (apply HF.of; apply fx_f_X8_isSeat) | exact msub_tr (b := ([52], [])) (by decide +kernel) hm | assumption | exact HS.rf | exact inm_r (by decide +kernel) | decide +kernel | intro _
set_option maxHeartbeats 4000000 in
theorem fx_f_X11_put (v1 : Int32) (v2 : Int32) (v3 : Int32) {m : zMk} (hm : msub ([52], []) m = true) (s : zM) : HF m s (f_X11_put v1 v2 v3 s) := by
  unfold f_X11_put
  repeat' with_reducible first | exact hf_none | refine hf_ite (fun _ => ?_) (fun _ => ?_) | refine hf_bnd ?_ (fun _ _ _ => ?_) | refine hf_some ?_ | refine hf_lts ?_ (fun _ _ => ?_) | refine hf_ltv (fun _ => ?_) | refine hs_zs hm ?_ ?_ | refine hs_zcp hm ?_ (by decide +kernel) | refine hs_zsl ?_ | (apply HF.of; apply fx_f_X8_isSeat) | (apply HF.of; apply fx_f_X2_move) | exact msub_tr (b := ([52], [])) (by decide +kernel) hm | assumption | exact HS.rf | exact inm_r (by decide +kernel) | decide +kernel | intro _
set_option maxHeartbeats 4000000 in
theorem fx_f_X2_addCount (v1 : Int32) (v2 : Int32) (v3 : Int32) (v4 : Int32) {m : zMk} (hm : msub ([54, 55, 56, 57], [(51, 8)]) m = true) (s : zM) : HF m s (f_X2_addCount v1 v2 v3 v4 s) := by
  unfold f_X2_addCount
  repeat' with_reducible first | exact hf_none | refine hf_ite (fun _ => ?_) (fun _ => ?_) | refine hf_bnd ?_ (fun _ _ _ => ?_) | refine hf_some ?_ | refine hf_lts ?_ (fun _ _ => ?_) | refine hf_ltv (fun _ => ?_) | refine hs_zs hm ?_ ?_ | refine hs_zcp hm ?_ (by decide +kernel) | refine hs_zsl ?_ | exact msub_tr (b := ([54, 55, 56, 57], [(51, 8)])) (by decide +kernel) hm | assumption | exact HS.rf | exact inm_r (by decide +kernel) | decide +kernel | intro _
set_option maxHeartbeats 4000000 in
theorem fx_f_X11_counted_j35 (v1 : Int32) (v2 : Int32) (v3 : Int32) (v4 : Int32) (w0 : Int32) {m : zMk} (hm : msub ([54, 55, 56, 57], [(51, 8)]) m = true) (s : zM) : HF m s (f_X11_counted_j35 v1 v2 v3 v4 w0 s) := by
  unfold f_X11_counted_j35
  repeat' with_reducible first | exact hf_none | refine hf_ite (fun _ => ?_) (fun _ => ?_) | refine hf_bnd ?_ (fun _ _ _ => ?_) | refine hf_some ?_ | refine hf_lts ?_ (fun _ _ => ?_) | refine hf_ltv (fun _ => ?_) | refine hs_zs hm ?_ ?_ | refine hs_zcp hm ?_ (by decide +kernel) | refine hs_zsl ?_ | (apply HF.of; apply fx_f_X2_addCount) | exact msub_tr (b := ([54, 55, 56, 57], [(51, 8)])) (by decide +kernel) hm | assumption | exact HS.rf | exact inm_r (by decide +kernel) | decide +kernel | intro _
set_option maxHeartbeats 4000000 in
theorem fx_f_X11_counted_j34 (v1 : Int32) (v2 : Int32) (v3 : Int32) (v4 : Int32) {m : zMk} (hm : msub ([54, 55, 56, 57], [(51, 8)]) m = true) (s : zM) : HF m s (f_X11_counted_j34 v1 v2 v3 v4 s) := by
  unfold f_X11_counted_j34
  repeat' with_reducible first | exact hf_none | refine hf_ite (fun _ => ?_) (fun _ => ?_) | refine hf_bnd ?_ (fun _ _ _ => ?_) | refine hf_some ?_ | refine hf_lts ?_ (fun _ _ => ?_) | refine hf_ltv (fun _ => ?_) | refine hs_zs hm ?_ ?_ | refine hs_zcp hm ?_ (by decide +kernel) | refine hs_zsl ?_ | (apply HF.of; apply fx_f_X11_counted_j35) | exact msub_tr (b := ([54, 55, 56, 57], [(51, 8)])) (by decide +kernel) hm | assumption | exact HS.rf | exact inm_r (by decide +kernel) | decide +kernel | intro _
set_option maxHeartbeats 4000000 in
theorem fx_f_X11_counted_j9 (v1 : Int32) (v2 : Int32) (v3 : Int32) (v4 : Int32) {m : zMk} (hm : msub ([54, 55, 56, 57], [(51, 8)]) m = true) (s : zM) : HF m s (f_X11_counted_j9 v1 v2 v3 v4 s) := by
  unfold f_X11_counted_j9
  repeat' with_reducible first | exact hf_none | refine hf_ite (fun _ => ?_) (fun _ => ?_) | refine hf_bnd ?_ (fun _ _ _ => ?_) | refine hf_some ?_ | refine hf_lts ?_ (fun _ _ => ?_) | refine hf_ltv (fun _ => ?_) | refine hs_zs hm ?_ ?_ | refine hs_zcp hm ?_ (by decide +kernel) | refine hs_zsl ?_ | (apply HF.of; apply fx_f_X8_isRow) | (apply HF.of; apply fx_f_X11_counted_j34) | (apply HF.of; apply fx_f_X11_counted_j35) | exact msub_tr (b := ([54, 55, 56, 57], [(51, 8)])) (by decide +kernel) hm | assumption | exact HS.rf | exact inm_r (by decide +kernel) | decide +kernel | intro _
set_option maxHeartbeats 4000000 in
theorem fx_f_X11_counted (v1 : Int32) (v2 : Int32) (v3 : Int32) (v4 : Int32) {m : zMk} (hm : msub ([54, 55, 56, 57], [(51, 8)]) m = true) (s : zM) : HF m s (f_X11_counted v1 v2 v3 v4 s) := by
  unfold f_X11_counted
  repeat' with_reducible first | exact hf_none | refine hf_ite (fun _ => ?_) (fun _ => ?_) | refine hf_bnd ?_ (fun _ _ _ => ?_) | refine hf_some ?_ | refine hf_lts ?_ (fun _ _ => ?_) | refine hf_ltv (fun _ => ?_) | refine hs_zs hm ?_ ?_ | refine hs_zcp hm ?_ (by decide +kernel) | refine hs_zsl ?_ | (apply HF.of; apply fx_f_X11_counted_j9) | (apply HF.of; apply fx_f_X11_counted_j34) | exact msub_tr (b := ([54, 55, 56, 57], [(51, 8)])) (by decide +kernel) hm | assumption | exact HS.rf | exact inm_r (by decide +kernel) | decide +kernel | intro _
set_option maxHeartbeats 4000000 in
theorem fx_f_X2_hasCount (v1 : Int32) {m : zMk} (hm : msub ([], []) m = true) (s : zM) : HF m s (f_X2_hasCount v1 s) := by
  unfold f_X2_hasCount
  repeat' with_reducible first | exact hf_none | refine hf_ite (fun _ => ?_) (fun _ => ?_) | refine hf_bnd ?_ (fun _ _ _ => ?_) | refine hf_some ?_ | refine hf_lts ?_ (fun _ _ => ?_) | refine hf_ltv (fun _ => ?_) | refine hs_zs hm ?_ ?_ | refine hs_zcp hm ?_ (by decide +kernel) | refine hs_zsl ?_ | exact msub_tr (b := ([], [])) (by decide +kernel) hm | assumption | exact HS.rf | exact inm_r (by decide +kernel) | decide +kernel | intro _
set_option maxHeartbeats 4000000 in
theorem fx_f_X2_at (v1 : Int32) {m : zMk} (hm : msub ([], []) m = true) (s : zM) : HF m s (f_X2_at v1 s) := by
  unfold f_X2_at
  repeat' with_reducible first | exact hf_none | refine hf_ite (fun _ => ?_) (fun _ => ?_) | refine hf_bnd ?_ (fun _ _ _ => ?_) | refine hf_some ?_ | refine hf_lts ?_ (fun _ _ => ?_) | refine hf_ltv (fun _ => ?_) | refine hs_zs hm ?_ ?_ | refine hs_zcp hm ?_ (by decide +kernel) | refine hs_zsl ?_ | (apply HF.of; apply fx_f_X8_isSeat) | exact msub_tr (b := ([], [])) (by decide +kernel) hm | assumption | exact HS.rf | exact inm_r (by decide +kernel) | decide +kernel | intro _
set_option maxHeartbeats 4000000 in
theorem fx_f_X2_between_L6 (F : Nat) (k37 : Int32 → zM → Option (Int32 × zM)) (v1 : Int32) (v3 : Int32) {m : zMk} (hm : msub ([], []) m = true) (hk37 : ∀ (a0 : Int32) (s : zM), HF m s (k37 a0 s)) : ∀ (n : Nat) (w0 : Int32) (w1 : Int32) (s : zM), HF m s (f_X2_between_L6 F k37 v1 v3 n w0 w1 s) := by
  intro n
  induction n with
  | zero => intros; exact hf_none
  | succ n ih =>
    intro w0 w1 s
    rw [f_X2_between_L6]
    repeat' with_reducible first | exact hf_none | refine hf_ite (fun _ => ?_) (fun _ => ?_) | refine hf_bnd ?_ (fun _ _ _ => ?_) | refine hf_some ?_ | refine hf_lts ?_ (fun _ _ => ?_) | refine hf_ltv (fun _ => ?_) | refine hs_zs hm ?_ ?_ | refine hs_zcp hm ?_ (by decide +kernel) | refine hs_zsl ?_ | (apply HF.of; apply hk37) | (apply HF.of; apply fx_f_X2_at) | (apply HF.of; apply ih) | exact msub_tr (b := ([], [])) (by decide +kernel) hm | assumption | exact HS.rf | exact inm_r (by decide +kernel) | decide +kernel | intro _
set_option maxHeartbeats 4000000 in
theorem fx_f_X2_between (F : Nat) (v1 : Int32) (v2 : Int32) (v3 : Int32) {m : zMk} (hm : msub ([], []) m = true) (s : zM) : HF m s (f_X2_between F v1 v2 v3 s) := by
  unfold f_X2_between
  repeat' with_reducible first | exact hf_none | refine hf_ite (fun _ => ?_) (fun _ => ?_) | refine hf_bnd ?_ (fun _ _ _ => ?_) | refine hf_some ?_ | refine hf_lts ?_ (fun _ _ => ?_) | refine hf_ltv (fun _ => ?_) | refine hs_zs hm ?_ ?_ | refine hs_zcp hm ?_ (by decide +kernel) | refine hs_zsl ?_ | (apply HF.of; apply fx_f_X2_between_L6) | exact msub_tr (b := ([], [])) (by decide +kernel) hm | assumption | exact HS.rf | exact inm_r (by decide +kernel) | decide +kernel | intro _
set_option maxHeartbeats 4000000 in
theorem fx_f_X2_moreThanSaid (F : Nat) (v1 : Int32) {m : zMk} (hm : msub ([], []) m = true) (s : zM) : HF m s (f_X2_moreThanSaid F v1 s) := by
  unfold f_X2_moreThanSaid
  repeat' with_reducible first | exact hf_none | refine hf_ite (fun _ => ?_) (fun _ => ?_) | refine hf_bnd ?_ (fun _ _ _ => ?_) | refine hf_some ?_ | refine hf_lts ?_ (fun _ _ => ?_) | refine hf_ltv (fun _ => ?_) | refine hs_zs hm ?_ ?_ | refine hs_zcp hm ?_ (by decide +kernel) | refine hs_zsl ?_ | (apply HF.of; apply fx_f_X2_hasCount) | (apply HF.of; apply fx_f_X2_between) | exact msub_tr (b := ([], [])) (by decide +kernel) hm | assumption | exact HS.rf | exact inm_r (by decide +kernel) | decide +kernel | intro _
set_option maxHeartbeats 4000000 in
theorem fx_f_X11_missing (F : Nat) (v1 : Int32) {m : zMk} (hm : msub ([], []) m = true) (s : zM) : HF m s (f_X11_missing F v1 s) := by
  unfold f_X11_missing
  repeat' with_reducible first | exact hf_none | refine hf_ite (fun _ => ?_) (fun _ => ?_) | refine hf_bnd ?_ (fun _ _ _ => ?_) | refine hf_some ?_ | refine hf_lts ?_ (fun _ _ => ?_) | refine hf_ltv (fun _ => ?_) | refine hs_zs hm ?_ ?_ | refine hs_zcp hm ?_ (by decide +kernel) | refine hs_zsl ?_ | (apply HF.of; apply fx_f_X2_hasCount) | (apply HF.of; apply fx_f_X2_moreThanSaid) | exact msub_tr (b := ([], [])) (by decide +kernel) hm | assumption | exact HS.rf | exact inm_r (by decide +kernel) | decide +kernel | intro _
set_option maxHeartbeats 4000000 in
theorem fx_f_X2_firstWrong_L2 (F : Nat) (k28 : zM → Option (Int32 × zM)) {m : zMk} (hm : msub ([58, 59], []) m = true) (hk28 : ∀ (s : zM), HF m s (k28 s)) : ∀ (n : Nat) (w0 : Int32) (s : zM), HF m s (f_X2_firstWrong_L2 F k28 n w0 s) := by
  intro n
  induction n with
  | zero => intros; exact hf_none
  | succ n ih =>
    intro w0 s
    rw [f_X2_firstWrong_L2]
    repeat' with_reducible first | exact hf_none | refine hf_ite (fun _ => ?_) (fun _ => ?_) | refine hf_bnd ?_ (fun _ _ _ => ?_) | refine hf_some ?_ | refine hf_lts ?_ (fun _ _ => ?_) | refine hf_ltv (fun _ => ?_) | refine hs_zs hm ?_ ?_ | refine hs_zcp hm ?_ (by decide +kernel) | refine hs_zsl ?_ | (apply HF.of; apply hk28) | (apply HF.of; apply ih) | exact msub_tr (b := ([58, 59], [])) (by decide +kernel) hm | assumption | exact HS.rf | exact inm_r (by decide +kernel) | decide +kernel | intro _
set_option maxHeartbeats 4000000 in
theorem fx_f_X2_relate_L72 (F : Nat) (k122 : zM → Option (Int32 × zM)) (v1 : Int32) (v4 : Int32) (v5 : Int32) {m : zMk} (hm : msub ([58, 59], []) m = true) (hk122 : ∀ (s : zM), HF m s (k122 s)) : ∀ (n : Nat) (w0 : Int32) (s : zM), HF m s (f_X2_relate_L72 F k122 v1 v4 v5 n w0 s) := by
  intro n
  induction n with
  | zero => intros; exact hf_none
  | succ n ih =>
    intro w0 s
    rw [f_X2_relate_L72]
    repeat' with_reducible first | exact hf_none | refine hf_ite (fun _ => ?_) (fun _ => ?_) | refine hf_bnd ?_ (fun _ _ _ => ?_) | refine hf_some ?_ | refine hf_lts ?_ (fun _ _ => ?_) | refine hf_ltv (fun _ => ?_) | refine hs_zs hm ?_ ?_ | refine hs_zcp hm ?_ (by decide +kernel) | refine hs_zsl ?_ | (apply HF.of; apply hk122) | (apply HF.of; apply ih) | exact msub_tr (b := ([58, 59], [])) (by decide +kernel) hm | assumption | exact HS.rf | exact inm_r (by decide +kernel) | decide +kernel | intro _
set_option maxHeartbeats 4000000 in
theorem fx_f_X2_relate (F : Nat) (v1 : Int32) (v2 : Int32) (v3 : Int32) {m : zMk} (hm : msub ([58, 59], []) m = true) (s : zM) : HF m s (f_X2_relate F v1 v2 v3 s) := by
  unfold f_X2_relate
  repeat' with_reducible first | exact hf_none | refine hf_ite (fun _ => ?_) (fun _ => ?_) | refine hf_bnd ?_ (fun _ _ _ => ?_) | refine hf_some ?_ | refine hf_lts ?_ (fun _ _ => ?_) | refine hf_ltv (fun _ => ?_) | refine hs_zs hm ?_ ?_ | refine hs_zcp hm ?_ (by decide +kernel) | refine hs_zsl ?_ | (apply HF.of; apply fx_f_X2_relate_L72) | exact msub_tr (b := ([58, 59], [])) (by decide +kernel) hm | assumption | exact HS.rf | exact inm_r (by decide +kernel) | decide +kernel | intro _
set_option maxHeartbeats 4000000 in
theorem fx_f_X2_firstWrong_L30 (F : Nat) (k65 : zM → Option (Int32 × zM)) {m : zMk} (hm : msub ([58, 59], []) m = true) (hk65 : ∀ (s : zM), HF m s (k65 s)) : ∀ (n : Nat) (w0 : Int32) (s : zM), HF m s (f_X2_firstWrong_L30 F k65 n w0 s) := by
  intro n
  induction n with
  | zero => intros; exact hf_none
  | succ n ih =>
    intro w0 s
    rw [f_X2_firstWrong_L30]
    repeat' with_reducible first | exact hf_none | refine hf_ite (fun _ => ?_) (fun _ => ?_) | refine hf_bnd ?_ (fun _ _ _ => ?_) | refine hf_some ?_ | refine hf_lts ?_ (fun _ _ => ?_) | refine hf_ltv (fun _ => ?_) | refine hs_zs hm ?_ ?_ | refine hs_zcp hm ?_ (by decide +kernel) | refine hs_zsl ?_ | (apply HF.of; apply hk65) | (apply HF.of; apply fx_f_X2_between) | (apply HF.of; apply fx_f_X2_relate) | (apply HF.of; apply ih) | exact msub_tr (b := ([58, 59], [])) (by decide +kernel) hm | assumption | exact HS.rf | exact inm_r (by decide +kernel) | decide +kernel | intro _
set_option maxHeartbeats 4000000 in
theorem fx_f_X2_firstWrong_L67 (F : Nat) (k130 : zM → Option (Int32 × zM)) {m : zMk} (hm : msub ([58, 59], []) m = true) (hk130 : ∀ (s : zM), HF m s (k130 s)) : ∀ (n : Nat) (w0 : Int32) (s : zM), HF m s (f_X2_firstWrong_L67 F k130 n w0 s) := by
  intro n
  induction n with
  | zero => intros; exact hf_none
  | succ n ih =>
    intro w0 s
    rw [f_X2_firstWrong_L67]
    repeat' with_reducible first | exact hf_none | refine hf_ite (fun _ => ?_) (fun _ => ?_) | refine hf_bnd ?_ (fun _ _ _ => ?_) | refine hf_some ?_ | refine hf_lts ?_ (fun _ _ => ?_) | refine hf_ltv (fun _ => ?_) | refine hs_zs hm ?_ ?_ | refine hs_zcp hm ?_ (by decide +kernel) | refine hs_zsl ?_ | (apply HF.of; apply hk130) | (apply HF.of; apply fx_f_X2_relate) | (apply HF.of; apply ih) | exact msub_tr (b := ([58, 59], [])) (by decide +kernel) hm | assumption | exact HS.rf | exact inm_r (by decide +kernel) | decide +kernel | intro _
set_option maxHeartbeats 4000000 in
theorem fx_f_X2_firstWrong (F : Nat) {m : zMk} (hm : msub ([58, 59], []) m = true) (s : zM) : HF m s (f_X2_firstWrong F s) := by
  unfold f_X2_firstWrong
  repeat' with_reducible first | exact hf_none | refine hf_ite (fun _ => ?_) (fun _ => ?_) | refine hf_bnd ?_ (fun _ _ _ => ?_) | refine hf_some ?_ | refine hf_lts ?_ (fun _ _ => ?_) | refine hf_ltv (fun _ => ?_) | refine hs_zs hm ?_ ?_ | refine hs_zcp hm ?_ (by decide +kernel) | refine hs_zsl ?_ | (apply HF.of; apply fx_f_X2_firstWrong_L2) | (apply HF.of; apply fx_f_X2_firstWrong_L30) | (apply HF.of; apply fx_f_X2_firstWrong_L67) | exact msub_tr (b := ([58, 59], [])) (by decide +kernel) hm | assumption | exact HS.rf | exact inm_r (by decide +kernel) | decide +kernel | intro _
set_option maxHeartbeats 4000000 in
theorem fx_f_X11_wrong (F : Nat) {m : zMk} (hm : msub ([58, 59], []) m = true) (s : zM) : HF m s (f_X11_wrong F s) := by
  unfold f_X11_wrong
  repeat' with_reducible first | exact hf_none | refine hf_ite (fun _ => ?_) (fun _ => ?_) | refine hf_bnd ?_ (fun _ _ _ => ?_) | refine hf_some ?_ | refine hf_lts ?_ (fun _ _ => ?_) | refine hf_ltv (fun _ => ?_) | refine hs_zs hm ?_ ?_ | refine hs_zcp hm ?_ (by decide +kernel) | refine hs_zsl ?_ | (apply HF.of; apply fx_f_X2_firstWrong) | exact msub_tr (b := ([58, 59], [])) (by decide +kernel) hm | assumption | exact HS.rf | exact inm_r (by decide +kernel) | decide +kernel | intro _
set_option maxHeartbeats 4000000 in
theorem fx_f_X7_isHandful (v0 : Int32) {m : zMk} (hm : msub ([], []) m = true) (s : zM) : HF m s (f_X7_isHandful v0 s) := by
  unfold f_X7_isHandful
  repeat' with_reducible first | exact hf_none | refine hf_ite (fun _ => ?_) (fun _ => ?_) | refine hf_bnd ?_ (fun _ _ _ => ?_) | refine hf_some ?_ | refine hf_lts ?_ (fun _ _ => ?_) | refine hf_ltv (fun _ => ?_) | refine hs_zs hm ?_ ?_ | refine hs_zcp hm ?_ (by decide +kernel) | refine hs_zsl ?_ | exact msub_tr (b := ([], [])) (by decide +kernel) hm | assumption | exact HS.rf | exact inm_r (by decide +kernel) | decide +kernel | intro _
set_option maxHeartbeats 4000000 in
theorem fx_f_X7_isGuest (v0 : Int32) {m : zMk} (hm : msub ([], []) m = true) (s : zM) : HF m s (f_X7_isGuest v0 s) := by
  unfold f_X7_isGuest
  repeat' with_reducible first | exact hf_none | refine hf_ite (fun _ => ?_) (fun _ => ?_) | refine hf_bnd ?_ (fun _ _ _ => ?_) | refine hf_some ?_ | refine hf_lts ?_ (fun _ _ => ?_) | refine hf_ltv (fun _ => ?_) | refine hs_zs hm ?_ ?_ | refine hs_zcp hm ?_ (by decide +kernel) | refine hs_zsl ?_ | exact msub_tr (b := ([], [])) (by decide +kernel) hm | assumption | exact HS.rf | exact inm_r (by decide +kernel) | decide +kernel | intro _
set_option maxHeartbeats 4000000 in
theorem fx_f_X7_had (v1 : Int32) {m : zMk} (hm : msub ([], []) m = true) (s : zM) : HF m s (f_X7_had v1 s) := by
  unfold f_X7_had
  repeat' with_reducible first | exact hf_none | refine hf_ite (fun _ => ?_) (fun _ => ?_) | refine hf_bnd ?_ (fun _ _ _ => ?_) | refine hf_some ?_ | refine hf_lts ?_ (fun _ _ => ?_) | refine hf_ltv (fun _ => ?_) | refine hs_zs hm ?_ ?_ | refine hs_zcp hm ?_ (by decide +kernel) | refine hs_zsl ?_ | (apply HF.of; apply fx_f_X7_isGuest) | exact msub_tr (b := ([], [])) (by decide +kernel) hm | assumption | exact HS.rf | exact inm_r (by decide +kernel) | decide +kernel | intro _
set_option maxHeartbeats 4000000 in
theorem fx_f_X7_hasRoom (v1 : Int32) (v2 : Int32) {m : zMk} (hm : msub ([], []) m = true) (s : zM) : HF m s (f_X7_hasRoom v1 v2 s) := by
  unfold f_X7_hasRoom
  repeat' with_reducible first | exact hf_none | refine hf_ite (fun _ => ?_) (fun _ => ?_) | refine hf_bnd ?_ (fun _ _ _ => ?_) | refine hf_some ?_ | refine hf_lts ?_ (fun _ _ => ?_) | refine hf_ltv (fun _ => ?_) | refine hs_zs hm ?_ ?_ | refine hs_zcp hm ?_ (by decide +kernel) | refine hs_zsl ?_ | (apply HF.of; apply fx_f_X7_had) | exact msub_tr (b := ([], [])) (by decide +kernel) hm | assumption | exact HS.rf | exact inm_r (by decide +kernel) | decide +kernel | intro _
set_option maxHeartbeats 4000000 in
theorem fx_f_X7_serve (v1 : Int32) (v2 : Int32) {m : zMk} (hm : msub ([61, 63], []) m = true) (s : zM) : HF m s (f_X7_serve v1 v2 s) := by
  unfold f_X7_serve
  repeat' with_reducible first | exact hf_none | refine hf_ite (fun _ => ?_) (fun _ => ?_) | refine hf_bnd ?_ (fun _ _ _ => ?_) | refine hf_some ?_ | refine hf_lts ?_ (fun _ _ => ?_) | refine hf_ltv (fun _ => ?_) | refine hs_zs hm ?_ ?_ | refine hs_zcp hm ?_ (by decide +kernel) | refine hs_zsl ?_ | (apply HF.of; apply fx_f_X7_isGuest) | exact msub_tr (b := ([61, 63], [])) (by decide +kernel) hm | assumption | exact HS.rf | exact inm_r (by decide +kernel) | decide +kernel | intro _
set_option maxHeartbeats 4000000 in
theorem fx_f_X11_gives (v1 : Int32) (v2 : Int32) {m : zMk} (hm : msub ([61, 63], []) m = true) (s : zM) : HF m s (f_X11_gives v1 v2 s) := by
  unfold f_X11_gives
  repeat' with_reducible first | exact hf_none | refine hf_ite (fun _ => ?_) (fun _ => ?_) | refine hf_bnd ?_ (fun _ _ _ => ?_) | refine hf_some ?_ | refine hf_lts ?_ (fun _ _ => ?_) | refine hf_ltv (fun _ => ?_) | refine hs_zs hm ?_ ?_ | refine hs_zcp hm ?_ (by decide +kernel) | refine hs_zsl ?_ | (apply HF.of; apply fx_f_X0_knows) | (apply HF.of; apply fx_f_X7_isHandful) | (apply HF.of; apply fx_f_X0_sits) | (apply HF.of; apply fx_f_X7_hasRoom) | (apply HF.of; apply fx_f_X7_serve) | (apply HF.of; apply fx_f_X7_had) | exact msub_tr (b := ([61, 63], [])) (by decide +kernel) hm | assumption | exact HS.rf | exact inm_r (by decide +kernel) | decide +kernel | intro _
set_option maxHeartbeats 4000000 in
theorem fx_f_X7_handed (v1 : Int32) (v2 : Int32) {m : zMk} (hm : msub ([], []) m = true) (s : zM) : HF m s (f_X7_handed v1 v2 s) := by
  unfold f_X7_handed
  repeat' with_reducible first | exact hf_none | refine hf_ite (fun _ => ?_) (fun _ => ?_) | refine hf_bnd ?_ (fun _ _ _ => ?_) | refine hf_some ?_ | refine hf_lts ?_ (fun _ _ => ?_) | refine hf_ltv (fun _ => ?_) | refine hs_zs hm ?_ ?_ | refine hs_zcp hm ?_ (by decide +kernel) | refine hs_zsl ?_ | (apply HF.of; apply fx_f_X7_isGuest) | exact msub_tr (b := ([], [])) (by decide +kernel) hm | assumption | exact HS.rf | exact inm_r (by decide +kernel) | decide +kernel | intro _
set_option maxHeartbeats 4000000 in
theorem fx_f_X7_hand (v1 : Int32) (v2 : Int32) (v3 : Int32) {m : zMk} (hm : msub ([61, 64], []) m = true) (s : zM) : HF m s (f_X7_hand v1 v2 v3 s) := by
  unfold f_X7_hand
  repeat' with_reducible first | exact hf_none | refine hf_ite (fun _ => ?_) (fun _ => ?_) | refine hf_bnd ?_ (fun _ _ _ => ?_) | refine hf_some ?_ | refine hf_lts ?_ (fun _ _ => ?_) | refine hf_ltv (fun _ => ?_) | refine hs_zs hm ?_ ?_ | refine hs_zcp hm ?_ (by decide +kernel) | refine hs_zsl ?_ | (apply HF.of; apply fx_f_X7_isGuest) | exact msub_tr (b := ([61, 64], [])) (by decide +kernel) hm | assumption | exact HS.rf | exact inm_r (by decide +kernel) | decide +kernel | intro _
set_option maxHeartbeats 4000000 in
theorem fx_f_X11_handOver (F : Nat) (v1 : Int32) (v2 : Int32) (v3 : Int32) {m : zMk} (hm : msub ([13, 23, 32, 61, 64], []) m = true) (s : zM) : HF m s (f_X11_handOver F v1 v2 v3 s) := by
  unfold f_X11_handOver
  repeat' with_reducible first | exact hf_none | refine hf_ite (fun _ => ?_) (fun _ => ?_) | refine hf_bnd ?_ (fun _ _ _ => ?_) | refine hf_some ?_ | refine hf_lts ?_ (fun _ _ => ?_) | refine hf_ltv (fun _ => ?_) | refine hs_zs hm ?_ ?_ | refine hs_zcp hm ?_ (by decide +kernel) | refine hs_zsl ?_ | (apply HF.of; apply fx_f_X0_seatOf) | (apply HF.of; apply fx_f_X8_areNext) | (apply HF.of; apply fx_f_X1_allows) | (apply HF.of; apply fx_f_X7_hasRoom) | (apply HF.of; apply fx_f_X7_handed) | (apply HF.of; apply fx_f_X7_had) | (apply HF.of; apply fx_f_X7_hand) | exact msub_tr (b := ([13, 23, 32, 61, 64], [])) (by decide +kernel) hm | assumption | exact HS.rf | exact inm_r (by decide +kernel) | decide +kernel | intro _
set_option maxHeartbeats 4000000 in
theorem fx_f_X11_passes (F : Nat) (v1 : Int32) (v2 : Int32) (v3 : Int32) {m : zMk} (hm : msub ([13, 23, 32, 61, 64], []) m = true) (s : zM) : HF m s (f_X11_passes F v1 v2 v3 s) := by
  unfold f_X11_passes
  repeat' with_reducible first | exact hf_none | refine hf_ite (fun _ => ?_) (fun _ => ?_) | refine hf_bnd ?_ (fun _ _ _ => ?_) | refine hf_some ?_ | refine hf_lts ?_ (fun _ _ => ?_) | refine hf_ltv (fun _ => ?_) | refine hs_zs hm ?_ ?_ | refine hs_zcp hm ?_ (by decide +kernel) | refine hs_zsl ?_ | (apply HF.of; apply fx_f_X11_areTwo) | (apply HF.of; apply fx_f_X7_isHandful) | (apply HF.of; apply fx_f_X11_handOver) | exact msub_tr (b := ([13, 23, 32, 61, 64], [])) (by decide +kernel) hm | assumption | exact HS.rf | exact inm_r (by decide +kernel) | decide +kernel | intro _
set_option maxHeartbeats 4000000 in
theorem fx_f_X7_eat (v1 : Int32) (v2 : Int32) {m : zMk} (hm : msub ([61, 62], []) m = true) (s : zM) : HF m s (f_X7_eat v1 v2 s) := by
  unfold f_X7_eat
  repeat' with_reducible first | exact hf_none | refine hf_ite (fun _ => ?_) (fun _ => ?_) | refine hf_bnd ?_ (fun _ _ _ => ?_) | refine hf_some ?_ | refine hf_lts ?_ (fun _ _ => ?_) | refine hf_ltv (fun _ => ?_) | refine hs_zs hm ?_ ?_ | refine hs_zcp hm ?_ (by decide +kernel) | refine hs_zsl ?_ | (apply HF.of; apply fx_f_X7_isGuest) | exact msub_tr (b := ([61, 62], [])) (by decide +kernel) hm | assumption | exact HS.rf | exact inm_r (by decide +kernel) | decide +kernel | intro _
set_option maxHeartbeats 4000000 in
theorem fx_f_X11_eats (v1 : Int32) (v2 : Int32) {m : zMk} (hm : msub ([61, 62], []) m = true) (s : zM) : HF m s (f_X11_eats v1 v2 s) := by
  unfold f_X11_eats
  repeat' with_reducible first | exact hf_none | refine hf_ite (fun _ => ?_) (fun _ => ?_) | refine hf_bnd ?_ (fun _ _ _ => ?_) | refine hf_some ?_ | refine hf_lts ?_ (fun _ _ => ?_) | refine hf_ltv (fun _ => ?_) | refine hs_zs hm ?_ ?_ | refine hs_zcp hm ?_ (by decide +kernel) | refine hs_zsl ?_ | (apply HF.of; apply fx_f_X0_knows) | (apply HF.of; apply fx_f_X7_isHandful) | (apply HF.of; apply fx_f_X7_had) | (apply HF.of; apply fx_f_X7_eat) | exact msub_tr (b := ([61, 62], [])) (by decide +kernel) hm | assumption | exact HS.rf | exact inm_r (by decide +kernel) | decide +kernel | intro _
set_option maxHeartbeats 4000000 in
theorem fx_f_X11_fed (v1 : Int32) (v2 : Int32) {m : zMk} (hm : msub ([], []) m = true) (s : zM) : HF m s (f_X11_fed v1 v2 s) := by
  unfold f_X11_fed
  repeat' with_reducible first | exact hf_none | refine hf_ite (fun _ => ?_) (fun _ => ?_) | refine hf_bnd ?_ (fun _ _ _ => ?_) | refine hf_some ?_ | refine hf_lts ?_ (fun _ _ => ?_) | refine hf_ltv (fun _ => ?_) | refine hs_zs hm ?_ ?_ | refine hs_zcp hm ?_ (by decide +kernel) | refine hs_zsl ?_ | (apply HF.of; apply fx_f_X11_areTwo) | (apply HF.of; apply fx_f_X7_handed) | exact msub_tr (b := ([], [])) (by decide +kernel) hm | assumption | exact HS.rf | exact inm_r (by decide +kernel) | decide +kernel | intro _
set_option maxHeartbeats 4000000 in
theorem fx_f_X7_told_L60 (F : Nat) (k98 : Int32 → zM → Option (Int32 × zM)) (v1 : Int32) (v2 : Int32) {m : zMk} (hm : msub ([], []) m = true) (hk98 : ∀ (a0 : Int32) (s : zM), HF m s (k98 a0 s)) : ∀ (n : Nat) (w0 : Int32) (w1 : Int32) (s : zM), HF m s (f_X7_told_L60 F k98 v1 v2 n w0 w1 s) := by
  intro n
  induction n with
  | zero => intros; exact hf_none
  | succ n ih =>
    intro w0 w1 s
    rw [f_X7_told_L60]
    repeat' with_reducible first | exact hf_none | refine hf_ite (fun _ => ?_) (fun _ => ?_) | refine hf_bnd ?_ (fun _ _ _ => ?_) | refine hf_some ?_ | refine hf_lts ?_ (fun _ _ => ?_) | refine hf_ltv (fun _ => ?_) | refine hs_zs hm ?_ ?_ | refine hs_zcp hm ?_ (by decide +kernel) | refine hs_zsl ?_ | (apply HF.of; apply hk98) | (apply HF.of; apply fx_f_X7_handed) | (apply HF.of; apply ih) | exact msub_tr (b := ([], [])) (by decide +kernel) hm | assumption | exact HS.rf | exact inm_r (by decide +kernel) | decide +kernel | intro _
set_option maxHeartbeats 4000000 in
theorem fx_f_X7_told (F : Nat) (v1 : Int32) (v2 : Int32) {m : zMk} (hm : msub ([], []) m = true) (s : zM) : HF m s (f_X7_told F v1 v2 s) := by
  unfold f_X7_told
  repeat' with_reducible first | exact hf_none | refine hf_ite (fun _ => ?_) (fun _ => ?_) | refine hf_bnd ?_ (fun _ _ _ => ?_) | refine hf_some ?_ | refine hf_lts ?_ (fun _ _ => ?_) | refine hf_ltv (fun _ => ?_) | refine hs_zs hm ?_ ?_ | refine hs_zcp hm ?_ (by decide +kernel) | refine hs_zsl ?_ | (apply HF.of; apply fx_f_X7_isGuest) | (apply HF.of; apply fx_f_X7_told_L60) | exact msub_tr (b := ([], [])) (by decide +kernel) hm | assumption | exact HS.rf | exact inm_r (by decide +kernel) | decide +kernel | intro _
set_option maxHeartbeats 4000000 in
theorem fx_f_X11_led (F : Nat) (v1 : Int32) (v2 : Int32) {m : zMk} (hm : msub ([], []) m = true) (s : zM) : HF m s (f_X11_led F v1 v2 s) := by
  unfold f_X11_led
  repeat' with_reducible first | exact hf_none | refine hf_ite (fun _ => ?_) (fun _ => ?_) | refine hf_bnd ?_ (fun _ _ _ => ?_) | refine hf_some ?_ | refine hf_lts ?_ (fun _ _ => ?_) | refine hf_ltv (fun _ => ?_) | refine hs_zs hm ?_ ?_ | refine hs_zcp hm ?_ (by decide +kernel) | refine hs_zsl ?_ | (apply HF.of; apply fx_f_X0_knows) | (apply HF.of; apply fx_f_X7_told) | exact msub_tr (b := ([], [])) (by decide +kernel) hm | assumption | exact HS.rf | exact inm_r (by decide +kernel) | decide +kernel | intro _
set_option maxHeartbeats 4000000 in
theorem fx_f_X11_seed (v1 : Int32) {m : zMk} (hm : msub ([], [(0, 9)]) m = true) (s : zM) : HF m s (f_X11_seed v1 s) := by
  unfold f_X11_seed
  repeat' with_reducible first | exact hf_none | refine hf_ite (fun _ => ?_) (fun _ => ?_) | refine hf_bnd ?_ (fun _ _ _ => ?_) | refine hf_some ?_ | refine hf_lts ?_ (fun _ _ => ?_) | refine hf_ltv (fun _ => ?_) | refine hs_zs hm ?_ ?_ | refine hs_zcp hm ?_ (by decide +kernel) | refine hs_zsl ?_ | exact msub_tr (b := ([], [(0, 9)])) (by decide +kernel) hm | assumption | exact HS.rf | exact inm_r (by decide +kernel) | decide +kernel | intro _
set_option maxHeartbeats 4000000 in
theorem fx_f_X11_draw_L17 (F : Nat) (k108 : Int32 → zM → Option (Int32 × zM)) (v1 : Int32) {m : zMk} (hm : msub ([13, 23, 32, 61, 64], [(0, 9)]) m = true) (hk108 : ∀ (a0 : Int32) (s : zM), HF m s (k108 a0 s)) : ∀ (n : Nat) (w0 : Int32) (w1 : Int32) (s : zM), HF m s (f_X11_draw_L17 F k108 v1 n w0 w1 s) := by
  intro n
  induction n with
  | zero => intros; exact hf_none
  | succ n ih =>
    intro w0 w1 s
    rw [f_X11_draw_L17]
    repeat' with_reducible first | exact hf_none | refine hf_ite (fun _ => ?_) (fun _ => ?_) | refine hf_bnd ?_ (fun _ _ _ => ?_) | refine hf_some ?_ | refine hf_lts ?_ (fun _ _ => ?_) | refine hf_ltv (fun _ => ?_) | refine hs_zs hm ?_ ?_ | refine hs_zcp hm ?_ (by decide +kernel) | refine hs_zsl ?_ | (apply HF.of; apply hk108) | (apply HF.of; apply fx_f_X0_seatOf) | (apply HF.of; apply fx_f_X8_beside) | (apply HF.of; apply fx_f_X0_at) | (apply HF.of; apply fx_f_X11_handOver) | (apply HF.of; apply ih) | exact msub_tr (b := ([13, 23, 32, 61, 64], [(0, 9)])) (by decide +kernel) hm | assumption | exact HS.rf | exact inm_r (by decide +kernel) | decide +kernel | intro _
set_option maxHeartbeats 4000000 in
theorem fx_f_X11_draw (F : Nat) (v1 : Int32) {m : zMk} (hm : msub ([13, 23, 32, 61, 64], [(0, 9)]) m = true) (s : zM) : HF m s (f_X11_draw F v1 s) := by
  unfold f_X11_draw
  repeat' with_reducible first | exact hf_none | refine hf_ite (fun _ => ?_) (fun _ => ?_) | refine hf_bnd ?_ (fun _ _ _ => ?_) | refine hf_some ?_ | refine hf_lts ?_ (fun _ _ => ?_) | refine hf_ltv (fun _ => ?_) | refine hs_zs hm ?_ ?_ | refine hs_zcp hm ?_ (by decide +kernel) | refine hs_zsl ?_ | (apply HF.of; apply fx_f_X11_draw_L17) | exact msub_tr (b := ([13, 23, 32, 61, 64], [(0, 9)])) (by decide +kernel) hm | assumption | exact HS.rf | exact inm_r (by decide +kernel) | decide +kernel | intro _
set_option maxHeartbeats 4000000 in
theorem fx_f_X0_store_L17 (F : Nat) (k41 : zM → Option (Unit × zM)) {m : zMk} (hm : msub ([10], []) m = true) (hk41 : ∀ (s : zM), HF m s (k41 s)) : ∀ (n : Nat) (w0 : Int32) (s : zM), HF m s (f_X0_store_L17 F k41 n w0 s) := by
  intro n
  induction n with
  | zero => intros; exact hf_none
  | succ n ih =>
    intro w0 s
    rw [f_X0_store_L17]
    repeat' with_reducible first | exact hf_none | refine hf_ite (fun _ => ?_) (fun _ => ?_) | refine hf_bnd ?_ (fun _ _ _ => ?_) | refine hf_some ?_ | refine hf_lts ?_ (fun _ _ => ?_) | refine hf_ltv (fun _ => ?_) | refine hs_zs hm ?_ ?_ | refine hs_zcp hm ?_ (by decide +kernel) | refine hs_zsl ?_ | (apply HF.of; apply hk41) | (apply HF.of; apply ih) | exact msub_tr (b := ([10], [])) (by decide +kernel) hm | assumption | exact HS.rf | exact inm_r (by decide +kernel) | decide +kernel | intro _
set_option maxHeartbeats 4000000 in
theorem fx_f_X0_store (F : Nat) {m : zMk} (hm : msub ([10, 11], []) m = true) (s : zM) : HF m s (f_X0_store F s) := by
  unfold f_X0_store
  repeat' with_reducible first | exact hf_none | refine hf_ite (fun _ => ?_) (fun _ => ?_) | refine hf_bnd ?_ (fun _ _ _ => ?_) | refine hf_some ?_ | refine hf_lts ?_ (fun _ _ => ?_) | refine hf_ltv (fun _ => ?_) | refine hs_zs hm ?_ ?_ | refine hs_zcp hm ?_ (by decide +kernel) | refine hs_zsl ?_ | (apply HF.of; apply fx_f_X0_store_L17) | exact msub_tr (b := ([10, 11], [])) (by decide +kernel) hm | assumption | exact HS.rf | exact inm_r (by decide +kernel) | decide +kernel | intro _
set_option maxHeartbeats 4000000 in
theorem fx_f_X2_store  {m : zMk} (hm : msub ([53], []) m = true) (s : zM) : HF m s (f_X2_store s) := by
  unfold f_X2_store
  repeat' with_reducible first | exact hf_none | refine hf_ite (fun _ => ?_) (fun _ => ?_) | refine hf_bnd ?_ (fun _ _ _ => ?_) | refine hf_some ?_ | refine hf_lts ?_ (fun _ _ => ?_) | refine hf_ltv (fun _ => ?_) | refine hs_zs hm ?_ ?_ | refine hs_zcp hm ?_ (by decide +kernel) | refine hs_zsl ?_ | exact msub_tr (b := ([53], [])) (by decide +kernel) hm | assumption | exact HS.rf | exact inm_r (by decide +kernel) | decide +kernel | intro _
set_option maxHeartbeats 4000000 in
theorem fx_f_X7_store  {m : zMk} (hm : msub ([65, 66, 67, 68], []) m = true) (s : zM) : HF m s (f_X7_store s) := by
  unfold f_X7_store
  repeat' with_reducible first | exact hf_none | refine hf_ite (fun _ => ?_) (fun _ => ?_) | refine hf_bnd ?_ (fun _ _ _ => ?_) | refine hf_some ?_ | refine hf_lts ?_ (fun _ _ => ?_) | refine hf_ltv (fun _ => ?_) | refine hs_zs hm ?_ ?_ | refine hs_zcp hm ?_ (by decide +kernel) | refine hs_zsl ?_ | exact msub_tr (b := ([65, 66, 67, 68], [])) (by decide +kernel) hm | assumption | exact HS.rf | exact inm_r (by decide +kernel) | decide +kernel | intro _
set_option maxHeartbeats 4000000 in
theorem fx_f_X11_keep_L44 (F : Nat) (k75 : Int32 → zM → Option (Int32 × zM)) {m : zMk} (hm : msub ([], []) m = true) (hk75 : ∀ (a0 : Int32) (s : zM), HF m s (k75 a0 s)) : ∀ (n : Nat) (w0 : Int32) (w1 : Int32) (s : zM), HF m s (f_X11_keep_L44 F k75 n w0 w1 s) := by
  intro n
  induction n with
  | zero => intros; exact hf_none
  | succ n ih =>
    intro w0 w1 s
    rw [f_X11_keep_L44]
    repeat' with_reducible first | exact hf_none | refine hf_ite (fun _ => ?_) (fun _ => ?_) | refine hf_bnd ?_ (fun _ _ _ => ?_) | refine hf_some ?_ | refine hf_lts ?_ (fun _ _ => ?_) | refine hf_ltv (fun _ => ?_) | refine hs_zs hm ?_ ?_ | refine hs_zcp hm ?_ (by decide +kernel) | refine hs_zsl ?_ | (apply HF.of; apply hk75) | (apply HF.of; apply fx_f_X0_number) | (apply HF.of; apply fx_f_X0_sits) | (apply HF.of; apply ih) | exact msub_tr (b := ([], [])) (by decide +kernel) hm | assumption | exact HS.rf | exact inm_r (by decide +kernel) | decide +kernel | intro _
set_option maxHeartbeats 4000000 in
theorem fx_f_X11_keep (F : Nat) {m : zMk} (hm : msub ([10, 11, 53, 65, 66, 67, 68], [(0, 10), (0, 11)]) m = true) (s : zM) : HF m s (f_X11_keep F s) := by
  unfold f_X11_keep
  repeat' with_reducible first | exact hf_none | refine hf_ite (fun _ => ?_) (fun _ => ?_) | refine hf_bnd ?_ (fun _ _ _ => ?_) | refine hf_some ?_ | refine hf_lts ?_ (fun _ _ => ?_) | refine hf_ltv (fun _ => ?_) | refine hs_zs hm ?_ ?_ | refine hs_zcp hm ?_ (by decide +kernel) | refine hs_zsl ?_ | (apply HF.of; apply fx_f_X0_number) | (apply HF.of; apply fx_f_X0_store) | (apply HF.of; apply fx_f_X2_store) | (apply HF.of; apply fx_f_X7_store) | (apply HF.of; apply fx_f_X11_keep_L44) | exact msub_tr (b := ([10, 11, 53, 65, 66, 67, 68], [(0, 10), (0, 11)])) (by decide +kernel) hm | assumption | exact HS.rf | exact inm_r (by decide +kernel) | decide +kernel | intro _
set_option maxHeartbeats 4000000 in
theorem fx_f_X0_restore_L2 (F : Nat) (k22 : zM → Option (Unit × zM)) {m : zMk} (hm : msub ([6, 9], []) m = true) (hk22 : ∀ (s : zM), HF m s (k22 s)) : ∀ (n : Nat) (w0 : Int32) (s : zM), HF m s (f_X0_restore_L2 F k22 n w0 s) := by
  intro n
  induction n with
  | zero => intros; exact hf_none
  | succ n ih =>
    intro w0 s
    rw [f_X0_restore_L2]
    repeat' with_reducible first | exact hf_none | refine hf_ite (fun _ => ?_) (fun _ => ?_) | refine hf_bnd ?_ (fun _ _ _ => ?_) | refine hf_some ?_ | refine hf_lts ?_ (fun _ _ => ?_) | refine hf_ltv (fun _ => ?_) | refine hs_zs hm ?_ ?_ | refine hs_zcp hm ?_ (by decide +kernel) | refine hs_zsl ?_ | (apply HF.of; apply hk22) | (apply HF.of; apply fx_f_X0_place) | (apply HF.of; apply ih) | exact msub_tr (b := ([6, 9], [])) (by decide +kernel) hm | assumption | exact HS.rf | exact inm_r (by decide +kernel) | decide +kernel | intro _
set_option maxHeartbeats 4000000 in
theorem fx_f_X0_restore_L24 (F : Nat) (k67 : zM → Option (Unit × zM)) {m : zMk} (hm : msub ([5, 6, 9], []) m = true) (hk67 : ∀ (s : zM), HF m s (k67 s)) : ∀ (n : Nat) (w0 : Int32) (s : zM), HF m s (f_X0_restore_L24 F k67 n w0 s) := by
  intro n
  induction n with
  | zero => intros; exact hf_none
  | succ n ih =>
    intro w0 s
    rw [f_X0_restore_L24]
    repeat' with_reducible first | exact hf_none | refine hf_ite (fun _ => ?_) (fun _ => ?_) | refine hf_bnd ?_ (fun _ _ _ => ?_) | refine hf_some ?_ | refine hf_lts ?_ (fun _ _ => ?_) | refine hf_ltv (fun _ => ?_) | refine hs_zs hm ?_ ?_ | refine hs_zcp hm ?_ (by decide +kernel) | refine hs_zsl ?_ | (apply HF.of; apply hk67) | (apply HF.of; apply fx_f_X0_place) | (apply HF.of; apply ih) | exact msub_tr (b := ([5, 6, 9], [])) (by decide +kernel) hm | assumption | exact HS.rf | exact inm_r (by decide +kernel) | decide +kernel | intro _
set_option maxHeartbeats 4000000 in
theorem fx_f_X0_restore (F : Nat) {m : zMk} (hm : msub ([5, 6, 9], []) m = true) (s : zM) : HF m s (f_X0_restore F s) := by
  unfold f_X0_restore
  repeat' with_reducible first | exact hf_none | refine hf_ite (fun _ => ?_) (fun _ => ?_) | refine hf_bnd ?_ (fun _ _ _ => ?_) | refine hf_some ?_ | refine hf_lts ?_ (fun _ _ => ?_) | refine hf_ltv (fun _ => ?_) | refine hs_zs hm ?_ ?_ | refine hs_zcp hm ?_ (by decide +kernel) | refine hs_zsl ?_ | (apply HF.of; apply fx_f_X0_restore_L2) | (apply HF.of; apply fx_f_X0_restore_L24) | exact msub_tr (b := ([5, 6, 9], [])) (by decide +kernel) hm | assumption | exact HS.rf | exact inm_r (by decide +kernel) | decide +kernel | intro _
set_option maxHeartbeats 4000000 in
theorem fx_f_X2_restore  {m : zMk} (hm : msub ([52], []) m = true) (s : zM) : HF m s (f_X2_restore s) := by
  unfold f_X2_restore
  repeat' with_reducible first | exact hf_none | refine hf_ite (fun _ => ?_) (fun _ => ?_) | refine hf_bnd ?_ (fun _ _ _ => ?_) | refine hf_some ?_ | refine hf_lts ?_ (fun _ _ => ?_) | refine hf_ltv (fun _ => ?_) | refine hs_zs hm ?_ ?_ | refine hs_zcp hm ?_ (by decide +kernel) | refine hs_zsl ?_ | exact msub_tr (b := ([52], [])) (by decide +kernel) hm | assumption | exact HS.rf | exact inm_r (by decide +kernel) | decide +kernel | intro _
set_option maxHeartbeats 4000000 in
theorem fx_f_X7_restore  {m : zMk} (hm : msub ([61, 62, 63, 64], []) m = true) (s : zM) : HF m s (f_X7_restore s) := by
  unfold f_X7_restore
  repeat' with_reducible first | exact hf_none | refine hf_ite (fun _ => ?_) (fun _ => ?_) | refine hf_bnd ?_ (fun _ _ _ => ?_) | refine hf_some ?_ | refine hf_lts ?_ (fun _ _ => ?_) | refine hf_ltv (fun _ => ?_) | refine hs_zs hm ?_ ?_ | refine hs_zcp hm ?_ (by decide +kernel) | refine hs_zsl ?_ | exact msub_tr (b := ([61, 62, 63, 64], [])) (by decide +kernel) hm | assumption | exact HS.rf | exact inm_r (by decide +kernel) | decide +kernel | intro _
set_option maxHeartbeats 4000000 in
theorem fx_f_X11_undo (F : Nat) {m : zMk} (hm : msub ([5, 6, 9, 52, 61, 62, 63, 64], [(0, 9)]) m = true) (s : zM) : HF m s (f_X11_undo F s) := by
  unfold f_X11_undo
  repeat' with_reducible first | exact hf_none | refine hf_ite (fun _ => ?_) (fun _ => ?_) | refine hf_bnd ?_ (fun _ _ _ => ?_) | refine hf_some ?_ | refine hf_lts ?_ (fun _ _ => ?_) | refine hf_ltv (fun _ => ?_) | refine hs_zs hm ?_ ?_ | refine hs_zcp hm ?_ (by decide +kernel) | refine hs_zsl ?_ | (apply HF.of; apply fx_f_X0_number) | (apply HF.of; apply fx_f_X0_restore) | (apply HF.of; apply fx_f_X2_restore) | (apply HF.of; apply fx_f_X7_restore) | exact msub_tr (b := ([5, 6, 9, 52, 61, 62, 63, 64], [(0, 9)])) (by decide +kernel) hm | assumption | exact HS.rf | exact inm_r (by decide +kernel) | decide +kernel | intro _
set_option maxHeartbeats 4000000 in
theorem fx_f_X10_numberAt_L4 (F : Nat) (k32 : Int32 → zM → Option (Int32 × zM)) (v1 : Int32) {m : zMk} (hm : msub ([], []) m = true) (hk32 : ∀ (a0 : Int32) (s : zM), HF m s (k32 a0 s)) : ∀ (n : Nat) (w0 : Int32) (w1 : Int32) (s : zM), HF m s (f_X10_numberAt_L4 F k32 v1 n w0 w1 s) := by
  intro n
  induction n with
  | zero => intros; exact hf_none
  | succ n ih =>
    intro w0 w1 s
    rw [f_X10_numberAt_L4]
    repeat' with_reducible first | exact hf_none | refine hf_ite (fun _ => ?_) (fun _ => ?_) | refine hf_bnd ?_ (fun _ _ _ => ?_) | refine hf_some ?_ | refine hf_lts ?_ (fun _ _ => ?_) | refine hf_ltv (fun _ => ?_) | refine hs_zs hm ?_ ?_ | refine hs_zcp hm ?_ (by decide +kernel) | refine hs_zsl ?_ | (apply HF.of; apply hk32) | (apply HF.of; apply fx_f_X10_byteAt) | (apply HF.of; apply ih) | exact msub_tr (b := ([], [])) (by decide +kernel) hm | assumption | exact HS.rf | exact inm_r (by decide +kernel) | decide +kernel | intro _
set_option maxHeartbeats 4000000 in
theorem fx_f_X10_numberAt (F : Nat) (v1 : Int32) {m : zMk} (hm : msub ([], []) m = true) (s : zM) : HF m s (f_X10_numberAt F v1 s) := by
  unfold f_X10_numberAt
  repeat' with_reducible first | exact hf_none | refine hf_ite (fun _ => ?_) (fun _ => ?_) | refine hf_bnd ?_ (fun _ _ _ => ?_) | refine hf_some ?_ | refine hf_lts ?_ (fun _ _ => ?_) | refine hf_ltv (fun _ => ?_) | refine hs_zs hm ?_ ?_ | refine hs_zcp hm ?_ (by decide +kernel) | refine hs_zsl ?_ | (apply HF.of; apply fx_f_X10_numberAt_L4) | exact msub_tr (b := ([], [])) (by decide +kernel) hm | assumption | exact HS.rf | exact inm_r (by decide +kernel) | decide +kernel | intro _
set_option maxHeartbeats 4000000 in
theorem fx_f_X11_check_L37 (F : Nat) (k73 : Int32 → zM → Option (Int32 × zM)) (v1 : Int32) (v2 : Int32) {m : zMk} (hm : msub ([], []) m = true) (hk73 : ∀ (a0 : Int32) (s : zM), HF m s (k73 a0 s)) : ∀ (n : Nat) (w0 : Int32) (s : zM), HF m s (f_X11_check_L37 F k73 v1 v2 n w0 s) := by
  intro n
  induction n with
  | zero => intros; exact hf_none
  | succ n ih =>
    intro w0 s
    rw [f_X11_check_L37]
    repeat' with_reducible first | exact hf_none | refine hf_ite (fun _ => ?_) (fun _ => ?_) | refine hf_bnd ?_ (fun _ _ _ => ?_) | refine hf_some ?_ | refine hf_lts ?_ (fun _ _ => ?_) | refine hf_ltv (fun _ => ?_) | refine hs_zs hm ?_ ?_ | refine hs_zcp hm ?_ (by decide +kernel) | refine hs_zsl ?_ | (apply HF.of; apply hk73) | (apply HF.of; apply fx_f_X10_numberAt) | (apply HF.of; apply fx_f_X0_at) | (apply HF.of; apply ih) | exact msub_tr (b := ([], [])) (by decide +kernel) hm | assumption | exact HS.rf | exact inm_r (by decide +kernel) | decide +kernel | intro _
set_option maxHeartbeats 4000000 in
theorem fx_f_X11_check_j73 (F : Nat) (v2 : Int32) (v3 : Int32) {m : zMk} (hm : msub ([], [(1, 1)]) m = true) (s : zM) : HF m s (f_X11_check_j73 F v2 v3 s) := by
  unfold f_X11_check_j73
  repeat' with_reducible first | exact hf_none | refine hf_ite (fun _ => ?_) (fun _ => ?_) | refine hf_bnd ?_ (fun _ _ _ => ?_) | refine hf_some ?_ | refine hf_lts ?_ (fun _ _ => ?_) | refine hf_ltv (fun _ => ?_) | refine hs_zs hm ?_ ?_ | refine hs_zcp hm ?_ (by decide +kernel) | refine hs_zsl ?_ | (apply HF.of; apply fx_f_X10_clear) | exact msub_tr (b := ([], [(1, 1)])) (by decide +kernel) hm | assumption | exact HS.rf | exact inm_r (by decide +kernel) | decide +kernel | intro _
set_option maxHeartbeats 4000000 in
theorem fx_f_X11_check (F : Nat) (v1 : Int32) (v2 : Int32) {m : zMk} (hm : msub ([], [(1, 1)]) m = true) (s : zM) : HF m s (f_X11_check F v1 v2 s) := by
  unfold f_X11_check
  repeat' with_reducible first | exact hf_none | refine hf_ite (fun _ => ?_) (fun _ => ?_) | refine hf_bnd ?_ (fun _ _ _ => ?_) | refine hf_some ?_ | refine hf_lts ?_ (fun _ _ => ?_) | refine hf_ltv (fun _ => ?_) | refine hs_zs hm ?_ ?_ | refine hs_zcp hm ?_ (by decide +kernel) | refine hs_zsl ?_ | (apply HF.of; apply fx_f_X10_length) | (apply HF.of; apply fx_f_X11_check_L37) | (apply HF.of; apply fx_f_X11_check_j73) | exact msub_tr (b := ([], [(1, 1)])) (by decide +kernel) hm | assumption | exact HS.rf | exact inm_r (by decide +kernel) | decide +kernel | intro _
set_option maxHeartbeats 4000000 in
theorem fx_f_X5_rains  {m : zMk} (hm : msub ([], []) m = true) (s : zM) : HF m s (f_X5_rains s) := by
  unfold f_X5_rains
  repeat' with_reducible first | exact hf_none | refine hf_ite (fun _ => ?_) (fun _ => ?_) | refine hf_bnd ?_ (fun _ _ _ => ?_) | refine hf_some ?_ | refine hf_lts ?_ (fun _ _ => ?_) | refine hf_ltv (fun _ => ?_) | refine hs_zs hm ?_ ?_ | refine hs_zcp hm ?_ (by decide +kernel) | refine hs_zsl ?_ | exact msub_tr (b := ([], [])) (by decide +kernel) hm | assumption | exact HS.rf | exact inm_r (by decide +kernel) | decide +kernel | intro _
set_option maxHeartbeats 4000000 in
theorem fx_f_X5_speeches  {m : zMk} (hm : msub ([], []) m = true) (s : zM) : HF m s (f_X5_speeches s) := by
  unfold f_X5_speeches
  repeat' with_reducible first | exact hf_none | refine hf_ite (fun _ => ?_) (fun _ => ?_) | refine hf_bnd ?_ (fun _ _ _ => ?_) | refine hf_some ?_ | refine hf_lts ?_ (fun _ _ => ?_) | refine hf_ltv (fun _ => ?_) | refine hs_zs hm ?_ ?_ | refine hs_zcp hm ?_ (by decide +kernel) | refine hs_zsl ?_ | exact msub_tr (b := ([], [])) (by decide +kernel) hm | assumption | exact HS.rf | exact inm_r (by decide +kernel) | decide +kernel | intro _
set_option maxHeartbeats 4000000 in
theorem fx_f_X2_counts  {m : zMk} (hm : msub ([], []) m = true) (s : zM) : HF m s (f_X2_counts s) := by
  unfold f_X2_counts
  repeat' with_reducible first | exact hf_none | refine hf_ite (fun _ => ?_) (fun _ => ?_) | refine hf_bnd ?_ (fun _ _ _ => ?_) | refine hf_some ?_ | refine hf_lts ?_ (fun _ _ => ?_) | refine hf_ltv (fun _ => ?_) | refine hs_zs hm ?_ ?_ | refine hs_zcp hm ?_ (by decide +kernel) | refine hs_zsl ?_ | exact msub_tr (b := ([], [])) (by decide +kernel) hm | assumption | exact HS.rf | exact inm_r (by decide +kernel) | decide +kernel | intro _
set_option maxHeartbeats 4000000 in
theorem fx_f_X11_count (v1 : Int32) {m : zMk} (hm : msub ([], []) m = true) (s : zM) : HF m s (f_X11_count v1 s) := by
  unfold f_X11_count
  repeat' with_reducible first | exact hf_none | refine hf_ite (fun _ => ?_) (fun _ => ?_) | refine hf_bnd ?_ (fun _ _ _ => ?_) | refine hf_some ?_ | refine hf_lts ?_ (fun _ _ => ?_) | refine hf_ltv (fun _ => ?_) | refine hs_zs hm ?_ ?_ | refine hs_zcp hm ?_ (by decide +kernel) | refine hs_zsl ?_ | (apply HF.of; apply fx_f_X0_number) | (apply HF.of; apply fx_f_X1_inForce) | (apply HF.of; apply fx_f_X3_number) | (apply HF.of; apply fx_f_X10_length) | (apply HF.of; apply fx_f_X5_rains) | (apply HF.of; apply fx_f_X5_speeches) | (apply HF.of; apply fx_f_X2_counts) | (apply HF.of; apply fx_f_X0_knows) | (apply HF.of; apply fx_f_X0_seatOf) | (apply HF.of; apply fx_f_X0_lives) | (apply HF.of; apply fx_f_X8_isSeat) | (apply HF.of; apply fx_f_X2_at) | exact msub_tr (b := ([], [])) (by decide +kernel) hm | assumption | exact HS.rf | exact inm_r (by decide +kernel) | decide +kernel | intro _
