theorem zs2 {τ σ : zM} {k j : Nat} {v : Int32} (h : τ.2 = σ.2) : (zs τ k j v).2 = σ.2 := h
def QL {β : Type} (σ : zM) (o : Option (β × zM)) : Prop := ∀ r τ, o = some (r, τ) → τ.2 = σ.2
theorem ql_none {β : Type} {σ : zM} : QL σ (none : Option (β × zM)) := fun _ _ h => by cases h
theorem ql_some {β : Type} {σ τ : zM} {r : β} (h : τ.2 = σ.2) : QL σ (some (r, τ)) := fun _ _ e => by cases e; exact h
theorem ql_ite {β : Type} {σ : zM} {c : Prop} [Decidable c] {A B : Option (β × zM)} (h1 : QL σ A) (h2 : QL σ B) : QL σ (if c then A else B) := by
  by_cases h : c
  · rw [if_pos h]; exact h1
  · rw [if_neg h]; exact h2
theorem ql_lts {β : Type} {σ v : zM} {f : zM → Option (β × zM)} (e : v.2 = σ.2) (h : ∀ y, y.2 = σ.2 → QL σ (f y)) : QL σ (lt v f) := h v e
theorem ql_ltv {β : Type} {σ : zM} {v : Int32} {f : Int32 → Option (β × zM)} (h : ∀ y, QL σ (f y)) : QL σ (lt v f) := h v
theorem QL.of {β : Type} {σ τ : zM} {o : Option (β × zM)} (h : QL τ o) (e : τ.2 = σ.2) : QL σ o := fun r s q => (h r s q).trans e
theorem ql_bnd {α β : Type} {σ : zM} {o : Option (α × zM)} {f : α → zM → Option (β × zM)} (h : QL σ o) (g : ∀ r s, s.2 = σ.2 → QL σ (f r s)) : QL σ (bnd o f) := by
  intro r t e
  cases ho : o with
  | none => rw [ho] at e; cases e
  | some x => rw [ho] at e; exact g x.1 x.2 (h x.1 x.2 ho) r t e
set_option maxHeartbeats 3000000 in
theorem ql_f_X0_knows (v1 : Int32) (s : zM) : QL s (f_X0_knows v1 s) := by
  unfold f_X0_knows
  repeat' with_reducible first | refine ql_ite ?_ ?_ | refine ql_ltv (fun _ => ?_) | refine ql_lts ?_ (fun _ _ => ?_) | refine ql_bnd ?_ (fun _ _ _ => ?_) | exact ql_none | refine ql_some ?_ | refine zs2 ?_ | intro _ | assumption | exact rfl
set_option maxHeartbeats 3000000 in
theorem ql_f_X0_seatOf (v1 : Int32) (s : zM) : QL s (f_X0_seatOf v1 s) := by
  unfold f_X0_seatOf
  repeat' with_reducible first | refine ql_ite ?_ ?_ | refine ql_ltv (fun _ => ?_) | refine ql_lts ?_ (fun _ _ => ?_) | refine ql_bnd ?_ (fun _ _ _ => ?_) | exact ql_none | refine ql_some ?_ | refine zs2 ?_ | refine QL.of (ql_f_X0_knows _ _) ?_ | intro _ | assumption | exact rfl
set_option maxHeartbeats 3000000 in
theorem ql_f_X0_landOf (v1 : Int32) (s : zM) : QL s (f_X0_landOf v1 s) := by
  unfold f_X0_landOf
  repeat' with_reducible first | refine ql_ite ?_ ?_ | refine ql_ltv (fun _ => ?_) | refine ql_lts ?_ (fun _ _ => ?_) | refine ql_bnd ?_ (fun _ _ _ => ?_) | exact ql_none | refine ql_some ?_ | refine zs2 ?_ | refine QL.of (ql_f_X0_knows _ _) ?_ | intro _ | assumption | exact rfl
set_option maxHeartbeats 3000000 in
theorem ql_f_X0_likingOf (v1 : Int32) (v2 : Int32) (s : zM) : QL s (f_X0_likingOf v1 v2 s) := by
  unfold f_X0_likingOf
  repeat' with_reducible first | refine ql_ite ?_ ?_ | refine ql_ltv (fun _ => ?_) | refine ql_lts ?_ (fun _ _ => ?_) | refine ql_bnd ?_ (fun _ _ _ => ?_) | exact ql_none | refine ql_some ?_ | refine zs2 ?_ | refine QL.of (ql_f_X0_knows _ _) ?_ | intro _ | assumption | exact rfl
set_option maxHeartbeats 3000000 in
theorem ql_f_X8_apart (v0 : Int32) (v1 : Int32) (s : zM) : QL s (f_X8_apart v0 v1 s) := by
  unfold f_X8_apart
  repeat' with_reducible first | refine ql_ite ?_ ?_ | refine ql_ltv (fun _ => ?_) | refine ql_lts ?_ (fun _ _ => ?_) | refine ql_bnd ?_ (fun _ _ _ => ?_) | exact ql_none | refine ql_some ?_ | refine zs2 ?_ | intro _ | assumption | exact rfl
set_option maxHeartbeats 3000000 in
theorem ql_f_X1_spell (v1 : Int32) (v2 : Int32) (v3 : Int32) (v4 : Int32) (s : zM) : QL s (f_X1_spell v1 v2 v3 v4 s) := by
  unfold f_X1_spell
  repeat' with_reducible first | refine ql_ite ?_ ?_ | refine ql_ltv (fun _ => ?_) | refine ql_lts ?_ (fun _ _ => ?_) | refine ql_bnd ?_ (fun _ _ _ => ?_) | exact ql_none | refine ql_some ?_ | refine zs2 ?_ | refine QL.of (ql_f_X0_landOf _ _) ?_ | refine QL.of (ql_f_X0_likingOf _ _ _) ?_ | refine QL.of (ql_f_X8_apart _ _ _) ?_ | intro _ | assumption | exact rfl
set_option maxHeartbeats 3000000 in
theorem ql_f_X3_taken (v0 : Int32) (s : zM) : QL s (f_X3_taken v0 s) := by
  unfold f_X3_taken
  repeat' with_reducible first | refine ql_ite ?_ ?_ | refine ql_ltv (fun _ => ?_) | refine ql_lts ?_ (fun _ _ => ?_) | refine ql_bnd ?_ (fun _ _ _ => ?_) | exact ql_none | refine ql_some ?_ | refine zs2 ?_ | intro _ | assumption | exact rfl
set_option maxHeartbeats 3000000 in
theorem ql_f_X3_reckon_j209 (F : Nat) (i : Nat) (k9 : Int32 → Int32 → Int32 → zM → Option (Int32 × zM)) (v2 : Int32) (v4 : Int32) (v5 : Int32) (v6 : Int32) (v8 : Int32) (w0 : Int32) (w1 : Int32) (hk9 : ∀ (a0 : Int32) (a1 : Int32) (a2 : Int32) (s : zM), QL s (k9 a0 a1 a2 s)) (s : zM) : QL s (f_X3_reckon_j209 F i k9 v2 v4 v5 v6 v8 w0 w1 s) := by
  unfold f_X3_reckon_j209
  repeat' with_reducible first | refine ql_ite ?_ ?_ | refine ql_ltv (fun _ => ?_) | refine ql_lts ?_ (fun _ _ => ?_) | refine ql_bnd ?_ (fun _ _ _ => ?_) | exact ql_none | refine ql_some ?_ | refine zs2 ?_ | refine QL.of (hk9 _ _ _ _) ?_ | intro _ | assumption | exact rfl
set_option maxHeartbeats 3000000 in
theorem ql_f_X3_reckon_j197 (F : Nat) (i : Nat) (k9 : Int32 → Int32 → Int32 → zM → Option (Int32 × zM)) (v2 : Int32) (v4 : Int32) (v5 : Int32) (v6 : Int32) (v7 : Int32) (v8 : Int32) (w0 : Int32) (hk9 : ∀ (a0 : Int32) (a1 : Int32) (a2 : Int32) (s : zM), QL s (k9 a0 a1 a2 s)) (s : zM) : QL s (f_X3_reckon_j197 F i k9 v2 v4 v5 v6 v7 v8 w0 s) := by
  unfold f_X3_reckon_j197
  repeat' with_reducible first | refine ql_ite ?_ ?_ | refine ql_ltv (fun _ => ?_) | refine ql_lts ?_ (fun _ _ => ?_) | refine ql_bnd ?_ (fun _ _ _ => ?_) | exact ql_none | refine ql_some ?_ | refine zs2 ?_ | refine QL.of (hk9 _ _ _ _) ?_ | refine QL.of (ql_f_X3_reckon_j209 _ _ _ _ _ _ _ _ _ _ ?_ _) ?_ | intro _ | assumption | exact rfl
set_option maxHeartbeats 3000000 in
theorem ql_f_X3_reckon_j180 (F : Nat) (i : Nat) (k9 : Int32 → Int32 → Int32 → zM → Option (Int32 × zM)) (v2 : Int32) (v4 : Int32) (v5 : Int32) (v6 : Int32) (v7 : Int32) (v8 : Int32) (hk9 : ∀ (a0 : Int32) (a1 : Int32) (a2 : Int32) (s : zM), QL s (k9 a0 a1 a2 s)) (s : zM) : QL s (f_X3_reckon_j180 F i k9 v2 v4 v5 v6 v7 v8 s) := by
  unfold f_X3_reckon_j180
  repeat' with_reducible first | refine ql_ite ?_ ?_ | refine ql_ltv (fun _ => ?_) | refine ql_lts ?_ (fun _ _ => ?_) | refine ql_bnd ?_ (fun _ _ _ => ?_) | exact ql_none | refine ql_some ?_ | refine zs2 ?_ | refine QL.of (hk9 _ _ _ _) ?_ | refine QL.of (ql_f_X3_reckon_j197 _ _ _ _ _ _ _ _ _ _ ?_ _) ?_ | intro _ | assumption | exact rfl
set_option maxHeartbeats 3000000 in
theorem ql_f_X3_combined (v0 : Int32) (v1 : Int32) (v2 : Int32) (s : zM) : QL s (f_X3_combined v0 v1 v2 s) := by
  unfold f_X3_combined
  repeat' with_reducible first | refine ql_ite ?_ ?_ | refine ql_ltv (fun _ => ?_) | refine ql_lts ?_ (fun _ _ => ?_) | refine ql_bnd ?_ (fun _ _ _ => ?_) | exact ql_none | refine ql_some ?_ | refine zs2 ?_ | intro _ | assumption | exact rfl
set_option maxHeartbeats 3000000 in
theorem ql_f_X3_reckon_j259 (F : Nat) (i : Nat) (k9 : Int32 → Int32 → Int32 → zM → Option (Int32 × zM)) (v2 : Int32) (v4 : Int32) (v5 : Int32) (v6 : Int32) (v7 : Int32) (hk9 : ∀ (a0 : Int32) (a1 : Int32) (a2 : Int32) (s : zM), QL s (k9 a0 a1 a2 s)) (s : zM) : QL s (f_X3_reckon_j259 F i k9 v2 v4 v5 v6 v7 s) := by
  unfold f_X3_reckon_j259
  repeat' with_reducible first | refine ql_ite ?_ ?_ | refine ql_ltv (fun _ => ?_) | refine ql_lts ?_ (fun _ _ => ?_) | refine ql_bnd ?_ (fun _ _ _ => ?_) | exact ql_none | refine ql_some ?_ | refine zs2 ?_ | refine QL.of (hk9 _ _ _ _) ?_ | refine QL.of (ql_f_X3_combined _ _ _ _) ?_ | intro _ | assumption | exact rfl
set_option maxHeartbeats 3000000 in
theorem ql_f_X3_reckon_L9 (F : Nat) (i : Nat) (k295 : Int32 → zM → Option (Int32 × zM)) (v2 : Int32) (hk295 : ∀ (a0 : Int32) (s : zM), QL s (k295 a0 s)) : ∀ (n : Nat) (w0 : Int32) (w1 : Int32) (w2 : Int32) (s : zM), QL s (f_X3_reckon_L9 F i k295 v2 n w0 w1 w2 s) := by
  intro n
  induction n with
  | zero => intros; exact ql_none
  | succ n ih =>
    intro w0 w1 w2 s
    rw [f_X3_reckon_L9]
    repeat' with_reducible first | refine ql_ite ?_ ?_ | refine ql_ltv (fun _ => ?_) | refine ql_lts ?_ (fun _ _ => ?_) | refine ql_bnd ?_ (fun _ _ _ => ?_) | exact ql_none | refine ql_some ?_ | refine zs2 ?_ | refine QL.of (hk295 _ _) ?_ | refine QL.of (ql_f_X3_taken _ _) ?_ | refine QL.of (ql_f_X3_reckon_j180 _ _ _ _ _ _ _ _ _ ?_ _) ?_ | refine QL.of (ql_f_X3_reckon_j259 _ _ _ _ _ _ _ _ ?_ _) ?_ | refine QL.of (ih _ _ _ _) ?_ | intro _ | assumption | exact rfl
set_option maxHeartbeats 3000000 in
theorem ql_f_X3_reckon_j295 (F : Nat) (i : Nat) (v4 : Int32) (s : zM) : QL s (f_X3_reckon_j295 F i v4 s) := by
  unfold f_X3_reckon_j295
  repeat' with_reducible first | refine ql_ite ?_ ?_ | refine ql_ltv (fun _ => ?_) | refine ql_lts ?_ (fun _ _ => ?_) | refine ql_bnd ?_ (fun _ _ _ => ?_) | exact ql_none | refine ql_some ?_ | refine zs2 ?_ | intro _ | assumption | exact rfl
set_option maxHeartbeats 3000000 in
theorem ql_f_X3_reckon (F : Nat) (i : Nat) (v1 : Int32) (v2 : Int32) (s : zM) : QL s (f_X3_reckon F i v1 v2 s) := by
  unfold f_X3_reckon
  repeat' with_reducible first | refine ql_ite ?_ ?_ | refine ql_ltv (fun _ => ?_) | refine ql_lts ?_ (fun _ _ => ?_) | refine ql_bnd ?_ (fun _ _ _ => ?_) | exact ql_none | refine ql_some ?_ | refine zs2 ?_ | refine QL.of (ql_f_X3_reckon_L9 _ _ _ _ ?_ _ _ _ _ _) ?_ | refine QL.of (ql_f_X3_reckon_j295 _ _ _ _) ?_ | intro _ | assumption | exact rfl
set_option maxHeartbeats 3000000 in
theorem ql_f_X3_amount_L3 (F : Nat) (i : Nat) (k87 : zM → Option (Int32 × zM)) (v1 : Int32) (v3 : Int32) (v4 : Int32) (hk87 : ∀  (s : zM), QL s (k87 s)) : ∀ (n : Nat) (w0 : Int32) (s : zM), QL s (f_X3_amount_L3 F i k87 v1 v3 v4 n w0 s) := by
  intro n
  induction n with
  | zero => intros; exact ql_none
  | succ n ih =>
    intro w0 s
    rw [f_X3_amount_L3]
    repeat' with_reducible first | refine ql_ite ?_ ?_ | refine ql_ltv (fun _ => ?_) | refine ql_lts ?_ (fun _ _ => ?_) | refine ql_bnd ?_ (fun _ _ _ => ?_) | exact ql_none | refine ql_some ?_ | refine zs2 ?_ | refine QL.of (hk87 _) ?_ | refine QL.of (ql_f_X3_reckon _ _ _ _ _) ?_ | refine QL.of (ih _ _) ?_ | intro _ | assumption | exact rfl
set_option maxHeartbeats 3000000 in
theorem ql_f_X3_amount (F : Nat) (i : Nat) (v1 : Int32) (v3 : Int32) (v4 : Int32) (s : zM) : QL s (f_X3_amount F i v1 v3 v4 s) := by
  unfold f_X3_amount
  repeat' with_reducible first | refine ql_ite ?_ ?_ | refine ql_ltv (fun _ => ?_) | refine ql_lts ?_ (fun _ _ => ?_) | refine ql_bnd ?_ (fun _ _ _ => ?_) | exact ql_none | refine ql_some ?_ | refine zs2 ?_ | refine QL.of (ql_f_X3_amount_L3 _ _ _ _ _ _ ?_ _ _ _) ?_ | intro _ | assumption | exact rfl
set_option maxHeartbeats 3000000 in
theorem ql_f_X1_seen (F : Nat) (v1 : Int32) (v2 : Int32) (s : zM) : QL s (f_X1_seen F v1 v2 s) := by
  unfold f_X1_seen
  repeat' with_reducible first | refine ql_ite ?_ ?_ | refine ql_ltv (fun _ => ?_) | refine ql_lts ?_ (fun _ _ => ?_) | refine ql_bnd ?_ (fun _ _ _ => ?_) | exact ql_none | refine ql_some ?_ | refine zs2 ?_ | refine QL.of (ql_f_X0_seatOf _ _) ?_ | refine QL.of (ql_f_X1_spell _ _ _ _ _) ?_ | refine QL.of (ql_f_X3_amount _ _ _ _ _ _) ?_ | intro _ | assumption | exact rfl
set_option maxHeartbeats 3000000 in
theorem ql_f_X12_feelsOne_L2 (F : Nat) (k21 : zM → Option (Unit × zM)) (v1 : Int32) (v2 : Int32) (hk21 : ∀  (s : zM), QL s (k21 s)) : ∀ (n : Nat) (w0 : Int32) (s : zM), QL s (f_X12_feelsOne_L2 F k21 v1 v2 n w0 s) := by
  intro n
  induction n with
  | zero => intros; exact ql_none
  | succ n ih =>
    intro w0 s
    rw [f_X12_feelsOne_L2]
    repeat' with_reducible first | refine ql_ite ?_ ?_ | refine ql_ltv (fun _ => ?_) | refine ql_lts ?_ (fun _ _ => ?_) | refine ql_bnd ?_ (fun _ _ _ => ?_) | exact ql_none | refine ql_some ?_ | refine zs2 ?_ | refine QL.of (hk21 _) ?_ | refine QL.of (ih _ _) ?_ | intro _ | assumption | exact rfl
set_option maxHeartbeats 3000000 in
theorem ql_f_X12_feelsOne (F : Nat) (v1 : Int32) (v2 : Int32) (s : zM) : QL s (f_X12_feelsOne F v1 v2 s) := by
  unfold f_X12_feelsOne
  repeat' with_reducible first | refine ql_ite ?_ ?_ | refine ql_ltv (fun _ => ?_) | refine ql_lts ?_ (fun _ _ => ?_) | refine ql_bnd ?_ (fun _ _ _ => ?_) | exact ql_none | refine ql_some ?_ | refine zs2 ?_ | refine QL.of (ql_f_X12_feelsOne_L2 _ _ _ _ ?_ _ _ _) ?_ | intro _ | assumption | exact rfl
set_option maxHeartbeats 3000000 in
theorem ql_f_X12_size (v0 : Int32) (s : zM) : QL s (f_X12_size v0 s) := by
  unfold f_X12_size
  repeat' with_reducible first | refine ql_ite ?_ ?_ | refine ql_ltv (fun _ => ?_) | refine ql_lts ?_ (fun _ _ => ?_) | refine ql_bnd ?_ (fun _ _ _ => ?_) | exact ql_none | refine ql_some ?_ | refine zs2 ?_ | intro _ | assumption | exact rfl
set_option maxHeartbeats 3000000 in
theorem ql_f_X12_feels (F : Nat) (v1 : Int32) (v2 : Int32) (s : zM) : QL s (f_X12_feels F v1 v2 s) := by
  unfold f_X12_feels
  repeat' with_reducible first | refine ql_ite ?_ ?_ | refine ql_ltv (fun _ => ?_) | refine ql_lts ?_ (fun _ _ => ?_) | refine ql_bnd ?_ (fun _ _ _ => ?_) | exact ql_none | refine ql_some ?_ | refine zs2 ?_ | refine QL.of (ql_f_X12_feelsOne _ _ _ _) ?_ | refine QL.of (ql_f_X12_size _ _) ?_ | intro _ | assumption | exact rfl
set_option maxHeartbeats 3000000 in
theorem ql_f_X12_comesTo_j63 (F : Nat) (k16 : Int32 → Int32 → zM → Option (Int32 × zM)) (v2 : Int32) (v4 : Int32) (v3 : Int32) (v5 : Int32) (v6 : Int32) (v7 : Int32) (hk16 : ∀ (a0 : Int32) (a1 : Int32) (s : zM), QL s (k16 a0 a1 s)) (s : zM) : QL s (f_X12_comesTo_j63 F k16 v2 v4 v3 v5 v6 v7 s) := by
  unfold f_X12_comesTo_j63
  repeat' with_reducible first | refine ql_ite ?_ ?_ | refine ql_ltv (fun _ => ?_) | refine ql_lts ?_ (fun _ _ => ?_) | refine ql_bnd ?_ (fun _ _ _ => ?_) | exact ql_none | refine ql_some ?_ | refine zs2 ?_ | refine QL.of (hk16 _ _ _) ?_ | intro _ | assumption | exact rfl
set_option maxHeartbeats 3000000 in
theorem ql_f_X12_comesTo_j155 (F : Nat) (k16 : Int32 → Int32 → zM → Option (Int32 × zM)) (v2 : Int32) (v4 : Int32) (v3 : Int32) (v5 : Int32) (v7 : Int32) (w0 : Int32) (w1 : Int32) (hk16 : ∀ (a0 : Int32) (a1 : Int32) (s : zM), QL s (k16 a0 a1 s)) (s : zM) : QL s (f_X12_comesTo_j155 F k16 v2 v4 v3 v5 v7 w0 w1 s) := by
  unfold f_X12_comesTo_j155
  repeat' with_reducible first | refine ql_ite ?_ ?_ | refine ql_ltv (fun _ => ?_) | refine ql_lts ?_ (fun _ _ => ?_) | refine ql_bnd ?_ (fun _ _ _ => ?_) | exact ql_none | refine ql_some ?_ | refine zs2 ?_ | refine QL.of (hk16 _ _ _) ?_ | intro _ | assumption | exact rfl
set_option maxHeartbeats 3000000 in
theorem ql_f_X12_comesTo_j135 (F : Nat) (k16 : Int32 → Int32 → zM → Option (Int32 × zM)) (v2 : Int32) (v4 : Int32) (v3 : Int32) (v5 : Int32) (v6 : Int32) (v7 : Int32) (hk16 : ∀ (a0 : Int32) (a1 : Int32) (s : zM), QL s (k16 a0 a1 s)) (s : zM) : QL s (f_X12_comesTo_j135 F k16 v2 v4 v3 v5 v6 v7 s) := by
  unfold f_X12_comesTo_j135
  repeat' with_reducible first | refine ql_ite ?_ ?_ | refine ql_ltv (fun _ => ?_) | refine ql_lts ?_ (fun _ _ => ?_) | refine ql_bnd ?_ (fun _ _ _ => ?_) | exact ql_none | refine ql_some ?_ | refine zs2 ?_ | refine QL.of (hk16 _ _ _) ?_ | refine QL.of (ql_f_X12_comesTo_j155 _ _ _ _ _ _ _ _ _ ?_ _) ?_ | intro _ | assumption | exact rfl
set_option maxHeartbeats 3000000 in
theorem ql_f_X12_reckon (v0 : Int32) (v1 : Int32) (v2 : Int32) (s : zM) : QL s (f_X12_reckon v0 v1 v2 s) := by
  unfold f_X12_reckon
  repeat' with_reducible first | refine ql_ite ?_ ?_ | refine ql_ltv (fun _ => ?_) | refine ql_lts ?_ (fun _ _ => ?_) | refine ql_bnd ?_ (fun _ _ _ => ?_) | exact ql_none | refine ql_some ?_ | refine zs2 ?_ | intro _ | assumption | exact rfl
set_option maxHeartbeats 3000000 in
theorem ql_f_X12_comesTo_j203 (F : Nat) (k16 : Int32 → Int32 → zM → Option (Int32 × zM)) (v2 : Int32) (v4 : Int32) (v3 : Int32) (v5 : Int32) (v6 : Int32) (hk16 : ∀ (a0 : Int32) (a1 : Int32) (s : zM), QL s (k16 a0 a1 s)) (s : zM) : QL s (f_X12_comesTo_j203 F k16 v2 v4 v3 v5 v6 s) := by
  unfold f_X12_comesTo_j203
  repeat' with_reducible first | refine ql_ite ?_ ?_ | refine ql_ltv (fun _ => ?_) | refine ql_lts ?_ (fun _ _ => ?_) | refine ql_bnd ?_ (fun _ _ _ => ?_) | exact ql_none | refine ql_some ?_ | refine zs2 ?_ | refine QL.of (hk16 _ _ _) ?_ | refine QL.of (ql_f_X12_reckon _ _ _ _) ?_ | intro _ | assumption | exact rfl
set_option maxHeartbeats 3000000 in
theorem ql_f_X12_comesTo_j192 (F : Nat) (k16 : Int32 → Int32 → zM → Option (Int32 × zM)) (v2 : Int32) (v4 : Int32) (v3 : Int32) (v5 : Int32) (v6 : Int32) (hk16 : ∀ (a0 : Int32) (a1 : Int32) (s : zM), QL s (k16 a0 a1 s)) (s : zM) : QL s (f_X12_comesTo_j192 F k16 v2 v4 v3 v5 v6 s) := by
  unfold f_X12_comesTo_j192
  repeat' with_reducible first | refine ql_ite ?_ ?_ | refine ql_ltv (fun _ => ?_) | refine ql_lts ?_ (fun _ _ => ?_) | refine ql_bnd ?_ (fun _ _ _ => ?_) | exact ql_none | refine ql_some ?_ | refine zs2 ?_ | refine QL.of (hk16 _ _ _) ?_ | refine QL.of (ql_f_X12_comesTo_j203 _ _ _ _ _ _ _ ?_ _) ?_ | intro _ | assumption | exact rfl
set_option maxHeartbeats 3000000 in
theorem ql_f_X12_comesTo_L16 (F : Nat) (k233 : zM → Option (Int32 × zM)) (v2 : Int32) (v4 : Int32) (hk233 : ∀  (s : zM), QL s (k233 s)) : ∀ (n : Nat) (w0 : Int32) (w1 : Int32) (s : zM), QL s (f_X12_comesTo_L16 F k233 v2 v4 n w0 w1 s) := by
  intro n
  induction n with
  | zero => intros; exact ql_none
  | succ n ih =>
    intro w0 w1 s
    rw [f_X12_comesTo_L16]
    repeat' with_reducible first | refine ql_ite ?_ ?_ | refine ql_ltv (fun _ => ?_) | refine ql_lts ?_ (fun _ _ => ?_) | refine ql_bnd ?_ (fun _ _ _ => ?_) | exact ql_none | refine ql_some ?_ | refine zs2 ?_ | refine QL.of (hk233 _) ?_ | refine QL.of (ql_f_X12_comesTo_j63 _ _ _ _ _ _ _ _ ?_ _) ?_ | refine QL.of (ql_f_X12_comesTo_j135 _ _ _ _ _ _ _ _ ?_ _) ?_ | refine QL.of (ql_f_X12_comesTo_j192 _ _ _ _ _ _ _ ?_ _) ?_ | refine QL.of (ql_f_X12_comesTo_j203 _ _ _ _ _ _ _ ?_ _) ?_ | refine QL.of (ih _ _ _) ?_ | intro _ | assumption | exact rfl
set_option maxHeartbeats 3000000 in
theorem ql_f_X12_comesTo (F : Nat) (v1 : Int32) (v2 : Int32) (s : zM) : QL s (f_X12_comesTo F v1 v2 s) := by
  unfold f_X12_comesTo
  repeat' with_reducible first | refine ql_ite ?_ ?_ | refine ql_ltv (fun _ => ?_) | refine ql_lts ?_ (fun _ _ => ?_) | refine ql_bnd ?_ (fun _ _ _ => ?_) | exact ql_none | refine ql_some ?_ | refine zs2 ?_ | refine QL.of (ql_f_X12_comesTo_L16 _ _ _ _ ?_ _ _ _ _) ?_ | intro _ | assumption | exact rfl
set_option maxHeartbeats 3000000 in
theorem ql_f_X12_byLaw_L3 (F : Nat) (k97 : zM → Option (Int32 × zM)) (v1 : Int32) (v2 : Int32) (v3 : Int32) (hk97 : ∀  (s : zM), QL s (k97 s)) : ∀ (n : Nat) (w0 : Int32) (s : zM), QL s (f_X12_byLaw_L3 F k97 v1 v2 v3 n w0 s) := by
  intro n
  induction n with
  | zero => intros; exact ql_none
  | succ n ih =>
    intro w0 s
    rw [f_X12_byLaw_L3]
    repeat' with_reducible first | refine ql_ite ?_ ?_ | refine ql_ltv (fun _ => ?_) | refine ql_lts ?_ (fun _ _ => ?_) | refine ql_bnd ?_ (fun _ _ _ => ?_) | exact ql_none | refine ql_some ?_ | refine zs2 ?_ | refine QL.of (hk97 _) ?_ | refine QL.of (ql_f_X12_comesTo _ _ _ _) ?_ | refine QL.of (ih _ _) ?_ | intro _ | assumption | exact rfl
set_option maxHeartbeats 3000000 in
theorem ql_f_X12_byLaw (F : Nat) (v1 : Int32) (v2 : Int32) (v3 : Int32) (s : zM) : QL s (f_X12_byLaw F v1 v2 v3 s) := by
  unfold f_X12_byLaw
  repeat' with_reducible first | refine ql_ite ?_ ?_ | refine ql_ltv (fun _ => ?_) | refine ql_lts ?_ (fun _ _ => ?_) | refine ql_bnd ?_ (fun _ _ _ => ?_) | exact ql_none | refine ql_some ?_ | refine zs2 ?_ | refine QL.of (ql_f_X12_byLaw_L3 _ _ _ _ _ ?_ _ _ _) ?_ | intro _ | assumption | exact rfl
set_option maxHeartbeats 3000000 in
theorem ql_f_X12_seenBy (F : Nat) (v1 : Int32) (v2 : Int32) (s : zM) : QL s (f_X12_seenBy F v1 v2 s) := by
  unfold f_X12_seenBy
  repeat' with_reducible first | refine ql_ite ?_ ?_ | refine ql_ltv (fun _ => ?_) | refine ql_lts ?_ (fun _ _ => ?_) | refine ql_bnd ?_ (fun _ _ _ => ?_) | exact ql_none | refine ql_some ?_ | refine zs2 ?_ | refine QL.of (ql_f_X12_feels _ _ _ _) ?_ | refine QL.of (ql_f_X12_byLaw _ _ _ _ _) ?_ | intro _ | assumption | exact rfl
