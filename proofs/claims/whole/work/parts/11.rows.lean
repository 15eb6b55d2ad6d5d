def wp_X0_init (post : pS → Prop) (o : Nat) (a1 : Nat) (a2 : Int32) (a3 : Int32) (a4 : Int32) (a5 : Int32) (S : pS) : Prop :=
  (S.ok o 0 ∧ ∀ S2, S2 = S.setP o 0 (some a1) → ∀ S4, S4 = S2.setI o 1 a2 → ∀ S6, S6 = S4.setI o 2 a3 → ∀ S8, S8 = S6.setI o 3 a4 → ∀ S10, S10 = S8.setI o 4 a5 → post S10)
def rm_X0_init : Room := { frames := 1, cells := 0, slots := 0, locals := 20 }
set_option maxHeartbeats 4000000 in
set_option maxRecDepth 100000 in
theorem ct_X0_init (l : Launch) (E : EV) {post : pS → Prop} (o : Nat) (a1 : Nat) (a2 : Int32) (a3 : Int32) (a4 : Int32) (a5 : Int32) (S : pS) (h : wp_X0_init post o a1 a2 a3 a4 a5 S) : CT l E yX0_init cX0_init 6 none rm_X0_init (QV E post) [.ref o, .ref a1, .int a2, .int a3, .int a4, .int a5] S := by
  refine ct_intro (by decide +kernel) (Nat.le_of_ble_eq_true rfl) ?_
  intro p e s m below meth c A ls F hW hr hnm hl
  have hx := F.1
  have hb := F.2.1
  unfold wp_X0_init at h
  have hl : lv_has ls 6 [(0, .ref o), (1, .ref a1), (2, .int a2), (3, .int a3), (4, .int a4), (5, .int a5)] := hl
  refine lv_aload_n hx hb dX0_init_0 rfl (lv_at hl 0 rfl) ?_
  refine kp_oinit F hl.1 tw_281 tw_22 tw_23 dX0_init_1 (by decide) (Nat.le_of_ble_eq_true rfl) ?_
  refine lv_aload_n hx hb dX0_init_4 rfl (lv_at hl 0 rfl) ?_
  refine lv_aload_n hx hb dX0_init_5 rfl (lv_at hl 1 rfl) ?_
  obtain ⟨g1, h⟩ := h
  obtain ⟨S2, hS2⟩ : ∃ z, z = S.setP o 0 (some a1) := ⟨_, rfl⟩
  have h := h S2 hS2
  refine kp_putpF F hW g1 cbX0 0 rfl tw_282 (fun _ h9 => h9) rfl hnm rfl (Or.inl ⟨_, rfl⟩) dX0_init_6 (fun H locs hW => ?_)
  rw [← hS2] at hW
  refine lv_aload_n hx hb dX0_init_9 rfl (lv_at hl 0 rfl) ?_
  refine lv_iload_n hx hb dX0_init_10 rfl (lv_at hl 2 rfl) ?_
  have g3 : S2.ok o 0 := by rw [hS2]; exact g1
  obtain ⟨S4, hS4⟩ : ∃ z, z = S2.setI o 1 a2 := ⟨_, rfl⟩
  have h := h S4 hS4
  refine kp_putiF F hW g3 cbX0 1 rfl tw_283 (fun _ h9 => h9) rfl hnm rfl rfl dX0_init_11 (fun H locs hW => ?_)
  rw [← hS4] at hW
  refine lv_aload_n hx hb dX0_init_14 rfl (lv_at hl 0 rfl) ?_
  refine lv_iload_n hx hb dX0_init_15 rfl (lv_at hl 3 rfl) ?_
  have g5 : S4.ok o 0 := by rw [hS4]; exact g3
  obtain ⟨S6, hS6⟩ : ∃ z, z = S4.setI o 2 a3 := ⟨_, rfl⟩
  have h := h S6 hS6
  refine kp_putiF F hW g5 cbX0 2 rfl tw_284 (fun _ h9 => h9) rfl hnm rfl rfl dX0_init_16 (fun H locs hW => ?_)
  rw [← hS6] at hW
  refine lv_aload_n hx hb dX0_init_19 rfl (lv_at hl 0 rfl) ?_
  refine lv_iload hx hb dX0_init_20 (lv_at hl 4 rfl) ?_
  have g7 : S6.ok o 0 := by rw [hS6]; exact g5
  obtain ⟨S8, hS8⟩ : ∃ z, z = S6.setI o 3 a4 := ⟨_, rfl⟩
  have h := h S8 hS8
  refine kp_putiF F hW g7 cbX0 3 rfl tw_285 (fun _ h9 => h9) rfl hnm rfl rfl dX0_init_22 (fun H locs hW => ?_)
  rw [← hS8] at hW
  refine lv_aload_n hx hb dX0_init_25 rfl (lv_at hl 0 rfl) ?_
  refine lv_iload hx hb dX0_init_26 (lv_at hl 5 rfl) ?_
  have g9 : S8.ok o 0 := by rw [hS8]; exact g7
  obtain ⟨S10, hS10⟩ : ∃ z, z = S8.setI o 4 a5 := ⟨_, rfl⟩
  have h := h S10 hS10
  refine kp_putiF F hW g9 cbX0 4 rfl tw_287 (fun _ h9 => h9) rfl hnm rfl rfl dX0_init_28 (fun H locs hW => ?_)
  rw [← hS10] at hW
  exact kp_retv F hW hr h (by decide) (by decide) dX0_init_31
def wp_X0_holds (post : Int32 → pS → Prop) (o : Nat) (a1 : Nat) (S : pS) : Prop :=
  (S.ok o 0 ∧ (((S.I o 1) < 0 → post (1 : Int32) S) ∧ (¬ ((S.I o 1) < 0) → (S.ok a1 7 ∧ (((S.I o 1) < (nI (S.n a1)) → (vp_in (S.I o 1) (S.n a1) ∧ (((S.I a1 (S.I o 1).toNatClampNeg) = (S.I o 2) → post (1 : Int32) S) ∧ (¬ ((S.I a1 (S.I o 1).toNatClampNeg) = (S.I o 2)) → post (0 : Int32) S)))) ∧ (¬ ((S.I o 1) < (nI (S.n a1))) → post (1 : Int32) S))))))
def rm_X0_holds : Room := { frames := 0, cells := 0, slots := 0, locals := 0 }
set_option maxHeartbeats 4000000 in
set_option maxRecDepth 100000 in
theorem ct_X0_holds (l : Launch) (E : EV) {post : Int32 → pS → Prop} (o : Nat) (a1 : Nat) (S : pS) (h : wp_X0_holds post o a1 S) : CT l E yX0_holds cX0_holds 2 (some .boolean) rm_X0_holds (QI E post) [.ref o, .ref a1] S := by
  refine ct_intro (by decide +kernel) (Nat.le_of_ble_eq_true rfl) ?_
  intro p e s m below meth c A ls F hW hr hnm hl
  have hx := F.1
  have hb := F.2.1
  unfold wp_X0_holds at h
  have hl : lv_has ls 2 [(0, .ref o), (1, .ref a1)] := hl
  refine lv_aload_n hx hb dX0_holds_0 rfl (lv_at hl 0 rfl) ?_
  obtain ⟨g1, h⟩ := h
  refine kp_geti F hW g1 cbX0 1 rfl tw_283 (fun _ h9 => h9) dX0_holds_1 ?_
  refine lv_if_lt (tgt := 16) hx hb dX0_holds_4 (by decide) (fun c2 => ?_) (fun c2 => ?_)
  · have h := h.1 c2
    refine lv_iconst (v := 1) hx hb dX0_holds_16 (by decide) ?_
    exact kp_retz F hW hr (Or.inr rfl) h (by decide) (by decide) dX0_holds_17
  · have h := h.2 c2
    refine lv_aload_n hx hb dX0_holds_7 rfl (lv_at hl 0 rfl) ?_
    refine kp_geti F hW g1 cbX0 1 rfl tw_283 (fun _ h9 => h9) dX0_holds_8 ?_
    refine lv_aload_n hx hb dX0_holds_11 rfl (lv_at hl 1 rfl) ?_
    obtain ⟨g3, h⟩ := h
    refine kp_ilen F hW g3 dX0_holds_12 ?_
    refine lv_icmp_lt (tgt := 18) hx hb dX0_holds_13 (by decide) (fun c4 => ?_) (fun c4 => ?_)
    · have h := h.1 c4
      refine lv_aload_n hx hb dX0_holds_18 rfl (lv_at hl 1 rfl) ?_
      refine lv_aload_n hx hb dX0_holds_19 rfl (lv_at hl 0 rfl) ?_
      refine kp_geti F hW g1 cbX0 1 rfl tw_283 (fun _ h9 => h9) dX0_holds_20 ?_
      obtain ⟨b5, h⟩ := h
      refine kp_iald F hW g3 b5 dX0_holds_23 ?_
      refine lv_aload_n hx hb dX0_holds_24 rfl (lv_at hl 0 rfl) ?_
      refine kp_geti F hW g1 cbX0 2 rfl tw_284 (fun _ h9 => h9) dX0_holds_25 ?_
      refine lv_icmp_ne (tgt := 35) hx hb dX0_holds_28 (by decide) (fun c6 => ?_) (fun c6 => ?_)
      · have h := h.2 c6
        refine lv_iconst (v := 0) hx hb dX0_holds_35 (by decide) ?_
        exact kp_retz F hW hr (Or.inl rfl) h (by decide) (by decide) dX0_holds_36
      · have h := h.1 c6
        refine lv_iconst (v := 1) hx hb dX0_holds_31 (by decide) ?_
        refine lv_goto (tgt := 36) hx hb dX0_holds_32 (by decide) ?_
        exact kp_retz F hW hr (Or.inr rfl) h (by decide) (by decide) dX0_holds_36
    · have h := h.2 c4
      refine lv_iconst (v := 1) hx hb dX0_holds_16 (by decide) ?_
      exact kp_retz F hW hr (Or.inr rfl) h (by decide) (by decide) dX0_holds_17
def wp_X3_size (post : Int32 → pS → Prop) (o : Nat) (S : pS) : Prop :=
  (S.ok o 3 ∧ post (S.I o 1) S)
def rm_X3_size : Room := { frames := 0, cells := 0, slots := 0, locals := 0 }
set_option maxHeartbeats 4000000 in
set_option maxRecDepth 100000 in
theorem ct_X3_size (l : Launch) (E : EV) {post : Int32 → pS → Prop} (o : Nat) (S : pS) (h : wp_X3_size post o S) : CT l E yX3_size cX3_size 1 (some .int) rm_X3_size (QI E post) [.ref o] S := by
  refine ct_intro (by decide +kernel) (Nat.le_of_ble_eq_true rfl) ?_
  intro p e s m below meth c A ls F hW hr hnm hl
  have hx := F.1
  have hb := F.2.1
  unfold wp_X3_size at h
  have hl : lv_has ls 1 [(0, .ref o)] := hl
  refine lv_aload_n hx hb dX3_size_0 rfl (lv_at hl 0 rfl) ?_
  obtain ⟨g1, h⟩ := h
  refine kp_geti F hW g1 cbX3 1 rfl tw_34 (fun _ h9 => h9) dX3_size_1 ?_
  exact kp_reti F hW hr h (by decide) (by decide) dX3_size_4
def wp_X3_sharesBeginning_L20 (post : Int32 → pS → Prop) : Nat → Nat → Nat → Int32 → Int32 → pS → Prop
  | 0, _, _, _, _, _ => False
  | n + 1, v0, v1, v2, v3, S =>
  ((v2 ≤ v3 → post (1 : Int32) S) ∧ (¬ (v2 ≤ v3) → (S.ok v0 3 ∧ ∃ q7, S.P v0 0 = some q7 ∧ S.ok q7 7 ∧ vp_in v3 (S.n q7) ∧ S.ok v1 3 ∧ ∃ q12, S.P v1 0 = some q12 ∧ S.ok q12 7 ∧ vp_in v3 (S.n q12) ∧ (((S.I q7 v3.toNatClampNeg) = (S.I q12 v3.toNatClampNeg) → wp_X3_sharesBeginning_L20 post n v0 v1 v2 (v3 + 1) S) ∧ (¬ ((S.I q7 v3.toNatClampNeg) = (S.I q12 v3.toNatClampNeg)) → post (0 : Int32) S)))))
def wp_X3_sharesBeginning (post : Int32 → pS → Prop) (o : Nat) (a1 : Nat) (a2 : Int32) (S : pS) : Prop :=
  (S.ok o 3 ∧ (((S.I o 1) < a2 → post (0 : Int32) S) ∧ (¬ ((S.I o 1) < a2) → (S.ok a1 3 ∧ ((a2 ≤ (S.I a1 1) → (∃ n20, wp_X3_sharesBeginning_L20 post n20 o a1 a2 (0 : Int32) S)) ∧ (¬ (a2 ≤ (S.I a1 1)) → post (0 : Int32) S))))))
def rm_X3_sharesBeginning : Room := { frames := 0, cells := 0, slots := 0, locals := 0 }
set_option maxHeartbeats 4000000 in
set_option maxRecDepth 100000 in
theorem wk_X3_sharesBeginning_L20 {l : Launch} {p : Program} {e : Env} {s : State} {m : MethodId} {args : Array Value} {below : List Frame} {meth : Method} {c : Code} {A : Nat → Prop} {E : EV} {post : Int32 → pS → Prop} (F : FX p s m args meth c cX3_sharesBeginning 4 yX3_sharesBeginning.cls E A) (hr : meth.sig.returnType = (some .boolean)) :
    ∀ (n : Nat) (v0 : Nat) (v1 : Nat) (v2 : Int32) (v3 : Int32) (S : pS) (H : Heap) (locs : List Loc) (ls : Array Slot), wp_X3_sharesBeginning_L20 post n v0 v1 v2 v3 S → WD E A s S H locs → lv_has ls 4 [(0, .ref v0), (1, .ref v1), (2, .int v2), (3, .int v3)] → W p l e rm_X3_sharesBeginning s m args below meth c H locs 0 0 (MQ below (QI E post A) args s rm_X3_sharesBeginning.cells rm_X3_sharesBeginning.slots A) (F0 m 20 ls []) := by
  have hx := F.1
  have hb := F.2.1
  intro n
  induction n with
  | zero =>
    intro v0 v1 v2 v3 S H locs ls h hW hl
    exact h.elim
  | succ n ih =>
    intro v0 v1 v2 v3 S H locs ls h hW hl
    unfold wp_X3_sharesBeginning_L20 at h
    refine lv_iload_n hx hb dX3_sharesBeginning_20 rfl (lv_at hl 3 rfl) ?_
    refine lv_iload_n hx hb dX3_sharesBeginning_21 rfl (lv_at hl 2 rfl) ?_
    refine lv_icmp_ge (tgt := 48) hx hb dX3_sharesBeginning_22 (by decide) (fun c5 => ?_) (fun c5 => ?_)
    · have h := h.1 c5
      refine lv_iconst (v := 1) hx hb dX3_sharesBeginning_48 (by decide) ?_
      exact kp_retz F hW hr (Or.inr rfl) h (by decide) (by decide) dX3_sharesBeginning_49
    · have h := h.2 c5
      refine lv_aload_n hx hb dX3_sharesBeginning_25 rfl (lv_at hl 0 rfl) ?_
      obtain ⟨g6, h⟩ := h
      obtain ⟨q7, p8, h⟩ := h
      refine kp_getp F hW g6 cbX3 0 rfl tw_33 (fun _ h9 => h9) dX3_sharesBeginning_26 p8 ?_
      refine lv_iload_n hx hb dX3_sharesBeginning_29 rfl (lv_at hl 3 rfl) ?_
      obtain ⟨g9, h⟩ := h
      obtain ⟨b10, h⟩ := h
      refine kp_iald F hW g9 b10 dX3_sharesBeginning_30 ?_
      refine lv_aload_n hx hb dX3_sharesBeginning_31 rfl (lv_at hl 1 rfl) ?_
      obtain ⟨g11, h⟩ := h
      obtain ⟨q12, p13, h⟩ := h
      refine kp_getp F hW g11 cbX3 0 rfl tw_33 (fun _ h9 => h9) dX3_sharesBeginning_32 p13 ?_
      refine lv_iload_n hx hb dX3_sharesBeginning_35 rfl (lv_at hl 3 rfl) ?_
      obtain ⟨g14, h⟩ := h
      obtain ⟨b15, h⟩ := h
      refine kp_iald F hW g14 b15 dX3_sharesBeginning_36 ?_
      refine lv_icmp_eq (tgt := 42) hx hb dX3_sharesBeginning_37 (by decide) (fun c16 => ?_) (fun c16 => ?_)
      · have h := h.1 c16
        refine lv_iinc (v := (v3 + 1)) (lv' := [(3, .int (v3 + 1)), (0, .ref v0), (1, .ref v1), (2, .int v2)]) hx hb dX3_sharesBeginning_42 hl (k := 3) rfl (by rfl) (by decide) rfl (fun ls hl => ?_)
        refine lv_goto (tgt := 20) hx hb dX3_sharesBeginning_45 (by decide) ?_
        exact ih _ _ _ _ _ _ _ _ h hW (lv_sub hl [1, 2, 3, 0] rfl)
      · have h := h.2 c16
        refine lv_iconst (v := 0) hx hb dX3_sharesBeginning_40 (by decide) ?_
        exact kp_retz F hW hr (Or.inl rfl) h (by decide) (by decide) dX3_sharesBeginning_41
set_option maxHeartbeats 4000000 in
set_option maxRecDepth 100000 in
theorem ct_X3_sharesBeginning (l : Launch) (E : EV) {post : Int32 → pS → Prop} (o : Nat) (a1 : Nat) (a2 : Int32) (S : pS) (h : wp_X3_sharesBeginning post o a1 a2 S) : CT l E yX3_sharesBeginning cX3_sharesBeginning 4 (some .boolean) rm_X3_sharesBeginning (QI E post) [.ref o, .ref a1, .int a2] S := by
  refine ct_intro (by decide +kernel) (Nat.le_of_ble_eq_true rfl) ?_
  intro p e s m below meth c A ls F hW hr hnm hl
  have hx := F.1
  have hb := F.2.1
  unfold wp_X3_sharesBeginning at h
  have hl : lv_has ls 4 [(0, .ref o), (1, .ref a1), (2, .int a2)] := hl
  refine lv_iload_n hx hb dX3_sharesBeginning_0 rfl (lv_at hl 2 rfl) ?_
  refine lv_aload_n hx hb dX3_sharesBeginning_1 rfl (lv_at hl 0 rfl) ?_
  obtain ⟨g1, h⟩ := h
  refine kp_geti F hW g1 cbX3 1 rfl tw_34 (fun _ h9 => h9) dX3_sharesBeginning_2 ?_
  refine lv_icmp_gt (tgt := 16) hx hb dX3_sharesBeginning_5 (by decide) (fun c2 => ?_) (fun c2 => ?_)
  · have h := h.1 c2
    refine lv_iconst (v := 0) hx hb dX3_sharesBeginning_16 (by decide) ?_
    exact kp_retz F hW hr (Or.inl rfl) h (by decide) (by decide) dX3_sharesBeginning_17
  · have h := h.2 c2
    refine lv_iload_n hx hb dX3_sharesBeginning_8 rfl (lv_at hl 2 rfl) ?_
    refine lv_aload_n hx hb dX3_sharesBeginning_9 rfl (lv_at hl 1 rfl) ?_
    obtain ⟨g3, h⟩ := h
    refine kp_geti F hW g3 cbX3 1 rfl tw_34 (fun _ h9 => h9) dX3_sharesBeginning_10 ?_
    refine lv_icmp_le (tgt := 18) hx hb dX3_sharesBeginning_13 (by decide) (fun c4 => ?_) (fun c4 => ?_)
    · have h := h.1 c4
      refine lv_iconst (v := 0) hx hb dX3_sharesBeginning_18 (by decide) ?_
      refine lv_istore_n (lv' := [(3, .int (0 : Int32)), (0, .ref o), (1, .ref a1), (2, .int a2)]) hx hb dX3_sharesBeginning_19 rfl hl (by decide) rfl (fun ls hl => ?_)
      obtain ⟨n9, h⟩ := h
      exact wk_X3_sharesBeginning_L20 F hr n9 _ _ _ _ _ _ _ _ h hW (lv_sub hl [1, 2, 3, 0] rfl)
    · have h := h.2 c4
      refine lv_iconst (v := 0) hx hb dX3_sharesBeginning_16 (by decide) ?_
      exact kp_retz F hW hr (Or.inl rfl) h (by decide) (by decide) dX3_sharesBeginning_17
def wp_X0_isFor (post : Int32 → pS → Prop) (o : Nat) (a1 : Nat) (a2 : Int32) (S : pS) : Prop :=
  (S.ok o 0 ∧ ∃ q2, S.P o 0 = some q2 ∧ S.ok q2 3 ∧ wp_X3_size (fun r4 S5 => ((r4 = a2 → (S5.ok o 0 ∧ ∃ q9, S5.P o 0 = some q9 ∧ S5.ok q9 3 ∧ wp_X3_sharesBeginning (fun r11 S12 => ((r11 = 0 → post (0 : Int32) S12) ∧ (¬ (r11 = 0) → post (1 : Int32) S12))) q9 a1 a2 S5)) ∧ (¬ (r4 = a2) → post (0 : Int32) S5))) q2 S)
def rm_X0_isFor : Room := { frames := 1, cells := 0, slots := 0, locals := 23 }
set_option maxHeartbeats 4000000 in
set_option maxRecDepth 100000 in
theorem ct_X0_isFor (l : Launch) (E : EV) {post : Int32 → pS → Prop} (o : Nat) (a1 : Nat) (a2 : Int32) (S : pS) (h : wp_X0_isFor post o a1 a2 S) : CT l E yX0_isFor cX0_isFor 3 (some .boolean) rm_X0_isFor (QI E post) [.ref o, .ref a1, .int a2] S := by
  refine ct_intro (by decide +kernel) (Nat.le_of_ble_eq_true rfl) ?_
  intro p e s m below meth c A ls F hW hr hnm hl
  have hx := F.1
  have hb := F.2.1
  unfold wp_X0_isFor at h
  have hl : lv_has ls 3 [(0, .ref o), (1, .ref a1), (2, .int a2)] := hl
  refine lv_aload_n hx hb dX0_isFor_0 rfl (lv_at hl 0 rfl) ?_
  obtain ⟨g1, h⟩ := h
  obtain ⟨q2, p3, h⟩ := h
  refine kp_getp F hW g1 cbX0 0 rfl tw_282 (fun _ h9 => h9) dX0_isFor_1 p3 ?_
  obtain ⟨g6, h⟩ := h
  refine kp_calli (c1 := 0) (s1 := 0) F hW (kp_runVN (As := []) (rest := []) F hW (ct_X3_size l E _ _ h) g6 cbX3 rfl cf_X3_size tw_329 rfl hl.1 ⟨by decide, by decide⟩ (Nat.le_of_ble_eq_true rfl) dX0_isFor_4 ⟨by decide, by decide⟩) (by decide) (by decide) (fun r4 S5 H locs h hW => ?_)
  refine lv_iload_n hx hb dX0_isFor_7 rfl (lv_at hl 2 rfl) ?_
  refine lv_icmp_ne (tgt := 27) hx hb dX0_isFor_8 (by decide) (fun c7 => ?_) (fun c7 => ?_)
  · have h := h.2 c7
    refine lv_iconst (v := 0) hx hb dX0_isFor_27 (by decide) ?_
    exact kp_retz F hW hr (Or.inl rfl) h (by decide) (by decide) dX0_isFor_28
  · have h := h.1 c7
    refine lv_aload_n hx hb dX0_isFor_11 rfl (lv_at hl 0 rfl) ?_
    obtain ⟨g8, h⟩ := h
    obtain ⟨q9, p10, h⟩ := h
    refine kp_getp F hW g8 cbX0 0 rfl tw_282 (fun _ h9 => h9) dX0_isFor_12 p10 ?_
    refine lv_aload_n hx hb dX0_isFor_15 rfl (lv_at hl 1 rfl) ?_
    refine lv_iload_n hx hb dX0_isFor_16 rfl (lv_at hl 2 rfl) ?_
    obtain ⟨g13, h⟩ := h
    refine kp_calli (c1 := 0) (s1 := 0) F hW (kp_runVN (As := [.ref a1, .int a2]) (rest := []) F hW (ct_X3_sharesBeginning l E _ _ _ _ h) g13 cbX3 rfl cf_X3_sharesBeginning tw_334 rfl hl.1 ⟨by decide, by decide⟩ (Nat.le_of_ble_eq_true rfl) dX0_isFor_17 ⟨by decide, by decide⟩) (by decide) (by decide) (fun r11 S12 H locs h hW => ?_)
    refine lv_if_eq (tgt := 27) hx hb dX0_isFor_20 (by decide) (fun c14 => ?_) (fun c14 => ?_)
    · have h := h.1 c14
      refine lv_iconst (v := 0) hx hb dX0_isFor_27 (by decide) ?_
      exact kp_retz F hW hr (Or.inl rfl) h (by decide) (by decide) dX0_isFor_28
    · have h := h.2 c14
      refine lv_iconst (v := 1) hx hb dX0_isFor_23 (by decide) ?_
      refine lv_goto (tgt := 28) hx hb dX0_isFor_24 (by decide) ?_
      exact kp_retz F hW hr (Or.inr rfl) h (by decide) (by decide) dX0_isFor_28
def wp_X0_isLongerThan (post : Int32 → pS → Prop) (o : Nat) (a1 : Nat) (S : pS) : Prop :=
  (S.ok o 0 ∧ ∃ q2, S.P o 0 = some q2 ∧ S.ok q2 3 ∧ wp_X3_size (fun r4 S5 => (S5.ok a1 3 ∧ wp_X3_size (fun r7 S8 => ((r4 ≤ r7 → post (0 : Int32) S8) ∧ (¬ (r4 ≤ r7) → (S8.ok o 0 ∧ ∃ q12, S8.P o 0 = some q12 ∧ S8.ok a1 3 ∧ wp_X3_size (fun r14 S15 => (S15.ok q12 3 ∧ wp_X3_sharesBeginning (fun r17 S18 => ((r17 = 0 → post (0 : Int32) S18) ∧ (¬ (r17 = 0) → post (1 : Int32) S18))) q12 a1 r14 S15)) a1 S8)))) a1 S5)) q2 S)
def rm_X0_isLongerThan : Room := { frames := 1, cells := 0, slots := 0, locals := 23 }
set_option maxHeartbeats 4000000 in
set_option maxRecDepth 100000 in
theorem ct_X0_isLongerThan (l : Launch) (E : EV) {post : Int32 → pS → Prop} (o : Nat) (a1 : Nat) (S : pS) (h : wp_X0_isLongerThan post o a1 S) : CT l E yX0_isLongerThan cX0_isLongerThan 2 (some .boolean) rm_X0_isLongerThan (QI E post) [.ref o, .ref a1] S := by
  refine ct_intro (by decide +kernel) (Nat.le_of_ble_eq_true rfl) ?_
  intro p e s m below meth c A ls F hW hr hnm hl
  have hx := F.1
  have hb := F.2.1
  unfold wp_X0_isLongerThan at h
  have hl : lv_has ls 2 [(0, .ref o), (1, .ref a1)] := hl
  refine lv_aload_n hx hb dX0_isLongerThan_0 rfl (lv_at hl 0 rfl) ?_
  obtain ⟨g1, h⟩ := h
  obtain ⟨q2, p3, h⟩ := h
  refine kp_getp F hW g1 cbX0 0 rfl tw_282 (fun _ h9 => h9) dX0_isLongerThan_1 p3 ?_
  obtain ⟨g6, h⟩ := h
  refine kp_calli (c1 := 0) (s1 := 0) F hW (kp_runVN (As := []) (rest := []) F hW (ct_X3_size l E _ _ h) g6 cbX3 rfl cf_X3_size tw_329 rfl hl.1 ⟨by decide, by decide⟩ (Nat.le_of_ble_eq_true rfl) dX0_isLongerThan_4 ⟨by decide, by decide⟩) (by decide) (by decide) (fun r4 S5 H locs h hW => ?_)
  refine lv_aload_n hx hb dX0_isLongerThan_7 rfl (lv_at hl 1 rfl) ?_
  obtain ⟨g9, h⟩ := h
  refine kp_calli (c1 := 0) (s1 := 0) F hW (kp_runVN (As := []) (rest := [.int r4]) F hW (ct_X3_size l E _ _ h) g9 cbX3 rfl cf_X3_size tw_329 rfl hl.1 ⟨by decide, by decide⟩ (Nat.le_of_ble_eq_true rfl) dX0_isLongerThan_8 ⟨by decide, by decide⟩) (by decide) (by decide) (fun r7 S8 H locs h hW => ?_)
  refine lv_icmp_le (tgt := 33) hx hb dX0_isLongerThan_11 (by decide) (fun c10 => ?_) (fun c10 => ?_)
  · have h := h.1 c10
    refine lv_iconst (v := 0) hx hb dX0_isLongerThan_33 (by decide) ?_
    exact kp_retz F hW hr (Or.inl rfl) h (by decide) (by decide) dX0_isLongerThan_34
  · have h := h.2 c10
    refine lv_aload_n hx hb dX0_isLongerThan_14 rfl (lv_at hl 0 rfl) ?_
    obtain ⟨g11, h⟩ := h
    obtain ⟨q12, p13, h⟩ := h
    refine kp_getp F hW g11 cbX0 0 rfl tw_282 (fun _ h9 => h9) dX0_isLongerThan_15 p13 ?_
    refine lv_aload_n hx hb dX0_isLongerThan_18 rfl (lv_at hl 1 rfl) ?_
    refine lv_aload_n hx hb dX0_isLongerThan_19 rfl (lv_at hl 1 rfl) ?_
    obtain ⟨g16, h⟩ := h
    refine kp_calli (c1 := 0) (s1 := 0) F hW (kp_runVN (As := []) (rest := [.ref a1, .ref q12]) F hW (ct_X3_size l E _ _ h) g16 cbX3 rfl cf_X3_size tw_329 rfl hl.1 ⟨by decide, by decide⟩ (Nat.le_of_ble_eq_true rfl) dX0_isLongerThan_20 ⟨by decide, by decide⟩) (by decide) (by decide) (fun r14 S15 H locs h hW => ?_)
    obtain ⟨g19, h⟩ := h
    refine kp_calli (c1 := 0) (s1 := 0) F hW (kp_runVN (As := [.ref a1, .int r14]) (rest := []) F hW (ct_X3_sharesBeginning l E _ _ _ _ h) g19 cbX3 rfl cf_X3_sharesBeginning tw_334 rfl hl.1 ⟨by decide, by decide⟩ (Nat.le_of_ble_eq_true rfl) dX0_isLongerThan_23 ⟨by decide, by decide⟩) (by decide) (by decide) (fun r17 S18 H locs h hW => ?_)
    refine lv_if_eq (tgt := 33) hx hb dX0_isLongerThan_26 (by decide) (fun c20 => ?_) (fun c20 => ?_)
    · have h := h.1 c20
      refine lv_iconst (v := 0) hx hb dX0_isLongerThan_33 (by decide) ?_
      exact kp_retz F hW hr (Or.inl rfl) h (by decide) (by decide) dX0_isLongerThan_34
    · have h := h.2 c20
      refine lv_iconst (v := 1) hx hb dX0_isLongerThan_29 (by decide) ?_
      refine lv_goto (tgt := 34) hx hb dX0_isLongerThan_30 (by decide) ?_
      exact kp_retz F hW hr (Or.inr rfl) h (by decide) (by decide) dX0_isLongerThan_34
def wp_X0_shadows (post : Int32 → pS → Prop) (o : Nat) (a1 : Nat) (S : pS) : Prop :=
  (S.ok a1 0 ∧ ∃ q2, S.P a1 0 = some q2 ∧ S.ok q2 3 ∧ wp_X3_size (fun r4 S5 => (S5.ok o 0 ∧ wp_X0_isFor (fun r7 S8 => ((r7 = 0 → post (0 : Int32) S8) ∧ (¬ (r7 = 0) → (S8.ok o 0 ∧ (((S8.I o 1) = (-1 : Int32) → post (1 : Int32) S8) ∧ (¬ ((S8.I o 1) = (-1 : Int32)) → (S8.ok a1 0 ∧ (((S8.I o 1) = (S8.I a1 1) → (((S8.I o 2) = (S8.I a1 2) → post (1 : Int32) S8) ∧ (¬ ((S8.I o 2) = (S8.I a1 2)) → post (0 : Int32) S8))) ∧ (¬ ((S8.I o 1) = (S8.I a1 1)) → post (0 : Int32) S8))))))))) o q2 r4 S5)) q2 S)
def rm_X0_shadows : Room := { frames := 2, cells := 0, slots := 0, locals := 45 }
set_option maxHeartbeats 4000000 in
set_option maxRecDepth 100000 in
theorem ct_X0_shadows (l : Launch) (E : EV) {post : Int32 → pS → Prop} (o : Nat) (a1 : Nat) (S : pS) (h : wp_X0_shadows post o a1 S) : CT l E yX0_shadows cX0_shadows 2 (some .boolean) rm_X0_shadows (QI E post) [.ref o, .ref a1] S := by
  refine ct_intro (by decide +kernel) (Nat.le_of_ble_eq_true rfl) ?_
  intro p e s m below meth c A ls F hW hr hnm hl
  have hx := F.1
  have hb := F.2.1
  unfold wp_X0_shadows at h
  have hl : lv_has ls 2 [(0, .ref o), (1, .ref a1)] := hl
  refine lv_aload_n hx hb dX0_shadows_0 rfl (lv_at hl 0 rfl) ?_
  refine lv_aload_n hx hb dX0_shadows_1 rfl (lv_at hl 1 rfl) ?_
  obtain ⟨g1, h⟩ := h
  obtain ⟨q2, p3, h⟩ := h
  refine kp_getp F hW g1 cbX0 0 rfl tw_282 (fun _ h9 => h9) dX0_shadows_2 p3 ?_
  refine lv_aload_n hx hb dX0_shadows_5 rfl (lv_at hl 1 rfl) ?_
  refine kp_getp F hW g1 cbX0 0 rfl tw_282 (fun _ h9 => h9) dX0_shadows_6 p3 ?_
  obtain ⟨g6, h⟩ := h
  refine kp_calli (c1 := 0) (s1 := 0) F hW (kp_runVN (As := []) (rest := [.ref q2, .ref o]) F hW (ct_X3_size l E _ _ h) g6 cbX3 rfl cf_X3_size tw_329 rfl hl.1 ⟨by decide, by decide⟩ (Nat.le_of_ble_eq_true rfl) dX0_shadows_9 ⟨by decide, by decide⟩) (by decide) (by decide) (fun r4 S5 H locs h hW => ?_)
  obtain ⟨g9, h⟩ := h
  refine kp_calli (c1 := 0) (s1 := 0) F hW (kp_runV (As := [.ref q2, .int r4]) (rest := []) F hW (ct_X0_isFor l E _ _ _ _ h) g9 cbX0 rfl cf_X0_isFor tw_330 rfl hl.1 ⟨by decide, by decide⟩ (Nat.le_of_ble_eq_true rfl) dX0_shadows_12 ⟨by decide, by decide⟩) (by decide) (by decide) (fun r7 S8 H locs h hW => ?_)
  refine lv_if_ne (tgt := 20) hx hb dX0_shadows_15 (by decide) (fun c10 => ?_) (fun c10 => ?_)
  · have h := h.2 c10
    refine lv_aload_n hx hb dX0_shadows_20 rfl (lv_at hl 0 rfl) ?_
    obtain ⟨g11, h⟩ := h
    refine kp_geti F hW g11 cbX0 1 rfl tw_283 (fun _ h9 => h9) dX0_shadows_21 ?_
    refine lv_iconst (v := (-1)) hx hb dX0_shadows_24 (by decide) ?_
    refine lv_icmp_eq (tgt := 50) hx hb dX0_shadows_25 (by decide) (fun c12 => ?_) (fun c12 => ?_)
    · have h := h.1 c12
      refine lv_iconst (v := 1) hx hb dX0_shadows_50 (by decide) ?_
      refine lv_goto (tgt := 55) hx hb dX0_shadows_51 (by decide) ?_
      exact kp_retz F hW hr (Or.inr rfl) h (by decide) (by decide) dX0_shadows_55
    · have h := h.2 c12
      refine lv_aload_n hx hb dX0_shadows_28 rfl (lv_at hl 0 rfl) ?_
      refine kp_geti F hW g11 cbX0 1 rfl tw_283 (fun _ h9 => h9) dX0_shadows_29 ?_
      refine lv_aload_n hx hb dX0_shadows_32 rfl (lv_at hl 1 rfl) ?_
      obtain ⟨g13, h⟩ := h
      refine kp_geti F hW g13 cbX0 1 rfl tw_283 (fun _ h9 => h9) dX0_shadows_33 ?_
      refine lv_icmp_ne (tgt := 54) hx hb dX0_shadows_36 (by decide) (fun c14 => ?_) (fun c14 => ?_)
      · have h := h.2 c14
        refine lv_iconst (v := 0) hx hb dX0_shadows_54 (by decide) ?_
        exact kp_retz F hW hr (Or.inl rfl) h (by decide) (by decide) dX0_shadows_55
      · have h := h.1 c14
        refine lv_aload_n hx hb dX0_shadows_39 rfl (lv_at hl 0 rfl) ?_
        refine kp_geti F hW g11 cbX0 2 rfl tw_284 (fun _ h9 => h9) dX0_shadows_40 ?_
        refine lv_aload_n hx hb dX0_shadows_43 rfl (lv_at hl 1 rfl) ?_
        refine kp_geti F hW g13 cbX0 2 rfl tw_284 (fun _ h9 => h9) dX0_shadows_44 ?_
        refine lv_icmp_ne (tgt := 54) hx hb dX0_shadows_47 (by decide) (fun c15 => ?_) (fun c15 => ?_)
        · have h := h.2 c15
          refine lv_iconst (v := 0) hx hb dX0_shadows_54 (by decide) ?_
          exact kp_retz F hW hr (Or.inl rfl) h (by decide) (by decide) dX0_shadows_55
        · have h := h.1 c15
          refine lv_iconst (v := 1) hx hb dX0_shadows_50 (by decide) ?_
          refine lv_goto (tgt := 55) hx hb dX0_shadows_51 (by decide) ?_
          exact kp_retz F hW hr (Or.inr rfl) h (by decide) (by decide) dX0_shadows_55
  · have h := h.1 c10
    refine lv_iconst (v := 0) hx hb dX0_shadows_18 (by decide) ?_
    exact kp_retz F hW hr (Or.inl rfl) h (by decide) (by decide) dX0_shadows_19
def wp_X1_init (post : pS → Prop) (e0 : Nat) (o : Nat) (a1 : Int32) (S : pS) : Prop :=
  (S.ok o 1 ∧ ∀ S2, S2 = S.setI o 0 a1 → ∀ q3, q3 ∉ S2.L → ∀ S5, S5 = S2.new q3 6 0 → wp_Jx4a65c_init_da8c8 (fun S8 => (S8.ok o 1 ∧ ∀ S10, S10 = S8.setP o 1 (some q3) → post S10)) e0 q3 S5)
def rm_X1_init : Room := { frames := 4, cells := 1, slots := 3, locals := 80 }
set_option maxHeartbeats 4000000 in
set_option maxRecDepth 100000 in
theorem ct_X1_init (l : Launch) (E : EV) {post : pS → Prop} (o : Nat) (a1 : Int32) (S : pS) (h : wp_X1_init post E.e0 o a1 S) : CT l E yX1_init cX1_init 2 none rm_X1_init (QV E post) [.ref o, .int a1] S := by
  refine ct_intro (by decide +kernel) (Nat.le_of_ble_eq_true rfl) ?_
  intro p e s m below meth c A ls F hW hr hnm hl
  have hx := F.1
  have hb := F.2.1
  unfold wp_X1_init at h
  have hl : lv_has ls 2 [(0, .ref o), (1, .int a1)] := hl
  refine lv_aload_n hx hb dX1_init_0 rfl (lv_at hl 0 rfl) ?_
  refine kp_oinit F hl.1 tw_124 tw_22 tw_23 dX1_init_1 (by decide) (Nat.le_of_ble_eq_true rfl) ?_
  refine lv_aload_n hx hb dX1_init_4 rfl (lv_at hl 0 rfl) ?_
  refine lv_iload_n hx hb dX1_init_5 rfl (lv_at hl 1 rfl) ?_
  obtain ⟨g1, h⟩ := h
  obtain ⟨S2, hS2⟩ : ∃ z, z = S.setI o 0 a1 := ⟨_, rfl⟩
  have h := h S2 hS2
  refine kp_putiF F hW g1 cbX1 0 rfl tw_127 (fun _ h9 => h9) rfl hnm rfl rfl dX1_init_6 (fun H locs hW => ?_)
  rw [← hS2] at hW
  refine lv_aload_n hx hb dX1_init_9 rfl (lv_at hl 0 rfl) ?_
  refine kp_new (c1 := 1) (s1 := 3) F hW cbJx4a65c tw_125 tw_42 tw_6 dX1_init_10 (by decide) (by decide) (by decide) (by decide) (fun q3 H f4 hW => ?_)
  obtain ⟨S5, hS5⟩ : ∃ z, z = S2.new q3 6 0 := ⟨_, rfl⟩
  rw [← hS5] at hW
  have h := h q3 f4 S5 hS5
  have g6 : S5.ok q3 6 := by rw [hS5]; exact ok_new
  refine lv_dup hx hb dX1_init_13 rfl ?_
  refine kp_callv (c1 := 1) (s1 := 3) F hW (kp_runI (As := []) (rest := [.ref q3, .ref o]) F hW (ct_Jx4a65c_init_da8c8 l E _ _ h) cf_Jx4a65c_init_da8c8 tw_126 rfl hl.1 ⟨by decide, by decide⟩ (Nat.le_of_ble_eq_true rfl) dX1_init_14 ⟨by decide, by decide⟩) (by decide) (by decide) (fun S8 H locs h hW => ?_)
  obtain ⟨g9, h⟩ := h
  obtain ⟨S10, hS10⟩ : ∃ z, z = S8.setP o 1 (some q3) := ⟨_, rfl⟩
  have h := h S10 hS10
  refine kp_putpF F hW g9 cbX1 1 rfl tw_129 (fun _ h9 => h9) rfl hnm rfl (Or.inl ⟨_, rfl⟩) dX1_init_17 (fun H locs hW => ?_)
  rw [← hS10] at hW
  exact kp_retv F hW hr h (by decide) (by decide) dX1_init_20
def wp_X2_init (post : pS → Prop) (o : Nat) (S : pS) : Prop :=
  (∀ q1, q1 ∉ S.L → ∀ S3, S3 = S.new q1 7 (40 : Int32).toNatClampNeg → S3.ok o 2 ∧ ∀ S6, S6 = S3.setP o 0 (some q1) → ∀ q7, q7 ∉ S6.L → ∀ S9, S9 = S6.new q7 7 (40 : Int32).toNatClampNeg → ∀ S13, S13 = S9.setP o 1 (some q7) → ∀ S15, S15 = S13.setI o 2 (0 : Int32) → post S15)
def rm_X2_init : Room := { frames := 1, cells := 2, slots := 80, locals := 20 }
set_option maxHeartbeats 4000000 in
set_option maxRecDepth 100000 in
theorem ct_X2_init (l : Launch) (E : EV) {post : pS → Prop} (o : Nat) (S : pS) (h : wp_X2_init post o S) : CT l E yX2_init cX2_init 1 none rm_X2_init (QV E post) [.ref o] S := by
  refine ct_intro (by decide +kernel) (Nat.le_of_ble_eq_true rfl) ?_
  intro p e s m below meth c A ls F hW hr hnm hl
  have hx := F.1
  have hb := F.2.1
  unfold wp_X2_init at h
  have hl : lv_has ls 1 [(0, .ref o)] := hl
  refine lv_aload_n hx hb dX2_init_0 rfl (lv_at hl 0 rfl) ?_
  refine kp_oinit F hl.1 tw_141 tw_22 tw_23 dX2_init_1 (by decide) (Nat.le_of_ble_eq_true rfl) ?_
  refine lv_aload_n hx hb dX2_init_4 rfl (lv_at hl 0 rfl) ?_
  refine lv_bipush (v := 40) hx hb dX2_init_5 (by decide) ?_
  refine kp_newi (c1 := 1) (s1 := 40) F hW tw_40 (by decide) (by decide) dX2_init_7 (by decide) (by decide) (by decide) (by decide) (fun q1 H f2 hW => ?_)
  obtain ⟨S3, hS3⟩ : ∃ z, z = S.new q1 7 (40 : Int32).toNatClampNeg := ⟨_, rfl⟩
  rw [← hS3] at hW
  have h := h q1 f2 S3 hS3
  have g4 : S3.ok q1 7 := by rw [hS3]; exact ok_new
  obtain ⟨g5, h⟩ := h
  obtain ⟨S6, hS6⟩ : ∃ z, z = S3.setP o 0 (some q1) := ⟨_, rfl⟩
  have h := h S6 hS6
  refine kp_putpF F hW g5 cbX2 0 rfl tw_142 (fun _ h9 => h9) rfl hnm rfl (Or.inr ⟨_, rfl⟩) dX2_init_9 (fun H locs hW => ?_)
  rw [← hS6] at hW
  refine lv_aload_n hx hb dX2_init_12 rfl (lv_at hl 0 rfl) ?_
  refine lv_bipush (v := 40) hx hb dX2_init_13 (by decide) ?_
  refine kp_newi (c1 := 2) (s1 := 80) F hW tw_40 (by decide) (by decide) dX2_init_15 (by decide) (by decide) (by decide) (by decide) (fun q7 H f8 hW => ?_)
  obtain ⟨S9, hS9⟩ : ∃ z, z = S6.new q7 7 (40 : Int32).toNatClampNeg := ⟨_, rfl⟩
  rw [← hS9] at hW
  have h := h q7 f8 S9 hS9
  have g10 : S9.ok q7 7 := by rw [hS9]; exact ok_new
  have g11 : S6.ok o 2 := by rw [hS6]; exact g5
  have g12 : S9.ok o 2 := by rw [hS9]; exact ok_old f8 g11
  obtain ⟨S13, hS13⟩ : ∃ z, z = S9.setP o 1 (some q7) := ⟨_, rfl⟩
  have h := h S13 hS13
  refine kp_putpF F hW g12 cbX2 1 rfl tw_143 (fun _ h9 => h9) rfl hnm rfl (Or.inr ⟨_, rfl⟩) dX2_init_17 (fun H locs hW => ?_)
  rw [← hS13] at hW
  refine lv_aload_n hx hb dX2_init_20 rfl (lv_at hl 0 rfl) ?_
  refine lv_iconst (v := 0) hx hb dX2_init_21 (by decide) ?_
  have g14 : S13.ok o 2 := by rw [hS13]; exact g12
  obtain ⟨S15, hS15⟩ : ∃ z, z = S13.setI o 2 (0 : Int32) := ⟨_, rfl⟩
  have h := h S15 hS15
  refine kp_puti F hW g14 cbX2 2 rfl tw_144 (fun _ h9 => h9) rfl rfl dX2_init_22 (fun H locs hW => ?_)
  rw [← hS15] at hW
  exact kp_retv F hW hr h (by decide) (by decide) dX2_init_25
def wp_X2_add (post : pS → Prop) (o : Nat) (a1 : Int32) (a2 : Int32) (S : pS) : Prop :=
  (S.ok o 2 ∧ wp_J9_floorMod_7cf53 (fun r2 S3 => (S3.ok o 2 ∧ ∃ q5, S3.P o 0 = some q5 ∧ S3.ok q5 7 ∧ vp_in r2 (S3.n q5) ∧ ∀ S9, S9 = S3.setI q5 r2.toNatClampNeg a1 → ∃ q11, S9.P o 1 = some q11 ∧ S9.ok q11 7 ∧ vp_in r2 (S9.n q11) ∧ ∀ S15, S15 = S9.setI q11 r2.toNatClampNeg a2 → ∀ S17, S17 = S15.setI o 2 ((S15.I o 2) + (1 : Int32)) → post S17)) (S.I o 2) (40 : Int32) S)
def rm_X2_add : Room := { frames := 1, cells := 0, slots := 0, locals := 22 }
set_option maxHeartbeats 4000000 in
set_option maxRecDepth 100000 in
theorem ct_X2_add (l : Launch) (E : EV) {post : pS → Prop} (o : Nat) (a1 : Int32) (a2 : Int32) (S : pS) (h : wp_X2_add post o a1 a2 S) : CT l E yX2_add cX2_add 4 none rm_X2_add (QV E post) [.ref o, .int a1, .int a2] S := by
  refine ct_intro (by decide +kernel) (Nat.le_of_ble_eq_true rfl) ?_
  intro p e s m below meth c A ls F hW hr hnm hl
  have hx := F.1
  have hb := F.2.1
  unfold wp_X2_add at h
  have hl : lv_has ls 4 [(0, .ref o), (1, .int a1), (2, .int a2)] := hl
  refine lv_aload_n hx hb dX2_add_0 rfl (lv_at hl 0 rfl) ?_
  obtain ⟨g1, h⟩ := h
  refine kp_geti F hW g1 cbX2 2 rfl tw_144 (fun _ h9 => h9) dX2_add_1 ?_
  refine lv_bipush (v := 40) hx hb dX2_add_4 (by decide) ?_
  refine kp_calli (c1 := 0) (s1 := 0) F hW (kp_runS (As := [.int (S.I o 2), .int (40 : Int32)]) (rest := []) F hW (ct_J9_floorMod_7cf53 l E _ _ _ h) cf_J9_floorMod_7cf53 tw_380 rfl hl.1 ⟨by decide, by decide⟩ (Nat.le_of_ble_eq_true rfl) dX2_add_6 ⟨by decide, by decide⟩) (by decide) (by decide) (fun r2 S3 H locs h hW => ?_)
  refine lv_istore_n (lv' := [(3, .int r2), (0, .ref o), (1, .int a1), (2, .int a2)]) hx hb dX2_add_9 rfl hl (by decide) rfl (fun ls hl => ?_)
  refine lv_aload_n hx hb dX2_add_10 rfl (lv_at hl 1 rfl) ?_
  obtain ⟨g4, h⟩ := h
  obtain ⟨q5, p6, h⟩ := h
  refine kp_getp F hW g4 cbX2 0 rfl tw_142 (fun _ h9 => h9) dX2_add_11 p6 ?_
  refine lv_iload_n hx hb dX2_add_14 rfl (lv_at hl 0 rfl) ?_
  refine lv_iload_n hx hb dX2_add_15 rfl (lv_at hl 2 rfl) ?_
  obtain ⟨g7, h⟩ := h
  obtain ⟨b8, h⟩ := h
  obtain ⟨S9, hS9⟩ : ∃ z, z = S3.setI q5 r2.toNatClampNeg a1 := ⟨_, rfl⟩
  have h := h S9 hS9
  refine kp_iast F hW g7 b8 dX2_add_16 (fun H locs hW => ?_)
  rw [← hS9] at hW
  refine lv_aload_n hx hb dX2_add_17 rfl (lv_at hl 1 rfl) ?_
  have g10 : S9.ok o 2 := by rw [hS9]; exact g4
  obtain ⟨q11, p12, h⟩ := h
  refine kp_getp F hW g10 cbX2 1 rfl tw_143 (fun _ h9 => h9) dX2_add_18 p12 ?_
  refine lv_iload_n hx hb dX2_add_21 rfl (lv_at hl 0 rfl) ?_
  refine lv_iload_n hx hb dX2_add_22 rfl (lv_at hl 3 rfl) ?_
  obtain ⟨g13, h⟩ := h
  obtain ⟨b14, h⟩ := h
  obtain ⟨S15, hS15⟩ : ∃ z, z = S9.setI q11 r2.toNatClampNeg a2 := ⟨_, rfl⟩
  have h := h S15 hS15
  refine kp_iast F hW g13 b14 dX2_add_23 (fun H locs hW => ?_)
  rw [← hS15] at hW
  refine lv_aload_n hx hb dX2_add_24 rfl (lv_at hl 1 rfl) ?_
  refine lv_dup hx hb dX2_add_25 rfl ?_
  have g16 : S15.ok o 2 := by rw [hS15]; exact g10
  refine kp_geti F hW g16 cbX2 2 rfl tw_144 (fun _ h9 => h9) dX2_add_26 ?_
  refine lv_iconst (v := 1) hx hb dX2_add_29 (by decide) ?_
  refine lv_iadd hx hb dX2_add_30 ?_
  obtain ⟨S17, hS17⟩ : ∃ z, z = S15.setI o 2 ((S15.I o 2) + (1 : Int32)) := ⟨_, rfl⟩
  have h := h S17 hS17
  refine kp_puti F hW g16 cbX2 2 rfl tw_144 (fun _ h9 => h9) rfl rfl dX2_add_31 (fun H locs hW => ?_)
  rw [← hS17] at hW
  exact kp_retv F hW hr h (by decide) (by decide) dX2_add_34
def wp_X2_isReadable (post : Int32 → pS → Prop) (o : Nat) (a1 : Int32) (S : pS) : Prop :=
  ((a1 < 0 → post (0 : Int32) S) ∧ (¬ (a1 < 0) → (S.ok o 2 ∧ (((S.I o 2) ≤ a1 → post (0 : Int32) S) ∧ (¬ ((S.I o 2) ≤ a1) → ((a1 < ((S.I o 2) - (40 : Int32)) → post (0 : Int32) S) ∧ (¬ (a1 < ((S.I o 2) - (40 : Int32))) → post (1 : Int32) S)))))))
def rm_X2_isReadable : Room := { frames := 0, cells := 0, slots := 0, locals := 0 }
set_option maxHeartbeats 4000000 in
set_option maxRecDepth 100000 in
theorem ct_X2_isReadable (l : Launch) (E : EV) {post : Int32 → pS → Prop} (o : Nat) (a1 : Int32) (S : pS) (h : wp_X2_isReadable post o a1 S) : CT l E yX2_isReadable cX2_isReadable 2 (some .boolean) rm_X2_isReadable (QI E post) [.ref o, .int a1] S := by
  refine ct_intro (by decide +kernel) (Nat.le_of_ble_eq_true rfl) ?_
  intro p e s m below meth c A ls F hW hr hnm hl
  have hx := F.1
  have hb := F.2.1
  unfold wp_X2_isReadable at h
  have hl : lv_has ls 2 [(0, .ref o), (1, .int a1)] := hl
  refine lv_iload_n hx hb dX2_isReadable_0 rfl (lv_at hl 1 rfl) ?_
  refine lv_if_lt (tgt := 27) hx hb dX2_isReadable_1 (by decide) (fun c1 => ?_) (fun c1 => ?_)
  · have h := h.1 c1
    refine lv_iconst (v := 0) hx hb dX2_isReadable_27 (by decide) ?_
    exact kp_retz F hW hr (Or.inl rfl) h (by decide) (by decide) dX2_isReadable_28
  · have h := h.2 c1
    refine lv_iload_n hx hb dX2_isReadable_4 rfl (lv_at hl 1 rfl) ?_
    refine lv_aload_n hx hb dX2_isReadable_5 rfl (lv_at hl 0 rfl) ?_
    obtain ⟨g2, h⟩ := h
    refine kp_geti F hW g2 cbX2 2 rfl tw_144 (fun _ h9 => h9) dX2_isReadable_6 ?_
    refine lv_icmp_ge (tgt := 27) hx hb dX2_isReadable_9 (by decide) (fun c3 => ?_) (fun c3 => ?_)
    · have h := h.1 c3
      refine lv_iconst (v := 0) hx hb dX2_isReadable_27 (by decide) ?_
      exact kp_retz F hW hr (Or.inl rfl) h (by decide) (by decide) dX2_isReadable_28
    · have h := h.2 c3
      refine lv_iload_n hx hb dX2_isReadable_12 rfl (lv_at hl 1 rfl) ?_
      refine lv_aload_n hx hb dX2_isReadable_13 rfl (lv_at hl 0 rfl) ?_
      refine kp_geti F hW g2 cbX2 2 rfl tw_144 (fun _ h9 => h9) dX2_isReadable_14 ?_
      refine lv_bipush (v := 40) hx hb dX2_isReadable_17 (by decide) ?_
      refine lv_isub hx hb dX2_isReadable_19 ?_
      refine lv_icmp_lt (tgt := 27) hx hb dX2_isReadable_20 (by decide) (fun c4 => ?_) (fun c4 => ?_)
      · have h := h.1 c4
        refine lv_iconst (v := 0) hx hb dX2_isReadable_27 (by decide) ?_
        exact kp_retz F hW hr (Or.inl rfl) h (by decide) (by decide) dX2_isReadable_28
      · have h := h.2 c4
        refine lv_iconst (v := 1) hx hb dX2_isReadable_23 (by decide) ?_
        refine lv_goto (tgt := 28) hx hb dX2_isReadable_24 (by decide) ?_
        exact kp_retz F hW hr (Or.inr rfl) h (by decide) (by decide) dX2_isReadable_28
def wp_X2_kindOf (post : Int32 → pS → Prop) (o : Nat) (a1 : Int32) (S : pS) : Prop :=
  (S.ok o 2 ∧ wp_X2_isReadable (fun r1 S2 => ((r1 = 0 → post (-4 : Int32) S2) ∧ (¬ (r1 = 0) → (S2.ok o 2 ∧ ∃ q6, S2.P o 0 = some q6 ∧ wp_J9_floorMod_7cf53 (fun r8 S9 => (S9.ok q6 7 ∧ vp_in r8 (S9.n q6) ∧ post (S9.I q6 r8.toNatClampNeg) S9)) a1 (40 : Int32) S2)))) o a1 S)
def rm_X2_kindOf : Room := { frames := 1, cells := 0, slots := 0, locals := 22 }
set_option maxHeartbeats 4000000 in
set_option maxRecDepth 100000 in
theorem ct_X2_kindOf (l : Launch) (E : EV) {post : Int32 → pS → Prop} (o : Nat) (a1 : Int32) (S : pS) (h : wp_X2_kindOf post o a1 S) : CT l E yX2_kindOf cX2_kindOf 2 (some .int) rm_X2_kindOf (QI E post) [.ref o, .int a1] S := by
  refine ct_intro (by decide +kernel) (Nat.le_of_ble_eq_true rfl) ?_
  intro p e s m below meth c A ls F hW hr hnm hl
  have hx := F.1
  have hb := F.2.1
  unfold wp_X2_kindOf at h
  have hl : lv_has ls 2 [(0, .ref o), (1, .int a1)] := hl
  refine lv_aload_n hx hb dX2_kindOf_0 rfl (lv_at hl 0 rfl) ?_
  refine lv_iload_n hx hb dX2_kindOf_1 rfl (lv_at hl 1 rfl) ?_
  obtain ⟨g3, h⟩ := h
  refine kp_calli (c1 := 0) (s1 := 0) F hW (kp_runV (As := [.int a1]) (rest := []) F hW (ct_X2_isReadable l E _ _ _ h) g3 cbX2 rfl cf_X2_isReadable tw_464 rfl hl.1 ⟨by decide, by decide⟩ (Nat.le_of_ble_eq_true rfl) dX2_kindOf_2 ⟨by decide, by decide⟩) (by decide) (by decide) (fun r1 S2 H locs h hW => ?_)
  refine lv_if_eq (tgt := 22) hx hb dX2_kindOf_5 (by decide) (fun c4 => ?_) (fun c4 => ?_)
  · have h := h.1 c4
    refine lv_bipush (v := (-4)) hx hb dX2_kindOf_22 (by decide) ?_
    exact kp_reti F hW hr h (by decide) (by decide) dX2_kindOf_24
  · have h := h.2 c4
    refine lv_aload_n hx hb dX2_kindOf_8 rfl (lv_at hl 0 rfl) ?_
    obtain ⟨g5, h⟩ := h
    obtain ⟨q6, p7, h⟩ := h
    refine kp_getp F hW g5 cbX2 0 rfl tw_142 (fun _ h9 => h9) dX2_kindOf_9 p7 ?_
    refine lv_iload_n hx hb dX2_kindOf_12 rfl (lv_at hl 1 rfl) ?_
    refine lv_bipush (v := 40) hx hb dX2_kindOf_13 (by decide) ?_
    refine kp_calli (c1 := 0) (s1 := 0) F hW (kp_runS (As := [.int a1, .int (40 : Int32)]) (rest := [.ref q6]) F hW (ct_J9_floorMod_7cf53 l E _ _ _ h) cf_J9_floorMod_7cf53 tw_380 rfl hl.1 ⟨by decide, by decide⟩ (Nat.le_of_ble_eq_true rfl) dX2_kindOf_15 ⟨by decide, by decide⟩) (by decide) (by decide) (fun r8 S9 H locs h hW => ?_)
    obtain ⟨g10, h⟩ := h
    obtain ⟨b11, h⟩ := h
    refine kp_iald F hW g10 b11 dX2_kindOf_18 ?_
    refine lv_goto (tgt := 24) hx hb dX2_kindOf_19 (by decide) ?_
    exact kp_reti F hW hr h (by decide) (by decide) dX2_kindOf_24
def wp_X2_argumentOf (post : Int32 → pS → Prop) (o : Nat) (a1 : Int32) (S : pS) : Prop :=
  (S.ok o 2 ∧ wp_X2_isReadable (fun r1 S2 => ((r1 = 0 → post (-4 : Int32) S2) ∧ (¬ (r1 = 0) → (S2.ok o 2 ∧ ∃ q6, S2.P o 1 = some q6 ∧ wp_J9_floorMod_7cf53 (fun r8 S9 => (S9.ok q6 7 ∧ vp_in r8 (S9.n q6) ∧ post (S9.I q6 r8.toNatClampNeg) S9)) a1 (40 : Int32) S2)))) o a1 S)
def rm_X2_argumentOf : Room := { frames := 1, cells := 0, slots := 0, locals := 22 }
set_option maxHeartbeats 4000000 in
set_option maxRecDepth 100000 in
theorem ct_X2_argumentOf (l : Launch) (E : EV) {post : Int32 → pS → Prop} (o : Nat) (a1 : Int32) (S : pS) (h : wp_X2_argumentOf post o a1 S) : CT l E yX2_argumentOf cX2_argumentOf 2 (some .int) rm_X2_argumentOf (QI E post) [.ref o, .int a1] S := by
  refine ct_intro (by decide +kernel) (Nat.le_of_ble_eq_true rfl) ?_
  intro p e s m below meth c A ls F hW hr hnm hl
  have hx := F.1
  have hb := F.2.1
  unfold wp_X2_argumentOf at h
  have hl : lv_has ls 2 [(0, .ref o), (1, .int a1)] := hl
  refine lv_aload_n hx hb dX2_argumentOf_0 rfl (lv_at hl 0 rfl) ?_
  refine lv_iload_n hx hb dX2_argumentOf_1 rfl (lv_at hl 1 rfl) ?_
  obtain ⟨g3, h⟩ := h
  refine kp_calli (c1 := 0) (s1 := 0) F hW (kp_runV (As := [.int a1]) (rest := []) F hW (ct_X2_isReadable l E _ _ _ h) g3 cbX2 rfl cf_X2_isReadable tw_464 rfl hl.1 ⟨by decide, by decide⟩ (Nat.le_of_ble_eq_true rfl) dX2_argumentOf_2 ⟨by decide, by decide⟩) (by decide) (by decide) (fun r1 S2 H locs h hW => ?_)
  refine lv_if_eq (tgt := 22) hx hb dX2_argumentOf_5 (by decide) (fun c4 => ?_) (fun c4 => ?_)
  · have h := h.1 c4
    refine lv_bipush (v := (-4)) hx hb dX2_argumentOf_22 (by decide) ?_
    exact kp_reti F hW hr h (by decide) (by decide) dX2_argumentOf_24
  · have h := h.2 c4
    refine lv_aload_n hx hb dX2_argumentOf_8 rfl (lv_at hl 0 rfl) ?_
    obtain ⟨g5, h⟩ := h
    obtain ⟨q6, p7, h⟩ := h
    refine kp_getp F hW g5 cbX2 1 rfl tw_143 (fun _ h9 => h9) dX2_argumentOf_9 p7 ?_
    refine lv_iload_n hx hb dX2_argumentOf_12 rfl (lv_at hl 1 rfl) ?_
    refine lv_bipush (v := 40) hx hb dX2_argumentOf_13 (by decide) ?_
    refine kp_calli (c1 := 0) (s1 := 0) F hW (kp_runS (As := [.int a1, .int (40 : Int32)]) (rest := [.ref q6]) F hW (ct_J9_floorMod_7cf53 l E _ _ _ h) cf_J9_floorMod_7cf53 tw_380 rfl hl.1 ⟨by decide, by decide⟩ (Nat.le_of_ble_eq_true rfl) dX2_argumentOf_15 ⟨by decide, by decide⟩) (by decide) (by decide) (fun r8 S9 H locs h hW => ?_)
    obtain ⟨g10, h⟩ := h
    obtain ⟨b11, h⟩ := h
    refine kp_iald F hW g10 b11 dX2_argumentOf_18 ?_
    refine lv_goto (tgt := 24) hx hb dX2_argumentOf_19 (by decide) ?_
    exact kp_reti F hW hr h (by decide) (by decide) dX2_argumentOf_24
def wp_X3_init (post : pS → Prop) (N : Nat) (o : Nat) (a1 : Int32) (S : pS) : Prop :=
  (wp_J9_max_7cf53 (fun r1 S2 => (¬ r1 < 0 ∧ r1.toNatClampNeg ≤ N ∧ N ≤ 1000 ∧ ∀ q3, q3 ∉ S2.L → ∀ S8, S8 = S2.new q3 7 r1.toNatClampNeg → S8.ok o 3 ∧ ∀ S11, S11 = S8.setP o 0 (some q3) → ∀ S13, S13 = S11.setI o 1 (0 : Int32) → post S13)) a1 (0 : Int32) S)
def rm_X3_init (N : Nat) : Room := { frames := 1, cells := 1, slots := N, locals := 21 }
set_option maxHeartbeats 4000000 in
set_option maxRecDepth 100000 in
theorem ct_X3_init (l : Launch) (E : EV) {post : pS → Prop} (N : Nat) (o : Nat) (a1 : Int32) (S : pS) (h : wp_X3_init post N o a1 S) : CT l E yX3_init cX3_init 2 none (rm_X3_init N) (QV E post) [.ref o, .int a1] S := by
  refine ct_intro (by decide +kernel) (Nat.le_of_ble_eq_true rfl) ?_
  intro p e s m below meth c A ls F hW hr hnm hl
  have hx := F.1
  have hb := F.2.1
  unfold wp_X3_init at h
  have hl : lv_has ls 2 [(0, .ref o), (1, .int a1)] := hl
  refine lv_aload_n hx hb dX3_init_0 rfl (lv_at hl 0 rfl) ?_
  refine kp_oinit F hl.1 tw_29 tw_22 tw_23 dX3_init_1 (Nat.le_of_ble_eq_true rfl) (Nat.le_of_ble_eq_true rfl) ?_
  refine lv_aload_n hx hb dX3_init_4 rfl (lv_at hl 0 rfl) ?_
  refine lv_iload_n hx hb dX3_init_5 rfl (lv_at hl 1 rfl) ?_
  refine lv_iconst (v := 0) hx hb dX3_init_6 (by decide) ?_
  refine kp_calli (c1 := 0) (s1 := 0) F hW (kp_runS (As := [.int a1, .int (0 : Int32)]) (rest := [.ref o]) F hW (ct_J9_max_7cf53 l E _ _ _ h) cf_J9_max_7cf53 tw_30 rfl hl.1 ⟨Nat.le_of_ble_eq_true rfl, Nat.le_of_ble_eq_true rfl⟩ (Nat.le_of_ble_eq_true rfl) dX3_init_7 ⟨Nat.le_of_ble_eq_true rfl, Nat.zero_le _⟩) (Nat.le_of_ble_eq_true rfl) (Nat.le_of_ble_eq_true rfl) (fun r1 S2 H locs h hW => ?_)
  obtain ⟨z5, z6, h⟩ := h
  obtain ⟨z7, h⟩ := h
  refine kp_newi (c1 := 1) (s1 := N) F hW tw_40 z5 (Nat.le_trans z6 z7) dX3_init_10 (Nat.le_of_ble_eq_true rfl) (by rw [Nat.zero_add]; exact z6) (Nat.le_of_ble_eq_true rfl) (Nat.le_refl _) (fun q3 H f4 hW => ?_)
  obtain ⟨S8, hS8⟩ : ∃ z, z = S2.new q3 7 r1.toNatClampNeg := ⟨_, rfl⟩
  rw [← hS8] at hW
  have h := h q3 f4 S8 hS8
  have g9 : S8.ok q3 7 := by rw [hS8]; exact ok_new
  obtain ⟨g10, h⟩ := h
  obtain ⟨S11, hS11⟩ : ∃ z, z = S8.setP o 0 (some q3) := ⟨_, rfl⟩
  have h := h S11 hS11
  refine kp_putpF F hW g10 cbX3 0 rfl tw_33 (fun _ h9 => h9) rfl hnm rfl (Or.inr ⟨_, rfl⟩) dX3_init_12 (fun H locs hW => ?_)
  rw [← hS11] at hW
  refine lv_aload_n hx hb dX3_init_15 rfl (lv_at hl 0 rfl) ?_
  refine lv_iconst (v := 0) hx hb dX3_init_16 (by decide) ?_
  have g12 : S11.ok o 3 := by rw [hS11]; exact g10
  obtain ⟨S13, hS13⟩ : ∃ z, z = S11.setI o 1 (0 : Int32) := ⟨_, rfl⟩
  have h := h S13 hS13
  refine kp_puti F hW g12 cbX3 1 rfl tw_34 (fun _ h9 => h9) rfl rfl dX3_init_17 (fun H locs hW => ?_)
  rw [← hS13] at hW
  exact kp_retv F hW hr h (Nat.le_of_ble_eq_true rfl) (Nat.le_refl _) dX3_init_20
def wp_X3_isFull (post : Int32 → pS → Prop) (o : Nat) (S : pS) : Prop :=
  (S.ok o 3 ∧ ∃ q2, S.P o 0 = some q2 ∧ S.ok q2 7 ∧ (((S.I o 1) < (nI (S.n q2)) → post (0 : Int32) S) ∧ (¬ ((S.I o 1) < (nI (S.n q2))) → post (1 : Int32) S)))
def rm_X3_isFull : Room := { frames := 0, cells := 0, slots := 0, locals := 0 }
set_option maxHeartbeats 4000000 in
set_option maxRecDepth 100000 in
theorem ct_X3_isFull (l : Launch) (E : EV) {post : Int32 → pS → Prop} (o : Nat) (S : pS) (h : wp_X3_isFull post o S) : CT l E yX3_isFull cX3_isFull 1 (some .boolean) rm_X3_isFull (QI E post) [.ref o] S := by
  refine ct_intro (by decide +kernel) (Nat.le_of_ble_eq_true rfl) ?_
  intro p e s m below meth c A ls F hW hr hnm hl
  have hx := F.1
  have hb := F.2.1
  unfold wp_X3_isFull at h
  have hl : lv_has ls 1 [(0, .ref o)] := hl
  refine lv_aload_n hx hb dX3_isFull_0 rfl (lv_at hl 0 rfl) ?_
  obtain ⟨g1, h⟩ := h
  refine kp_geti F hW g1 cbX3 1 rfl tw_34 (fun _ h9 => h9) dX3_isFull_1 ?_
  refine lv_aload_n hx hb dX3_isFull_4 rfl (lv_at hl 0 rfl) ?_
  obtain ⟨q2, p3, h⟩ := h
  refine kp_getp F hW g1 cbX3 0 rfl tw_33 (fun _ h9 => h9) dX3_isFull_5 p3 ?_
  obtain ⟨g4, h⟩ := h
  refine kp_ilen F hW g4 dX3_isFull_8 ?_
  refine lv_icmp_lt (tgt := 16) hx hb dX3_isFull_9 (by decide) (fun c5 => ?_) (fun c5 => ?_)
  · have h := h.1 c5
    refine lv_iconst (v := 0) hx hb dX3_isFull_16 (by decide) ?_
    exact kp_retz F hW hr (Or.inl rfl) h (by decide) (by decide) dX3_isFull_17
  · have h := h.2 c5
    refine lv_iconst (v := 1) hx hb dX3_isFull_12 (by decide) ?_
    refine lv_goto (tgt := 17) hx hb dX3_isFull_13 (by decide) ?_
    exact kp_retz F hW hr (Or.inr rfl) h (by decide) (by decide) dX3_isFull_17
def wp_X3_add (post : pS → Prop) (o : Nat) (a1 : Int32) (S : pS) : Prop :=
  (S.ok o 3 ∧ ∃ q2, S.P o 0 = some q2 ∧ S.ok q2 7 ∧ (((nI (S.n q2)) ≤ (S.I o 1) → post S) ∧ (¬ ((nI (S.n q2)) ≤ (S.I o 1)) → (vp_in (S.I o 1) (S.n q2) ∧ ∀ S7, S7 = S.setI q2 (S.I o 1).toNatClampNeg a1 → ∀ S9, S9 = S7.setI o 1 ((S7.I o 1) + (1 : Int32)) → post S9))))
def rm_X3_add : Room := { frames := 0, cells := 0, slots := 0, locals := 0 }
set_option maxHeartbeats 4000000 in
set_option maxRecDepth 100000 in
theorem ct_X3_add (l : Launch) (E : EV) {post : pS → Prop} (o : Nat) (a1 : Int32) (S : pS) (h : wp_X3_add post o a1 S) : CT l E yX3_add cX3_add 2 none rm_X3_add (QV E post) [.ref o, .int a1] S := by
  refine ct_intro (by decide +kernel) (Nat.le_of_ble_eq_true rfl) ?_
  intro p e s m below meth c A ls F hW hr hnm hl
  have hx := F.1
  have hb := F.2.1
  unfold wp_X3_add at h
  have hl : lv_has ls 2 [(0, .ref o), (1, .int a1)] := hl
  refine lv_aload_n hx hb dX3_add_0 rfl (lv_at hl 0 rfl) ?_
  obtain ⟨g1, h⟩ := h
  refine kp_geti F hW g1 cbX3 1 rfl tw_34 (fun _ h9 => h9) dX3_add_1 ?_
  refine lv_aload_n hx hb dX3_add_4 rfl (lv_at hl 0 rfl) ?_
  obtain ⟨q2, p3, h⟩ := h
  refine kp_getp F hW g1 cbX3 0 rfl tw_33 (fun _ h9 => h9) dX3_add_5 p3 ?_
  obtain ⟨g4, h⟩ := h
  refine kp_ilen F hW g4 dX3_add_8 ?_
  refine lv_icmp_ge (tgt := 32) hx hb dX3_add_9 (by decide) (fun c5 => ?_) (fun c5 => ?_)
  · have h := h.1 c5
    exact kp_retv F hW hr h (by decide) (by decide) dX3_add_32
  · have h := h.2 c5
    refine lv_aload_n hx hb dX3_add_12 rfl (lv_at hl 0 rfl) ?_
    refine kp_getp F hW g1 cbX3 0 rfl tw_33 (fun _ h9 => h9) dX3_add_13 p3 ?_
    refine lv_aload_n hx hb dX3_add_16 rfl (lv_at hl 0 rfl) ?_
    refine kp_geti F hW g1 cbX3 1 rfl tw_34 (fun _ h9 => h9) dX3_add_17 ?_
    refine lv_iload_n hx hb dX3_add_20 rfl (lv_at hl 1 rfl) ?_
    obtain ⟨b6, h⟩ := h
    obtain ⟨S7, hS7⟩ : ∃ z, z = S.setI q2 (S.I o 1).toNatClampNeg a1 := ⟨_, rfl⟩
    have h := h S7 hS7
    refine kp_iast F hW g4 b6 dX3_add_21 (fun H locs hW => ?_)
    rw [← hS7] at hW
    refine lv_aload_n hx hb dX3_add_22 rfl (lv_at hl 0 rfl) ?_
    refine lv_dup hx hb dX3_add_23 rfl ?_
    have g8 : S7.ok o 3 := by rw [hS7]; exact g1
    refine kp_geti F hW g8 cbX3 1 rfl tw_34 (fun _ h9 => h9) dX3_add_24 ?_
    refine lv_iconst (v := 1) hx hb dX3_add_27 (by decide) ?_
    refine lv_iadd hx hb dX3_add_28 ?_
    obtain ⟨S9, hS9⟩ : ∃ z, z = S7.setI o 1 ((S7.I o 1) + (1 : Int32)) := ⟨_, rfl⟩
    have h := h S9 hS9
    refine kp_puti F hW g8 cbX3 1 rfl tw_34 (fun _ h9 => h9) rfl rfl dX3_add_29 (fun H locs hW => ?_)
    rw [← hS9] at hW
    exact kp_retv F hW hr h (by decide) (by decide) dX3_add_32
def wp_X3_at (post : Int32 → pS → Prop) (o : Nat) (a1 : Int32) (S : pS) : Prop :=
  ((a1 < 0 → post (-4 : Int32) S) ∧ (¬ (a1 < 0) → (S.ok o 3 ∧ (((S.I o 1) ≤ a1 → post (-4 : Int32) S) ∧ (¬ ((S.I o 1) ≤ a1) → (∃ q4, S.P o 0 = some q4 ∧ S.ok q4 7 ∧ vp_in a1 (S.n q4) ∧ post (S.I q4 a1.toNatClampNeg) S))))))
def rm_X3_at : Room := { frames := 0, cells := 0, slots := 0, locals := 0 }
set_option maxHeartbeats 4000000 in
set_option maxRecDepth 100000 in
theorem ct_X3_at (l : Launch) (E : EV) {post : Int32 → pS → Prop} (o : Nat) (a1 : Int32) (S : pS) (h : wp_X3_at post o a1 S) : CT l E yX3_at cX3_at 2 (some .int) rm_X3_at (QI E post) [.ref o, .int a1] S := by
  refine ct_intro (by decide +kernel) (Nat.le_of_ble_eq_true rfl) ?_
  intro p e s m below meth c A ls F hW hr hnm hl
  have hx := F.1
  have hb := F.2.1
  unfold wp_X3_at at h
  have hl : lv_has ls 2 [(0, .ref o), (1, .int a1)] := hl
  refine lv_iload_n hx hb dX3_at_0 rfl (lv_at hl 1 rfl) ?_
  refine lv_if_lt (tgt := 21) hx hb dX3_at_1 (by decide) (fun c1 => ?_) (fun c1 => ?_)
  · have h := h.1 c1
    refine lv_bipush (v := (-4)) hx hb dX3_at_21 (by decide) ?_
    exact kp_reti F hW hr h (by decide) (by decide) dX3_at_23
  · have h := h.2 c1
    refine lv_iload_n hx hb dX3_at_4 rfl (lv_at hl 1 rfl) ?_
    refine lv_aload_n hx hb dX3_at_5 rfl (lv_at hl 0 rfl) ?_
    obtain ⟨g2, h⟩ := h
    refine kp_geti F hW g2 cbX3 1 rfl tw_34 (fun _ h9 => h9) dX3_at_6 ?_
    refine lv_icmp_ge (tgt := 21) hx hb dX3_at_9 (by decide) (fun c3 => ?_) (fun c3 => ?_)
    · have h := h.1 c3
      refine lv_bipush (v := (-4)) hx hb dX3_at_21 (by decide) ?_
      exact kp_reti F hW hr h (by decide) (by decide) dX3_at_23
    · have h := h.2 c3
      refine lv_aload_n hx hb dX3_at_12 rfl (lv_at hl 0 rfl) ?_
      obtain ⟨q4, p5, h⟩ := h
      refine kp_getp F hW g2 cbX3 0 rfl tw_33 (fun _ h9 => h9) dX3_at_13 p5 ?_
      refine lv_iload_n hx hb dX3_at_16 rfl (lv_at hl 1 rfl) ?_
      obtain ⟨g6, h⟩ := h
      obtain ⟨b7, h⟩ := h
      refine kp_iald F hW g6 b7 dX3_at_17 ?_
      refine lv_goto (tgt := 23) hx hb dX3_at_18 (by decide) ?_
      exact kp_reti F hW hr h (by decide) (by decide) dX3_at_23
def wp_X3_removeLast (post : Int32 → pS → Prop) (o : Nat) (S : pS) : Prop :=
  (S.ok o 3 ∧ ((0 < (S.I o 1) → (∀ S3, S3 = S.setI o 1 ((S.I o 1) - (1 : Int32)) → ∃ q5, S3.P o 0 = some q5 ∧ S3.ok q5 7 ∧ vp_in (S3.I o 1) (S3.n q5) ∧ post (S3.I q5 (S3.I o 1).toNatClampNeg) S3)) ∧ (¬ (0 < (S.I o 1)) → post (-4 : Int32) S)))
def rm_X3_removeLast : Room := { frames := 0, cells := 0, slots := 0, locals := 0 }
set_option maxHeartbeats 4000000 in
set_option maxRecDepth 100000 in
theorem ct_X3_removeLast (l : Launch) (E : EV) {post : Int32 → pS → Prop} (o : Nat) (S : pS) (h : wp_X3_removeLast post o S) : CT l E yX3_removeLast cX3_removeLast 1 (some .int) rm_X3_removeLast (QI E post) [.ref o] S := by
  refine ct_intro (by decide +kernel) (Nat.le_of_ble_eq_true rfl) ?_
  intro p e s m below meth c A ls F hW hr hnm hl
  have hx := F.1
  have hb := F.2.1
  unfold wp_X3_removeLast at h
  have hl : lv_has ls 1 [(0, .ref o)] := hl
  refine lv_aload_n hx hb dX3_removeLast_0 rfl (lv_at hl 0 rfl) ?_
  obtain ⟨g1, h⟩ := h
  refine kp_geti F hW g1 cbX3 1 rfl tw_34 (fun _ h9 => h9) dX3_removeLast_1 ?_
  refine lv_if_gt (tgt := 10) hx hb dX3_removeLast_4 (by decide) (fun c2 => ?_) (fun c2 => ?_)
  · have h := h.1 c2
    refine lv_aload_n hx hb dX3_removeLast_10 rfl (lv_at hl 0 rfl) ?_
    refine lv_dup hx hb dX3_removeLast_11 rfl ?_
    refine kp_geti F hW g1 cbX3 1 rfl tw_34 (fun _ h9 => h9) dX3_removeLast_12 ?_
    refine lv_iconst (v := 1) hx hb dX3_removeLast_15 (by decide) ?_
    refine lv_isub hx hb dX3_removeLast_16 ?_
    obtain ⟨S3, hS3⟩ : ∃ z, z = S.setI o 1 ((S.I o 1) - (1 : Int32)) := ⟨_, rfl⟩
    have h := h S3 hS3
    refine kp_puti F hW g1 cbX3 1 rfl tw_34 (fun _ h9 => h9) rfl rfl dX3_removeLast_17 (fun H locs hW => ?_)
    rw [← hS3] at hW
    refine lv_aload_n hx hb dX3_removeLast_20 rfl (lv_at hl 0 rfl) ?_
    have g4 : S3.ok o 3 := by rw [hS3]; exact g1
    obtain ⟨q5, p6, h⟩ := h
    refine kp_getp F hW g4 cbX3 0 rfl tw_33 (fun _ h9 => h9) dX3_removeLast_21 p6 ?_
    refine lv_aload_n hx hb dX3_removeLast_24 rfl (lv_at hl 0 rfl) ?_
    refine kp_geti F hW g4 cbX3 1 rfl tw_34 (fun _ h9 => h9) dX3_removeLast_25 ?_
    obtain ⟨g7, h⟩ := h
    obtain ⟨b8, h⟩ := h
    refine kp_iald F hW g7 b8 dX3_removeLast_28 ?_
    exact kp_reti F hW hr h (by decide) (by decide) dX3_removeLast_29
  · have h := h.2 c2
    refine lv_bipush (v := (-4)) hx hb dX3_removeLast_7 (by decide) ?_
    exact kp_reti F hW hr h (by decide) (by decide) dX3_removeLast_9
def wp_X3_clear (post : pS → Prop) (o : Nat) (S : pS) : Prop :=
  (S.ok o 3 ∧ ∀ S2, S2 = S.setI o 1 (0 : Int32) → post S2)
def rm_X3_clear : Room := { frames := 0, cells := 0, slots := 0, locals := 0 }
set_option maxHeartbeats 4000000 in
set_option maxRecDepth 100000 in
theorem ct_X3_clear (l : Launch) (E : EV) {post : pS → Prop} (o : Nat) (S : pS) (h : wp_X3_clear post o S) : CT l E yX3_clear cX3_clear 1 none rm_X3_clear (QV E post) [.ref o] S := by
  refine ct_intro (by decide +kernel) (Nat.le_of_ble_eq_true rfl) ?_
  intro p e s m below meth c A ls F hW hr hnm hl
  have hx := F.1
  have hb := F.2.1
  unfold wp_X3_clear at h
  have hl : lv_has ls 1 [(0, .ref o)] := hl
  refine lv_aload_n hx hb dX3_clear_0 rfl (lv_at hl 0 rfl) ?_
  refine lv_iconst (v := 0) hx hb dX3_clear_1 (by decide) ?_
  obtain ⟨g1, h⟩ := h
  obtain ⟨S2, hS2⟩ : ∃ z, z = S.setI o 1 (0 : Int32) := ⟨_, rfl⟩
  have h := h S2 hS2
  refine kp_puti F hW g1 cbX3 1 rfl tw_34 (fun _ h9 => h9) rfl rfl dX3_clear_2 (fun H locs hW => ?_)
  rw [← hS2] at hW
  exact kp_retv F hW hr h (by decide) (by decide) dX3_clear_5
def wp_X3_copy_L14 (post : Nat → pS → Prop) : Nat → Nat → Nat → Int32 → pS → Prop
  | 0, _, _, _, _ => False
  | n + 1, v0, v1, v2, S =>
  (S.ok v0 3 ∧ (((S.I v0 1) ≤ v2 → post v1 S) ∧ (¬ ((S.I v0 1) ≤ v2) → (∃ q10, S.P v0 0 = some q10 ∧ S.ok q10 7 ∧ vp_in v2 (S.n q10) ∧ S.ok v1 3 ∧ wp_X3_add (fun S15 => wp_X3_copy_L14 post n v0 v1 (v2 + 1) S15) v1 (S.I q10 v2.toNatClampNeg) S))))
def wp_X3_copy (post : Nat → pS → Prop) (o : Nat) (S : pS) : Prop :=
  (∀ q1, q1 ∉ S.L → ∀ S3, S3 = S.new q1 3 0 → S3.ok o 3 ∧ wp_X3_init (fun S7 => (∃ n14, wp_X3_copy_L14 post n14 o q1 (0 : Int32) S7)) 4 q1 (S3.I o 1) S3)
def rm_X3_copy : Room := { frames := 2, cells := 2, slots := 6, locals := 42 }
set_option maxHeartbeats 4000000 in
set_option maxRecDepth 100000 in
theorem wk_X3_copy_L14 {l : Launch} {p : Program} {e : Env} {s : State} {m : MethodId} {args : Array Value} {below : List Frame} {meth : Method} {c : Code} {A : Nat → Prop} {E : EV} {post : Nat → pS → Prop} (F : FX p s m args meth c cX3_copy 3 yX3_copy.cls E A) (hr : meth.sig.returnType = (some (.object "KeyCommandInterpreter$Row"))) :
    ∀ (n : Nat) (v0 : Nat) (v1 : Nat) (v2 : Int32) (S : pS) (H : Heap) (locs : List Loc) (ls : Array Slot), wp_X3_copy_L14 post n v0 v1 v2 S → WD E A s S H locs → lv_has ls 3 [(0, .ref v0), (1, .ref v1), (2, .int v2)] → W p l e rm_X3_copy s m args below meth c H locs 2 6 (MQ below (QR E post A) args s rm_X3_copy.cells rm_X3_copy.slots A) (F0 m 14 ls []) := by
  have hx := F.1
  have hb := F.2.1
  intro n
  induction n with
  | zero =>
    intro v0 v1 v2 S H locs ls h hW hl
    exact h.elim
  | succ n ih =>
    intro v0 v1 v2 S H locs ls h hW hl
    unfold wp_X3_copy_L14 at h
    refine lv_iload_n hx hb dX3_copy_14 rfl (lv_at hl 2 rfl) ?_
    refine lv_aload_n hx hb dX3_copy_15 rfl (lv_at hl 0 rfl) ?_
    obtain ⟨g8, h⟩ := h
    refine kp_geti F hW g8 cbX3 1 rfl tw_34 (fun _ h9 => h9) dX3_copy_16 ?_
    refine lv_icmp_ge (tgt := 38) hx hb dX3_copy_19 (by decide) (fun c9 => ?_) (fun c9 => ?_)
    · have h := h.1 c9
      refine lv_aload_n hx hb dX3_copy_38 rfl (lv_at hl 1 rfl) ?_
      exact kp_retr F hW hr (Or.inl ⟨_, rfl⟩) h (by decide) (by decide) dX3_copy_39
    · have h := h.2 c9
      refine lv_aload_n hx hb dX3_copy_22 rfl (lv_at hl 1 rfl) ?_
      refine lv_aload_n hx hb dX3_copy_23 rfl (lv_at hl 0 rfl) ?_
      obtain ⟨q10, p11, h⟩ := h
      refine kp_getp F hW g8 cbX3 0 rfl tw_33 (fun _ h9 => h9) dX3_copy_24 p11 ?_
      refine lv_iload_n hx hb dX3_copy_27 rfl (lv_at hl 2 rfl) ?_
      obtain ⟨g12, h⟩ := h
      obtain ⟨b13, h⟩ := h
      refine kp_iald F hW g12 b13 dX3_copy_28 ?_
      obtain ⟨g16, h⟩ := h
      refine kp_callv (c1 := 2) (s1 := 6) F hW (kp_runV (As := [.int (S.I q10 v2.toNatClampNeg)]) (rest := []) F hW (ct_X3_add l E _ _ _ h) g16 cbX3 rfl cf_X3_add tw_277 rfl hl.1 ⟨by decide, by decide⟩ (Nat.le_of_ble_eq_true rfl) dX3_copy_29 ⟨by decide, by decide⟩) (by decide) (by decide) (fun S15 H locs h hW => ?_)
      refine lv_iinc (v := (v2 + 1)) (lv' := [(2, .int (v2 + 1)), (0, .ref v0), (1, .ref v1)]) hx hb dX3_copy_32 hl (k := 2) rfl (by rfl) (by decide) rfl (fun ls hl => ?_)
      refine lv_goto (tgt := 14) hx hb dX3_copy_35 (by decide) ?_
      exact ih _ _ _ _ _ _ _ h hW (lv_sub hl [1, 2, 0] rfl)
set_option maxHeartbeats 4000000 in
set_option maxRecDepth 100000 in
theorem ct_X3_copy (l : Launch) (E : EV) {post : Nat → pS → Prop} (o : Nat) (S : pS) (h : wp_X3_copy post o S) : CT l E yX3_copy cX3_copy 3 (some (.object "KeyCommandInterpreter$Row")) rm_X3_copy (QR E post) [.ref o] S := by
  refine ct_intro (by decide +kernel) (Nat.le_of_ble_eq_true rfl) ?_
  intro p e s m below meth c A ls F hW hr hnm hl
  have hx := F.1
  have hb := F.2.1
  unfold wp_X3_copy at h
  have hl : lv_has ls 3 [(0, .ref o)] := hl
  refine kp_new (c1 := 1) (s1 := 2) F hW cbX3 tw_275 tw_25 tw_2 dX3_copy_0 (by decide) (by decide) (by decide) (by decide) (fun q1 H f2 hW => ?_)
  obtain ⟨S3, hS3⟩ : ∃ z, z = S.new q1 3 0 := ⟨_, rfl⟩
  rw [← hS3] at hW
  have h := h q1 f2 S3 hS3
  have g4 : S3.ok q1 3 := by rw [hS3]; exact ok_new
  refine lv_dup hx hb dX3_copy_3 rfl ?_
  refine lv_aload_n hx hb dX3_copy_4 rfl (lv_at hl 0 rfl) ?_
  obtain ⟨g5, h⟩ := h
  refine kp_geti F hW g5 cbX3 1 rfl tw_34 (fun _ h9 => h9) dX3_copy_5 ?_
  refine kp_callv (c1 := 2) (s1 := 6) F hW (kp_runI (As := [.int (S3.I o 1)]) (rest := [.ref q1]) F hW (ct_X3_init l E 4 _ _ _ h) cf_X3_init tw_276 rfl hl.1 ⟨by decide, by decide⟩ (Nat.le_of_ble_eq_true rfl) dX3_copy_8 ⟨by decide, by decide⟩) (by decide) (by decide) (fun S7 H locs h hW => ?_)
  refine lv_astore_n (lv' := [(1, .ref q1), (0, .ref o)]) hx hb dX3_copy_11 rfl hl (by decide) rfl (fun ls hl => ?_)
  refine lv_iconst (v := 0) hx hb dX3_copy_12 (by decide) ?_
  refine lv_istore_n (lv' := [(2, .int (0 : Int32)), (1, .ref q1), (0, .ref o)]) hx hb dX3_copy_13 rfl hl (by decide) rfl (fun ls hl => ?_)
  obtain ⟨n9, h⟩ := h
  exact wk_X3_copy_L14 F hr n9 _ _ _ _ _ _ _ h hW (lv_sub hl [2, 1, 0] rfl)
