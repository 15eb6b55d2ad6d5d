def wp_X4_isContext (post : Int32 → pS → Prop) (o : Nat) (a1 : Int32) (S : pS) : Prop :=
  ((a1 < 0 → post (0 : Int32) S) ∧ (¬ (a1 < 0) → (S.ok o 4 ∧ ∃ q3, S.P o 4 = some q3 ∧ S.ok q3 6 ∧ wp_Jx4a65c_size_8abf5 (fun r5 S6 => ((r5 ≤ a1 → post (0 : Int32) S6) ∧ (¬ (r5 ≤ a1) → post (1 : Int32) S6))) q3 S)))
def rm_X4_isContext : Room := { frames := 1, cells := 0, slots := 0, locals := 20 }
set_option maxHeartbeats 4000000 in
set_option maxRecDepth 100000 in
theorem ct_X4_isContext (l : Launch) (E : EV) {post : Int32 → pS → Prop} (o : Nat) (a1 : Int32) (S : pS) (h : wp_X4_isContext post o a1 S) : CT l E yX4_isContext cX4_isContext 2 (some .boolean) rm_X4_isContext (QI E post) [.ref o, .int a1] S := by
  refine ct_intro (by decide +kernel) (Nat.le_of_ble_eq_true rfl) ?_
  intro p e s m below meth c A ls F hW hr hnm hl
  have hx := F.1
  have hb := F.2.1
  unfold wp_X4_isContext at h
  have hl : lv_has ls 2 [(0, .ref o), (1, .int a1)] := hl
  refine lv_iload_n hx hb dX4_isContext_0 rfl (lv_at hl 1 rfl) ?_
  refine lv_if_lt (tgt := 19) hx hb dX4_isContext_1 (by decide) (fun c1 => ?_) (fun c1 => ?_)
  · have h := h.1 c1
    refine lv_iconst (v := 0) hx hb dX4_isContext_19 (by decide) ?_
    exact kp_retz F hW hr (Or.inl rfl) h (by decide) (by decide) dX4_isContext_20
  · have h := h.2 c1
    refine lv_iload_n hx hb dX4_isContext_4 rfl (lv_at hl 1 rfl) ?_
    refine lv_aload_n hx hb dX4_isContext_5 rfl (lv_at hl 0 rfl) ?_
    obtain ⟨g2, h⟩ := h
    obtain ⟨q3, p4, h⟩ := h
    refine kp_getp F hW g2 cbX4 4 rfl tw_183 (fun _ h9 => h9) dX4_isContext_6 p4 ?_
    obtain ⟨g7, h⟩ := h
    refine kp_calli (c1 := 0) (s1 := 0) F hW (kp_runV (As := []) (rest := [.int a1]) F hW (ct_Jx4a65c_size_8abf5 l E _ _ h) g7 cbJx4a65c rfl cf_Jx4a65c_size_8abf5 tw_161 rfl hl.1 ⟨by decide, by decide⟩ (Nat.le_of_ble_eq_true rfl) dX4_isContext_9 ⟨by decide, by decide⟩) (by decide) (by decide) (fun r5 S6 H locs h hW => ?_)
    refine lv_icmp_ge (tgt := 19) hx hb dX4_isContext_12 (by decide) (fun c8 => ?_) (fun c8 => ?_)
    · have h := h.1 c8
      refine lv_iconst (v := 0) hx hb dX4_isContext_19 (by decide) ?_
      exact kp_retz F hW hr (Or.inl rfl) h (by decide) (by decide) dX4_isContext_20
    · have h := h.2 c8
      refine lv_iconst (v := 1) hx hb dX4_isContext_15 (by decide) ?_
      refine lv_goto (tgt := 20) hx hb dX4_isContext_16 (by decide) ?_
      exact kp_retz F hW hr (Or.inr rfl) h (by decide) (by decide) dX4_isContext_20
def wp_X4_pushContext (post : pS → Prop) (e0 : Nat) (o : Nat) (a1 : Int32) (S : pS) : Prop :=
  (S.ok o 4 ∧ wp_X4_isContext (fun r1 S2 => ((r1 = 0 → post S2) ∧ (¬ (r1 = 0) → (S2.ok o 4 ∧ ∃ q6, S2.P o 5 = some q6 ∧ ∃ q8, S2.P o 4 = some q8 ∧ S2.ok q8 6 ∧ wp_Jx4a65c_get_915e3 (fun r10 S11 => (S11.ok r10 1 ∧ S11.ok q6 6 ∧ wp_Jx4a65c_add_9ea2d (fun r14 S15 => post S15) e0 q6 r10 S11)) q8 a1 S2)))) o a1 S)
def rm_X4_pushContext : Room := { frames := 5, cells := 1, slots := 10, locals := 108 }
set_option maxHeartbeats 4000000 in
set_option maxRecDepth 100000 in
theorem ct_X4_pushContext (l : Launch) (E : EV) {post : pS → Prop} (o : Nat) (a1 : Int32) (S : pS) (h : wp_X4_pushContext post E.e0 o a1 S) : CT l E yX4_pushContext cX4_pushContext 2 none rm_X4_pushContext (QV E post) [.ref o, .int a1] S := by
  refine ct_intro (by decide +kernel) (Nat.le_of_ble_eq_true rfl) ?_
  intro p e s m below meth c A ls F hW hr hnm hl
  have hx := F.1
  have hb := F.2.1
  unfold wp_X4_pushContext at h
  have hl : lv_has ls 2 [(0, .ref o), (1, .int a1)] := hl
  refine lv_aload_n hx hb dX4_pushContext_0 rfl (lv_at hl 0 rfl) ?_
  refine lv_iload_n hx hb dX4_pushContext_1 rfl (lv_at hl 1 rfl) ?_
  obtain ⟨g3, h⟩ := h
  refine kp_calli (c1 := 0) (s1 := 0) F hW (kp_runV (As := [.int a1]) (rest := []) F hW (ct_X4_isContext l E _ _ _ h) g3 cbX4 rfl cf_X4_isContext tw_157 rfl hl.1 ⟨by decide, by decide⟩ (Nat.le_of_ble_eq_true rfl) dX4_pushContext_2 ⟨by decide, by decide⟩) (by decide) (by decide) (fun r1 S2 H locs h hW => ?_)
  refine lv_if_eq (tgt := 27) hx hb dX4_pushContext_5 (by decide) (fun c4 => ?_) (fun c4 => ?_)
  · have h := h.1 c4
    exact kp_retv F hW hr h (by decide) (by decide) dX4_pushContext_27
  · have h := h.2 c4
    refine lv_aload_n hx hb dX4_pushContext_8 rfl (lv_at hl 0 rfl) ?_
    obtain ⟨g5, h⟩ := h
    obtain ⟨q6, p7, h⟩ := h
    refine kp_getp F hW g5 cbX4 5 rfl tw_184 (fun _ h9 => h9) dX4_pushContext_9 p7 ?_
    refine lv_aload_n hx hb dX4_pushContext_12 rfl (lv_at hl 0 rfl) ?_
    obtain ⟨q8, p9, h⟩ := h
    refine kp_getp F hW g5 cbX4 4 rfl tw_183 (fun _ h9 => h9) dX4_pushContext_13 p9 ?_
    refine lv_iload_n hx hb dX4_pushContext_16 rfl (lv_at hl 1 rfl) ?_
    obtain ⟨g12, h⟩ := h
    refine kp_callr (c1 := 0) (s1 := 0) F hW (kp_runV (As := [.int a1]) (rest := [.ref q6]) F hW (ct_Jx4a65c_get_915e3 l E _ _ _ h) g12 cbJx4a65c rfl cf_Jx4a65c_get_915e3 tw_165 rfl hl.1 ⟨by decide, by decide⟩ (Nat.le_of_ble_eq_true rfl) dX4_pushContext_17 ⟨by decide, by decide⟩) (by decide) (by decide) (fun r10 S11 H locs h hW => ?_)
    obtain ⟨g13, h⟩ := h
    refine kp_cast F hW g13 cbX1 tw_119 dX4_pushContext_20 ?_
    obtain ⟨g16, h⟩ := h
    refine kp_calli (c1 := 1) (s1 := 10) F hW (kp_runV (As := [.ref r10]) (rest := []) F hW (ct_Jx4a65c_add_9ea2d l E _ _ _ h) g16 cbJx4a65c rfl cf_Jx4a65c_add_9ea2d tw_67 rfl hl.1 ⟨by decide, by decide⟩ (Nat.le_of_ble_eq_true rfl) dX4_pushContext_23 ⟨by decide, by decide⟩) (by decide) (by decide) (fun r14 S15 H locs h hW => ?_)
    refine lv_pop hx hb dX4_pushContext_26 rfl ?_
    exact kp_retv F hW hr h (by decide) (by decide) dX4_pushContext_27
def wp_X4_init (post : pS → Prop) (e0 : Nat) (o : Nat) (S : pS) : Prop :=
  (∀ q1, q1 ∉ S.L → ∀ S3, S3 = S.new q1 3 0 → wp_X3_init (fun S6 => (S6.ok o 4 ∧ ∀ S8, S8 = S6.setP o 0 (some q1) → ∀ q9, q9 ∉ S8.L → ∀ S11, S11 = S8.new q9 3 0 → wp_X3_init (fun S14 => (S14.ok o 4 ∧ ∀ S16, S16 = S14.setP o 1 (some q9) → ∀ q17, q17 ∉ S16.L → ∀ S19, S19 = S16.new q17 3 0 → wp_X3_init (fun S22 => (S22.ok o 4 ∧ ∀ S24, S24 = S22.setP o 2 (some q17) → ∀ q25, q25 ∉ S24.L → ∀ S27, S27 = S24.new q25 6 0 → wp_Jx4a65c_init_da8c8 (fun S30 => (S30.ok o 4 ∧ ∀ S32, S32 = S30.setP o 3 (some q25) → ∃ q34, S32.P o 3 = some q34 ∧ ∀ q36, q36 ∉ S32.L → ∀ S38, S38 = S32.new q36 3 0 → wp_X3_init (fun S41 => (S41.ok q34 6 ∧ wp_Jx4a65c_add_9ea2d (fun r42 S43 => (S43.ok o 4 ∧ ∃ q46, S43.P o 3 = some q46 ∧ ∀ q48, q48 ∉ S43.L → ∀ S50, S50 = S43.new q48 3 0 → wp_X3_init (fun S53 => (S53.ok q46 6 ∧ wp_Jx4a65c_add_9ea2d (fun r54 S55 => (S55.ok o 4 ∧ ∃ q58, S55.P o 3 = some q58 ∧ ∀ q60, q60 ∉ S55.L → ∀ S62, S62 = S55.new q60 3 0 → wp_X3_init (fun S65 => (S65.ok q58 6 ∧ wp_Jx4a65c_add_9ea2d (fun r66 S67 => (S67.ok o 4 ∧ ∃ q70, S67.P o 3 = some q70 ∧ ∀ q72, q72 ∉ S67.L → ∀ S74, S74 = S67.new q72 3 0 → wp_X3_init (fun S77 => (S77.ok q70 6 ∧ wp_Jx4a65c_add_9ea2d (fun r78 S79 => (∀ q81, q81 ∉ S79.L → ∀ S83, S83 = S79.new q81 6 0 → wp_Jx4a65c_init_da8c8 (fun S86 => (S86.ok o 4 ∧ ∀ S88, S88 = S86.setP o 4 (some q81) → ∃ q90, S88.P o 4 = some q90 ∧ ∀ q92, q92 ∉ S88.L → ∀ S94, S94 = S88.new q92 1 0 → wp_X1_init (fun S97 => (S97.ok q90 6 ∧ wp_Jx4a65c_add_9ea2d (fun r98 S99 => (S99.ok o 4 ∧ ∃ q102, S99.P o 4 = some q102 ∧ ∀ q104, q104 ∉ S99.L → ∀ S106, S106 = S99.new q104 1 0 → wp_X1_init (fun S109 => (S109.ok q102 6 ∧ wp_Jx4a65c_add_9ea2d (fun r110 S111 => (S111.ok o 4 ∧ ∃ q114, S111.P o 4 = some q114 ∧ ∀ q116, q116 ∉ S111.L → ∀ S118, S118 = S111.new q116 1 0 → wp_X1_init (fun S121 => (S121.ok q114 6 ∧ wp_Jx4a65c_add_9ea2d (fun r122 S123 => (S123.ok o 4 ∧ ∃ q126, S123.P o 4 = some q126 ∧ ∀ q128, q128 ∉ S123.L → ∀ S130, S130 = S123.new q128 1 0 → wp_X1_init (fun S133 => (S133.ok q126 6 ∧ wp_Jx4a65c_add_9ea2d (fun r134 S135 => (∀ q137, q137 ∉ S135.L → ∀ S139, S139 = S135.new q137 6 0 → wp_Jx4a65c_init_da8c8 (fun S142 => (S142.ok o 4 ∧ ∀ S144, S144 = S142.setP o 5 (some q137) → ∀ q145, q145 ∉ S144.L → ∀ S147, S147 = S144.new q145 7 (6 : Int32).toNatClampNeg → ∀ S151, S151 = S147.setP o 6 (some q145) → ∀ q152, q152 ∉ S151.L → ∀ S154, S154 = S151.new q152 2 0 → wp_X2_init (fun S157 => (S157.ok o 4 ∧ ∀ S159, S159 = S157.setP o 7 (some q152) → ∀ S161, S161 = S159.setI o 8 (10 : Int32) → ∀ S163, S163 = S161.setI o 9 (0 : Int32) → ∀ S165, S165 = S163.setI o 10 (-1 : Int32) → ∀ S167, S167 = S165.setI o 11 (0 : Int32) → ∀ S169, S169 = S167.setI o 12 (0 : Int32) → wp_X4_pushContext (fun S171 => post S171) e0 o (0 : Int32) S169)) q152 S154)) e0 q137 S139)) e0 q126 q128 S133)) e0 q128 (3 : Int32) S130)) e0 q114 q116 S121)) e0 q116 (2 : Int32) S118)) e0 q102 q104 S109)) e0 q104 (1 : Int32) S106)) e0 q90 q92 S97)) e0 q92 (0 : Int32) S94)) e0 q81 S83)) e0 q70 q72 S77)) 12 q72 (12 : Int32) S74)) e0 q58 q60 S65)) 12 q60 (12 : Int32) S62)) e0 q46 q48 S53)) 12 q48 (12 : Int32) S50)) e0 q34 q36 S41)) 12 q36 (12 : Int32) S38)) e0 q25 S27)) 264 q17 (264 : Int32) S19)) 4 q9 (4 : Int32) S11)) 4 q1 (4 : Int32) S3)
def rm_X4_init : Room := { frames := 6, cells := 38, slots := 542, locals := 129 }
set_option maxHeartbeats 4000000 in
set_option maxRecDepth 100000 in
theorem ct_X4_init (l : Launch) (E : EV) {post : pS → Prop} (o : Nat) (S : pS) (h : wp_X4_init post E.e0 o S) : CT l E yX4_init cX4_init 2 none rm_X4_init (QV E post) [.ref o] S := by
  refine ct_intro (by decide +kernel) (Nat.le_of_ble_eq_true rfl) ?_
  intro p e s m below meth c A ls F hW hr hnm hl
  have hx := F.1
  have hb := F.2.1
  unfold wp_X4_init at h
  have hl : lv_has ls 2 [(0, .ref o)] := hl
  refine lv_aload_n hx hb dX4_init_0 rfl (lv_at hl 0 rfl) ?_
  refine kp_oinit F hl.1 tw_21 tw_22 tw_23 dX4_init_1 (by decide) (Nat.le_of_ble_eq_true rfl) ?_
  refine lv_aload_n hx hb dX4_init_4 rfl (lv_at hl 0 rfl) ?_
  refine kp_new (c1 := 1) (s1 := 2) F hW cbX3 tw_24 tw_25 tw_2 dX4_init_5 (by decide) (by decide) (by decide) (by decide) (fun q1 H f2 hW => ?_)
  obtain ⟨S3, hS3⟩ : ∃ z, z = S.new q1 3 0 := ⟨_, rfl⟩
  rw [← hS3] at hW
  have h := h q1 f2 S3 hS3
  have g4 : S3.ok q1 3 := by rw [hS3]; exact ok_new
  refine lv_dup hx hb dX4_init_8 rfl ?_
  refine lv_iconst (v := 4) hx hb dX4_init_9 (by decide) ?_
  refine kp_callv (c1 := 2) (s1 := 6) F hW (kp_runIN (As := [.int (4 : Int32)]) (rest := [.ref q1, .ref o]) F hW (ct_X3_init l E 4 _ _ _ h) cf_X3_init tw_26 rfl hl.1 ⟨by decide, by decide⟩ (Nat.le_of_ble_eq_true rfl) dX4_init_10 ⟨by decide, by decide⟩) (by decide) (by decide) (fun S6 H locs h hW => ?_)
  obtain ⟨g7, h⟩ := h
  obtain ⟨S8, hS8⟩ : ∃ z, z = S6.setP o 0 (some q1) := ⟨_, rfl⟩
  have h := h S8 hS8
  refine kp_putpF F hW g7 cbX4 0 rfl tw_179 (fun _ h9 => h9) rfl hnm rfl (Or.inl ⟨_, rfl⟩) dX4_init_13 (fun H locs hW => ?_)
  rw [← hS8] at hW
  refine lv_aload_n hx hb dX4_init_16 rfl (lv_at hl 0 rfl) ?_
  refine kp_new (c1 := 3) (s1 := 8) F hW cbX3 tw_24 tw_25 tw_2 dX4_init_17 (by decide) (by decide) (by decide) (by decide) (fun q9 H f10 hW => ?_)
  obtain ⟨S11, hS11⟩ : ∃ z, z = S8.new q9 3 0 := ⟨_, rfl⟩
  rw [← hS11] at hW
  have h := h q9 f10 S11 hS11
  have g12 : S11.ok q9 3 := by rw [hS11]; exact ok_new
  refine lv_dup hx hb dX4_init_20 rfl ?_
  refine lv_iconst (v := 4) hx hb dX4_init_21 (by decide) ?_
  refine kp_callv (c1 := 4) (s1 := 12) F hW (kp_runIN (As := [.int (4 : Int32)]) (rest := [.ref q9, .ref o]) F hW (ct_X3_init l E 4 _ _ _ h) cf_X3_init tw_26 rfl hl.1 ⟨by decide, by decide⟩ (Nat.le_of_ble_eq_true rfl) dX4_init_22 ⟨by decide, by decide⟩) (by decide) (by decide) (fun S14 H locs h hW => ?_)
  obtain ⟨g15, h⟩ := h
  obtain ⟨S16, hS16⟩ : ∃ z, z = S14.setP o 1 (some q9) := ⟨_, rfl⟩
  have h := h S16 hS16
  refine kp_putpF F hW g15 cbX4 1 rfl tw_180 (fun _ h9 => h9) rfl hnm rfl (Or.inl ⟨_, rfl⟩) dX4_init_25 (fun H locs hW => ?_)
  rw [← hS16] at hW
  refine lv_aload_n hx hb dX4_init_28 rfl (lv_at hl 0 rfl) ?_
  refine kp_new (c1 := 5) (s1 := 14) F hW cbX3 tw_24 tw_25 tw_2 dX4_init_29 (by decide) (by decide) (by decide) (by decide) (fun q17 H f18 hW => ?_)
  obtain ⟨S19, hS19⟩ : ∃ z, z = S16.new q17 3 0 := ⟨_, rfl⟩
  rw [← hS19] at hW
  have h := h q17 f18 S19 hS19
  have g20 : S19.ok q17 3 := by rw [hS19]; exact ok_new
  refine lv_dup hx hb dX4_init_32 rfl ?_
  refine lv_sipush (v := 264) hx hb dX4_init_33 (by decide) ?_
  refine kp_callv (c1 := 6) (s1 := 278) F hW (kp_runIN (As := [.int (264 : Int32)]) (rest := [.ref q17, .ref o]) F hW (ct_X3_init l E 264 _ _ _ h) cf_X3_init tw_26 rfl hl.1 ⟨by decide, by decide⟩ (Nat.le_of_ble_eq_true rfl) dX4_init_36 ⟨by decide, by decide⟩) (by decide) (by decide) (fun S22 H locs h hW => ?_)
  obtain ⟨g23, h⟩ := h
  obtain ⟨S24, hS24⟩ : ∃ z, z = S22.setP o 2 (some q17) := ⟨_, rfl⟩
  have h := h S24 hS24
  refine kp_putpF F hW g23 cbX4 2 rfl tw_181 (fun _ h9 => h9) rfl hnm rfl (Or.inl ⟨_, rfl⟩) dX4_init_39 (fun H locs hW => ?_)
  rw [← hS24] at hW
  refine lv_aload_n hx hb dX4_init_42 rfl (lv_at hl 0 rfl) ?_
  refine kp_new (c1 := 7) (s1 := 281) F hW cbJx4a65c tw_41 tw_42 tw_6 dX4_init_43 (by decide) (by decide) (by decide) (by decide) (fun q25 H f26 hW => ?_)
  obtain ⟨S27, hS27⟩ : ∃ z, z = S24.new q25 6 0 := ⟨_, rfl⟩
  rw [← hS27] at hW
  have h := h q25 f26 S27 hS27
  have g28 : S27.ok q25 6 := by rw [hS27]; exact ok_new
  refine lv_dup hx hb dX4_init_46 rfl ?_
  refine kp_callv (c1 := 7) (s1 := 281) F hW (kp_runI (As := []) (rest := [.ref q25, .ref o]) F hW (ct_Jx4a65c_init_da8c8 l E _ _ h) cf_Jx4a65c_init_da8c8 tw_43 rfl hl.1 ⟨by decide, by decide⟩ (Nat.le_of_ble_eq_true rfl) dX4_init_47 ⟨by decide, by decide⟩) (by decide) (by decide) (fun S30 H locs h hW => ?_)
  obtain ⟨g31, h⟩ := h
  obtain ⟨S32, hS32⟩ : ∃ z, z = S30.setP o 3 (some q25) := ⟨_, rfl⟩
  have h := h S32 hS32
  refine kp_putpF F hW g31 cbX4 3 rfl tw_182 (fun _ h9 => h9) rfl hnm rfl (Or.inl ⟨_, rfl⟩) dX4_init_50 (fun H locs hW => ?_)
  rw [← hS32] at hW
  refine lv_iconst (v := 0) hx hb dX4_init_53 (by decide) ?_
  refine lv_istore_n (lv' := [(1, .int (0 : Int32)), (0, .ref o)]) hx hb dX4_init_54 rfl hl (by decide) rfl (fun ls hl => ?_)
  refine lv_iload_n hx hb dX4_init_55 rfl (lv_at hl 0 rfl) ?_
  refine lv_iconst (v := 4) hx hb dX4_init_56 (by decide) ?_
  refine lv_icmp_ge (tgt := 83) hx hb dX4_init_57 (by decide) (fun c9 => absurd c9 (by decide)) (fun _ => ?_)
  refine lv_aload_n hx hb dX4_init_60 rfl (lv_at hl 1 rfl) ?_
  have g33 : S32.ok o 4 := by rw [hS32]; exact g31
  obtain ⟨q34, p35, h⟩ := h
  refine kp_getp F hW g33 cbX4 3 rfl tw_182 (fun _ h9 => h9) dX4_init_61 p35 ?_
  refine kp_new (c1 := 8) (s1 := 283) F hW cbX3 tw_24 tw_25 tw_2 dX4_init_64 (by decide) (by decide) (by decide) (by decide) (fun q36 H f37 hW => ?_)
  obtain ⟨S38, hS38⟩ : ∃ z, z = S32.new q36 3 0 := ⟨_, rfl⟩
  rw [← hS38] at hW
  have h := h q36 f37 S38 hS38
  have g39 : S38.ok q36 3 := by rw [hS38]; exact ok_new
  refine lv_dup hx hb dX4_init_67 rfl ?_
  refine lv_bipush (v := 12) hx hb dX4_init_68 (by decide) ?_
  refine kp_callv (c1 := 9) (s1 := 295) F hW (kp_runIN (As := [.int (12 : Int32)]) (rest := [.ref q36, .ref q34]) F hW (ct_X3_init l E 12 _ _ _ h) cf_X3_init tw_26 rfl hl.1 ⟨by decide, by decide⟩ (Nat.le_of_ble_eq_true rfl) dX4_init_70 ⟨by decide, by decide⟩) (by decide) (by decide) (fun S41 H locs h hW => ?_)
  obtain ⟨g44, h⟩ := h
  refine kp_calli (c1 := 10) (s1 := 305) F hW (kp_runV (As := [.ref q36]) (rest := []) F hW (ct_Jx4a65c_add_9ea2d l E _ _ _ h) g44 cbJx4a65c rfl cf_Jx4a65c_add_9ea2d tw_67 rfl hl.1 ⟨by decide, by decide⟩ (Nat.le_of_ble_eq_true rfl) dX4_init_73 ⟨by decide, by decide⟩) (by decide) (by decide) (fun r42 S43 H locs h hW => ?_)
  refine lv_pop hx hb dX4_init_76 rfl ?_
  refine lv_iinc (v := (1 : Int32)) (lv' := [(1, .int (1 : Int32)), (0, .ref o)]) hx hb dX4_init_77 hl (k := 0) rfl (by decide) (by decide) rfl (fun ls hl => ?_)
  refine lv_goto (tgt := 55) hx hb dX4_init_80 (by decide) ?_
  refine lv_iload_n hx hb dX4_init_55 rfl (lv_at hl 0 rfl) ?_
  refine lv_iconst (v := 4) hx hb dX4_init_56 (by decide) ?_
  refine lv_icmp_ge (tgt := 83) hx hb dX4_init_57 (by decide) (fun c9 => absurd c9 (by decide)) (fun _ => ?_)
  refine lv_aload_n hx hb dX4_init_60 rfl (lv_at hl 1 rfl) ?_
  obtain ⟨g45, h⟩ := h
  obtain ⟨q46, p47, h⟩ := h
  refine kp_getp F hW g45 cbX4 3 rfl tw_182 (fun _ h9 => h9) dX4_init_61 p47 ?_
  refine kp_new (c1 := 11) (s1 := 307) F hW cbX3 tw_24 tw_25 tw_2 dX4_init_64 (by decide) (by decide) (by decide) (by decide) (fun q48 H f49 hW => ?_)
  obtain ⟨S50, hS50⟩ : ∃ z, z = S43.new q48 3 0 := ⟨_, rfl⟩
  rw [← hS50] at hW
  have h := h q48 f49 S50 hS50
  have g51 : S50.ok q48 3 := by rw [hS50]; exact ok_new
  refine lv_dup hx hb dX4_init_67 rfl ?_
  refine lv_bipush (v := 12) hx hb dX4_init_68 (by decide) ?_
  refine kp_callv (c1 := 12) (s1 := 319) F hW (kp_runIN (As := [.int (12 : Int32)]) (rest := [.ref q48, .ref q46]) F hW (ct_X3_init l E 12 _ _ _ h) cf_X3_init tw_26 rfl hl.1 ⟨by decide, by decide⟩ (Nat.le_of_ble_eq_true rfl) dX4_init_70 ⟨by decide, by decide⟩) (by decide) (by decide) (fun S53 H locs h hW => ?_)
  obtain ⟨g56, h⟩ := h
  refine kp_calli (c1 := 13) (s1 := 329) F hW (kp_runV (As := [.ref q48]) (rest := []) F hW (ct_Jx4a65c_add_9ea2d l E _ _ _ h) g56 cbJx4a65c rfl cf_Jx4a65c_add_9ea2d tw_67 rfl hl.1 ⟨by decide, by decide⟩ (Nat.le_of_ble_eq_true rfl) dX4_init_73 ⟨by decide, by decide⟩) (by decide) (by decide) (fun r54 S55 H locs h hW => ?_)
  refine lv_pop hx hb dX4_init_76 rfl ?_
  refine lv_iinc (v := (2 : Int32)) (lv' := [(1, .int (2 : Int32)), (0, .ref o)]) hx hb dX4_init_77 hl (k := 0) rfl (by decide) (by decide) rfl (fun ls hl => ?_)
  refine lv_goto (tgt := 55) hx hb dX4_init_80 (by decide) ?_
  refine lv_iload_n hx hb dX4_init_55 rfl (lv_at hl 0 rfl) ?_
  refine lv_iconst (v := 4) hx hb dX4_init_56 (by decide) ?_
  refine lv_icmp_ge (tgt := 83) hx hb dX4_init_57 (by decide) (fun c9 => absurd c9 (by decide)) (fun _ => ?_)
  refine lv_aload_n hx hb dX4_init_60 rfl (lv_at hl 1 rfl) ?_
  obtain ⟨g57, h⟩ := h
  obtain ⟨q58, p59, h⟩ := h
  refine kp_getp F hW g57 cbX4 3 rfl tw_182 (fun _ h9 => h9) dX4_init_61 p59 ?_
  refine kp_new (c1 := 14) (s1 := 331) F hW cbX3 tw_24 tw_25 tw_2 dX4_init_64 (by decide) (by decide) (by decide) (by decide) (fun q60 H f61 hW => ?_)
  obtain ⟨S62, hS62⟩ : ∃ z, z = S55.new q60 3 0 := ⟨_, rfl⟩
  rw [← hS62] at hW
  have h := h q60 f61 S62 hS62
  have g63 : S62.ok q60 3 := by rw [hS62]; exact ok_new
  refine lv_dup hx hb dX4_init_67 rfl ?_
  refine lv_bipush (v := 12) hx hb dX4_init_68 (by decide) ?_
  refine kp_callv (c1 := 15) (s1 := 343) F hW (kp_runIN (As := [.int (12 : Int32)]) (rest := [.ref q60, .ref q58]) F hW (ct_X3_init l E 12 _ _ _ h) cf_X3_init tw_26 rfl hl.1 ⟨by decide, by decide⟩ (Nat.le_of_ble_eq_true rfl) dX4_init_70 ⟨by decide, by decide⟩) (by decide) (by decide) (fun S65 H locs h hW => ?_)
  obtain ⟨g68, h⟩ := h
  refine kp_calli (c1 := 16) (s1 := 353) F hW (kp_runV (As := [.ref q60]) (rest := []) F hW (ct_Jx4a65c_add_9ea2d l E _ _ _ h) g68 cbJx4a65c rfl cf_Jx4a65c_add_9ea2d tw_67 rfl hl.1 ⟨by decide, by decide⟩ (Nat.le_of_ble_eq_true rfl) dX4_init_73 ⟨by decide, by decide⟩) (by decide) (by decide) (fun r66 S67 H locs h hW => ?_)
  refine lv_pop hx hb dX4_init_76 rfl ?_
  refine lv_iinc (v := (3 : Int32)) (lv' := [(1, .int (3 : Int32)), (0, .ref o)]) hx hb dX4_init_77 hl (k := 0) rfl (by decide) (by decide) rfl (fun ls hl => ?_)
  refine lv_goto (tgt := 55) hx hb dX4_init_80 (by decide) ?_
  refine lv_iload_n hx hb dX4_init_55 rfl (lv_at hl 0 rfl) ?_
  refine lv_iconst (v := 4) hx hb dX4_init_56 (by decide) ?_
  refine lv_icmp_ge (tgt := 83) hx hb dX4_init_57 (by decide) (fun c9 => absurd c9 (by decide)) (fun _ => ?_)
  refine lv_aload_n hx hb dX4_init_60 rfl (lv_at hl 1 rfl) ?_
  obtain ⟨g69, h⟩ := h
  obtain ⟨q70, p71, h⟩ := h
  refine kp_getp F hW g69 cbX4 3 rfl tw_182 (fun _ h9 => h9) dX4_init_61 p71 ?_
  refine kp_new (c1 := 17) (s1 := 355) F hW cbX3 tw_24 tw_25 tw_2 dX4_init_64 (by decide) (by decide) (by decide) (by decide) (fun q72 H f73 hW => ?_)
  obtain ⟨S74, hS74⟩ : ∃ z, z = S67.new q72 3 0 := ⟨_, rfl⟩
  rw [← hS74] at hW
  have h := h q72 f73 S74 hS74
  have g75 : S74.ok q72 3 := by rw [hS74]; exact ok_new
  refine lv_dup hx hb dX4_init_67 rfl ?_
  refine lv_bipush (v := 12) hx hb dX4_init_68 (by decide) ?_
  refine kp_callv (c1 := 18) (s1 := 367) F hW (kp_runIN (As := [.int (12 : Int32)]) (rest := [.ref q72, .ref q70]) F hW (ct_X3_init l E 12 _ _ _ h) cf_X3_init tw_26 rfl hl.1 ⟨by decide, by decide⟩ (Nat.le_of_ble_eq_true rfl) dX4_init_70 ⟨by decide, by decide⟩) (by decide) (by decide) (fun S77 H locs h hW => ?_)
  obtain ⟨g80, h⟩ := h
  refine kp_calli (c1 := 19) (s1 := 377) F hW (kp_runV (As := [.ref q72]) (rest := []) F hW (ct_Jx4a65c_add_9ea2d l E _ _ _ h) g80 cbJx4a65c rfl cf_Jx4a65c_add_9ea2d tw_67 rfl hl.1 ⟨by decide, by decide⟩ (Nat.le_of_ble_eq_true rfl) dX4_init_73 ⟨by decide, by decide⟩) (by decide) (by decide) (fun r78 S79 H locs h hW => ?_)
  refine lv_pop hx hb dX4_init_76 rfl ?_
  refine lv_iinc (v := (4 : Int32)) (lv' := [(1, .int (4 : Int32)), (0, .ref o)]) hx hb dX4_init_77 hl (k := 0) rfl (by decide) (by decide) rfl (fun ls hl => ?_)
  refine lv_goto (tgt := 55) hx hb dX4_init_80 (by decide) ?_
  refine lv_iload_n hx hb dX4_init_55 rfl (lv_at hl 0 rfl) ?_
  refine lv_iconst (v := 4) hx hb dX4_init_56 (by decide) ?_
  refine lv_icmp_ge (tgt := 83) hx hb dX4_init_57 (by decide) (fun _ => ?_) (fun c9 => absurd c9 (by decide))
  refine lv_aload_n hx hb dX4_init_83 rfl (lv_at hl 1 rfl) ?_
  refine kp_new (c1 := 20) (s1 := 380) F hW cbJx4a65c tw_41 tw_42 tw_6 dX4_init_84 (by decide) (by decide) (by decide) (by decide) (fun q81 H f82 hW => ?_)
  obtain ⟨S83, hS83⟩ : ∃ z, z = S79.new q81 6 0 := ⟨_, rfl⟩
  rw [← hS83] at hW
  have h := h q81 f82 S83 hS83
  have g84 : S83.ok q81 6 := by rw [hS83]; exact ok_new
  refine lv_dup hx hb dX4_init_87 rfl ?_
  refine kp_callv (c1 := 20) (s1 := 380) F hW (kp_runI (As := []) (rest := [.ref q81, .ref o]) F hW (ct_Jx4a65c_init_da8c8 l E _ _ h) cf_Jx4a65c_init_da8c8 tw_43 rfl hl.1 ⟨by decide, by decide⟩ (Nat.le_of_ble_eq_true rfl) dX4_init_88 ⟨by decide, by decide⟩) (by decide) (by decide) (fun S86 H locs h hW => ?_)
  obtain ⟨g87, h⟩ := h
  obtain ⟨S88, hS88⟩ : ∃ z, z = S86.setP o 4 (some q81) := ⟨_, rfl⟩
  have h := h S88 hS88
  refine kp_putpF F hW g87 cbX4 4 rfl tw_183 (fun _ h9 => h9) rfl hnm rfl (Or.inl ⟨_, rfl⟩) dX4_init_91 (fun H locs hW => ?_)
  rw [← hS88] at hW
  refine lv_iconst (v := 0) hx hb dX4_init_94 (by decide) ?_
  refine lv_istore_n (lv' := [(1, .int (0 : Int32)), (0, .ref o)]) hx hb dX4_init_95 rfl hl (by decide) rfl (fun ls hl => ?_)
  refine lv_iload_n hx hb dX4_init_96 rfl (lv_at hl 0 rfl) ?_
  refine lv_iconst (v := 4) hx hb dX4_init_97 (by decide) ?_
  refine lv_icmp_ge (tgt := 123) hx hb dX4_init_98 (by decide) (fun c9 => absurd c9 (by decide)) (fun _ => ?_)
  refine lv_aload_n hx hb dX4_init_101 rfl (lv_at hl 1 rfl) ?_
  have g89 : S88.ok o 4 := by rw [hS88]; exact g87
  obtain ⟨q90, p91, h⟩ := h
  refine kp_getp F hW g89 cbX4 4 rfl tw_183 (fun _ h9 => h9) dX4_init_102 p91 ?_
  refine kp_new (c1 := 21) (s1 := 382) F hW cbX1 tw_119 tw_120 tw_10 dX4_init_105 (by decide) (by decide) (by decide) (by decide) (fun q92 H f93 hW => ?_)
  obtain ⟨S94, hS94⟩ : ∃ z, z = S88.new q92 1 0 := ⟨_, rfl⟩
  rw [← hS94] at hW
  have h := h q92 f93 S94 hS94
  have g95 : S94.ok q92 1 := by rw [hS94]; exact ok_new
  refine lv_dup hx hb dX4_init_108 rfl ?_
  refine lv_iload_n hx hb dX4_init_109 rfl (lv_at hl 0 rfl) ?_
  refine kp_callv (c1 := 22) (s1 := 385) F hW (kp_runIN (As := [.int (0 : Int32)]) (rest := [.ref q92, .ref q90]) F hW (ct_X1_init l E _ _ _ h) cf_X1_init tw_121 rfl hl.1 ⟨by decide, by decide⟩ (Nat.le_of_ble_eq_true rfl) dX4_init_110 ⟨by decide, by decide⟩) (by decide) (by decide) (fun S97 H locs h hW => ?_)
  obtain ⟨g100, h⟩ := h
  refine kp_calli (c1 := 23) (s1 := 395) F hW (kp_runV (As := [.ref q92]) (rest := []) F hW (ct_Jx4a65c_add_9ea2d l E _ _ _ h) g100 cbJx4a65c rfl cf_Jx4a65c_add_9ea2d tw_67 rfl hl.1 ⟨by decide, by decide⟩ (Nat.le_of_ble_eq_true rfl) dX4_init_113 ⟨by decide, by decide⟩) (by decide) (by decide) (fun r98 S99 H locs h hW => ?_)
  refine lv_pop hx hb dX4_init_116 rfl ?_
  refine lv_iinc (v := (1 : Int32)) (lv' := [(1, .int (1 : Int32)), (0, .ref o)]) hx hb dX4_init_117 hl (k := 0) rfl (by decide) (by decide) rfl (fun ls hl => ?_)
  refine lv_goto (tgt := 96) hx hb dX4_init_120 (by decide) ?_
  refine lv_iload_n hx hb dX4_init_96 rfl (lv_at hl 0 rfl) ?_
  refine lv_iconst (v := 4) hx hb dX4_init_97 (by decide) ?_
  refine lv_icmp_ge (tgt := 123) hx hb dX4_init_98 (by decide) (fun c9 => absurd c9 (by decide)) (fun _ => ?_)
  refine lv_aload_n hx hb dX4_init_101 rfl (lv_at hl 1 rfl) ?_
  obtain ⟨g101, h⟩ := h
  obtain ⟨q102, p103, h⟩ := h
  refine kp_getp F hW g101 cbX4 4 rfl tw_183 (fun _ h9 => h9) dX4_init_102 p103 ?_
  refine kp_new (c1 := 24) (s1 := 397) F hW cbX1 tw_119 tw_120 tw_10 dX4_init_105 (by decide) (by decide) (by decide) (by decide) (fun q104 H f105 hW => ?_)
  obtain ⟨S106, hS106⟩ : ∃ z, z = S99.new q104 1 0 := ⟨_, rfl⟩
  rw [← hS106] at hW
  have h := h q104 f105 S106 hS106
  have g107 : S106.ok q104 1 := by rw [hS106]; exact ok_new
  refine lv_dup hx hb dX4_init_108 rfl ?_
  refine lv_iload_n hx hb dX4_init_109 rfl (lv_at hl 0 rfl) ?_
  refine kp_callv (c1 := 25) (s1 := 400) F hW (kp_runIN (As := [.int (1 : Int32)]) (rest := [.ref q104, .ref q102]) F hW (ct_X1_init l E _ _ _ h) cf_X1_init tw_121 rfl hl.1 ⟨by decide, by decide⟩ (Nat.le_of_ble_eq_true rfl) dX4_init_110 ⟨by decide, by decide⟩) (by decide) (by decide) (fun S109 H locs h hW => ?_)
  obtain ⟨g112, h⟩ := h
  refine kp_calli (c1 := 26) (s1 := 410) F hW (kp_runV (As := [.ref q104]) (rest := []) F hW (ct_Jx4a65c_add_9ea2d l E _ _ _ h) g112 cbJx4a65c rfl cf_Jx4a65c_add_9ea2d tw_67 rfl hl.1 ⟨by decide, by decide⟩ (Nat.le_of_ble_eq_true rfl) dX4_init_113 ⟨by decide, by decide⟩) (by decide) (by decide) (fun r110 S111 H locs h hW => ?_)
  refine lv_pop hx hb dX4_init_116 rfl ?_
  refine lv_iinc (v := (2 : Int32)) (lv' := [(1, .int (2 : Int32)), (0, .ref o)]) hx hb dX4_init_117 hl (k := 0) rfl (by decide) (by decide) rfl (fun ls hl => ?_)
  refine lv_goto (tgt := 96) hx hb dX4_init_120 (by decide) ?_
  refine lv_iload_n hx hb dX4_init_96 rfl (lv_at hl 0 rfl) ?_
  refine lv_iconst (v := 4) hx hb dX4_init_97 (by decide) ?_
  refine lv_icmp_ge (tgt := 123) hx hb dX4_init_98 (by decide) (fun c9 => absurd c9 (by decide)) (fun _ => ?_)
  refine lv_aload_n hx hb dX4_init_101 rfl (lv_at hl 1 rfl) ?_
  obtain ⟨g113, h⟩ := h
  obtain ⟨q114, p115, h⟩ := h
  refine kp_getp F hW g113 cbX4 4 rfl tw_183 (fun _ h9 => h9) dX4_init_102 p115 ?_
  refine kp_new (c1 := 27) (s1 := 412) F hW cbX1 tw_119 tw_120 tw_10 dX4_init_105 (by decide) (by decide) (by decide) (by decide) (fun q116 H f117 hW => ?_)
  obtain ⟨S118, hS118⟩ : ∃ z, z = S111.new q116 1 0 := ⟨_, rfl⟩
  rw [← hS118] at hW
  have h := h q116 f117 S118 hS118
  have g119 : S118.ok q116 1 := by rw [hS118]; exact ok_new
  refine lv_dup hx hb dX4_init_108 rfl ?_
  refine lv_iload_n hx hb dX4_init_109 rfl (lv_at hl 0 rfl) ?_
  refine kp_callv (c1 := 28) (s1 := 415) F hW (kp_runIN (As := [.int (2 : Int32)]) (rest := [.ref q116, .ref q114]) F hW (ct_X1_init l E _ _ _ h) cf_X1_init tw_121 rfl hl.1 ⟨by decide, by decide⟩ (Nat.le_of_ble_eq_true rfl) dX4_init_110 ⟨by decide, by decide⟩) (by decide) (by decide) (fun S121 H locs h hW => ?_)
  obtain ⟨g124, h⟩ := h
  refine kp_calli (c1 := 29) (s1 := 425) F hW (kp_runV (As := [.ref q116]) (rest := []) F hW (ct_Jx4a65c_add_9ea2d l E _ _ _ h) g124 cbJx4a65c rfl cf_Jx4a65c_add_9ea2d tw_67 rfl hl.1 ⟨by decide, by decide⟩ (Nat.le_of_ble_eq_true rfl) dX4_init_113 ⟨by decide, by decide⟩) (by decide) (by decide) (fun r122 S123 H locs h hW => ?_)
  refine lv_pop hx hb dX4_init_116 rfl ?_
  refine lv_iinc (v := (3 : Int32)) (lv' := [(1, .int (3 : Int32)), (0, .ref o)]) hx hb dX4_init_117 hl (k := 0) rfl (by decide) (by decide) rfl (fun ls hl => ?_)
  refine lv_goto (tgt := 96) hx hb dX4_init_120 (by decide) ?_
  refine lv_iload_n hx hb dX4_init_96 rfl (lv_at hl 0 rfl) ?_
  refine lv_iconst (v := 4) hx hb dX4_init_97 (by decide) ?_
  refine lv_icmp_ge (tgt := 123) hx hb dX4_init_98 (by decide) (fun c9 => absurd c9 (by decide)) (fun _ => ?_)
  refine lv_aload_n hx hb dX4_init_101 rfl (lv_at hl 1 rfl) ?_
  obtain ⟨g125, h⟩ := h
  obtain ⟨q126, p127, h⟩ := h
  refine kp_getp F hW g125 cbX4 4 rfl tw_183 (fun _ h9 => h9) dX4_init_102 p127 ?_
  refine kp_new (c1 := 30) (s1 := 427) F hW cbX1 tw_119 tw_120 tw_10 dX4_init_105 (by decide) (by decide) (by decide) (by decide) (fun q128 H f129 hW => ?_)
  obtain ⟨S130, hS130⟩ : ∃ z, z = S123.new q128 1 0 := ⟨_, rfl⟩
  rw [← hS130] at hW
  have h := h q128 f129 S130 hS130
  have g131 : S130.ok q128 1 := by rw [hS130]; exact ok_new
  refine lv_dup hx hb dX4_init_108 rfl ?_
  refine lv_iload_n hx hb dX4_init_109 rfl (lv_at hl 0 rfl) ?_
  refine kp_callv (c1 := 31) (s1 := 430) F hW (kp_runIN (As := [.int (3 : Int32)]) (rest := [.ref q128, .ref q126]) F hW (ct_X1_init l E _ _ _ h) cf_X1_init tw_121 rfl hl.1 ⟨by decide, by decide⟩ (Nat.le_of_ble_eq_true rfl) dX4_init_110 ⟨by decide, by decide⟩) (by decide) (by decide) (fun S133 H locs h hW => ?_)
  obtain ⟨g136, h⟩ := h
  refine kp_calli (c1 := 32) (s1 := 440) F hW (kp_runV (As := [.ref q128]) (rest := []) F hW (ct_Jx4a65c_add_9ea2d l E _ _ _ h) g136 cbJx4a65c rfl cf_Jx4a65c_add_9ea2d tw_67 rfl hl.1 ⟨by decide, by decide⟩ (Nat.le_of_ble_eq_true rfl) dX4_init_113 ⟨by decide, by decide⟩) (by decide) (by decide) (fun r134 S135 H locs h hW => ?_)
  refine lv_pop hx hb dX4_init_116 rfl ?_
  refine lv_iinc (v := (4 : Int32)) (lv' := [(1, .int (4 : Int32)), (0, .ref o)]) hx hb dX4_init_117 hl (k := 0) rfl (by decide) (by decide) rfl (fun ls hl => ?_)
  refine lv_goto (tgt := 96) hx hb dX4_init_120 (by decide) ?_
  refine lv_iload_n hx hb dX4_init_96 rfl (lv_at hl 0 rfl) ?_
  refine lv_iconst (v := 4) hx hb dX4_init_97 (by decide) ?_
  refine lv_icmp_ge (tgt := 123) hx hb dX4_init_98 (by decide) (fun _ => ?_) (fun c9 => absurd c9 (by decide))
  refine lv_aload_n hx hb dX4_init_123 rfl (lv_at hl 1 rfl) ?_
  refine kp_new (c1 := 33) (s1 := 443) F hW cbJx4a65c tw_41 tw_42 tw_6 dX4_init_124 (by decide) (by decide) (by decide) (by decide) (fun q137 H f138 hW => ?_)
  obtain ⟨S139, hS139⟩ : ∃ z, z = S135.new q137 6 0 := ⟨_, rfl⟩
  rw [← hS139] at hW
  have h := h q137 f138 S139 hS139
  have g140 : S139.ok q137 6 := by rw [hS139]; exact ok_new
  refine lv_dup hx hb dX4_init_127 rfl ?_
  refine kp_callv (c1 := 33) (s1 := 443) F hW (kp_runI (As := []) (rest := [.ref q137, .ref o]) F hW (ct_Jx4a65c_init_da8c8 l E _ _ h) cf_Jx4a65c_init_da8c8 tw_43 rfl hl.1 ⟨by decide, by decide⟩ (Nat.le_of_ble_eq_true rfl) dX4_init_128 ⟨by decide, by decide⟩) (by decide) (by decide) (fun S142 H locs h hW => ?_)
  obtain ⟨g143, h⟩ := h
  obtain ⟨S144, hS144⟩ : ∃ z, z = S142.setP o 5 (some q137) := ⟨_, rfl⟩
  have h := h S144 hS144
  refine kp_putpF F hW g143 cbX4 5 rfl tw_184 (fun _ h9 => h9) rfl hnm rfl (Or.inl ⟨_, rfl⟩) dX4_init_131 (fun H locs hW => ?_)
  rw [← hS144] at hW
  refine lv_aload_n hx hb dX4_init_134 rfl (lv_at hl 1 rfl) ?_
  refine lv_bipush (v := 6) hx hb dX4_init_135 (by decide) ?_
  refine kp_newi (c1 := 34) (s1 := 449) F hW tw_40 (by decide) (by decide) dX4_init_137 (by decide) (by decide) (by decide) (by decide) (fun q145 H f146 hW => ?_)
  obtain ⟨S147, hS147⟩ : ∃ z, z = S144.new q145 7 (6 : Int32).toNatClampNeg := ⟨_, rfl⟩
  rw [← hS147] at hW
  have h := h q145 f146 S147 hS147
  have g148 : S147.ok q145 7 := by rw [hS147]; exact ok_new
  have g149 : S144.ok o 4 := by rw [hS144]; exact g143
  have g150 : S147.ok o 4 := by rw [hS147]; exact ok_old f146 g149
  obtain ⟨S151, hS151⟩ : ∃ z, z = S147.setP o 6 (some q145) := ⟨_, rfl⟩
  have h := h S151 hS151
  refine kp_putpF F hW g150 cbX4 6 rfl tw_185 (fun _ h9 => h9) rfl hnm rfl (Or.inr ⟨_, rfl⟩) dX4_init_139 (fun H locs hW => ?_)
  rw [← hS151] at hW
  refine lv_aload_n hx hb dX4_init_142 rfl (lv_at hl 1 rfl) ?_
  refine kp_new (c1 := 35) (s1 := 452) F hW cbX2 tw_136 tw_137 tw_11 dX4_init_143 (by decide) (by decide) (by decide) (by decide) (fun q152 H f153 hW => ?_)
  obtain ⟨S154, hS154⟩ : ∃ z, z = S151.new q152 2 0 := ⟨_, rfl⟩
  rw [← hS154] at hW
  have h := h q152 f153 S154 hS154
  have g155 : S154.ok q152 2 := by rw [hS154]; exact ok_new
  refine lv_dup hx hb dX4_init_146 rfl ?_
  refine kp_callv (c1 := 37) (s1 := 532) F hW (kp_runIN (As := []) (rest := [.ref q152, .ref o]) F hW (ct_X2_init l E _ _ h) cf_X2_init tw_138 rfl hl.1 ⟨by decide, by decide⟩ (Nat.le_of_ble_eq_true rfl) dX4_init_147 ⟨by decide, by decide⟩) (by decide) (by decide) (fun S157 H locs h hW => ?_)
  obtain ⟨g158, h⟩ := h
  obtain ⟨S159, hS159⟩ : ∃ z, z = S157.setP o 7 (some q152) := ⟨_, rfl⟩
  have h := h S159 hS159
  refine kp_putpF F hW g158 cbX4 7 rfl tw_186 (fun _ h9 => h9) rfl hnm rfl (Or.inl ⟨_, rfl⟩) dX4_init_150 (fun H locs hW => ?_)
  rw [← hS159] at hW
  refine lv_aload_n hx hb dX4_init_153 rfl (lv_at hl 1 rfl) ?_
  refine lv_bipush (v := 10) hx hb dX4_init_154 (by decide) ?_
  have g160 : S159.ok o 4 := by rw [hS159]; exact g158
  obtain ⟨S161, hS161⟩ : ∃ z, z = S159.setI o 8 (10 : Int32) := ⟨_, rfl⟩
  have h := h S161 hS161
  refine kp_puti F hW g160 cbX4 8 rfl tw_187 (fun _ h9 => h9) rfl rfl dX4_init_156 (fun H locs hW => ?_)
  rw [← hS161] at hW
  refine lv_aload_n hx hb dX4_init_159 rfl (lv_at hl 1 rfl) ?_
  refine lv_iconst (v := 0) hx hb dX4_init_160 (by decide) ?_
  have g162 : S161.ok o 4 := by rw [hS161]; exact g160
  obtain ⟨S163, hS163⟩ : ∃ z, z = S161.setI o 9 (0 : Int32) := ⟨_, rfl⟩
  have h := h S163 hS163
  refine kp_puti F hW g162 cbX4 9 rfl tw_188 (fun _ h9 => h9) rfl rfl dX4_init_161 (fun H locs hW => ?_)
  rw [← hS163] at hW
  refine lv_aload_n hx hb dX4_init_164 rfl (lv_at hl 1 rfl) ?_
  refine lv_iconst (v := (-1)) hx hb dX4_init_165 (by decide) ?_
  have g164 : S163.ok o 4 := by rw [hS163]; exact g162
  obtain ⟨S165, hS165⟩ : ∃ z, z = S163.setI o 10 (-1 : Int32) := ⟨_, rfl⟩
  have h := h S165 hS165
  refine kp_puti F hW g164 cbX4 10 rfl tw_189 (fun _ h9 => h9) rfl rfl dX4_init_166 (fun H locs hW => ?_)
  rw [← hS165] at hW
  refine lv_aload_n hx hb dX4_init_169 rfl (lv_at hl 1 rfl) ?_
  refine lv_iconst (v := 0) hx hb dX4_init_170 (by decide) ?_
  have g166 : S165.ok o 4 := by rw [hS165]; exact g164
  obtain ⟨S167, hS167⟩ : ∃ z, z = S165.setI o 11 (0 : Int32) := ⟨_, rfl⟩
  have h := h S167 hS167
  refine kp_puti F hW g166 cbX4 11 rfl tw_190 (fun _ h9 => h9) rfl rfl dX4_init_171 (fun H locs hW => ?_)
  rw [← hS167] at hW
  refine lv_aload_n hx hb dX4_init_174 rfl (lv_at hl 1 rfl) ?_
  refine lv_iconst (v := 0) hx hb dX4_init_175 (by decide) ?_
  have g168 : S167.ok o 4 := by rw [hS167]; exact g166
  obtain ⟨S169, hS169⟩ : ∃ z, z = S167.setI o 12 (0 : Int32) := ⟨_, rfl⟩
  have h := h S169 hS169
  refine kp_puti F hW g168 cbX4 12 rfl tw_191 (fun _ h9 => h9) rfl rfl dX4_init_176 (fun H locs hW => ?_)
  rw [← hS169] at hW
  refine lv_aload_n hx hb dX4_init_179 rfl (lv_at hl 1 rfl) ?_
  refine lv_iconst (v := 0) hx hb dX4_init_180 (by decide) ?_
  have g172 : S169.ok o 4 := by rw [hS169]; exact g168
  refine kp_callv (c1 := 38) (s1 := 542) F hW (kp_runV (As := [.int (0 : Int32)]) (rest := []) F hW (ct_X4_pushContext l E _ _ _ h) g172 cbX4 rfl cf_X4_pushContext tw_153 rfl hl.1 ⟨by decide, by decide⟩ (Nat.le_of_ble_eq_true rfl) dX4_init_181 ⟨by decide, by decide⟩) (by decide) (by decide) (fun S171 H locs h hW => ?_)
  exact kp_retv F hW hr h (by decide) (by decide) dX4_init_184
def wp_X4_isKey (post : Int32 → pS → Prop) (a1 : Int32) (S : pS) : Prop :=
  ((a1 < 0 → post (0 : Int32) S) ∧ (¬ (a1 < 0) → (((12 : Int32) ≤ a1 → post (0 : Int32) S) ∧ (¬ ((12 : Int32) ≤ a1) → post (1 : Int32) S))))
def rm_X4_isKey : Room := { frames := 0, cells := 0, slots := 0, locals := 0 }
set_option maxHeartbeats 4000000 in
set_option maxRecDepth 100000 in
theorem ct_X4_isKey (l : Launch) (E : EV) {post : Int32 → pS → Prop} (a1 : Int32) (S : pS) (h : wp_X4_isKey post a1 S) : CT l E yX4_isKey cX4_isKey 1 (some .boolean) rm_X4_isKey (QI E post) [.int a1] S := by
  refine ct_intro (by decide +kernel) (Nat.le_of_ble_eq_true rfl) ?_
  intro p e s m below meth c A ls F hW hr hnm hl
  have hx := F.1
  have hb := F.2.1
  unfold wp_X4_isKey at h
  have hl : lv_has ls 1 [(0, .int a1)] := hl
  refine lv_iload_n hx hb dX4_isKey_0 rfl (lv_at hl 0 rfl) ?_
  refine lv_if_lt (tgt := 14) hx hb dX4_isKey_1 (by decide) (fun c1 => ?_) (fun c1 => ?_)
  · have h := h.1 c1
    refine lv_iconst (v := 0) hx hb dX4_isKey_14 (by decide) ?_
    exact kp_retz F hW hr (Or.inl rfl) h (by decide) (by decide) dX4_isKey_15
  · have h := h.2 c1
    refine lv_iload_n hx hb dX4_isKey_4 rfl (lv_at hl 0 rfl) ?_
    refine lv_bipush (v := 12) hx hb dX4_isKey_5 (by decide) ?_
    refine lv_icmp_ge (tgt := 14) hx hb dX4_isKey_7 (by decide) (fun c2 => ?_) (fun c2 => ?_)
    · have h := h.1 c2
      refine lv_iconst (v := 0) hx hb dX4_isKey_14 (by decide) ?_
      exact kp_retz F hW hr (Or.inl rfl) h (by decide) (by decide) dX4_isKey_15
    · have h := h.2 c2
      refine lv_iconst (v := 1) hx hb dX4_isKey_10 (by decide) ?_
      refine lv_goto (tgt := 15) hx hb dX4_isKey_11 (by decide) ?_
      exact kp_retz F hW hr (Or.inr rfl) h (by decide) (by decide) dX4_isKey_15
def wp_X4_appendKey (post : Int32 → pS → Prop) (o : Nat) (a1 : Int32) (S : pS) : Prop :=
  (wp_X4_isKey (fun r1 S2 => ((r1 = 0 → post (-1 : Int32) S2) ∧ (¬ (r1 = 0) → (S2.ok o 4 ∧ ∃ q5, S2.P o 0 = some q5 ∧ S2.ok q5 3 ∧ wp_X3_isFull (fun r7 S8 => ((r7 = 0 → (S8.ok o 4 ∧ ∃ q12, S8.P o 0 = some q12 ∧ S8.ok q12 3 ∧ wp_X3_add (fun S15 => (S15.ok o 4 ∧ ∃ q18, S15.P o 0 = some q18 ∧ S15.ok q18 3 ∧ wp_X3_size (fun r20 S21 => post r20 S21) q18 S15)) q12 a1 S8)) ∧ (¬ (r7 = 0) → post (-3 : Int32) S8))) q5 S2)))) a1 S)
def rm_X4_appendKey : Room := { frames := 1, cells := 0, slots := 0, locals := 21 }
set_option maxHeartbeats 4000000 in
set_option maxRecDepth 100000 in
theorem ct_X4_appendKey (l : Launch) (E : EV) {post : Int32 → pS → Prop} (o : Nat) (a1 : Int32) (S : pS) (h : wp_X4_appendKey post o a1 S) : CT l E yX4_appendKey cX4_appendKey 2 (some .int) rm_X4_appendKey (QI E post) [.ref o, .int a1] S := by
  refine ct_intro (by decide +kernel) (Nat.le_of_ble_eq_true rfl) ?_
  intro p e s m below meth c A ls F hW hr hnm hl
  have hx := F.1
  have hb := F.2.1
  unfold wp_X4_appendKey at h
  have hl : lv_has ls 2 [(0, .ref o), (1, .int a1)] := hl
  refine lv_iload_n hx hb dX4_appendKey_0 rfl (lv_at hl 1 rfl) ?_
  refine kp_calli (c1 := 0) (s1 := 0) F hW (kp_runS (As := [.int a1]) (rest := []) F hW (ct_X4_isKey l E _ _ h) cf_X4_isKey tw_223 rfl hl.1 ⟨by decide, by decide⟩ (Nat.le_of_ble_eq_true rfl) dX4_appendKey_1 ⟨by decide, by decide⟩) (by decide) (by decide) (fun r1 S2 H locs h hW => ?_)
  refine lv_if_ne (tgt := 9) hx hb dX4_appendKey_4 (by decide) (fun c3 => ?_) (fun c3 => ?_)
  · have h := h.2 c3
    refine lv_aload_n hx hb dX4_appendKey_9 rfl (lv_at hl 0 rfl) ?_
    obtain ⟨g4, h⟩ := h
    obtain ⟨q5, p6, h⟩ := h
    refine kp_getp F hW g4 cbX4 0 rfl tw_179 (fun _ h9 => h9) dX4_appendKey_10 p6 ?_
    obtain ⟨g9, h⟩ := h
    refine kp_calli (c1 := 0) (s1 := 0) F hW (kp_runVN (As := []) (rest := []) F hW (ct_X3_isFull l E _ _ h) g9 cbX3 rfl cf_X3_isFull tw_226 rfl hl.1 ⟨by decide, by decide⟩ (Nat.le_of_ble_eq_true rfl) dX4_appendKey_13 ⟨by decide, by decide⟩) (by decide) (by decide) (fun r7 S8 H locs h hW => ?_)
    refine lv_if_eq (tgt := 22) hx hb dX4_appendKey_16 (by decide) (fun c10 => ?_) (fun c10 => ?_)
    · have h := h.1 c10
      refine lv_aload_n hx hb dX4_appendKey_22 rfl (lv_at hl 0 rfl) ?_
      obtain ⟨g11, h⟩ := h
      obtain ⟨q12, p13, h⟩ := h
      refine kp_getp F hW g11 cbX4 0 rfl tw_179 (fun _ h9 => h9) dX4_appendKey_23 p13 ?_
      refine lv_iload_n hx hb dX4_appendKey_26 rfl (lv_at hl 1 rfl) ?_
      obtain ⟨g16, h⟩ := h
      refine kp_callv (c1 := 0) (s1 := 0) F hW (kp_runVN (As := [.int a1]) (rest := []) F hW (ct_X3_add l E _ _ _ h) g16 cbX3 rfl cf_X3_add tw_230 rfl hl.1 ⟨by decide, by decide⟩ (Nat.le_of_ble_eq_true rfl) dX4_appendKey_27 ⟨by decide, by decide⟩) (by decide) (by decide) (fun S15 H locs h hW => ?_)
      refine lv_aload_n hx hb dX4_appendKey_30 rfl (lv_at hl 0 rfl) ?_
      obtain ⟨g17, h⟩ := h
      obtain ⟨q18, p19, h⟩ := h
      refine kp_getp F hW g17 cbX4 0 rfl tw_179 (fun _ h9 => h9) dX4_appendKey_31 p19 ?_
      obtain ⟨g22, h⟩ := h
      refine kp_calli (c1 := 0) (s1 := 0) F hW (kp_runVN (As := []) (rest := []) F hW (ct_X3_size l E _ _ h) g22 cbX3 rfl cf_X3_size tw_234 rfl hl.1 ⟨by decide, by decide⟩ (Nat.le_of_ble_eq_true rfl) dX4_appendKey_34 ⟨by decide, by decide⟩) (by decide) (by decide) (fun r20 S21 H locs h hW => ?_)
      exact kp_reti F hW hr h (by decide) (by decide) dX4_appendKey_37
    · have h := h.2 c10
      refine lv_bipush (v := (-3)) hx hb dX4_appendKey_19 (by decide) ?_
      exact kp_reti F hW hr h (by decide) (by decide) dX4_appendKey_21
  · have h := h.1 c3
    refine lv_iconst (v := (-1)) hx hb dX4_appendKey_7 (by decide) ?_
    exact kp_reti F hW hr h (by decide) (by decide) dX4_appendKey_8
def wp_X4_clearKeys (post : Int32 → pS → Prop) (o : Nat) (S : pS) : Prop :=
  (S.ok o 4 ∧ ∃ q2, S.P o 0 = some q2 ∧ S.ok q2 3 ∧ wp_X3_size (fun r4 S5 => (S5.ok o 4 ∧ ∃ q8, S5.P o 0 = some q8 ∧ S5.ok q8 3 ∧ wp_X3_clear (fun S11 => post r4 S11) q8 S5)) q2 S)
def rm_X4_clearKeys : Room := { frames := 1, cells := 0, slots := 0, locals := 20 }
set_option maxHeartbeats 4000000 in
set_option maxRecDepth 100000 in
theorem ct_X4_clearKeys (l : Launch) (E : EV) {post : Int32 → pS → Prop} (o : Nat) (S : pS) (h : wp_X4_clearKeys post o S) : CT l E yX4_clearKeys cX4_clearKeys 2 (some .int) rm_X4_clearKeys (QI E post) [.ref o] S := by
  refine ct_intro (by decide +kernel) (Nat.le_of_ble_eq_true rfl) ?_
  intro p e s m below meth c A ls F hW hr hnm hl
  have hx := F.1
  have hb := F.2.1
  unfold wp_X4_clearKeys at h
  have hl : lv_has ls 2 [(0, .ref o)] := hl
  refine lv_aload_n hx hb dX4_clearKeys_0 rfl (lv_at hl 0 rfl) ?_
  obtain ⟨g1, h⟩ := h
  obtain ⟨q2, p3, h⟩ := h
  refine kp_getp F hW g1 cbX4 0 rfl tw_179 (fun _ h9 => h9) dX4_clearKeys_1 p3 ?_
  obtain ⟨g6, h⟩ := h
  refine kp_calli (c1 := 0) (s1 := 0) F hW (kp_runVN (As := []) (rest := []) F hW (ct_X3_size l E _ _ h) g6 cbX3 rfl cf_X3_size tw_234 rfl hl.1 ⟨by decide, by decide⟩ (Nat.le_of_ble_eq_true rfl) dX4_clearKeys_4 ⟨by decide, by decide⟩) (by decide) (by decide) (fun r4 S5 H locs h hW => ?_)
  refine lv_istore_n (lv' := [(1, .int r4), (0, .ref o)]) hx hb dX4_clearKeys_7 rfl hl (by decide) rfl (fun ls hl => ?_)
  refine lv_aload_n hx hb dX4_clearKeys_8 rfl (lv_at hl 1 rfl) ?_
  obtain ⟨g7, h⟩ := h
  obtain ⟨q8, p9, h⟩ := h
  refine kp_getp F hW g7 cbX4 0 rfl tw_179 (fun _ h9 => h9) dX4_clearKeys_9 p9 ?_
  obtain ⟨g12, h⟩ := h
  refine kp_callv (c1 := 0) (s1 := 0) F hW (kp_runVN (As := []) (rest := []) F hW (ct_X3_clear l E _ _ h) g12 cbX3 rfl cf_X3_clear tw_242 rfl hl.1 ⟨by decide, by decide⟩ (Nat.le_of_ble_eq_true rfl) dX4_clearKeys_12 ⟨by decide, by decide⟩) (by decide) (by decide) (fun S11 H locs h hW => ?_)
  refine lv_iload_n hx hb dX4_clearKeys_15 rfl (lv_at hl 0 rfl) ?_
  exact kp_reti F hW hr h (by decide) (by decide) dX4_clearKeys_16
def wp_X4_isFlag (post : Int32 → pS → Prop) (o : Nat) (a1 : Int32) (S : pS) : Prop :=
  ((a1 < 0 → post (0 : Int32) S) ∧ (¬ (a1 < 0) → (S.ok o 4 ∧ ∃ q3, S.P o 6 = some q3 ∧ S.ok q3 7 ∧ (((nI (S.n q3)) ≤ a1 → post (0 : Int32) S) ∧ (¬ ((nI (S.n q3)) ≤ a1) → post (1 : Int32) S)))))
def rm_X4_isFlag : Room := { frames := 0, cells := 0, slots := 0, locals := 0 }
set_option maxHeartbeats 4000000 in
set_option maxRecDepth 100000 in
theorem ct_X4_isFlag (l : Launch) (E : EV) {post : Int32 → pS → Prop} (o : Nat) (a1 : Int32) (S : pS) (h : wp_X4_isFlag post o a1 S) : CT l E yX4_isFlag cX4_isFlag 2 (some .boolean) rm_X4_isFlag (QI E post) [.ref o, .int a1] S := by
  refine ct_intro (by decide +kernel) (Nat.le_of_ble_eq_true rfl) ?_
  intro p e s m below meth c A ls F hW hr hnm hl
  have hx := F.1
  have hb := F.2.1
  unfold wp_X4_isFlag at h
  have hl : lv_has ls 2 [(0, .ref o), (1, .int a1)] := hl
  refine lv_iload_n hx hb dX4_isFlag_0 rfl (lv_at hl 1 rfl) ?_
  refine lv_if_lt (tgt := 17) hx hb dX4_isFlag_1 (by decide) (fun c1 => ?_) (fun c1 => ?_)
  · have h := h.1 c1
    refine lv_iconst (v := 0) hx hb dX4_isFlag_17 (by decide) ?_
    exact kp_retz F hW hr (Or.inl rfl) h (by decide) (by decide) dX4_isFlag_18
  · have h := h.2 c1
    refine lv_iload_n hx hb dX4_isFlag_4 rfl (lv_at hl 1 rfl) ?_
    refine lv_aload_n hx hb dX4_isFlag_5 rfl (lv_at hl 0 rfl) ?_
    obtain ⟨g2, h⟩ := h
    obtain ⟨q3, p4, h⟩ := h
    refine kp_getp F hW g2 cbX4 6 rfl tw_185 (fun _ h9 => h9) dX4_isFlag_6 p4 ?_
    obtain ⟨g5, h⟩ := h
    refine kp_ilen F hW g5 dX4_isFlag_9 ?_
    refine lv_icmp_ge (tgt := 17) hx hb dX4_isFlag_10 (by decide) (fun c6 => ?_) (fun c6 => ?_)
    · have h := h.1 c6
      refine lv_iconst (v := 0) hx hb dX4_isFlag_17 (by decide) ?_
      exact kp_retz F hW hr (Or.inl rfl) h (by decide) (by decide) dX4_isFlag_18
    · have h := h.2 c6
      refine lv_iconst (v := 1) hx hb dX4_isFlag_13 (by decide) ?_
      refine lv_goto (tgt := 18) hx hb dX4_isFlag_14 (by decide) ?_
      exact kp_retz F hW hr (Or.inr rfl) h (by decide) (by decide) dX4_isFlag_18
def wp_X4_isBetween (post : Int32 → pS → Prop) (a1 : Int32) (a2 : Int32) (a3 : Int32) (S : pS) : Prop :=
  ((a1 < a2 → post (0 : Int32) S) ∧ (¬ (a1 < a2) → ((a3 < a1 → post (0 : Int32) S) ∧ (¬ (a3 < a1) → post (1 : Int32) S))))
def rm_X4_isBetween : Room := { frames := 0, cells := 0, slots := 0, locals := 0 }
set_option maxHeartbeats 4000000 in
set_option maxRecDepth 100000 in
theorem ct_X4_isBetween (l : Launch) (E : EV) {post : Int32 → pS → Prop} (a1 : Int32) (a2 : Int32) (a3 : Int32) (S : pS) (h : wp_X4_isBetween post a1 a2 a3 S) : CT l E yX4_isBetween cX4_isBetween 3 (some .boolean) rm_X4_isBetween (QI E post) [.int a1, .int a2, .int a3] S := by
  refine ct_intro (by decide +kernel) (Nat.le_of_ble_eq_true rfl) ?_
  intro p e s m below meth c A ls F hW hr hnm hl
  have hx := F.1
  have hb := F.2.1
  unfold wp_X4_isBetween at h
  have hl : lv_has ls 3 [(0, .int a1), (1, .int a2), (2, .int a3)] := hl
  refine lv_iload_n hx hb dX4_isBetween_0 rfl (lv_at hl 0 rfl) ?_
  refine lv_iload_n hx hb dX4_isBetween_1 rfl (lv_at hl 1 rfl) ?_
  refine lv_icmp_lt (tgt := 14) hx hb dX4_isBetween_2 (by decide) (fun c1 => ?_) (fun c1 => ?_)
  · have h := h.1 c1
    refine lv_iconst (v := 0) hx hb dX4_isBetween_14 (by decide) ?_
    exact kp_retz F hW hr (Or.inl rfl) h (by decide) (by decide) dX4_isBetween_15
  · have h := h.2 c1
    refine lv_iload_n hx hb dX4_isBetween_5 rfl (lv_at hl 0 rfl) ?_
    refine lv_iload_n hx hb dX4_isBetween_6 rfl (lv_at hl 2 rfl) ?_
    refine lv_icmp_gt (tgt := 14) hx hb dX4_isBetween_7 (by decide) (fun c2 => ?_) (fun c2 => ?_)
    · have h := h.1 c2
      refine lv_iconst (v := 0) hx hb dX4_isBetween_14 (by decide) ?_
      exact kp_retz F hW hr (Or.inl rfl) h (by decide) (by decide) dX4_isBetween_15
    · have h := h.2 c2
      refine lv_iconst (v := 1) hx hb dX4_isBetween_10 (by decide) ?_
      refine lv_goto (tgt := 15) hx hb dX4_isBetween_11 (by decide) ?_
      exact kp_retz F hW hr (Or.inr rfl) h (by decide) (by decide) dX4_isBetween_15
def wp_X4_isCondition (post : Int32 → pS → Prop) (o : Nat) (a1 : Int32) (a2 : Int32) (S : pS) : Prop :=
  ((a1 = (-1 : Int32) → post (1 : Int32) S) ∧ (¬ (a1 = (-1 : Int32)) → (S.ok o 4 ∧ wp_X4_isFlag (fun r2 S3 => ((r2 = 0 → post (0 : Int32) S3) ∧ (¬ (r2 = 0) → (wp_X4_isBetween (fun r6 S7 => ((r6 = 0 → post (0 : Int32) S7) ∧ (¬ (r6 = 0) → post (1 : Int32) S7))) a2 (0 : Int32) (1 : Int32) S3)))) o a1 S)))
def rm_X4_isCondition : Room := { frames := 1, cells := 0, slots := 0, locals := 22 }
set_option maxHeartbeats 4000000 in
set_option maxRecDepth 100000 in
theorem ct_X4_isCondition (l : Launch) (E : EV) {post : Int32 → pS → Prop} (o : Nat) (a1 : Int32) (a2 : Int32) (S : pS) (h : wp_X4_isCondition post o a1 a2 S) : CT l E yX4_isCondition cX4_isCondition 3 (some .boolean) rm_X4_isCondition (QI E post) [.ref o, .int a1, .int a2] S := by
  refine ct_intro (by decide +kernel) (Nat.le_of_ble_eq_true rfl) ?_
  intro p e s m below meth c A ls F hW hr hnm hl
  have hx := F.1
  have hb := F.2.1
  unfold wp_X4_isCondition at h
  have hl : lv_has ls 3 [(0, .ref o), (1, .int a1), (2, .int a2)] := hl
  refine lv_iload_n hx hb dX4_isCondition_0 rfl (lv_at hl 1 rfl) ?_
  refine lv_iconst (v := (-1)) hx hb dX4_isCondition_1 (by decide) ?_
  refine lv_icmp_eq (tgt := 22) hx hb dX4_isCondition_2 (by decide) (fun c1 => ?_) (fun c1 => ?_)
  · have h := h.1 c1
    refine lv_iconst (v := 1) hx hb dX4_isCondition_22 (by decide) ?_
    refine lv_goto (tgt := 27) hx hb dX4_isCondition_23 (by decide) ?_
    exact kp_retz F hW hr (Or.inr rfl) h (by decide) (by decide) dX4_isCondition_27
  · have h := h.2 c1
    refine lv_aload_n hx hb dX4_isCondition_5 rfl (lv_at hl 0 rfl) ?_
    refine lv_iload_n hx hb dX4_isCondition_6 rfl (lv_at hl 1 rfl) ?_
    obtain ⟨g4, h⟩ := h
    refine kp_calli (c1 := 0) (s1 := 0) F hW (kp_runV (As := [.int a1]) (rest := []) F hW (ct_X4_isFlag l E _ _ _ h) g4 cbX4 rfl cf_X4_isFlag tw_254 rfl hl.1 ⟨by decide, by decide⟩ (Nat.le_of_ble_eq_true rfl) dX4_isCondition_7 ⟨by decide, by decide⟩) (by decide) (by decide) (fun r2 S3 H locs h hW => ?_)
    refine lv_if_eq (tgt := 26) hx hb dX4_isCondition_10 (by decide) (fun c5 => ?_) (fun c5 => ?_)
    · have h := h.1 c5
      refine lv_iconst (v := 0) hx hb dX4_isCondition_26 (by decide) ?_
      exact kp_retz F hW hr (Or.inl rfl) h (by decide) (by decide) dX4_isCondition_27
    · have h := h.2 c5
      refine lv_iload_n hx hb dX4_isCondition_13 rfl (lv_at hl 2 rfl) ?_
      refine lv_iconst (v := 0) hx hb dX4_isCondition_14 (by decide) ?_
      refine lv_iconst (v := 1) hx hb dX4_isCondition_15 (by decide) ?_
      refine kp_calli (c1 := 0) (s1 := 0) F hW (kp_runS (As := [.int a2, .int (0 : Int32), .int (1 : Int32)]) (rest := []) F hW (ct_X4_isBetween l E _ _ _ _ h) cf_X4_isBetween tw_258 rfl hl.1 ⟨by decide, by decide⟩ (Nat.le_of_ble_eq_true rfl) dX4_isCondition_16 ⟨by decide, by decide⟩) (by decide) (by decide) (fun r6 S7 H locs h hW => ?_)
      refine lv_if_eq (tgt := 26) hx hb dX4_isCondition_19 (by decide) (fun c8 => ?_) (fun c8 => ?_)
      · have h := h.1 c8
        refine lv_iconst (v := 0) hx hb dX4_isCondition_26 (by decide) ?_
        exact kp_retz F hW hr (Or.inl rfl) h (by decide) (by decide) dX4_isCondition_27
      · have h := h.2 c8
        refine lv_iconst (v := 1) hx hb dX4_isCondition_22 (by decide) ?_
        refine lv_goto (tgt := 27) hx hb dX4_isCondition_23 (by decide) ?_
        exact kp_retz F hW hr (Or.inr rfl) h (by decide) (by decide) dX4_isCondition_27
def wp_X4_isMacro (post : Int32 → pS → Prop) (o : Nat) (a1 : Int32) (S : pS) : Prop :=
  ((a1 < 0 → post (0 : Int32) S) ∧ (¬ (a1 < 0) → (S.ok o 4 ∧ ∃ q3, S.P o 3 = some q3 ∧ S.ok q3 6 ∧ wp_Jx4a65c_size_8abf5 (fun r5 S6 => ((r5 ≤ a1 → post (0 : Int32) S6) ∧ (¬ (r5 ≤ a1) → post (1 : Int32) S6))) q3 S)))
def rm_X4_isMacro : Room := { frames := 1, cells := 0, slots := 0, locals := 20 }
set_option maxHeartbeats 4000000 in
set_option maxRecDepth 100000 in
theorem ct_X4_isMacro (l : Launch) (E : EV) {post : Int32 → pS → Prop} (o : Nat) (a1 : Int32) (S : pS) (h : wp_X4_isMacro post o a1 S) : CT l E yX4_isMacro cX4_isMacro 2 (some .boolean) rm_X4_isMacro (QI E post) [.ref o, .int a1] S := by
  refine ct_intro (by decide +kernel) (Nat.le_of_ble_eq_true rfl) ?_
  intro p e s m below meth c A ls F hW hr hnm hl
  have hx := F.1
  have hb := F.2.1
  unfold wp_X4_isMacro at h
  have hl : lv_has ls 2 [(0, .ref o), (1, .int a1)] := hl
  refine lv_iload_n hx hb dX4_isMacro_0 rfl (lv_at hl 1 rfl) ?_
  refine lv_if_lt (tgt := 19) hx hb dX4_isMacro_1 (by decide) (fun c1 => ?_) (fun c1 => ?_)
  · have h := h.1 c1
    refine lv_iconst (v := 0) hx hb dX4_isMacro_19 (by decide) ?_
    exact kp_retz F hW hr (Or.inl rfl) h (by decide) (by decide) dX4_isMacro_20
  · have h := h.2 c1
    refine lv_iload_n hx hb dX4_isMacro_4 rfl (lv_at hl 1 rfl) ?_
    refine lv_aload_n hx hb dX4_isMacro_5 rfl (lv_at hl 0 rfl) ?_
    obtain ⟨g2, h⟩ := h
    obtain ⟨q3, p4, h⟩ := h
    refine kp_getp F hW g2 cbX4 3 rfl tw_182 (fun _ h9 => h9) dX4_isMacro_6 p4 ?_
    obtain ⟨g7, h⟩ := h
    refine kp_calli (c1 := 0) (s1 := 0) F hW (kp_runV (As := []) (rest := [.int a1]) F hW (ct_Jx4a65c_size_8abf5 l E _ _ h) g7 cbJx4a65c rfl cf_Jx4a65c_size_8abf5 tw_161 rfl hl.1 ⟨by decide, by decide⟩ (Nat.le_of_ble_eq_true rfl) dX4_isMacro_9 ⟨by decide, by decide⟩) (by decide) (by decide) (fun r5 S6 H locs h hW => ?_)
    refine lv_icmp_ge (tgt := 19) hx hb dX4_isMacro_12 (by decide) (fun c8 => ?_) (fun c8 => ?_)
    · have h := h.1 c8
      refine lv_iconst (v := 0) hx hb dX4_isMacro_19 (by decide) ?_
      exact kp_retz F hW hr (Or.inl rfl) h (by decide) (by decide) dX4_isMacro_20
    · have h := h.2 c8
      refine lv_iconst (v := 1) hx hb dX4_isMacro_15 (by decide) ?_
      refine lv_goto (tgt := 20) hx hb dX4_isMacro_16 (by decide) ?_
      exact kp_retz F hW hr (Or.inr rfl) h (by decide) (by decide) dX4_isMacro_20
def wp_X4_isAction (post : Int32 → pS → Prop) (o : Nat) (a1 : Int32) (a2 : Int32) (S : pS) : Prop :=
  ((a1 = 0 → ((a2 < 0 → post (0 : Int32) S) ∧ (¬ (a2 < 0) → (((100 : Int32) ≤ a2 → post (0 : Int32) S) ∧ (¬ ((100 : Int32) ≤ a2) → post (1 : Int32) S))))) ∧ (a1 = 1 → (S.ok o 4 ∧ wp_X4_isMacro (fun r5 S6 => (r5 = 0 ∨ r5 = 1) ∧ post r5 S6) o a2 S)) ∧ (a1 = 2 → (S.ok o 4 ∧ wp_X4_isContext (fun r9 S10 => (r9 = 0 ∨ r9 = 1) ∧ post r9 S10) o a2 S)) ∧ (a1 = 3 → ((a2 = 0 → post (1 : Int32) S) ∧ (¬ (a2 = 0) → post (0 : Int32) S))) ∧ (a1 = 4 → (S.ok o 4 ∧ wp_X4_isFlag (fun r15 S16 => (r15 = 0 ∨ r15 = 1) ∧ post r15 S16) o a2 S)) ∧ (a1 = 5 → (S.ok o 4 ∧ wp_X4_isFlag (fun r19 S20 => (r19 = 0 ∨ r19 = 1) ∧ post r19 S20) o a2 S)) ∧ (¬ a1 = 0 ∧ ¬ a1 = 1 ∧ ¬ a1 = 2 ∧ ¬ a1 = 3 ∧ ¬ a1 = 4 ∧ ¬ a1 = 5 → post (0 : Int32) S))
def rm_X4_isAction : Room := { frames := 2, cells := 0, slots := 0, locals := 41 }
set_option maxHeartbeats 4000000 in
set_option maxRecDepth 100000 in
theorem ct_X4_isAction (l : Launch) (E : EV) {post : Int32 → pS → Prop} (o : Nat) (a1 : Int32) (a2 : Int32) (S : pS) (h : wp_X4_isAction post o a1 a2 S) : CT l E yX4_isAction cX4_isAction 3 (some .boolean) rm_X4_isAction (QI E post) [.ref o, .int a1, .int a2] S := by
  refine ct_intro (by decide +kernel) (Nat.le_of_ble_eq_true rfl) ?_
  intro p e s m below meth c A ls F hW hr hnm hl
  have hx := F.1
  have hb := F.2.1
  unfold wp_X4_isAction at h
  have hl : lv_has ls 3 [(0, .ref o), (1, .int a1), (2, .int a2)] := hl
  refine lv_iload_n hx hb dX4_isAction_0 rfl (lv_at hl 1 rfl) ?_
  by_cases c1 : a1 = 0
  · have h := h.1 c1
    refine kp_tab (v := 0) (off := 39) (tgt := 40) hx hb dX4_isAction_1 c1 (by decide) (by decide) (by decide) (by decide) ?_
    refine lv_iload_n hx hb dX4_isAction_40 rfl (lv_at hl 2 rfl) ?_
    refine lv_if_lt (tgt := 54) hx hb dX4_isAction_41 (by decide) (fun c2 => ?_) (fun c2 => ?_)
    · have h := h.1 c2
      refine lv_iconst (v := 0) hx hb dX4_isAction_54 (by decide) ?_
      exact kp_retz F hW hr (Or.inl rfl) h (by decide) (by decide) dX4_isAction_55
    · have h := h.2 c2
      refine lv_iload_n hx hb dX4_isAction_44 rfl (lv_at hl 2 rfl) ?_
      refine lv_bipush (v := 100) hx hb dX4_isAction_45 (by decide) ?_
      refine lv_icmp_ge (tgt := 54) hx hb dX4_isAction_47 (by decide) (fun c3 => ?_) (fun c3 => ?_)
      · have h := h.1 c3
        refine lv_iconst (v := 0) hx hb dX4_isAction_54 (by decide) ?_
        exact kp_retz F hW hr (Or.inl rfl) h (by decide) (by decide) dX4_isAction_55
      · have h := h.2 c3
        refine lv_iconst (v := 1) hx hb dX4_isAction_50 (by decide) ?_
        refine lv_goto (tgt := 55) hx hb dX4_isAction_51 (by decide) ?_
        exact kp_retz F hW hr (Or.inr rfl) h (by decide) (by decide) dX4_isAction_55
  by_cases c4 : a1 = 1
  · have h := h.2.1 c4
    refine kp_tab (v := 1) (off := 55) (tgt := 56) hx hb dX4_isAction_1 c4 (by decide) (by decide) (by decide) (by decide) ?_
    refine lv_aload_n hx hb dX4_isAction_56 rfl (lv_at hl 0 rfl) ?_
    refine lv_iload_n hx hb dX4_isAction_57 rfl (lv_at hl 2 rfl) ?_
    obtain ⟨g7, h⟩ := h
    refine kp_calli (c1 := 0) (s1 := 0) F hW (kp_runV (As := [.int a2]) (rest := []) F hW (ct_X4_isMacro l E _ _ _ h) g7 cbX4 rfl cf_X4_isMacro tw_265 rfl hl.1 ⟨by decide, by decide⟩ (Nat.le_of_ble_eq_true rfl) dX4_isAction_58 ⟨by decide, by decide⟩) (by decide) (by decide) (fun r5 S6 H locs h hW => ?_)
    exact kp_retz F hW hr h.1 h.2 (by decide) (by decide) dX4_isAction_61
  by_cases c8 : a1 = 2
  · have h := h.2.2.1 c8
    refine kp_tab (v := 2) (off := 61) (tgt := 62) hx hb dX4_isAction_1 c8 (by decide) (by decide) (by decide) (by decide) ?_
    refine lv_aload_n hx hb dX4_isAction_62 rfl (lv_at hl 0 rfl) ?_
    refine lv_iload_n hx hb dX4_isAction_63 rfl (lv_at hl 2 rfl) ?_
    obtain ⟨g11, h⟩ := h
    refine kp_calli (c1 := 0) (s1 := 0) F hW (kp_runV (As := [.int a2]) (rest := []) F hW (ct_X4_isContext l E _ _ _ h) g11 cbX4 rfl cf_X4_isContext tw_157 rfl hl.1 ⟨by decide, by decide⟩ (Nat.le_of_ble_eq_true rfl) dX4_isAction_64 ⟨by decide, by decide⟩) (by decide) (by decide) (fun r9 S10 H locs h hW => ?_)
    exact kp_retz F hW hr h.1 h.2 (by decide) (by decide) dX4_isAction_67
  by_cases c12 : a1 = 3
  · have h := h.2.2.2.1 c12
    refine kp_tab (v := 3) (off := 67) (tgt := 68) hx hb dX4_isAction_1 c12 (by decide) (by decide) (by decide) (by decide) ?_
    refine lv_iload_n hx hb dX4_isAction_68 rfl (lv_at hl 2 rfl) ?_
    refine lv_if_ne (tgt := 76) hx hb dX4_isAction_69 (by decide) (fun c13 => ?_) (fun c13 => ?_)
    · have h := h.2 c13
      refine lv_iconst (v := 0) hx hb dX4_isAction_76 (by decide) ?_
      exact kp_retz F hW hr (Or.inl rfl) h (by decide) (by decide) dX4_isAction_77
    · have h := h.1 c13
      refine lv_iconst (v := 1) hx hb dX4_isAction_72 (by decide) ?_
      refine lv_goto (tgt := 77) hx hb dX4_isAction_73 (by decide) ?_
      exact kp_retz F hW hr (Or.inr rfl) h (by decide) (by decide) dX4_isAction_77
  by_cases c14 : a1 = 4
  · have h := h.2.2.2.2.1 c14
    refine kp_tab (v := 4) (off := 77) (tgt := 78) hx hb dX4_isAction_1 c14 (by decide) (by decide) (by decide) (by decide) ?_
    refine lv_aload_n hx hb dX4_isAction_78 rfl (lv_at hl 0 rfl) ?_
    refine lv_iload_n hx hb dX4_isAction_79 rfl (lv_at hl 2 rfl) ?_
    obtain ⟨g17, h⟩ := h
    refine kp_calli (c1 := 0) (s1 := 0) F hW (kp_runV (As := [.int a2]) (rest := []) F hW (ct_X4_isFlag l E _ _ _ h) g17 cbX4 rfl cf_X4_isFlag tw_254 rfl hl.1 ⟨by decide, by decide⟩ (Nat.le_of_ble_eq_true rfl) dX4_isAction_80 ⟨by decide, by decide⟩) (by decide) (by decide) (fun r15 S16 H locs h hW => ?_)
    exact kp_retz F hW hr h.1 h.2 (by decide) (by decide) dX4_isAction_83
  by_cases c18 : a1 = 5
  · have h := h.2.2.2.2.2.1 c18
    refine kp_tab (v := 5) (off := 77) (tgt := 78) hx hb dX4_isAction_1 c18 (by decide) (by decide) (by decide) (by decide) ?_
    refine lv_aload_n hx hb dX4_isAction_78 rfl (lv_at hl 0 rfl) ?_
    refine lv_iload_n hx hb dX4_isAction_79 rfl (lv_at hl 2 rfl) ?_
    obtain ⟨g21, h⟩ := h
    refine kp_calli (c1 := 0) (s1 := 0) F hW (kp_runV (As := [.int a2]) (rest := []) F hW (ct_X4_isFlag l E _ _ _ h) g21 cbX4 rfl cf_X4_isFlag tw_254 rfl hl.1 ⟨by decide, by decide⟩ (Nat.le_of_ble_eq_true rfl) dX4_isAction_80 ⟨by decide, by decide⟩) (by decide) (by decide) (fun r19 S20 H locs h hW => ?_)
    exact kp_retz F hW hr h.1 h.2 (by decide) (by decide) dX4_isAction_83
  have h := h.2.2.2.2.2.2 ⟨c1, c4, c8, c12, c14, c18⟩
  refine kp_tabD (tgt := 84) hx hb dX4_isAction_1 (kp_out_0_5 c1 c4 c8 c12 c14 c18) (by decide) ?_
  refine lv_iconst (v := 0) hx hb dX4_isAction_84 (by decide) ?_
  exact kp_retz F hW hr (Or.inl rfl) h (by decide) (by decide) dX4_isAction_85
def wp_X4_bind (post : Int32 → pS → Prop) (e0 : Nat) (o : Nat) (a1 : Int32) (a2 : Int32) (a3 : Int32) (a4 : Int32) (a5 : Int32) (S : pS) : Prop :=
  (S.ok o 4 ∧ wp_X4_isContext (fun r1 S2 => ((r1 = 0 → post (-1 : Int32) S2) ∧ (¬ (r1 = 0) → (S2.ok o 4 ∧ wp_X4_isCondition (fun r5 S6 => ((r5 = 0 → post (-1 : Int32) S6) ∧ (¬ (r5 = 0) → (S6.ok o 4 ∧ wp_X4_isAction (fun r9 S10 => ((r9 = 0 → post (-1 : Int32) S10) ∧ (¬ (r9 = 0) → (S10.ok o 4 ∧ ∃ q14, S10.P o 0 = some q14 ∧ S10.ok q14 3 ∧ wp_X3_size (fun r16 S17 => ((r16 = 0 → post (-2 : Int32) S17) ∧ (¬ (r16 = 0) → (S17.ok o 4 ∧ ∃ q21, S17.P o 4 = some q21 ∧ S17.ok q21 6 ∧ wp_Jx4a65c_get_915e3 (fun r23 S24 => (S24.ok r23 1 ∧ ∃ q27, S24.P r23 1 = some q27 ∧ S24.ok q27 6 ∧ wp_Jx4a65c_size_8abf5 (fun r29 S30 => ((r29 < (10 : Int32) → (∀ q33, q33 ∉ S30.L → ∀ S35, S35 = S30.new q33 0 0 → S35.ok o 4 ∧ ∃ q38, S35.P o 0 = some q38 ∧ S35.ok q38 3 ∧ wp_X3_copy (fun r40 S41 => (wp_X0_init (fun S44 => (S44.ok q27 6 ∧ wp_Jx4a65c_add_9ea2d (fun r45 S46 => (S46.ok o 4 ∧ ∃ q49, S46.P o 0 = some q49 ∧ S46.ok q49 3 ∧ wp_X3_clear (fun S52 => (S52.ok q27 6 ∧ wp_Jx4a65c_size_8abf5 (fun r54 S55 => post (r54 - (1 : Int32)) S55) q27 S52)) q49 S46)) e0 q27 q33 S44)) q33 r40 a2 a3 a4 a5 S41)) q38 S35)) ∧ (¬ (r29 < (10 : Int32)) → post (-3 : Int32) S30))) q27 S24)) q21 a1 S17)))) q14 S10)))) o a4 a5 S6)))) o a2 a3 S2)))) o a1 S)
def rm_X4_bind : Room := { frames := 5, cells := 4, slots := 21, locals := 108 }
set_option maxHeartbeats 4000000 in
set_option maxRecDepth 100000 in
theorem ct_X4_bind (l : Launch) (E : EV) {post : Int32 → pS → Prop} (o : Nat) (a1 : Int32) (a2 : Int32) (a3 : Int32) (a4 : Int32) (a5 : Int32) (S : pS) (h : wp_X4_bind post E.e0 o a1 a2 a3 a4 a5 S) : CT l E yX4_bind cX4_bind 7 (some .int) rm_X4_bind (QI E post) [.ref o, .int a1, .int a2, .int a3, .int a4, .int a5] S := by
  refine ct_intro (by decide +kernel) (Nat.le_of_ble_eq_true rfl) ?_
  intro p e s m below meth c A ls F hW hr hnm hl
  have hx := F.1
  have hb := F.2.1
  unfold wp_X4_bind at h
  have hl : lv_has ls 7 [(0, .ref o), (1, .int a1), (2, .int a2), (3, .int a3), (4, .int a4), (5, .int a5)] := hl
  refine lv_aload_n hx hb dX4_bind_0 rfl (lv_at hl 0 rfl) ?_
  refine lv_iload_n hx hb dX4_bind_1 rfl (lv_at hl 1 rfl) ?_
  obtain ⟨g3, h⟩ := h
  refine kp_calli (c1 := 0) (s1 := 0) F hW (kp_runV (As := [.int a1]) (rest := []) F hW (ct_X4_isContext l E _ _ _ h) g3 cbX4 rfl cf_X4_isContext tw_157 rfl hl.1 ⟨by decide, by decide⟩ (Nat.le_of_ble_eq_true rfl) dX4_bind_2 ⟨by decide, by decide⟩) (by decide) (by decide) (fun r1 S2 H locs h hW => ?_)
  refine lv_if_eq (tgt := 28) hx hb dX4_bind_5 (by decide) (fun c4 => ?_) (fun c4 => ?_)
  · have h := h.1 c4
    refine lv_iconst (v := (-1)) hx hb dX4_bind_28 (by decide) ?_
    exact kp_reti F hW hr h (by decide) (by decide) dX4_bind_29
  · have h := h.2 c4
    refine lv_aload_n hx hb dX4_bind_8 rfl (lv_at hl 0 rfl) ?_
    refine lv_iload_n hx hb dX4_bind_9 rfl (lv_at hl 2 rfl) ?_
    refine lv_iload_n hx hb dX4_bind_10 rfl (lv_at hl 3 rfl) ?_
    obtain ⟨g7, h⟩ := h
    refine kp_calli (c1 := 0) (s1 := 0) F hW (kp_runV (As := [.int a2, .int a3]) (rest := []) F hW (ct_X4_isCondition l E _ _ _ _ h) g7 cbX4 rfl cf_X4_isCondition tw_250 rfl hl.1 ⟨by decide, by decide⟩ (Nat.le_of_ble_eq_true rfl) dX4_bind_11 ⟨by decide, by decide⟩) (by decide) (by decide) (fun r5 S6 H locs h hW => ?_)
    refine lv_if_eq (tgt := 28) hx hb dX4_bind_14 (by decide) (fun c8 => ?_) (fun c8 => ?_)
    · have h := h.1 c8
      refine lv_iconst (v := (-1)) hx hb dX4_bind_28 (by decide) ?_
      exact kp_reti F hW hr h (by decide) (by decide) dX4_bind_29
    · have h := h.2 c8
      refine lv_aload_n hx hb dX4_bind_17 rfl (lv_at hl 0 rfl) ?_
      refine lv_iload hx hb dX4_bind_18 (lv_at hl 4 rfl) ?_
      refine lv_iload hx hb dX4_bind_20 (lv_at hl 5 rfl) ?_
      obtain ⟨g11, h⟩ := h
      refine kp_calli (c1 := 0) (s1 := 0) F hW (kp_runV (As := [.int a4, .int a5]) (rest := []) F hW (ct_X4_isAction l E _ _ _ _ h) g11 cbX4 rfl cf_X4_isAction tw_261 rfl hl.1 ⟨by decide, by decide⟩ (Nat.le_of_ble_eq_true rfl) dX4_bind_22 ⟨by decide, by decide⟩) (by decide) (by decide) (fun r9 S10 H locs h hW => ?_)
      refine lv_if_ne (tgt := 30) hx hb dX4_bind_25 (by decide) (fun c12 => ?_) (fun c12 => ?_)
      · have h := h.2 c12
        refine lv_aload_n hx hb dX4_bind_30 rfl (lv_at hl 0 rfl) ?_
        obtain ⟨g13, h⟩ := h
        obtain ⟨q14, p15, h⟩ := h
        refine kp_getp F hW g13 cbX4 0 rfl tw_179 (fun _ h9 => h9) dX4_bind_31 p15 ?_
        obtain ⟨g18, h⟩ := h
        refine kp_calli (c1 := 0) (s1 := 0) F hW (kp_runVN (As := []) (rest := []) F hW (ct_X3_size l E _ _ h) g18 cbX3 rfl cf_X3_size tw_234 rfl hl.1 ⟨by decide, by decide⟩ (Nat.le_of_ble_eq_true rfl) dX4_bind_34 ⟨by decide, by decide⟩) (by decide) (by decide) (fun r16 S17 H locs h hW => ?_)
        refine lv_if_ne (tgt := 43) hx hb dX4_bind_37 (by decide) (fun c19 => ?_) (fun c19 => ?_)
        · have h := h.2 c19
          refine lv_aload_n hx hb dX4_bind_43 rfl (lv_at hl 0 rfl) ?_
          obtain ⟨g20, h⟩ := h
          obtain ⟨q21, p22, h⟩ := h
          refine kp_getp F hW g20 cbX4 4 rfl tw_183 (fun _ h9 => h9) dX4_bind_44 p22 ?_
          refine lv_iload_n hx hb dX4_bind_47 rfl (lv_at hl 1 rfl) ?_
          obtain ⟨g25, h⟩ := h
          refine kp_callr (c1 := 0) (s1 := 0) F hW (kp_runV (As := [.int a1]) (rest := []) F hW (ct_Jx4a65c_get_915e3 l E _ _ _ h) g25 cbJx4a65c rfl cf_Jx4a65c_get_915e3 tw_165 rfl hl.1 ⟨by decide, by decide⟩ (Nat.le_of_ble_eq_true rfl) dX4_bind_48 ⟨by decide, by decide⟩) (by decide) (by decide) (fun r23 S24 H locs h hW => ?_)
          obtain ⟨g26, h⟩ := h
          refine kp_cast F hW g26 cbX1 tw_119 dX4_bind_51 ?_
          obtain ⟨q27, p28, h⟩ := h
          refine kp_getpN F hW g26 cbX1 1 rfl tw_130 (fun _ h9 => h9) dX4_bind_54 p28 ?_
          refine lv_astore (lv' := [(6, .ref q27), (0, .ref o), (1, .int a1), (2, .int a2), (3, .int a3), (4, .int a4), (5, .int a5)]) hx hb dX4_bind_57 hl (by decide) rfl (fun ls hl => ?_)
          refine lv_aload hx hb dX4_bind_59 (lv_at hl 0 rfl) ?_
          obtain ⟨g31, h⟩ := h
          refine kp_calli (c1 := 0) (s1 := 0) F hW (kp_runV (As := []) (rest := []) F hW (ct_Jx4a65c_size_8abf5 l E _ _ h) g31 cbJx4a65c rfl cf_Jx4a65c_size_8abf5 tw_161 rfl hl.1 ⟨by decide, by decide⟩ (Nat.le_of_ble_eq_true rfl) dX4_bind_61 ⟨by decide, by decide⟩) (by decide) (by decide) (fun r29 S30 H locs h hW => ?_)
          refine lv_bipush (v := 10) hx hb dX4_bind_64 (by decide) ?_
          refine lv_icmp_lt (tgt := 72) hx hb dX4_bind_66 (by decide) (fun c32 => ?_) (fun c32 => ?_)
          · have h := h.1 c32
            refine lv_aload hx hb dX4_bind_72 (lv_at hl 0 rfl) ?_
            refine kp_new (c1 := 1) (s1 := 5) F hW cbX0 tw_269 tw_270 tw_15 dX4_bind_74 (by decide) (by decide) (by decide) (by decide) (fun q33 H f34 hW => ?_)
            obtain ⟨S35, hS35⟩ : ∃ z, z = S30.new q33 0 0 := ⟨_, rfl⟩
            rw [← hS35] at hW
            have h := h q33 f34 S35 hS35
            have g36 : S35.ok q33 0 := by rw [hS35]; exact ok_new
            refine lv_dup hx hb dX4_bind_77 rfl ?_
            refine lv_aload_n hx hb dX4_bind_78 rfl (lv_at hl 1 rfl) ?_
            obtain ⟨g37, h⟩ := h
            obtain ⟨q38, p39, h⟩ := h
            refine kp_getp F hW g37 cbX4 0 rfl tw_179 (fun _ h9 => h9) dX4_bind_79 p39 ?_
            obtain ⟨g42, h⟩ := h
            refine kp_callr (c1 := 3) (s1 := 11) F hW (kp_runVN (As := []) (rest := [.ref q33, .ref q33, .ref q27]) F hW (ct_X3_copy l E _ _ h) g42 cbX3 rfl cf_X3_copy tw_271 rfl hl.1 ⟨by decide, by decide⟩ (Nat.le_of_ble_eq_true rfl) dX4_bind_82 ⟨by decide, by decide⟩) (by decide) (by decide) (fun r40 S41 H locs h hW => ?_)
            refine lv_iload_n hx hb dX4_bind_85 rfl (lv_at hl 3 rfl) ?_
            refine lv_iload_n hx hb dX4_bind_86 rfl (lv_at hl 4 rfl) ?_
            refine lv_iload hx hb dX4_bind_87 (lv_at hl 5 rfl) ?_
            refine lv_iload hx hb dX4_bind_89 (lv_at hl 6 rfl) ?_
            refine kp_callv (c1 := 3) (s1 := 11) F hW (kp_runIN (As := [.ref r40, .int a2, .int a3, .int a4, .int a5]) (rest := [.ref q33, .ref q27]) F hW (ct_X0_init l E _ _ _ _ _ _ _ h) cf_X0_init tw_278 rfl hl.1 ⟨by decide, by decide⟩ (Nat.le_of_ble_eq_true rfl) dX4_bind_91 ⟨by decide, by decide⟩) (by decide) (by decide) (fun S44 H locs h hW => ?_)
            obtain ⟨g47, h⟩ := h
            refine kp_calli (c1 := 4) (s1 := 21) F hW (kp_runV (As := [.ref q33]) (rest := []) F hW (ct_Jx4a65c_add_9ea2d l E _ _ _ h) g47 cbJx4a65c rfl cf_Jx4a65c_add_9ea2d tw_67 rfl hl.1 ⟨by decide, by decide⟩ (Nat.le_of_ble_eq_true rfl) dX4_bind_94 ⟨by decide, by decide⟩) (by decide) (by decide) (fun r45 S46 H locs h hW => ?_)
            refine lv_pop hx hb dX4_bind_97 rfl ?_
            refine lv_aload_n hx hb dX4_bind_98 rfl (lv_at hl 1 rfl) ?_
            obtain ⟨g48, h⟩ := h
            obtain ⟨q49, p50, h⟩ := h
            refine kp_getp F hW g48 cbX4 0 rfl tw_179 (fun _ h9 => h9) dX4_bind_99 p50 ?_
            obtain ⟨g53, h⟩ := h
            refine kp_callv (c1 := 4) (s1 := 21) F hW (kp_runVN (As := []) (rest := []) F hW (ct_X3_clear l E _ _ h) g53 cbX3 rfl cf_X3_clear tw_242 rfl hl.1 ⟨by decide, by decide⟩ (Nat.le_of_ble_eq_true rfl) dX4_bind_102 ⟨by decide, by decide⟩) (by decide) (by decide) (fun S52 H locs h hW => ?_)
            refine lv_aload hx hb dX4_bind_105 (lv_at hl 0 rfl) ?_
            obtain ⟨g56, h⟩ := h
            refine kp_calli (c1 := 4) (s1 := 21) F hW (kp_runV (As := []) (rest := []) F hW (ct_Jx4a65c_size_8abf5 l E _ _ h) g56 cbJx4a65c rfl cf_Jx4a65c_size_8abf5 tw_161 rfl hl.1 ⟨by decide, by decide⟩ (Nat.le_of_ble_eq_true rfl) dX4_bind_107 ⟨by decide, by decide⟩) (by decide) (by decide) (fun r54 S55 H locs h hW => ?_)
            refine lv_iconst (v := 1) hx hb dX4_bind_110 (by decide) ?_
            refine lv_isub hx hb dX4_bind_111 ?_
            exact kp_reti F hW hr h (by decide) (by decide) dX4_bind_112
          · have h := h.2 c32
            refine lv_bipush (v := (-3)) hx hb dX4_bind_69 (by decide) ?_
            exact kp_reti F hW hr h (by decide) (by decide) dX4_bind_71
        · have h := h.1 c19
          refine lv_bipush (v := (-2)) hx hb dX4_bind_40 (by decide) ?_
          exact kp_reti F hW hr h (by decide) (by decide) dX4_bind_42
      · have h := h.1 c12
        refine lv_iconst (v := (-1)) hx hb dX4_bind_28 (by decide) ?_
        exact kp_reti F hW hr h (by decide) (by decide) dX4_bind_29
def wp_X4_isBinding (post : Int32 → pS → Prop) (o : Nat) (a1 : Int32) (a2 : Int32) (S : pS) : Prop :=
  (S.ok o 4 ∧ wp_X4_isContext (fun r1 S2 => ((r1 = 0 → post (0 : Int32) S2) ∧ (¬ (r1 = 0) → ((a2 < 0 → post (0 : Int32) S2) ∧ (¬ (a2 < 0) → (S2.ok o 4 ∧ ∃ q7, S2.P o 4 = some q7 ∧ S2.ok q7 6 ∧ wp_Jx4a65c_get_915e3 (fun r9 S10 => (S10.ok r9 1 ∧ ∃ q13, S10.P r9 1 = some q13 ∧ S10.ok q13 6 ∧ wp_Jx4a65c_size_8abf5 (fun r15 S16 => ((r15 ≤ a2 → post (0 : Int32) S16) ∧ (¬ (r15 ≤ a2) → post (1 : Int32) S16))) q13 S10)) q7 a1 S2)))))) o a1 S)
def rm_X4_isBinding : Room := { frames := 3, cells := 0, slots := 0, locals := 64 }
set_option maxHeartbeats 4000000 in
set_option maxRecDepth 100000 in
theorem ct_X4_isBinding (l : Launch) (E : EV) {post : Int32 → pS → Prop} (o : Nat) (a1 : Int32) (a2 : Int32) (S : pS) (h : wp_X4_isBinding post o a1 a2 S) : CT l E yX4_isBinding cX4_isBinding 3 (some .boolean) rm_X4_isBinding (QI E post) [.ref o, .int a1, .int a2] S := by
  refine ct_intro (by decide +kernel) (Nat.le_of_ble_eq_true rfl) ?_
  intro p e s m below meth c A ls F hW hr hnm hl
  have hx := F.1
  have hb := F.2.1
  unfold wp_X4_isBinding at h
  have hl : lv_has ls 3 [(0, .ref o), (1, .int a1), (2, .int a2)] := hl
  refine lv_aload_n hx hb dX4_isBinding_0 rfl (lv_at hl 0 rfl) ?_
  refine lv_iload_n hx hb dX4_isBinding_1 rfl (lv_at hl 1 rfl) ?_
  obtain ⟨g3, h⟩ := h
  refine kp_calli (c1 := 0) (s1 := 0) F hW (kp_runV (As := [.int a1]) (rest := []) F hW (ct_X4_isContext l E _ _ _ h) g3 cbX4 rfl cf_X4_isContext tw_157 rfl hl.1 ⟨by decide, by decide⟩ (Nat.le_of_ble_eq_true rfl) dX4_isBinding_2 ⟨by decide, by decide⟩) (by decide) (by decide) (fun r1 S2 H locs h hW => ?_)
  refine lv_if_eq (tgt := 37) hx hb dX4_isBinding_5 (by decide) (fun c4 => ?_) (fun c4 => ?_)
  · have h := h.1 c4
    refine lv_iconst (v := 0) hx hb dX4_isBinding_37 (by decide) ?_
    exact kp_retz F hW hr (Or.inl rfl) h (by decide) (by decide) dX4_isBinding_38
  · have h := h.2 c4
    refine lv_iload_n hx hb dX4_isBinding_8 rfl (lv_at hl 2 rfl) ?_
    refine lv_if_lt (tgt := 37) hx hb dX4_isBinding_9 (by decide) (fun c5 => ?_) (fun c5 => ?_)
    · have h := h.1 c5
      refine lv_iconst (v := 0) hx hb dX4_isBinding_37 (by decide) ?_
      exact kp_retz F hW hr (Or.inl rfl) h (by decide) (by decide) dX4_isBinding_38
    · have h := h.2 c5
      refine lv_iload_n hx hb dX4_isBinding_12 rfl (lv_at hl 2 rfl) ?_
      refine lv_aload_n hx hb dX4_isBinding_13 rfl (lv_at hl 0 rfl) ?_
      obtain ⟨g6, h⟩ := h
      obtain ⟨q7, p8, h⟩ := h
      refine kp_getp F hW g6 cbX4 4 rfl tw_183 (fun _ h9 => h9) dX4_isBinding_14 p8 ?_
      refine lv_iload_n hx hb dX4_isBinding_17 rfl (lv_at hl 1 rfl) ?_
      obtain ⟨g11, h⟩ := h
      refine kp_callr (c1 := 0) (s1 := 0) F hW (kp_runV (As := [.int a1]) (rest := [.int a2]) F hW (ct_Jx4a65c_get_915e3 l E _ _ _ h) g11 cbJx4a65c rfl cf_Jx4a65c_get_915e3 tw_165 rfl hl.1 ⟨by decide, by decide⟩ (Nat.le_of_ble_eq_true rfl) dX4_isBinding_18 ⟨by decide, by decide⟩) (by decide) (by decide) (fun r9 S10 H locs h hW => ?_)
      obtain ⟨g12, h⟩ := h
      refine kp_cast F hW g12 cbX1 tw_119 dX4_isBinding_21 ?_
      obtain ⟨q13, p14, h⟩ := h
      refine kp_getpN F hW g12 cbX1 1 rfl tw_130 (fun _ h9 => h9) dX4_isBinding_24 p14 ?_
      obtain ⟨g17, h⟩ := h
      refine kp_calli (c1 := 0) (s1 := 0) F hW (kp_runV (As := []) (rest := [.int a2]) F hW (ct_Jx4a65c_size_8abf5 l E _ _ h) g17 cbJx4a65c rfl cf_Jx4a65c_size_8abf5 tw_161 rfl hl.1 ⟨by decide, by decide⟩ (Nat.le_of_ble_eq_true rfl) dX4_isBinding_27 ⟨by decide, by decide⟩) (by decide) (by decide) (fun r15 S16 H locs h hW => ?_)
      refine lv_icmp_ge (tgt := 37) hx hb dX4_isBinding_30 (by decide) (fun c18 => ?_) (fun c18 => ?_)
      · have h := h.1 c18
        refine lv_iconst (v := 0) hx hb dX4_isBinding_37 (by decide) ?_
        exact kp_retz F hW hr (Or.inl rfl) h (by decide) (by decide) dX4_isBinding_38
      · have h := h.2 c18
        refine lv_iconst (v := 1) hx hb dX4_isBinding_33 (by decide) ?_
        refine lv_goto (tgt := 38) hx hb dX4_isBinding_34 (by decide) ?_
        exact kp_retz F hW hr (Or.inr rfl) h (by decide) (by decide) dX4_isBinding_38
def wp_X4_unbind (post : Int32 → pS → Prop) (o : Nat) (a1 : Int32) (a2 : Int32) (S : pS) : Prop :=
  (S.ok o 4 ∧ wp_X4_isBinding (fun r1 S2 => ((r1 = 0 → post (-1 : Int32) S2) ∧ (¬ (r1 = 0) → (S2.ok o 4 ∧ ∃ q6, S2.P o 4 = some q6 ∧ S2.ok q6 6 ∧ wp_Jx4a65c_get_915e3 (fun r8 S9 => (S9.ok r8 1 ∧ ∃ q12, S9.P r8 1 = some q12 ∧ S9.ok q12 6 ∧ wp_Jx4a65c_remove_915e3 (fun r14 S15 => (S15.ok q12 6 ∧ wp_Jx4a65c_size_8abf5 (fun r17 S18 => post r17 S18) q12 S15)) q12 a2 S9)) q6 a1 S2)))) o a1 a2 S)
def rm_X4_unbind : Room := { frames := 4, cells := 0, slots := 0, locals := 106 }
set_option maxHeartbeats 4000000 in
set_option maxRecDepth 100000 in
theorem ct_X4_unbind (l : Launch) (E : EV) {post : Int32 → pS → Prop} (o : Nat) (a1 : Int32) (a2 : Int32) (S : pS) (h : wp_X4_unbind post o a1 a2 S) : CT l E yX4_unbind cX4_unbind 4 (some .int) rm_X4_unbind (QI E post) [.ref o, .int a1, .int a2] S := by
  refine ct_intro (by decide +kernel) (Nat.le_of_ble_eq_true rfl) ?_
  intro p e s m below meth c A ls F hW hr hnm hl
  have hx := F.1
  have hb := F.2.1
  unfold wp_X4_unbind at h
  have hl : lv_has ls 4 [(0, .ref o), (1, .int a1), (2, .int a2)] := hl
  refine lv_aload_n hx hb dX4_unbind_0 rfl (lv_at hl 0 rfl) ?_
  refine lv_iload_n hx hb dX4_unbind_1 rfl (lv_at hl 1 rfl) ?_
  refine lv_iload_n hx hb dX4_unbind_2 rfl (lv_at hl 2 rfl) ?_
  obtain ⟨g3, h⟩ := h
  refine kp_calli (c1 := 0) (s1 := 0) F hW (kp_runV (As := [.int a1, .int a2]) (rest := []) F hW (ct_X4_isBinding l E _ _ _ _ h) g3 cbX4 rfl cf_X4_isBinding tw_304 rfl hl.1 ⟨by decide, by decide⟩ (Nat.le_of_ble_eq_true rfl) dX4_unbind_3 ⟨by decide, by decide⟩) (by decide) (by decide) (fun r1 S2 H locs h hW => ?_)
  refine lv_if_ne (tgt := 11) hx hb dX4_unbind_6 (by decide) (fun c4 => ?_) (fun c4 => ?_)
  · have h := h.2 c4
    refine lv_aload_n hx hb dX4_unbind_11 rfl (lv_at hl 0 rfl) ?_
    obtain ⟨g5, h⟩ := h
    obtain ⟨q6, p7, h⟩ := h
    refine kp_getp F hW g5 cbX4 4 rfl tw_183 (fun _ h9 => h9) dX4_unbind_12 p7 ?_
    refine lv_iload_n hx hb dX4_unbind_15 rfl (lv_at hl 1 rfl) ?_
    obtain ⟨g10, h⟩ := h
    refine kp_callr (c1 := 0) (s1 := 0) F hW (kp_runV (As := [.int a1]) (rest := []) F hW (ct_Jx4a65c_get_915e3 l E _ _ _ h) g10 cbJx4a65c rfl cf_Jx4a65c_get_915e3 tw_165 rfl hl.1 ⟨by decide, by decide⟩ (Nat.le_of_ble_eq_true rfl) dX4_unbind_16 ⟨by decide, by decide⟩) (by decide) (by decide) (fun r8 S9 H locs h hW => ?_)
    obtain ⟨g11, h⟩ := h
    refine kp_cast F hW g11 cbX1 tw_119 dX4_unbind_19 ?_
    obtain ⟨q12, p13, h⟩ := h
    refine kp_getpN F hW g11 cbX1 1 rfl tw_130 (fun _ h9 => h9) dX4_unbind_22 p13 ?_
    refine lv_astore_n (lv' := [(3, .ref q12), (0, .ref o), (1, .int a1), (2, .int a2)]) hx hb dX4_unbind_25 rfl hl (by decide) rfl (fun ls hl => ?_)
    refine lv_aload_n hx hb dX4_unbind_26 rfl (lv_at hl 0 rfl) ?_
    refine lv_iload_n hx hb dX4_unbind_27 rfl (lv_at hl 3 rfl) ?_
    obtain ⟨g16, h⟩ := h
    refine kp_callr (c1 := 0) (s1 := 0) F hW (kp_runV (As := [.int a2]) (rest := []) F hW (ct_Jx4a65c_remove_915e3 l E _ _ _ h) g16 cbJx4a65c rfl cf_Jx4a65c_remove_915e3 tw_308 rfl hl.1 ⟨by decide, by decide⟩ (Nat.le_of_ble_eq_true rfl) dX4_unbind_28 ⟨by decide, by decide⟩) (by decide) (by decide) (fun r14 S15 H locs h hW => ?_)
    refine lv_pop hx hb dX4_unbind_31 rfl ?_
    refine lv_aload_n hx hb dX4_unbind_32 rfl (lv_at hl 0 rfl) ?_
    obtain ⟨g19, h⟩ := h
    refine kp_calli (c1 := 0) (s1 := 0) F hW (kp_runV (As := []) (rest := []) F hW (ct_Jx4a65c_size_8abf5 l E _ _ h) g19 cbJx4a65c rfl cf_Jx4a65c_size_8abf5 tw_161 rfl hl.1 ⟨by decide, by decide⟩ (Nat.le_of_ble_eq_true rfl) dX4_unbind_33 ⟨by decide, by decide⟩) (by decide) (by decide) (fun r17 S18 H locs h hW => ?_)
    exact kp_reti F hW hr h (by decide) (by decide) dX4_unbind_36
  · have h := h.1 c4
    refine lv_iconst (v := (-1)) hx hb dX4_unbind_9 (by decide) ?_
    exact kp_reti F hW hr h (by decide) (by decide) dX4_unbind_10
def wp_X4_bindingCount (post : Int32 → pS → Prop) (o : Nat) (a1 : Int32) (S : pS) : Prop :=
  (S.ok o 4 ∧ wp_X4_isContext (fun r1 S2 => ((r1 = 0 → post (-1 : Int32) S2) ∧ (¬ (r1 = 0) → (S2.ok o 4 ∧ ∃ q6, S2.P o 4 = some q6 ∧ S2.ok q6 6 ∧ wp_Jx4a65c_get_915e3 (fun r8 S9 => (S9.ok r8 1 ∧ ∃ q12, S9.P r8 1 = some q12 ∧ S9.ok q12 6 ∧ wp_Jx4a65c_size_8abf5 (fun r14 S15 => post r14 S15) q12 S9)) q6 a1 S2)))) o a1 S)
def rm_X4_bindingCount : Room := { frames := 3, cells := 0, slots := 0, locals := 64 }
set_option maxHeartbeats 4000000 in
set_option maxRecDepth 100000 in
theorem ct_X4_bindingCount (l : Launch) (E : EV) {post : Int32 → pS → Prop} (o : Nat) (a1 : Int32) (S : pS) (h : wp_X4_bindingCount post o a1 S) : CT l E yX4_bindingCount cX4_bindingCount 2 (some .int) rm_X4_bindingCount (QI E post) [.ref o, .int a1] S := by
  refine ct_intro (by decide +kernel) (Nat.le_of_ble_eq_true rfl) ?_
  intro p e s m below meth c A ls F hW hr hnm hl
  have hx := F.1
  have hb := F.2.1
  unfold wp_X4_bindingCount at h
  have hl : lv_has ls 2 [(0, .ref o), (1, .int a1)] := hl
  refine lv_aload_n hx hb dX4_bindingCount_0 rfl (lv_at hl 0 rfl) ?_
  refine lv_iload_n hx hb dX4_bindingCount_1 rfl (lv_at hl 1 rfl) ?_
  obtain ⟨g3, h⟩ := h
  refine kp_calli (c1 := 0) (s1 := 0) F hW (kp_runV (As := [.int a1]) (rest := []) F hW (ct_X4_isContext l E _ _ _ h) g3 cbX4 rfl cf_X4_isContext tw_157 rfl hl.1 ⟨by decide, by decide⟩ (Nat.le_of_ble_eq_true rfl) dX4_bindingCount_2 ⟨by decide, by decide⟩) (by decide) (by decide) (fun r1 S2 H locs h hW => ?_)
  refine lv_if_ne (tgt := 10) hx hb dX4_bindingCount_5 (by decide) (fun c4 => ?_) (fun c4 => ?_)
  · have h := h.2 c4
    refine lv_aload_n hx hb dX4_bindingCount_10 rfl (lv_at hl 0 rfl) ?_
    obtain ⟨g5, h⟩ := h
    obtain ⟨q6, p7, h⟩ := h
    refine kp_getp F hW g5 cbX4 4 rfl tw_183 (fun _ h9 => h9) dX4_bindingCount_11 p7 ?_
    refine lv_iload_n hx hb dX4_bindingCount_14 rfl (lv_at hl 1 rfl) ?_
    obtain ⟨g10, h⟩ := h
    refine kp_callr (c1 := 0) (s1 := 0) F hW (kp_runV (As := [.int a1]) (rest := []) F hW (ct_Jx4a65c_get_915e3 l E _ _ _ h) g10 cbJx4a65c rfl cf_Jx4a65c_get_915e3 tw_165 rfl hl.1 ⟨by decide, by decide⟩ (Nat.le_of_ble_eq_true rfl) dX4_bindingCount_15 ⟨by decide, by decide⟩) (by decide) (by decide) (fun r8 S9 H locs h hW => ?_)
    obtain ⟨g11, h⟩ := h
    refine kp_cast F hW g11 cbX1 tw_119 dX4_bindingCount_18 ?_
    obtain ⟨q12, p13, h⟩ := h
    refine kp_getpN F hW g11 cbX1 1 rfl tw_130 (fun _ h9 => h9) dX4_bindingCount_21 p13 ?_
    obtain ⟨g16, h⟩ := h
    refine kp_calli (c1 := 0) (s1 := 0) F hW (kp_runV (As := []) (rest := []) F hW (ct_Jx4a65c_size_8abf5 l E _ _ h) g16 cbJx4a65c rfl cf_Jx4a65c_size_8abf5 tw_161 rfl hl.1 ⟨by decide, by decide⟩ (Nat.le_of_ble_eq_true rfl) dX4_bindingCount_24 ⟨by decide, by decide⟩) (by decide) (by decide) (fun r14 S15 H locs h hW => ?_)
    exact kp_reti F hW hr h (by decide) (by decide) dX4_bindingCount_27
  · have h := h.1 c4
    refine lv_iconst (v := (-1)) hx hb dX4_bindingCount_8 (by decide) ?_
    exact kp_reti F hW hr h (by decide) (by decide) dX4_bindingCount_9
def wp_X4_shadowedBy_L39 (post : Int32 → pS → Prop) : Nat → Int32 → Nat → Nat → Int32 → pS → Prop
  | 0, _, _, _, _, _ => False
  | n + 1, v2, v3, v4, v5, S =>
  ((v2 ≤ v5 → post (-4 : Int32) S) ∧ (¬ (v2 ≤ v5) → (S.ok v3 6 ∧ wp_Jx4a65c_get_915e3 (fun r19 S20 => (S20.ok r19 0 ∧ wp_X0_shadows (fun r23 S24 => ((r23 = 0 → wp_X4_shadowedBy_L39 post n v2 v3 v4 (v5 + 1) S24) ∧ (¬ (r23 = 0) → post v5 S24))) r19 v4 S20)) v3 v5 S)))
def wp_X4_shadowedBy (post : Int32 → pS → Prop) (o : Nat) (a1 : Int32) (a2 : Int32) (S : pS) : Prop :=
  (S.ok o 4 ∧ wp_X4_isBinding (fun r1 S2 => ((r1 = 0 → post (-1 : Int32) S2) ∧ (¬ (r1 = 0) → (S2.ok o 4 ∧ ∃ q6, S2.P o 4 = some q6 ∧ S2.ok q6 6 ∧ wp_Jx4a65c_get_915e3 (fun r8 S9 => (S9.ok r8 1 ∧ ∃ q12, S9.P r8 1 = some q12 ∧ S9.ok q12 6 ∧ wp_Jx4a65c_get_915e3 (fun r14 S15 => (S15.ok r14 0 ∧ (∃ n39, wp_X4_shadowedBy_L39 post n39 a2 q12 r14 (0 : Int32) S15))) q12 a2 S9)) q6 a1 S2)))) o a1 a2 S)
def rm_X4_shadowedBy : Room := { frames := 4, cells := 0, slots := 0, locals := 86 }
set_option maxHeartbeats 4000000 in
set_option maxRecDepth 100000 in
theorem wk_X4_shadowedBy_L39 {l : Launch} {p : Program} {e : Env} {s : State} {m : MethodId} {args : Array Value} {below : List Frame} {meth : Method} {c : Code} {A : Nat → Prop} {E : EV} {post : Int32 → pS → Prop} (F : FX p s m args meth c cX4_shadowedBy 6 yX4_shadowedBy.cls E A) (hr : meth.sig.returnType = (some .int)) :
    ∀ (n : Nat) (v2 : Int32) (v3 : Nat) (v4 : Nat) (v5 : Int32) (S : pS) (H : Heap) (locs : List Loc) (ls : Array Slot), wp_X4_shadowedBy_L39 post n v2 v3 v4 v5 S → WD E A s S H locs → lv_has ls 6 [(2, .int v2), (3, .ref v3), (4, .ref v4), (5, .int v5)] → W p l e rm_X4_shadowedBy s m args below meth c H locs 0 0 (MQ below (QI E post A) args s rm_X4_shadowedBy.cells rm_X4_shadowedBy.slots A) (F0 m 39 ls []) := by
  have hx := F.1
  have hb := F.2.1
  intro n
  induction n with
  | zero =>
    intro v2 v3 v4 v5 S H locs ls h hW hl
    exact h.elim
  | succ n ih =>
    intro v2 v3 v4 v5 S H locs ls h hW hl
    unfold wp_X4_shadowedBy_L39 at h
    refine lv_iload hx hb dX4_shadowedBy_39 (lv_at hl 3 rfl) ?_
    refine lv_iload_n hx hb dX4_shadowedBy_41 rfl (lv_at hl 0 rfl) ?_
    refine lv_icmp_ge (tgt := 71) hx hb dX4_shadowedBy_42 (by decide) (fun c18 => ?_) (fun c18 => ?_)
    · have h := h.1 c18
      refine lv_bipush (v := (-4)) hx hb dX4_shadowedBy_71 (by decide) ?_
      exact kp_reti F hW hr h (by decide) (by decide) dX4_shadowedBy_73
    · have h := h.2 c18
      refine lv_aload_n hx hb dX4_shadowedBy_45 rfl (lv_at hl 1 rfl) ?_
      refine lv_iload hx hb dX4_shadowedBy_46 (lv_at hl 3 rfl) ?_
      obtain ⟨g21, h⟩ := h
      refine kp_callr (c1 := 0) (s1 := 0) F hW (kp_runV (As := [.int v5]) (rest := []) F hW (ct_Jx4a65c_get_915e3 l E _ _ _ h) g21 cbJx4a65c rfl cf_Jx4a65c_get_915e3 tw_165 rfl hl.1 ⟨by decide, by decide⟩ (Nat.le_of_ble_eq_true rfl) dX4_shadowedBy_48 ⟨by decide, by decide⟩) (by decide) (by decide) (fun r19 S20 H locs h hW => ?_)
      obtain ⟨g22, h⟩ := h
      refine kp_cast F hW g22 cbX0 tw_269 dX4_shadowedBy_51 ?_
      refine lv_aload hx hb dX4_shadowedBy_54 (lv_at hl 2 rfl) ?_
      refine kp_calli (c1 := 0) (s1 := 0) F hW (kp_runVN (As := [.ref v4]) (rest := []) F hW (ct_X0_shadows l E _ _ _ h) g22 cbX0 rfl cf_X0_shadows tw_325 rfl hl.1 ⟨by decide, by decide⟩ (Nat.le_of_ble_eq_true rfl) dX4_shadowedBy_56 ⟨by decide, by decide⟩) (by decide) (by decide) (fun r23 S24 H locs h hW => ?_)
      refine lv_if_eq (tgt := 65) hx hb dX4_shadowedBy_59 (by decide) (fun c25 => ?_) (fun c25 => ?_)
      · have h := h.1 c25
        refine lv_iinc (v := (v5 + 1)) (lv' := [(5, .int (v5 + 1)), (2, .int v2), (3, .ref v3), (4, .ref v4)]) hx hb dX4_shadowedBy_65 hl (k := 3) rfl (by rfl) (by decide) rfl (fun ls hl => ?_)
        refine lv_goto (tgt := 39) hx hb dX4_shadowedBy_68 (by decide) ?_
        exact ih _ _ _ _ _ _ _ _ h hW (lv_sub hl [1, 2, 3, 0] rfl)
      · have h := h.2 c25
        refine lv_iload hx hb dX4_shadowedBy_62 (lv_at hl 3 rfl) ?_
        exact kp_reti F hW hr h (by decide) (by decide) dX4_shadowedBy_64
set_option maxHeartbeats 4000000 in
set_option maxRecDepth 100000 in
theorem ct_X4_shadowedBy (l : Launch) (E : EV) {post : Int32 → pS → Prop} (o : Nat) (a1 : Int32) (a2 : Int32) (S : pS) (h : wp_X4_shadowedBy post o a1 a2 S) : CT l E yX4_shadowedBy cX4_shadowedBy 6 (some .int) rm_X4_shadowedBy (QI E post) [.ref o, .int a1, .int a2] S := by
  refine ct_intro (by decide +kernel) (Nat.le_of_ble_eq_true rfl) ?_
  intro p e s m below meth c A ls F hW hr hnm hl
  have hx := F.1
  have hb := F.2.1
  unfold wp_X4_shadowedBy at h
  have hl : lv_has ls 6 [(0, .ref o), (1, .int a1), (2, .int a2)] := hl
  refine lv_aload_n hx hb dX4_shadowedBy_0 rfl (lv_at hl 0 rfl) ?_
  refine lv_iload_n hx hb dX4_shadowedBy_1 rfl (lv_at hl 1 rfl) ?_
  refine lv_iload_n hx hb dX4_shadowedBy_2 rfl (lv_at hl 2 rfl) ?_
  obtain ⟨g3, h⟩ := h
  refine kp_calli (c1 := 0) (s1 := 0) F hW (kp_runV (As := [.int a1, .int a2]) (rest := []) F hW (ct_X4_isBinding l E _ _ _ _ h) g3 cbX4 rfl cf_X4_isBinding tw_304 rfl hl.1 ⟨by decide, by decide⟩ (Nat.le_of_ble_eq_true rfl) dX4_shadowedBy_3 ⟨by decide, by decide⟩) (by decide) (by decide) (fun r1 S2 H locs h hW => ?_)
  refine lv_if_ne (tgt := 11) hx hb dX4_shadowedBy_6 (by decide) (fun c4 => ?_) (fun c4 => ?_)
  · have h := h.2 c4
    refine lv_aload_n hx hb dX4_shadowedBy_11 rfl (lv_at hl 0 rfl) ?_
    obtain ⟨g5, h⟩ := h
    obtain ⟨q6, p7, h⟩ := h
    refine kp_getp F hW g5 cbX4 4 rfl tw_183 (fun _ h9 => h9) dX4_shadowedBy_12 p7 ?_
    refine lv_iload_n hx hb dX4_shadowedBy_15 rfl (lv_at hl 1 rfl) ?_
    obtain ⟨g10, h⟩ := h
    refine kp_callr (c1 := 0) (s1 := 0) F hW (kp_runV (As := [.int a1]) (rest := []) F hW (ct_Jx4a65c_get_915e3 l E _ _ _ h) g10 cbJx4a65c rfl cf_Jx4a65c_get_915e3 tw_165 rfl hl.1 ⟨by decide, by decide⟩ (Nat.le_of_ble_eq_true rfl) dX4_shadowedBy_16 ⟨by decide, by decide⟩) (by decide) (by decide) (fun r8 S9 H locs h hW => ?_)
    obtain ⟨g11, h⟩ := h
    refine kp_cast F hW g11 cbX1 tw_119 dX4_shadowedBy_19 ?_
    obtain ⟨q12, p13, h⟩ := h
    refine kp_getpN F hW g11 cbX1 1 rfl tw_130 (fun _ h9 => h9) dX4_shadowedBy_22 p13 ?_
    refine lv_astore_n (lv' := [(3, .ref q12), (0, .ref o), (1, .int a1), (2, .int a2)]) hx hb dX4_shadowedBy_25 rfl hl (by decide) rfl (fun ls hl => ?_)
    refine lv_aload_n hx hb dX4_shadowedBy_26 rfl (lv_at hl 0 rfl) ?_
    refine lv_iload_n hx hb dX4_shadowedBy_27 rfl (lv_at hl 3 rfl) ?_
    obtain ⟨g16, h⟩ := h
    refine kp_callr (c1 := 0) (s1 := 0) F hW (kp_runV (As := [.int a2]) (rest := []) F hW (ct_Jx4a65c_get_915e3 l E _ _ _ h) g16 cbJx4a65c rfl cf_Jx4a65c_get_915e3 tw_165 rfl hl.1 ⟨by decide, by decide⟩ (Nat.le_of_ble_eq_true rfl) dX4_shadowedBy_28 ⟨by decide, by decide⟩) (by decide) (by decide) (fun r14 S15 H locs h hW => ?_)
    obtain ⟨g17, h⟩ := h
    refine kp_cast F hW g17 cbX0 tw_269 dX4_shadowedBy_31 ?_
    refine lv_astore (lv' := [(4, .ref r14), (3, .ref q12), (0, .ref o), (1, .int a1), (2, .int a2)]) hx hb dX4_shadowedBy_34 hl (by decide) rfl (fun ls hl => ?_)
    refine lv_iconst (v := 0) hx hb dX4_shadowedBy_36 (by decide) ?_
    refine lv_istore (lv' := [(5, .int (0 : Int32)), (4, .ref r14), (3, .ref q12), (0, .ref o), (1, .int a1), (2, .int a2)]) hx hb dX4_shadowedBy_37 hl (by decide) rfl (fun ls hl => ?_)
    obtain ⟨n9, h⟩ := h
    exact wk_X4_shadowedBy_L39 F hr n9 _ _ _ _ _ _ _ _ h hW (lv_sub hl [5, 2, 1, 0] rfl)
  · have h := h.1 c4
    refine lv_iconst (v := (-1)) hx hb dX4_shadowedBy_9 (by decide) ?_
    exact kp_reti F hW hr h (by decide) (by decide) dX4_shadowedBy_10
def wp_X4_isExtensible_L31 (post : Int32 → pS → Prop) (k10 : Nat → Int32 → pS → Prop) : Nat → Nat → Int32 → Nat → Int32 → pS → Prop
  | 0, _, _, _, _, _ => False
  | n + 1, v0, v1, v2, v3, S =>
  (S.ok v2 6 ∧ wp_Jx4a65c_size_8abf5 (fun r17 S18 => ((r17 ≤ v3 → k10 v0 (v1 + (-1 : Int32)) S18) ∧ (¬ (r17 ≤ v3) → (S18.ok v2 6 ∧ wp_Jx4a65c_get_915e3 (fun r21 S22 => (S22.ok r21 0 ∧ S22.ok v0 4 ∧ ∃ q26, S22.P v0 1 = some q26 ∧ wp_X0_isLongerThan (fun r28 S29 => ((r28 = 0 → wp_X4_isExtensible_L31 post k10 n v0 v1 v2 (v3 + 1) S29) ∧ (¬ (r28 = 0) → (S29.ok v0 4 ∧ ∃ q32, S29.P v0 6 = some q32 ∧ S29.ok r21 0 ∧ wp_X0_holds (fun r34 S35 => ((r34 = 0 → wp_X4_isExtensible_L31 post k10 n v0 v1 v2 (v3 + 1) S35) ∧ (¬ (r34 = 0) → post (1 : Int32) S35))) r21 q32 S29)))) r21 q26 S22)) v2 v3 S18)))) v2 S)
def wp_X4_isExtensible_L10 (post : Int32 → pS → Prop) : Nat → Nat → Int32 → pS → Prop
  | 0, _, _, _ => False
  | n + 1, v0, v1, S =>
  ((v1 < 0 → post (0 : Int32) S) ∧ (¬ (v1 < 0) → (S.ok v0 4 ∧ ∃ q9, S.P v0 5 = some q9 ∧ S.ok q9 6 ∧ wp_Jx4a65c_get_915e3 (fun r11 S12 => (S12.ok r11 1 ∧ ∃ q15, S12.P r11 1 = some q15 ∧ (∃ n31, wp_X4_isExtensible_L31 post (wp_X4_isExtensible_L10 post n) n31 v0 v1 q15 (0 : Int32) S12))) q9 v1 S)))
def wp_X4_isExtensible (post : Int32 → pS → Prop) (o : Nat) (S : pS) : Prop :=
  (S.ok o 4 ∧ ∃ q2, S.P o 5 = some q2 ∧ S.ok q2 6 ∧ wp_Jx4a65c_size_8abf5 (fun r4 S5 => (∃ n10, wp_X4_isExtensible_L10 post n10 o (r4 - (1 : Int32)) S5)) q2 S)
def rm_X4_isExtensible : Room := { frames := 3, cells := 0, slots := 0, locals := 64 }
set_option maxHeartbeats 4000000 in
set_option maxRecDepth 100000 in
theorem wk_X4_isExtensible_L31 {l : Launch} {p : Program} {e : Env} {s : State} {m : MethodId} {args : Array Value} {below : List Frame} {meth : Method} {c : Code} {A : Nat → Prop} {E : EV} {post : Int32 → pS → Prop} {k10 : Nat → Int32 → pS → Prop} (F : FX p s m args meth c cX4_isExtensible 5 yX4_isExtensible.cls E A) (hr : meth.sig.returnType = (some .boolean)) (hk10 : ∀ (v0 : Nat) (v1 : Int32) (S : pS) (H : Heap) (locs : List Loc) (ls : Array Slot), k10 v0 v1 S → WD E A s S H locs → lv_has ls 5 [(0, .ref v0), (1, .int v1)] → W p l e rm_X4_isExtensible s m args below meth c H locs 0 0 (MQ below (QI E post A) args s rm_X4_isExtensible.cells rm_X4_isExtensible.slots A) (F0 m 10 ls [])) :
    ∀ (n : Nat) (v0 : Nat) (v1 : Int32) (v2 : Nat) (v3 : Int32) (S : pS) (H : Heap) (locs : List Loc) (ls : Array Slot), wp_X4_isExtensible_L31 post k10 n v0 v1 v2 v3 S → WD E A s S H locs → lv_has ls 5 [(0, .ref v0), (1, .int v1), (2, .ref v2), (3, .int v3)] → W p l e rm_X4_isExtensible s m args below meth c H locs 0 0 (MQ below (QI E post A) args s rm_X4_isExtensible.cells rm_X4_isExtensible.slots A) (F0 m 31 ls []) := by
  have hx := F.1
  have hb := F.2.1
  intro n
  induction n with
  | zero =>
    intro v0 v1 v2 v3 S H locs ls h hW hl
    exact h.elim
  | succ n ih =>
    intro v0 v1 v2 v3 S H locs ls h hW hl
    unfold wp_X4_isExtensible_L31 at h
    refine lv_iload_n hx hb dX4_isExtensible_31 rfl (lv_at hl 3 rfl) ?_
    refine lv_aload_n hx hb dX4_isExtensible_32 rfl (lv_at hl 2 rfl) ?_
    obtain ⟨g19, h⟩ := h
    refine kp_calli (c1 := 0) (s1 := 0) F hW (kp_runV (As := []) (rest := [.int v3]) F hW (ct_Jx4a65c_size_8abf5 l E _ _ h) g19 cbJx4a65c rfl cf_Jx4a65c_size_8abf5 tw_161 rfl hl.1 ⟨by decide, by decide⟩ (Nat.le_of_ble_eq_true rfl) dX4_isExtensible_33 ⟨by decide, by decide⟩) (by decide) (by decide) (fun r17 S18 H locs h hW => ?_)
    refine lv_icmp_ge (tgt := 81) hx hb dX4_isExtensible_36 (by decide) (fun c20 => ?_) (fun c20 => ?_)
    · have h := h.1 c20
      refine lv_iinc (v := (v1 + (-1 : Int32))) (lv' := [(1, .int (v1 + (-1 : Int32))), (0, .ref v0), (2, .ref v2), (3, .int v3)]) hx hb dX4_isExtensible_81 hl (k := 1) rfl (by rfl) (by decide) rfl (fun ls hl => ?_)
      refine lv_goto (tgt := 10) hx hb dX4_isExtensible_84 (by decide) ?_
      exact hk10 _ _ _ _ _ _ h hW (lv_sub hl [1, 0] rfl)
    · have h := h.2 c20
      refine lv_aload_n hx hb dX4_isExtensible_39 rfl (lv_at hl 2 rfl) ?_
      refine lv_iload_n hx hb dX4_isExtensible_40 rfl (lv_at hl 3 rfl) ?_
      obtain ⟨g23, h⟩ := h
      refine kp_callr (c1 := 0) (s1 := 0) F hW (kp_runV (As := [.int v3]) (rest := []) F hW (ct_Jx4a65c_get_915e3 l E _ _ _ h) g23 cbJx4a65c rfl cf_Jx4a65c_get_915e3 tw_165 rfl hl.1 ⟨by decide, by decide⟩ (Nat.le_of_ble_eq_true rfl) dX4_isExtensible_41 ⟨by decide, by decide⟩) (by decide) (by decide) (fun r21 S22 H locs h hW => ?_)
      obtain ⟨g24, h⟩ := h
      refine kp_cast F hW g24 cbX0 tw_269 dX4_isExtensible_44 ?_
      refine lv_astore (lv' := [(4, .ref r21), (0, .ref v0), (1, .int v1), (2, .ref v2), (3, .int v3)]) hx hb dX4_isExtensible_47 hl (by decide) rfl (fun ls hl => ?_)
      refine lv_aload hx hb dX4_isExtensible_49 (lv_at hl 0 rfl) ?_
      refine lv_aload_n hx hb dX4_isExtensible_51 rfl (lv_at hl 1 rfl) ?_
      obtain ⟨g25, h⟩ := h
      obtain ⟨q26, p27, h⟩ := h
      refine kp_getp F hW g25 cbX4 1 rfl tw_180 (fun _ h9 => h9) dX4_isExtensible_52 p27 ?_
      refine kp_calli (c1 := 0) (s1 := 0) F hW (kp_runVN (As := [.ref q26]) (rest := []) F hW (ct_X0_isLongerThan l E _ _ _ h) g24 cbX0 rfl cf_X0_isLongerThan tw_355 rfl hl.1 ⟨by decide, by decide⟩ (Nat.le_of_ble_eq_true rfl) dX4_isExtensible_55 ⟨by decide, by decide⟩) (by decide) (by decide) (fun r28 S29 H locs h hW => ?_)
      refine lv_if_eq (tgt := 75) hx hb dX4_isExtensible_58 (by decide) (fun c30 => ?_) (fun c30 => ?_)
      · have h := h.1 c30
        refine lv_iinc (v := (v3 + 1)) (lv' := [(3, .int (v3 + 1)), (4, .ref r21), (0, .ref v0), (1, .int v1), (2, .ref v2)]) hx hb dX4_isExtensible_75 hl (k := 4) rfl (by rfl) (by decide) rfl (fun ls hl => ?_)
        refine lv_goto (tgt := 31) hx hb dX4_isExtensible_78 (by decide) ?_
        exact ih _ _ _ _ _ _ _ _ h hW (lv_sub hl [2, 3, 4, 0] rfl)
      · have h := h.2 c30
        refine lv_aload hx hb dX4_isExtensible_61 (lv_at hl 0 rfl) ?_
        refine lv_aload_n hx hb dX4_isExtensible_63 rfl (lv_at hl 1 rfl) ?_
        obtain ⟨g31, h⟩ := h
        obtain ⟨q32, p33, h⟩ := h
        refine kp_getp F hW g31 cbX4 6 rfl tw_185 (fun _ h9 => h9) dX4_isExtensible_64 p33 ?_
        obtain ⟨g36, h⟩ := h
        refine kp_calli (c1 := 0) (s1 := 0) F hW (kp_runVN (As := [.ref q32]) (rest := []) F hW (ct_X0_holds l E _ _ _ h) g36 cbX0 rfl cf_X0_holds tw_359 rfl hl.1 ⟨by decide, by decide⟩ (Nat.le_of_ble_eq_true rfl) dX4_isExtensible_67 ⟨by decide, by decide⟩) (by decide) (by decide) (fun r34 S35 H locs h hW => ?_)
        refine lv_if_eq (tgt := 75) hx hb dX4_isExtensible_70 (by decide) (fun c37 => ?_) (fun c37 => ?_)
        · have h := h.1 c37
          refine lv_iinc (v := (v3 + 1)) (lv' := [(3, .int (v3 + 1)), (4, .ref r21), (0, .ref v0), (1, .int v1), (2, .ref v2)]) hx hb dX4_isExtensible_75 hl (k := 4) rfl (by rfl) (by decide) rfl (fun ls hl => ?_)
          refine lv_goto (tgt := 31) hx hb dX4_isExtensible_78 (by decide) ?_
          exact ih _ _ _ _ _ _ _ _ h hW (lv_sub hl [2, 3, 4, 0] rfl)
        · have h := h.2 c37
          refine lv_iconst (v := 1) hx hb dX4_isExtensible_73 (by decide) ?_
          exact kp_retz F hW hr (Or.inr rfl) h (by decide) (by decide) dX4_isExtensible_74
set_option maxHeartbeats 4000000 in
set_option maxRecDepth 100000 in
theorem wk_X4_isExtensible_L10 {l : Launch} {p : Program} {e : Env} {s : State} {m : MethodId} {args : Array Value} {below : List Frame} {meth : Method} {c : Code} {A : Nat → Prop} {E : EV} {post : Int32 → pS → Prop} (F : FX p s m args meth c cX4_isExtensible 5 yX4_isExtensible.cls E A) (hr : meth.sig.returnType = (some .boolean)) :
    ∀ (n : Nat) (v0 : Nat) (v1 : Int32) (S : pS) (H : Heap) (locs : List Loc) (ls : Array Slot), wp_X4_isExtensible_L10 post n v0 v1 S → WD E A s S H locs → lv_has ls 5 [(0, .ref v0), (1, .int v1)] → W p l e rm_X4_isExtensible s m args below meth c H locs 0 0 (MQ below (QI E post A) args s rm_X4_isExtensible.cells rm_X4_isExtensible.slots A) (F0 m 10 ls []) := by
  have hx := F.1
  have hb := F.2.1
  intro n
  induction n with
  | zero =>
    intro v0 v1 S H locs ls h hW hl
    exact h.elim
  | succ n ih =>
    intro v0 v1 S H locs ls h hW hl
    unfold wp_X4_isExtensible_L10 at h
    refine lv_iload_n hx hb dX4_isExtensible_10 rfl (lv_at hl 1 rfl) ?_
    refine lv_if_lt (tgt := 87) hx hb dX4_isExtensible_11 (by decide) (fun c7 => ?_) (fun c7 => ?_)
    · have h := h.1 c7
      refine lv_iconst (v := 0) hx hb dX4_isExtensible_87 (by decide) ?_
      exact kp_retz F hW hr (Or.inl rfl) h (by decide) (by decide) dX4_isExtensible_88
    · have h := h.2 c7
      refine lv_aload_n hx hb dX4_isExtensible_14 rfl (lv_at hl 0 rfl) ?_
      obtain ⟨g8, h⟩ := h
      obtain ⟨q9, p10, h⟩ := h
      refine kp_getp F hW g8 cbX4 5 rfl tw_184 (fun _ h9 => h9) dX4_isExtensible_15 p10 ?_
      refine lv_iload_n hx hb dX4_isExtensible_18 rfl (lv_at hl 1 rfl) ?_
      obtain ⟨g13, h⟩ := h
      refine kp_callr (c1 := 0) (s1 := 0) F hW (kp_runV (As := [.int v1]) (rest := []) F hW (ct_Jx4a65c_get_915e3 l E _ _ _ h) g13 cbJx4a65c rfl cf_Jx4a65c_get_915e3 tw_165 rfl hl.1 ⟨by decide, by decide⟩ (Nat.le_of_ble_eq_true rfl) dX4_isExtensible_19 ⟨by decide, by decide⟩) (by decide) (by decide) (fun r11 S12 H locs h hW => ?_)
      obtain ⟨g14, h⟩ := h
      refine kp_cast F hW g14 cbX1 tw_119 dX4_isExtensible_22 ?_
      obtain ⟨q15, p16, h⟩ := h
      refine kp_getpN F hW g14 cbX1 1 rfl tw_130 (fun _ h9 => h9) dX4_isExtensible_25 p16 ?_
      refine lv_astore_n (lv' := [(2, .ref q15), (0, .ref v0), (1, .int v1)]) hx hb dX4_isExtensible_28 rfl hl (by decide) rfl (fun ls hl => ?_)
      refine lv_iconst (v := 0) hx hb dX4_isExtensible_29 (by decide) ?_
      refine lv_istore_n (lv' := [(3, .int (0 : Int32)), (2, .ref q15), (0, .ref v0), (1, .int v1)]) hx hb dX4_isExtensible_30 rfl hl (by decide) rfl (fun ls hl => ?_)
      obtain ⟨n9, h⟩ := h
      exact wk_X4_isExtensible_L31 F hr ih n9 _ _ _ _ _ _ _ _ h hW (lv_sub hl [2, 3, 1, 0] rfl)
set_option maxHeartbeats 4000000 in
set_option maxRecDepth 100000 in
theorem ct_X4_isExtensible (l : Launch) (E : EV) {post : Int32 → pS → Prop} (o : Nat) (S : pS) (h : wp_X4_isExtensible post o S) : CT l E yX4_isExtensible cX4_isExtensible 5 (some .boolean) rm_X4_isExtensible (QI E post) [.ref o] S := by
  refine ct_intro (by decide +kernel) (Nat.le_of_ble_eq_true rfl) ?_
  intro p e s m below meth c A ls F hW hr hnm hl
  have hx := F.1
  have hb := F.2.1
  unfold wp_X4_isExtensible at h
  have hl : lv_has ls 5 [(0, .ref o)] := hl
  refine lv_aload_n hx hb dX4_isExtensible_0 rfl (lv_at hl 0 rfl) ?_
  obtain ⟨g1, h⟩ := h
  obtain ⟨q2, p3, h⟩ := h
  refine kp_getp F hW g1 cbX4 5 rfl tw_184 (fun _ h9 => h9) dX4_isExtensible_1 p3 ?_
  obtain ⟨g6, h⟩ := h
  refine kp_calli (c1 := 0) (s1 := 0) F hW (kp_runV (As := []) (rest := []) F hW (ct_Jx4a65c_size_8abf5 l E _ _ h) g6 cbJx4a65c rfl cf_Jx4a65c_size_8abf5 tw_161 rfl hl.1 ⟨by decide, by decide⟩ (Nat.le_of_ble_eq_true rfl) dX4_isExtensible_4 ⟨by decide, by decide⟩) (by decide) (by decide) (fun r4 S5 H locs h hW => ?_)
  refine lv_iconst (v := 1) hx hb dX4_isExtensible_7 (by decide) ?_
  refine lv_isub hx hb dX4_isExtensible_8 ?_
  refine lv_istore_n (lv' := [(1, .int (r4 - (1 : Int32))), (0, .ref o)]) hx hb dX4_isExtensible_9 rfl hl (by decide) rfl (fun ls hl => ?_)
  obtain ⟨n9, h⟩ := h
  exact wk_X4_isExtensible_L10 F hr n9 _ _ _ _ _ _ h hW (lv_sub hl [1, 0] rfl)
def wp_X4_findBinding_L29 (post : Int32 → pS → Prop) (k10 : Nat → Int32 → Int32 → pS → Prop) : Nat → Nat → Int32 → Int32 → Nat → Int32 → pS → Prop
  | 0, _, _, _, _, _, _ => False
  | n + 1, v0, v1, v2, v3, v4, S =>
  (S.ok v3 1 ∧ ∃ q16, S.P v3 1 = some q16 ∧ S.ok q16 6 ∧ wp_Jx4a65c_size_8abf5 (fun r18 S19 => ((r18 ≤ v4 → k10 v0 v1 (v2 + (-1 : Int32)) S19) ∧ (¬ (r18 ≤ v4) → (S19.ok v3 1 ∧ ∃ q23, S19.P v3 1 = some q23 ∧ S19.ok q23 6 ∧ wp_Jx4a65c_get_915e3 (fun r25 S26 => (S26.ok r25 0 ∧ S26.ok v0 4 ∧ ∃ q30, S26.P v0 1 = some q30 ∧ wp_X0_isFor (fun r32 S33 => ((r32 = 0 → wp_X4_findBinding_L29 post k10 n v0 v1 v2 v3 (v4 + 1) S33) ∧ (¬ (r32 = 0) → (S33.ok v0 4 ∧ ∃ q36, S33.P v0 6 = some q36 ∧ S33.ok r25 0 ∧ wp_X0_holds (fun r38 S39 => ((r38 = 0 → wp_X4_findBinding_L29 post k10 n v0 v1 v2 v3 (v4 + 1) S39) ∧ (¬ (r38 = 0) → (S39.ok v3 1 ∧ post (((16 : Int32) * (S39.I v3 0)) + v4) S39)))) r25 q36 S33)))) r25 q30 v1 S26)) q23 v4 S19)))) q16 S)
def wp_X4_findBinding_L10 (post : Int32 → pS → Prop) : Nat → Nat → Int32 → Int32 → pS → Prop
  | 0, _, _, _, _ => False
  | n + 1, v0, v1, v2, S =>
  ((v2 < 0 → post (-4 : Int32) S) ∧ (¬ (v2 < 0) → (S.ok v0 4 ∧ ∃ q9, S.P v0 5 = some q9 ∧ S.ok q9 6 ∧ wp_Jx4a65c_get_915e3 (fun r11 S12 => (S12.ok r11 1 ∧ (∃ n29, wp_X4_findBinding_L29 post (wp_X4_findBinding_L10 post n) n29 v0 v1 v2 r11 (0 : Int32) S12))) q9 v2 S)))
def wp_X4_findBinding (post : Int32 → pS → Prop) (o : Nat) (a1 : Int32) (S : pS) : Prop :=
  (S.ok o 4 ∧ ∃ q2, S.P o 5 = some q2 ∧ S.ok q2 6 ∧ wp_Jx4a65c_size_8abf5 (fun r4 S5 => (∃ n10, wp_X4_findBinding_L10 post n10 o a1 (r4 - (1 : Int32)) S5)) q2 S)
def rm_X4_findBinding : Room := { frames := 3, cells := 0, slots := 0, locals := 64 }
set_option maxHeartbeats 4000000 in
set_option maxRecDepth 100000 in
theorem wk_X4_findBinding_L29 {l : Launch} {p : Program} {e : Env} {s : State} {m : MethodId} {args : Array Value} {below : List Frame} {meth : Method} {c : Code} {A : Nat → Prop} {E : EV} {post : Int32 → pS → Prop} {k10 : Nat → Int32 → Int32 → pS → Prop} (F : FX p s m args meth c cX4_findBinding 6 yX4_findBinding.cls E A) (hr : meth.sig.returnType = (some .int)) (hk10 : ∀ (v0 : Nat) (v1 : Int32) (v2 : Int32) (S : pS) (H : Heap) (locs : List Loc) (ls : Array Slot), k10 v0 v1 v2 S → WD E A s S H locs → lv_has ls 6 [(0, .ref v0), (1, .int v1), (2, .int v2)] → W p l e rm_X4_findBinding s m args below meth c H locs 0 0 (MQ below (QI E post A) args s rm_X4_findBinding.cells rm_X4_findBinding.slots A) (F0 m 10 ls [])) :
    ∀ (n : Nat) (v0 : Nat) (v1 : Int32) (v2 : Int32) (v3 : Nat) (v4 : Int32) (S : pS) (H : Heap) (locs : List Loc) (ls : Array Slot), wp_X4_findBinding_L29 post k10 n v0 v1 v2 v3 v4 S → WD E A s S H locs → lv_has ls 6 [(0, .ref v0), (1, .int v1), (2, .int v2), (3, .ref v3), (4, .int v4)] → W p l e rm_X4_findBinding s m args below meth c H locs 0 0 (MQ below (QI E post A) args s rm_X4_findBinding.cells rm_X4_findBinding.slots A) (F0 m 29 ls []) := by
  have hx := F.1
  have hb := F.2.1
  intro n
  induction n with
  | zero =>
    intro v0 v1 v2 v3 v4 S H locs ls h hW hl
    exact h.elim
  | succ n ih =>
    intro v0 v1 v2 v3 v4 S H locs ls h hW hl
    unfold wp_X4_findBinding_L29 at h
    refine lv_iload hx hb dX4_findBinding_29 (lv_at hl 4 rfl) ?_
    refine lv_aload_n hx hb dX4_findBinding_31 rfl (lv_at hl 3 rfl) ?_
    obtain ⟨g15, h⟩ := h
    obtain ⟨q16, p17, h⟩ := h
    refine kp_getpN F hW g15 cbX1 1 rfl tw_130 (fun _ h9 => h9) dX4_findBinding_32 p17 ?_
    obtain ⟨g20, h⟩ := h
    refine kp_calli (c1 := 0) (s1 := 0) F hW (kp_runV (As := []) (rest := [.int v4]) F hW (ct_Jx4a65c_size_8abf5 l E _ _ h) g20 cbJx4a65c rfl cf_Jx4a65c_size_8abf5 tw_161 rfl hl.1 ⟨by decide, by decide⟩ (Nat.le_of_ble_eq_true rfl) dX4_findBinding_35 ⟨by decide, by decide⟩) (by decide) (by decide) (fun r18 S19 H locs h hW => ?_)
    refine lv_icmp_ge (tgt := 97) hx hb dX4_findBinding_38 (by decide) (fun c21 => ?_) (fun c21 => ?_)
    · have h := h.1 c21
      refine lv_iinc (v := (v2 + (-1 : Int32))) (lv' := [(2, .int (v2 + (-1 : Int32))), (0, .ref v0), (1, .int v1), (3, .ref v3), (4, .int v4)]) hx hb dX4_findBinding_97 hl (k := 2) rfl (by rfl) (by decide) rfl (fun ls hl => ?_)
      refine lv_goto (tgt := 10) hx hb dX4_findBinding_100 (by decide) ?_
      exact hk10 _ _ _ _ _ _ _ h hW (lv_sub hl [1, 2, 0] rfl)
    · have h := h.2 c21
      refine lv_aload_n hx hb dX4_findBinding_41 rfl (lv_at hl 3 rfl) ?_
      obtain ⟨g22, h⟩ := h
      obtain ⟨q23, p24, h⟩ := h
      refine kp_getpN F hW g22 cbX1 1 rfl tw_130 (fun _ h9 => h9) dX4_findBinding_42 p24 ?_
      refine lv_iload hx hb dX4_findBinding_45 (lv_at hl 4 rfl) ?_
      obtain ⟨g27, h⟩ := h
      refine kp_callr (c1 := 0) (s1 := 0) F hW (kp_runV (As := [.int v4]) (rest := []) F hW (ct_Jx4a65c_get_915e3 l E _ _ _ h) g27 cbJx4a65c rfl cf_Jx4a65c_get_915e3 tw_165 rfl hl.1 ⟨by decide, by decide⟩ (Nat.le_of_ble_eq_true rfl) dX4_findBinding_47 ⟨by decide, by decide⟩) (by decide) (by decide) (fun r25 S26 H locs h hW => ?_)
      obtain ⟨g28, h⟩ := h
      refine kp_cast F hW g28 cbX0 tw_269 dX4_findBinding_50 ?_
      refine lv_astore (lv' := [(5, .ref r25), (0, .ref v0), (1, .int v1), (2, .int v2), (3, .ref v3), (4, .int v4)]) hx hb dX4_findBinding_53 hl (by decide) rfl (fun ls hl => ?_)
      refine lv_aload hx hb dX4_findBinding_55 (lv_at hl 0 rfl) ?_
      refine lv_aload_n hx hb dX4_findBinding_57 rfl (lv_at hl 1 rfl) ?_
      obtain ⟨g29, h⟩ := h
      obtain ⟨q30, p31, h⟩ := h
      refine kp_getp F hW g29 cbX4 1 rfl tw_180 (fun _ h9 => h9) dX4_findBinding_58 p31 ?_
      refine lv_iload_n hx hb dX4_findBinding_61 rfl (lv_at hl 2 rfl) ?_
      refine kp_calli (c1 := 0) (s1 := 0) F hW (kp_runVN (As := [.ref q30, .int v1]) (rest := []) F hW (ct_X0_isFor l E _ _ _ _ h) g28 cbX0 rfl cf_X0_isFor tw_371 rfl hl.1 ⟨by decide, by decide⟩ (Nat.le_of_ble_eq_true rfl) dX4_findBinding_62 ⟨by decide, by decide⟩) (by decide) (by decide) (fun r32 S33 H locs h hW => ?_)
      refine lv_if_eq (tgt := 91) hx hb dX4_findBinding_65 (by decide) (fun c34 => ?_) (fun c34 => ?_)
      · have h := h.1 c34
        refine lv_iinc (v := (v4 + 1)) (lv' := [(4, .int (v4 + 1)), (5, .ref r25), (0, .ref v0), (1, .int v1), (2, .int v2), (3, .ref v3)]) hx hb dX4_findBinding_91 hl (k := 5) rfl (by rfl) (by decide) rfl (fun ls hl => ?_)
        refine lv_goto (tgt := 29) hx hb dX4_findBinding_94 (by decide) ?_
        exact ih _ _ _ _ _ _ _ _ _ h hW (lv_sub hl [2, 3, 4, 5, 0] rfl)
      · have h := h.2 c34
        refine lv_aload hx hb dX4_findBinding_68 (lv_at hl 0 rfl) ?_
        refine lv_aload_n hx hb dX4_findBinding_70 rfl (lv_at hl 1 rfl) ?_
        obtain ⟨g35, h⟩ := h
        obtain ⟨q36, p37, h⟩ := h
        refine kp_getp F hW g35 cbX4 6 rfl tw_185 (fun _ h9 => h9) dX4_findBinding_71 p37 ?_
        obtain ⟨g40, h⟩ := h
        refine kp_calli (c1 := 0) (s1 := 0) F hW (kp_runVN (As := [.ref q36]) (rest := []) F hW (ct_X0_holds l E _ _ _ h) g40 cbX0 rfl cf_X0_holds tw_359 rfl hl.1 ⟨by decide, by decide⟩ (Nat.le_of_ble_eq_true rfl) dX4_findBinding_74 ⟨by decide, by decide⟩) (by decide) (by decide) (fun r38 S39 H locs h hW => ?_)
        refine lv_if_eq (tgt := 91) hx hb dX4_findBinding_77 (by decide) (fun c41 => ?_) (fun c41 => ?_)
        · have h := h.1 c41
          refine lv_iinc (v := (v4 + 1)) (lv' := [(4, .int (v4 + 1)), (5, .ref r25), (0, .ref v0), (1, .int v1), (2, .int v2), (3, .ref v3)]) hx hb dX4_findBinding_91 hl (k := 5) rfl (by rfl) (by decide) rfl (fun ls hl => ?_)
          refine lv_goto (tgt := 29) hx hb dX4_findBinding_94 (by decide) ?_
          exact ih _ _ _ _ _ _ _ _ _ h hW (lv_sub hl [2, 3, 4, 5, 0] rfl)
        · have h := h.2 c41
          refine lv_bipush (v := 16) hx hb dX4_findBinding_80 (by decide) ?_
          refine lv_aload_n hx hb dX4_findBinding_82 rfl (lv_at hl 4 rfl) ?_
          obtain ⟨g42, h⟩ := h
          refine kp_getiN F hW g42 cbX1 0 rfl tw_128 (fun _ h9 => h9) dX4_findBinding_83 ?_
          refine lv_imul hx hb dX4_findBinding_86 ?_
          refine lv_iload hx hb dX4_findBinding_87 (lv_at hl 5 rfl) ?_
          refine lv_iadd hx hb dX4_findBinding_89 ?_
          exact kp_reti F hW hr h (by decide) (by decide) dX4_findBinding_90
set_option maxHeartbeats 4000000 in
set_option maxRecDepth 100000 in
theorem wk_X4_findBinding_L10 {l : Launch} {p : Program} {e : Env} {s : State} {m : MethodId} {args : Array Value} {below : List Frame} {meth : Method} {c : Code} {A : Nat → Prop} {E : EV} {post : Int32 → pS → Prop} (F : FX p s m args meth c cX4_findBinding 6 yX4_findBinding.cls E A) (hr : meth.sig.returnType = (some .int)) :
    ∀ (n : Nat) (v0 : Nat) (v1 : Int32) (v2 : Int32) (S : pS) (H : Heap) (locs : List Loc) (ls : Array Slot), wp_X4_findBinding_L10 post n v0 v1 v2 S → WD E A s S H locs → lv_has ls 6 [(0, .ref v0), (1, .int v1), (2, .int v2)] → W p l e rm_X4_findBinding s m args below meth c H locs 0 0 (MQ below (QI E post A) args s rm_X4_findBinding.cells rm_X4_findBinding.slots A) (F0 m 10 ls []) := by
  have hx := F.1
  have hb := F.2.1
  intro n
  induction n with
  | zero =>
    intro v0 v1 v2 S H locs ls h hW hl
    exact h.elim
  | succ n ih =>
    intro v0 v1 v2 S H locs ls h hW hl
    unfold wp_X4_findBinding_L10 at h
    refine lv_iload_n hx hb dX4_findBinding_10 rfl (lv_at hl 2 rfl) ?_
    refine lv_if_lt (tgt := 103) hx hb dX4_findBinding_11 (by decide) (fun c7 => ?_) (fun c7 => ?_)
    · have h := h.1 c7
      refine lv_bipush (v := (-4)) hx hb dX4_findBinding_103 (by decide) ?_
      exact kp_reti F hW hr h (by decide) (by decide) dX4_findBinding_105
    · have h := h.2 c7
      refine lv_aload_n hx hb dX4_findBinding_14 rfl (lv_at hl 0 rfl) ?_
      obtain ⟨g8, h⟩ := h
      obtain ⟨q9, p10, h⟩ := h
      refine kp_getp F hW g8 cbX4 5 rfl tw_184 (fun _ h9 => h9) dX4_findBinding_15 p10 ?_
      refine lv_iload_n hx hb dX4_findBinding_18 rfl (lv_at hl 2 rfl) ?_
      obtain ⟨g13, h⟩ := h
      refine kp_callr (c1 := 0) (s1 := 0) F hW (kp_runV (As := [.int v2]) (rest := []) F hW (ct_Jx4a65c_get_915e3 l E _ _ _ h) g13 cbJx4a65c rfl cf_Jx4a65c_get_915e3 tw_165 rfl hl.1 ⟨by decide, by decide⟩ (Nat.le_of_ble_eq_true rfl) dX4_findBinding_19 ⟨by decide, by decide⟩) (by decide) (by decide) (fun r11 S12 H locs h hW => ?_)
      obtain ⟨g14, h⟩ := h
      refine kp_cast F hW g14 cbX1 tw_119 dX4_findBinding_22 ?_
      refine lv_astore_n (lv' := [(3, .ref r11), (0, .ref v0), (1, .int v1), (2, .int v2)]) hx hb dX4_findBinding_25 rfl hl (by decide) rfl (fun ls hl => ?_)
      refine lv_iconst (v := 0) hx hb dX4_findBinding_26 (by decide) ?_
      refine lv_istore (lv' := [(4, .int (0 : Int32)), (3, .ref r11), (0, .ref v0), (1, .int v1), (2, .int v2)]) hx hb dX4_findBinding_27 hl (by decide) rfl (fun ls hl => ?_)
      obtain ⟨n9, h⟩ := h
      exact wk_X4_findBinding_L29 F hr ih n9 _ _ _ _ _ _ _ _ _ h hW (lv_sub hl [2, 3, 4, 1, 0] rfl)
set_option maxHeartbeats 4000000 in
set_option maxRecDepth 100000 in
theorem ct_X4_findBinding (l : Launch) (E : EV) {post : Int32 → pS → Prop} (o : Nat) (a1 : Int32) (S : pS) (h : wp_X4_findBinding post o a1 S) : CT l E yX4_findBinding cX4_findBinding 6 (some .int) rm_X4_findBinding (QI E post) [.ref o, .int a1] S := by
  refine ct_intro (by decide +kernel) (Nat.le_of_ble_eq_true rfl) ?_
  intro p e s m below meth c A ls F hW hr hnm hl
  have hx := F.1
  have hb := F.2.1
  unfold wp_X4_findBinding at h
  have hl : lv_has ls 6 [(0, .ref o), (1, .int a1)] := hl
  refine lv_aload_n hx hb dX4_findBinding_0 rfl (lv_at hl 0 rfl) ?_
  obtain ⟨g1, h⟩ := h
  obtain ⟨q2, p3, h⟩ := h
  refine kp_getp F hW g1 cbX4 5 rfl tw_184 (fun _ h9 => h9) dX4_findBinding_1 p3 ?_
  obtain ⟨g6, h⟩ := h
  refine kp_calli (c1 := 0) (s1 := 0) F hW (kp_runV (As := []) (rest := []) F hW (ct_Jx4a65c_size_8abf5 l E _ _ h) g6 cbJx4a65c rfl cf_Jx4a65c_size_8abf5 tw_161 rfl hl.1 ⟨by decide, by decide⟩ (Nat.le_of_ble_eq_true rfl) dX4_findBinding_4 ⟨by decide, by decide⟩) (by decide) (by decide) (fun r4 S5 H locs h hW => ?_)
  refine lv_iconst (v := 1) hx hb dX4_findBinding_7 (by decide) ?_
  refine lv_isub hx hb dX4_findBinding_8 ?_
  refine lv_istore_n (lv' := [(2, .int (r4 - (1 : Int32))), (0, .ref o), (1, .int a1)]) hx hb dX4_findBinding_9 rfl hl (by decide) rfl (fun ls hl => ?_)
  obtain ⟨n9, h⟩ := h
  exact wk_X4_findBinding_L10 F hr n9 _ _ _ _ _ _ _ h hW (lv_sub hl [1, 2, 0] rfl)
def wp_X4_isRefused (post : Int32 → pS → Prop) (o : Nat) (a1 : Int32) (a2 : Int32) (S : pS) : Prop :=
  ((a1 = 1 → (S.ok o 4 ∧ ((a2 = (S.I o 10) → post (1 : Int32) S) ∧ (¬ (a2 = (S.I o 10)) → (((3 : Int32) ≤ (S.I o 11) → post (1 : Int32) S) ∧ (¬ ((3 : Int32) ≤ (S.I o 11)) → (((S.I o 12) < (20 : Int32) → post (0 : Int32) S) ∧ (¬ ((S.I o 12) < (20 : Int32)) → post (1 : Int32) S)))))))) ∧ (a1 = 2 → (S.ok o 4 ∧ ∃ q8, S.P o 5 = some q8 ∧ S.ok q8 6 ∧ wp_Jx4a65c_size_8abf5 (fun r10 S11 => ((r10 < (4 : Int32) → post (0 : Int32) S11) ∧ (¬ (r10 < (4 : Int32)) → post (1 : Int32) S11))) q8 S)) ∧ (a1 = 3 → (S.ok o 4 ∧ ∃ q16, S.P o 5 = some q16 ∧ S.ok q16 6 ∧ wp_Jx4a65c_size_8abf5 (fun r18 S19 => (((1 : Int32) < r18 → post (0 : Int32) S19) ∧ (¬ ((1 : Int32) < r18) → post (1 : Int32) S19))) q16 S)) ∧ (¬ a1 = 1 ∧ ¬ a1 = 2 ∧ ¬ a1 = 3 → post (0 : Int32) S))
def rm_X4_isRefused : Room := { frames := 1, cells := 0, slots := 0, locals := 20 }
set_option maxHeartbeats 4000000 in
set_option maxRecDepth 100000 in
theorem ct_X4_isRefused (l : Launch) (E : EV) {post : Int32 → pS → Prop} (o : Nat) (a1 : Int32) (a2 : Int32) (S : pS) (h : wp_X4_isRefused post o a1 a2 S) : CT l E yX4_isRefused cX4_isRefused 3 (some .boolean) rm_X4_isRefused (QI E post) [.ref o, .int a1, .int a2] S := by
  refine ct_intro (by decide +kernel) (Nat.le_of_ble_eq_true rfl) ?_
  intro p e s m below meth c A ls F hW hr hnm hl
  have hx := F.1
  have hb := F.2.1
  unfold wp_X4_isRefused at h
  have hl : lv_has ls 3 [(0, .ref o), (1, .int a1), (2, .int a2)] := hl
  refine lv_iload_n hx hb dX4_isRefused_0 rfl (lv_at hl 1 rfl) ?_
  by_cases c1 : a1 = 1
  · have h := h.1 c1
    refine kp_tab (v := 1) (off := 27) (tgt := 28) hx hb dX4_isRefused_1 c1 (by decide) (by decide) (by decide) (by decide) ?_
    refine lv_iload_n hx hb dX4_isRefused_28 rfl (lv_at hl 2 rfl) ?_
    refine lv_aload_n hx hb dX4_isRefused_29 rfl (lv_at hl 0 rfl) ?_
    obtain ⟨g2, h⟩ := h
    refine kp_geti F hW g2 cbX4 10 rfl tw_189 (fun _ h9 => h9) dX4_isRefused_30 ?_
    refine lv_icmp_eq (tgt := 53) hx hb dX4_isRefused_33 (by decide) (fun c3 => ?_) (fun c3 => ?_)
    · have h := h.1 c3
      refine lv_iconst (v := 1) hx hb dX4_isRefused_53 (by decide) ?_
      refine lv_goto (tgt := 58) hx hb dX4_isRefused_54 (by decide) ?_
      exact kp_retz F hW hr (Or.inr rfl) h (by decide) (by decide) dX4_isRefused_58
    · have h := h.2 c3
      refine lv_aload_n hx hb dX4_isRefused_36 rfl (lv_at hl 0 rfl) ?_
      refine kp_geti F hW g2 cbX4 11 rfl tw_190 (fun _ h9 => h9) dX4_isRefused_37 ?_
      refine lv_iconst (v := 3) hx hb dX4_isRefused_40 (by decide) ?_
      refine lv_icmp_ge (tgt := 53) hx hb dX4_isRefused_41 (by decide) (fun c4 => ?_) (fun c4 => ?_)
      · have h := h.1 c4
        refine lv_iconst (v := 1) hx hb dX4_isRefused_53 (by decide) ?_
        refine lv_goto (tgt := 58) hx hb dX4_isRefused_54 (by decide) ?_
        exact kp_retz F hW hr (Or.inr rfl) h (by decide) (by decide) dX4_isRefused_58
      · have h := h.2 c4
        refine lv_aload_n hx hb dX4_isRefused_44 rfl (lv_at hl 0 rfl) ?_
        refine kp_geti F hW g2 cbX4 12 rfl tw_191 (fun _ h9 => h9) dX4_isRefused_45 ?_
        refine lv_bipush (v := 20) hx hb dX4_isRefused_48 (by decide) ?_
        refine lv_icmp_lt (tgt := 57) hx hb dX4_isRefused_50 (by decide) (fun c5 => ?_) (fun c5 => ?_)
        · have h := h.1 c5
          refine lv_iconst (v := 0) hx hb dX4_isRefused_57 (by decide) ?_
          exact kp_retz F hW hr (Or.inl rfl) h (by decide) (by decide) dX4_isRefused_58
        · have h := h.2 c5
          refine lv_iconst (v := 1) hx hb dX4_isRefused_53 (by decide) ?_
          refine lv_goto (tgt := 58) hx hb dX4_isRefused_54 (by decide) ?_
          exact kp_retz F hW hr (Or.inr rfl) h (by decide) (by decide) dX4_isRefused_58
  by_cases c6 : a1 = 2
  · have h := h.2.1 c6
    refine kp_tab (v := 2) (off := 58) (tgt := 59) hx hb dX4_isRefused_1 c6 (by decide) (by decide) (by decide) (by decide) ?_
    refine lv_aload_n hx hb dX4_isRefused_59 rfl (lv_at hl 0 rfl) ?_
    obtain ⟨g7, h⟩ := h
    obtain ⟨q8, p9, h⟩ := h
    refine kp_getp F hW g7 cbX4 5 rfl tw_184 (fun _ h9 => h9) dX4_isRefused_60 p9 ?_
    obtain ⟨g12, h⟩ := h
    refine kp_calli (c1 := 0) (s1 := 0) F hW (kp_runV (As := []) (rest := []) F hW (ct_Jx4a65c_size_8abf5 l E _ _ h) g12 cbJx4a65c rfl cf_Jx4a65c_size_8abf5 tw_161 rfl hl.1 ⟨by decide, by decide⟩ (Nat.le_of_ble_eq_true rfl) dX4_isRefused_63 ⟨by decide, by decide⟩) (by decide) (by decide) (fun r10 S11 H locs h hW => ?_)
    refine lv_iconst (v := 4) hx hb dX4_isRefused_66 (by decide) ?_
    refine lv_icmp_lt (tgt := 74) hx hb dX4_isRefused_67 (by decide) (fun c13 => ?_) (fun c13 => ?_)
    · have h := h.1 c13
      refine lv_iconst (v := 0) hx hb dX4_isRefused_74 (by decide) ?_
      exact kp_retz F hW hr (Or.inl rfl) h (by decide) (by decide) dX4_isRefused_75
    · have h := h.2 c13
      refine lv_iconst (v := 1) hx hb dX4_isRefused_70 (by decide) ?_
      refine lv_goto (tgt := 75) hx hb dX4_isRefused_71 (by decide) ?_
      exact kp_retz F hW hr (Or.inr rfl) h (by decide) (by decide) dX4_isRefused_75
  by_cases c14 : a1 = 3
  · have h := h.2.2.1 c14
    refine kp_tab (v := 3) (off := 75) (tgt := 76) hx hb dX4_isRefused_1 c14 (by decide) (by decide) (by decide) (by decide) ?_
    refine lv_aload_n hx hb dX4_isRefused_76 rfl (lv_at hl 0 rfl) ?_
    obtain ⟨g15, h⟩ := h
    obtain ⟨q16, p17, h⟩ := h
    refine kp_getp F hW g15 cbX4 5 rfl tw_184 (fun _ h9 => h9) dX4_isRefused_77 p17 ?_
    obtain ⟨g20, h⟩ := h
    refine kp_calli (c1 := 0) (s1 := 0) F hW (kp_runV (As := []) (rest := []) F hW (ct_Jx4a65c_size_8abf5 l E _ _ h) g20 cbJx4a65c rfl cf_Jx4a65c_size_8abf5 tw_161 rfl hl.1 ⟨by decide, by decide⟩ (Nat.le_of_ble_eq_true rfl) dX4_isRefused_80 ⟨by decide, by decide⟩) (by decide) (by decide) (fun r18 S19 H locs h hW => ?_)
    refine lv_iconst (v := 1) hx hb dX4_isRefused_83 (by decide) ?_
    refine lv_icmp_gt (tgt := 91) hx hb dX4_isRefused_84 (by decide) (fun c21 => ?_) (fun c21 => ?_)
    · have h := h.1 c21
      refine lv_iconst (v := 0) hx hb dX4_isRefused_91 (by decide) ?_
      exact kp_retz F hW hr (Or.inl rfl) h (by decide) (by decide) dX4_isRefused_92
    · have h := h.2 c21
      refine lv_iconst (v := 1) hx hb dX4_isRefused_87 (by decide) ?_
      refine lv_goto (tgt := 92) hx hb dX4_isRefused_88 (by decide) ?_
      exact kp_retz F hW hr (Or.inr rfl) h (by decide) (by decide) dX4_isRefused_92
  have h := h.2.2.2 ⟨c1, c6, c14⟩
  refine kp_tabD (tgt := 93) hx hb dX4_isRefused_1 (kp_out_1_3 c1 c6 c14) (by decide) ?_
  refine lv_iconst (v := 0) hx hb dX4_isRefused_93 (by decide) ?_
  exact kp_retz F hW hr (Or.inl rfl) h (by decide) (by decide) dX4_isRefused_94
def wp_X4_play_L56 (post : pS → Prop) : Nat → Nat → Nat → Int32 → pS → Prop
  | 0, _, _, _, _ => False
  | n + 1, v0, v2, v3, S =>
  ((v3 < 0 → post S) ∧ (¬ (v3 < 0) → (S.ok v0 4 ∧ ∃ q26, S.P v0 2 = some q26 ∧ S.ok v2 3 ∧ wp_X3_at (fun r28 S29 => (S29.ok q26 3 ∧ wp_X3_add (fun S32 => wp_X4_play_L56 post n v0 v2 (v3 + (-1 : Int32)) S32) q26 r28 S29)) v2 v3 S)))
def wp_X4_play (post : pS → Prop) (o : Nat) (a1 : Int32) (S : pS) : Prop :=
  (S.ok o 4 ∧ wp_X4_isMacro (fun r1 S2 => ((r1 = 0 → post S2) ∧ (¬ (r1 = 0) → (S2.ok o 4 ∧ ∀ S6, S6 = S2.setI o 11 ((S2.I o 11) + (1 : Int32)) → ∀ S8, S8 = S6.setI o 12 ((S6.I o 12) + (1 : Int32)) → ∃ q10, S8.P o 2 = some q10 ∧ S8.ok q10 3 ∧ wp_X3_add (fun S13 => (S13.ok o 4 ∧ ∃ q16, S13.P o 3 = some q16 ∧ S13.ok q16 6 ∧ wp_Jx4a65c_get_915e3 (fun r18 S19 => (S19.ok r18 3 ∧ wp_X3_size (fun r22 S23 => (∃ n56, wp_X4_play_L56 post n56 o r18 (r22 - (1 : Int32)) S23)) r18 S19)) q16 a1 S13)) q10 (-1 : Int32) S8)))) o a1 S)
def rm_X4_play : Room := { frames := 3, cells := 0, slots := 0, locals := 64 }
set_option maxHeartbeats 4000000 in
set_option maxRecDepth 100000 in
theorem wk_X4_play_L56 {l : Launch} {p : Program} {e : Env} {s : State} {m : MethodId} {args : Array Value} {below : List Frame} {meth : Method} {c : Code} {A : Nat → Prop} {E : EV} {post : pS → Prop} (F : FX p s m args meth c cX4_play 4 yX4_play.cls E A) (hr : meth.sig.returnType = none) :
    ∀ (n : Nat) (v0 : Nat) (v2 : Nat) (v3 : Int32) (S : pS) (H : Heap) (locs : List Loc) (ls : Array Slot), wp_X4_play_L56 post n v0 v2 v3 S → WD E A s S H locs → lv_has ls 4 [(0, .ref v0), (2, .ref v2), (3, .int v3)] → W p l e rm_X4_play s m args below meth c H locs 0 0 (MQ below (QV E post A) args s rm_X4_play.cells rm_X4_play.slots A) (F0 m 56 ls []) := by
  have hx := F.1
  have hb := F.2.1
  intro n
  induction n with
  | zero =>
    intro v0 v2 v3 S H locs ls h hW hl
    exact h.elim
  | succ n ih =>
    intro v0 v2 v3 S H locs ls h hW hl
    unfold wp_X4_play_L56 at h
    refine lv_iload_n hx hb dX4_play_56 rfl (lv_at hl 2 rfl) ?_
    refine lv_if_lt (tgt := 78) hx hb dX4_play_57 (by decide) (fun c24 => ?_) (fun c24 => ?_)
    · have h := h.1 c24
      exact kp_retv F hW hr h (by decide) (by decide) dX4_play_78
    · have h := h.2 c24
      refine lv_aload_n hx hb dX4_play_60 rfl (lv_at hl 0 rfl) ?_
      obtain ⟨g25, h⟩ := h
      obtain ⟨q26, p27, h⟩ := h
      refine kp_getp F hW g25 cbX4 2 rfl tw_181 (fun _ h9 => h9) dX4_play_61 p27 ?_
      refine lv_aload_n hx hb dX4_play_64 rfl (lv_at hl 1 rfl) ?_
      refine lv_iload_n hx hb dX4_play_65 rfl (lv_at hl 2 rfl) ?_
      obtain ⟨g30, h⟩ := h
      refine kp_calli (c1 := 0) (s1 := 0) F hW (kp_runVN (As := [.int v3]) (rest := [.ref q26]) F hW (ct_X3_at l E _ _ _ h) g30 cbX3 rfl cf_X3_at tw_372 rfl hl.1 ⟨by decide, by decide⟩ (Nat.le_of_ble_eq_true rfl) dX4_play_66 ⟨by decide, by decide⟩) (by decide) (by decide) (fun r28 S29 H locs h hW => ?_)
      obtain ⟨g33, h⟩ := h
      refine kp_callv (c1 := 0) (s1 := 0) F hW (kp_runVN (As := [.int r28]) (rest := []) F hW (ct_X3_add l E _ _ _ h) g33 cbX3 rfl cf_X3_add tw_230 rfl hl.1 ⟨by decide, by decide⟩ (Nat.le_of_ble_eq_true rfl) dX4_play_69 ⟨by decide, by decide⟩) (by decide) (by decide) (fun S32 H locs h hW => ?_)
      refine lv_iinc (v := (v3 + (-1 : Int32))) (lv' := [(3, .int (v3 + (-1 : Int32))), (0, .ref v0), (2, .ref v2)]) hx hb dX4_play_72 hl (k := 2) rfl (by rfl) (by decide) rfl (fun ls hl => ?_)
      refine lv_goto (tgt := 56) hx hb dX4_play_75 (by decide) ?_
      exact ih _ _ _ _ _ _ _ h hW (lv_sub hl [1, 2, 0] rfl)
set_option maxHeartbeats 4000000 in
set_option maxRecDepth 100000 in
theorem ct_X4_play (l : Launch) (E : EV) {post : pS → Prop} (o : Nat) (a1 : Int32) (S : pS) (h : wp_X4_play post o a1 S) : CT l E yX4_play cX4_play 4 none rm_X4_play (QV E post) [.ref o, .int a1] S := by
  refine ct_intro (by decide +kernel) (Nat.le_of_ble_eq_true rfl) ?_
  intro p e s m below meth c A ls F hW hr hnm hl
  have hx := F.1
  have hb := F.2.1
  unfold wp_X4_play at h
  have hl : lv_has ls 4 [(0, .ref o), (1, .int a1)] := hl
  refine lv_aload_n hx hb dX4_play_0 rfl (lv_at hl 0 rfl) ?_
  refine lv_iload_n hx hb dX4_play_1 rfl (lv_at hl 1 rfl) ?_
  obtain ⟨g3, h⟩ := h
  refine kp_calli (c1 := 0) (s1 := 0) F hW (kp_runV (As := [.int a1]) (rest := []) F hW (ct_X4_isMacro l E _ _ _ h) g3 cbX4 rfl cf_X4_isMacro tw_265 rfl hl.1 ⟨by decide, by decide⟩ (Nat.le_of_ble_eq_true rfl) dX4_play_2 ⟨by decide, by decide⟩) (by decide) (by decide) (fun r1 S2 H locs h hW => ?_)
  refine lv_if_ne (tgt := 9) hx hb dX4_play_5 (by decide) (fun c4 => ?_) (fun c4 => ?_)
  · have h := h.2 c4
    refine lv_aload_n hx hb dX4_play_9 rfl (lv_at hl 0 rfl) ?_
    refine lv_dup hx hb dX4_play_10 rfl ?_
    obtain ⟨g5, h⟩ := h
    refine kp_geti F hW g5 cbX4 11 rfl tw_190 (fun _ h9 => h9) dX4_play_11 ?_
    refine lv_iconst (v := 1) hx hb dX4_play_14 (by decide) ?_
    refine lv_iadd hx hb dX4_play_15 ?_
    obtain ⟨S6, hS6⟩ : ∃ z, z = S2.setI o 11 ((S2.I o 11) + (1 : Int32)) := ⟨_, rfl⟩
    have h := h S6 hS6
    refine kp_puti F hW g5 cbX4 11 rfl tw_190 (fun _ h9 => h9) rfl rfl dX4_play_16 (fun H locs hW => ?_)
    rw [← hS6] at hW
    refine lv_aload_n hx hb dX4_play_19 rfl (lv_at hl 0 rfl) ?_
    refine lv_dup hx hb dX4_play_20 rfl ?_
    have g7 : S6.ok o 4 := by rw [hS6]; exact g5
    refine kp_geti F hW g7 cbX4 12 rfl tw_191 (fun _ h9 => h9) dX4_play_21 ?_
    refine lv_iconst (v := 1) hx hb dX4_play_24 (by decide) ?_
    refine lv_iadd hx hb dX4_play_25 ?_
    obtain ⟨S8, hS8⟩ : ∃ z, z = S6.setI o 12 ((S6.I o 12) + (1 : Int32)) := ⟨_, rfl⟩
    have h := h S8 hS8
    refine kp_puti F hW g7 cbX4 12 rfl tw_191 (fun _ h9 => h9) rfl rfl dX4_play_26 (fun H locs hW => ?_)
    rw [← hS8] at hW
    refine lv_aload_n hx hb dX4_play_29 rfl (lv_at hl 0 rfl) ?_
    have g9 : S8.ok o 4 := by rw [hS8]; exact g7
    obtain ⟨q10, p11, h⟩ := h
    refine kp_getp F hW g9 cbX4 2 rfl tw_181 (fun _ h9 => h9) dX4_play_30 p11 ?_
    refine lv_iconst (v := (-1)) hx hb dX4_play_33 (by decide) ?_
    obtain ⟨g14, h⟩ := h
    refine kp_callv (c1 := 0) (s1 := 0) F hW (kp_runVN (As := [.int (-1 : Int32)]) (rest := []) F hW (ct_X3_add l E _ _ _ h) g14 cbX3 rfl cf_X3_add tw_230 rfl hl.1 ⟨by decide, by decide⟩ (Nat.le_of_ble_eq_true rfl) dX4_play_34 ⟨by decide, by decide⟩) (by decide) (by decide) (fun S13 H locs h hW => ?_)
    refine lv_aload_n hx hb dX4_play_37 rfl (lv_at hl 0 rfl) ?_
    obtain ⟨g15, h⟩ := h
    obtain ⟨q16, p17, h⟩ := h
    refine kp_getp F hW g15 cbX4 3 rfl tw_182 (fun _ h9 => h9) dX4_play_38 p17 ?_
    refine lv_iload_n hx hb dX4_play_41 rfl (lv_at hl 1 rfl) ?_
    obtain ⟨g20, h⟩ := h
    refine kp_callr (c1 := 0) (s1 := 0) F hW (kp_runV (As := [.int a1]) (rest := []) F hW (ct_Jx4a65c_get_915e3 l E _ _ _ h) g20 cbJx4a65c rfl cf_Jx4a65c_get_915e3 tw_165 rfl hl.1 ⟨by decide, by decide⟩ (Nat.le_of_ble_eq_true rfl) dX4_play_42 ⟨by decide, by decide⟩) (by decide) (by decide) (fun r18 S19 H locs h hW => ?_)
    obtain ⟨g21, h⟩ := h
    refine kp_cast F hW g21 cbX3 tw_24 dX4_play_45 ?_
    refine lv_astore_n (lv' := [(2, .ref r18), (0, .ref o), (1, .int a1)]) hx hb dX4_play_48 rfl hl (by decide) rfl (fun ls hl => ?_)
    refine lv_aload_n hx hb dX4_play_49 rfl (lv_at hl 0 rfl) ?_
    refine kp_calli (c1 := 0) (s1 := 0) F hW (kp_runVN (As := []) (rest := []) F hW (ct_X3_size l E _ _ h) g21 cbX3 rfl cf_X3_size tw_234 rfl hl.1 ⟨by decide, by decide⟩ (Nat.le_of_ble_eq_true rfl) dX4_play_50 ⟨by decide, by decide⟩) (by decide) (by decide) (fun r22 S23 H locs h hW => ?_)
    refine lv_iconst (v := 1) hx hb dX4_play_53 (by decide) ?_
    refine lv_isub hx hb dX4_play_54 ?_
    refine lv_istore_n (lv' := [(3, .int (r22 - (1 : Int32))), (2, .ref r18), (0, .ref o), (1, .int a1)]) hx hb dX4_play_55 rfl hl (by decide) rfl (fun ls hl => ?_)
    obtain ⟨n9, h⟩ := h
    exact wk_X4_play_L56 F hr n9 _ _ _ _ _ _ _ h hW (lv_sub hl [2, 1, 0] rfl)
  · have h := h.1 c4
    exact kp_retv F hW hr h (by decide) (by decide) dX4_play_8
def wp_X4_pushContext_ng (post : pS → Prop) (e0 : Nat) (o : Nat) (a1 : Int32) (S : pS) : Prop :=
  (S.ok o 4 ∧ wp_X4_isContext (fun r1 S2 => ((r1 = 0 → post S2) ∧ (¬ (r1 = 0) → (S2.ok o 4 ∧ ∃ q6, S2.P o 5 = some q6 ∧ ∃ q8, S2.P o 4 = some q8 ∧ S2.ok q8 6 ∧ wp_Jx4a65c_get_915e3 (fun r10 S11 => (S11.ok r10 1 ∧ S11.ok q6 6 ∧ wp_Jx4a65c_add_9ea2d_ng (fun r14 S15 => post S15) e0 q6 r10 S11)) q8 a1 S2)))) o a1 S)
def rm_X4_pushContext_ng : Room := { frames := 3, cells := 0, slots := 0, locals := 64 }
set_option maxHeartbeats 4000000 in
set_option maxRecDepth 100000 in
theorem ct_X4_pushContext_ng (l : Launch) (E : EV) {post : pS → Prop} (o : Nat) (a1 : Int32) (S : pS) (h : wp_X4_pushContext_ng post E.e0 o a1 S) : CT l E yX4_pushContext cX4_pushContext 2 none rm_X4_pushContext_ng (QV E post) [.ref o, .int a1] S := by
  refine ct_intro (by decide +kernel) (Nat.le_of_ble_eq_true rfl) ?_
  intro p e s m below meth c A ls F hW hr hnm hl
  have hx := F.1
  have hb := F.2.1
  unfold wp_X4_pushContext_ng at h
  have hl : lv_has ls 2 [(0, .ref o), (1, .int a1)] := hl
  refine lv_aload_n hx hb dX4_pushContext_0 rfl (lv_at hl 0 rfl) ?_
  refine lv_iload_n hx hb dX4_pushContext_1 rfl (lv_at hl 1 rfl) ?_
  obtain ⟨g3, h⟩ := h
  refine kp_calli (c1 := 0) (s1 := 0) F hW (kp_runV (As := [.int a1]) (rest := []) F hW (ct_X4_isContext l E _ _ _ h) g3 cbX4 rfl cf_X4_isContext tw_157 rfl hl.1 ⟨by decide, by decide⟩ (Nat.le_of_ble_eq_true rfl) dX4_pushContext_2 ⟨by decide, by decide⟩) (by decide) (by decide) (fun r1 S2 H locs h hW => ?_)
  refine lv_if_eq (tgt := 27) hx hb dX4_pushContext_5 (by decide) (fun c4 => ?_) (fun c4 => ?_)
  · have h := h.1 c4
    exact kp_retv F hW hr h (by decide) (by decide) dX4_pushContext_27
  · have h := h.2 c4
    refine lv_aload_n hx hb dX4_pushContext_8 rfl (lv_at hl 0 rfl) ?_
    obtain ⟨g5, h⟩ := h
    obtain ⟨q6, p7, h⟩ := h
    refine kp_getp F hW g5 cbX4 5 rfl tw_184 (fun _ h9 => h9) dX4_pushContext_9 p7 ?_
    refine lv_aload_n hx hb dX4_pushContext_12 rfl (lv_at hl 0 rfl) ?_
    obtain ⟨q8, p9, h⟩ := h
    refine kp_getp F hW g5 cbX4 4 rfl tw_183 (fun _ h9 => h9) dX4_pushContext_13 p9 ?_
    refine lv_iload_n hx hb dX4_pushContext_16 rfl (lv_at hl 1 rfl) ?_
    obtain ⟨g12, h⟩ := h
    refine kp_callr (c1 := 0) (s1 := 0) F hW (kp_runV (As := [.int a1]) (rest := [.ref q6]) F hW (ct_Jx4a65c_get_915e3 l E _ _ _ h) g12 cbJx4a65c rfl cf_Jx4a65c_get_915e3 tw_165 rfl hl.1 ⟨by decide, by decide⟩ (Nat.le_of_ble_eq_true rfl) dX4_pushContext_17 ⟨by decide, by decide⟩) (by decide) (by decide) (fun r10 S11 H locs h hW => ?_)
    obtain ⟨g13, h⟩ := h
    refine kp_cast F hW g13 cbX1 tw_119 dX4_pushContext_20 ?_
    obtain ⟨g16, h⟩ := h
    refine kp_calli (c1 := 0) (s1 := 0) F hW (kp_runV (As := [.ref r10]) (rest := []) F hW (ct_Jx4a65c_add_9ea2d_ng l E _ _ _ h) g16 cbJx4a65c rfl cf_Jx4a65c_add_9ea2d tw_67 rfl hl.1 ⟨by decide, by decide⟩ (Nat.le_of_ble_eq_true rfl) dX4_pushContext_23 ⟨by decide, by decide⟩) (by decide) (by decide) (fun r14 S15 H locs h hW => ?_)
    refine lv_pop hx hb dX4_pushContext_26 rfl ?_
    exact kp_retv F hW hr h (by decide) (by decide) dX4_pushContext_27
def wp_X4_popContext (post : pS → Prop) (o : Nat) (S : pS) : Prop :=
  (S.ok o 4 ∧ ∃ q2, S.P o 5 = some q2 ∧ S.ok q2 6 ∧ wp_Jx4a65c_size_8abf5 (fun r4 S5 => ((r4 ≤ (1 : Int32) → post S5) ∧ (¬ (r4 ≤ (1 : Int32)) → (S5.ok o 4 ∧ ∃ q9, S5.P o 5 = some q9 ∧ S5.ok q9 6 ∧ wp_Jx4a65c_size_8abf5 (fun r11 S12 => (S12.ok q9 6 ∧ wp_Jx4a65c_remove_915e3 (fun r14 S15 => post S15) q9 (r11 - (1 : Int32)) S12)) q9 S5)))) q2 S)
def rm_X4_popContext : Room := { frames := 3, cells := 0, slots := 0, locals := 106 }
set_option maxHeartbeats 4000000 in
set_option maxRecDepth 100000 in
theorem ct_X4_popContext (l : Launch) (E : EV) {post : pS → Prop} (o : Nat) (S : pS) (h : wp_X4_popContext post o S) : CT l E yX4_popContext cX4_popContext 1 none rm_X4_popContext (QV E post) [.ref o] S := by
  refine ct_intro (by decide +kernel) (Nat.le_of_ble_eq_true rfl) ?_
  intro p e s m below meth c A ls F hW hr hnm hl
  have hx := F.1
  have hb := F.2.1
  unfold wp_X4_popContext at h
  have hl : lv_has ls 1 [(0, .ref o)] := hl
  refine lv_aload_n hx hb dX4_popContext_0 rfl (lv_at hl 0 rfl) ?_
  obtain ⟨g1, h⟩ := h
  obtain ⟨q2, p3, h⟩ := h
  refine kp_getp F hW g1 cbX4 5 rfl tw_184 (fun _ h9 => h9) dX4_popContext_1 p3 ?_
  obtain ⟨g6, h⟩ := h
  refine kp_calli (c1 := 0) (s1 := 0) F hW (kp_runV (As := []) (rest := []) F hW (ct_Jx4a65c_size_8abf5 l E _ _ h) g6 cbJx4a65c rfl cf_Jx4a65c_size_8abf5 tw_161 rfl hl.1 ⟨by decide, by decide⟩ (Nat.le_of_ble_eq_true rfl) dX4_popContext_4 ⟨by decide, by decide⟩) (by decide) (by decide) (fun r4 S5 H locs h hW => ?_)
  refine lv_iconst (v := 1) hx hb dX4_popContext_7 (by decide) ?_
  refine lv_icmp_le (tgt := 28) hx hb dX4_popContext_8 (by decide) (fun c7 => ?_) (fun c7 => ?_)
  · have h := h.1 c7
    exact kp_retv F hW hr h (by decide) (by decide) dX4_popContext_28
  · have h := h.2 c7
    refine lv_aload_n hx hb dX4_popContext_11 rfl (lv_at hl 0 rfl) ?_
    obtain ⟨g8, h⟩ := h
    obtain ⟨q9, p10, h⟩ := h
    refine kp_getp F hW g8 cbX4 5 rfl tw_184 (fun _ h9 => h9) dX4_popContext_12 p10 ?_
    refine lv_aload_n hx hb dX4_popContext_15 rfl (lv_at hl 0 rfl) ?_
    refine kp_getp F hW g8 cbX4 5 rfl tw_184 (fun _ h9 => h9) dX4_popContext_16 p10 ?_
    obtain ⟨g13, h⟩ := h
    refine kp_calli (c1 := 0) (s1 := 0) F hW (kp_runV (As := []) (rest := [.ref q9]) F hW (ct_Jx4a65c_size_8abf5 l E _ _ h) g13 cbJx4a65c rfl cf_Jx4a65c_size_8abf5 tw_161 rfl hl.1 ⟨by decide, by decide⟩ (Nat.le_of_ble_eq_true rfl) dX4_popContext_19 ⟨by decide, by decide⟩) (by decide) (by decide) (fun r11 S12 H locs h hW => ?_)
    refine lv_iconst (v := 1) hx hb dX4_popContext_22 (by decide) ?_
    refine lv_isub hx hb dX4_popContext_23 ?_
    obtain ⟨g16, h⟩ := h
    refine kp_callr (c1 := 0) (s1 := 0) F hW (kp_runV (As := [.int (r11 - (1 : Int32))]) (rest := []) F hW (ct_Jx4a65c_remove_915e3 l E _ _ _ h) g16 cbJx4a65c rfl cf_Jx4a65c_remove_915e3 tw_308 rfl hl.1 ⟨by decide, by decide⟩ (Nat.le_of_ble_eq_true rfl) dX4_popContext_24 ⟨by decide, by decide⟩) (by decide) (by decide) (fun r14 S15 H locs h hW => ?_)
    refine lv_pop hx hb dX4_popContext_27 rfl ?_
    exact kp_retv F hW hr h (by decide) (by decide) dX4_popContext_28
def wp_X4_setFlag (post : Int32 → pS → Prop) (o : Nat) (a1 : Int32) (a2 : Int32) (S : pS) : Prop :=
  (S.ok o 4 ∧ wp_X4_isFlag (fun r1 S2 => ((r1 = 0 → post (-1 : Int32) S2) ∧ (¬ (r1 = 0) → (wp_X4_isBetween (fun r5 S6 => ((r5 = 0 → post (-1 : Int32) S6) ∧ (¬ (r5 = 0) → (S6.ok o 4 ∧ ∃ q9, S6.P o 6 = some q9 ∧ S6.ok q9 7 ∧ vp_in a1 (S6.n q9) ∧ vp_in a1 (S6.n q9) ∧ ∀ S14, S14 = S6.setI q9 a1.toNatClampNeg a2 → post (S6.I q9 a1.toNatClampNeg) S14)))) a2 (0 : Int32) (1 : Int32) S2)))) o a1 S)
def rm_X4_setFlag : Room := { frames := 1, cells := 0, slots := 0, locals := 22 }
set_option maxHeartbeats 4000000 in
set_option maxRecDepth 100000 in
theorem ct_X4_setFlag (l : Launch) (E : EV) {post : Int32 → pS → Prop} (o : Nat) (a1 : Int32) (a2 : Int32) (S : pS) (h : wp_X4_setFlag post o a1 a2 S) : CT l E yX4_setFlag cX4_setFlag 4 (some .int) rm_X4_setFlag (QI E post) [.ref o, .int a1, .int a2] S := by
  refine ct_intro (by decide +kernel) (Nat.le_of_ble_eq_true rfl) ?_
  intro p e s m below meth c A ls F hW hr hnm hl
  have hx := F.1
  have hb := F.2.1
  unfold wp_X4_setFlag at h
  have hl : lv_has ls 4 [(0, .ref o), (1, .int a1), (2, .int a2)] := hl
  refine lv_aload_n hx hb dX4_setFlag_0 rfl (lv_at hl 0 rfl) ?_
  refine lv_iload_n hx hb dX4_setFlag_1 rfl (lv_at hl 1 rfl) ?_
  obtain ⟨g3, h⟩ := h
  refine kp_calli (c1 := 0) (s1 := 0) F hW (kp_runV (As := [.int a1]) (rest := []) F hW (ct_X4_isFlag l E _ _ _ h) g3 cbX4 rfl cf_X4_isFlag tw_254 rfl hl.1 ⟨by decide, by decide⟩ (Nat.le_of_ble_eq_true rfl) dX4_setFlag_2 ⟨by decide, by decide⟩) (by decide) (by decide) (fun r1 S2 H locs h hW => ?_)
  refine lv_if_eq (tgt := 17) hx hb dX4_setFlag_5 (by decide) (fun c4 => ?_) (fun c4 => ?_)
  · have h := h.1 c4
    refine lv_iconst (v := (-1)) hx hb dX4_setFlag_17 (by decide) ?_
    exact kp_reti F hW hr h (by decide) (by decide) dX4_setFlag_18
  · have h := h.2 c4
    refine lv_iload_n hx hb dX4_setFlag_8 rfl (lv_at hl 2 rfl) ?_
    refine lv_iconst (v := 0) hx hb dX4_setFlag_9 (by decide) ?_
    refine lv_iconst (v := 1) hx hb dX4_setFlag_10 (by decide) ?_
    refine kp_calli (c1 := 0) (s1 := 0) F hW (kp_runS (As := [.int a2, .int (0 : Int32), .int (1 : Int32)]) (rest := []) F hW (ct_X4_isBetween l E _ _ _ _ h) cf_X4_isBetween tw_258 rfl hl.1 ⟨by decide, by decide⟩ (Nat.le_of_ble_eq_true rfl) dX4_setFlag_11 ⟨by decide, by decide⟩) (by decide) (by decide) (fun r5 S6 H locs h hW => ?_)
    refine lv_if_ne (tgt := 19) hx hb dX4_setFlag_14 (by decide) (fun c7 => ?_) (fun c7 => ?_)
    · have h := h.2 c7
      refine lv_aload_n hx hb dX4_setFlag_19 rfl (lv_at hl 0 rfl) ?_
      obtain ⟨g8, h⟩ := h
      obtain ⟨q9, p10, h⟩ := h
      refine kp_getp F hW g8 cbX4 6 rfl tw_185 (fun _ h9 => h9) dX4_setFlag_20 p10 ?_
      refine lv_iload_n hx hb dX4_setFlag_23 rfl (lv_at hl 1 rfl) ?_
      obtain ⟨g11, h⟩ := h
      obtain ⟨b12, h⟩ := h
      refine kp_iald F hW g11 b12 dX4_setFlag_24 ?_
      refine lv_istore_n (lv' := [(3, .int (S6.I q9 a1.toNatClampNeg)), (0, .ref o), (1, .int a1), (2, .int a2)]) hx hb dX4_setFlag_25 rfl hl (by decide) rfl (fun ls hl => ?_)
      refine lv_aload_n hx hb dX4_setFlag_26 rfl (lv_at hl 1 rfl) ?_
      refine kp_getp F hW g8 cbX4 6 rfl tw_185 (fun _ h9 => h9) dX4_setFlag_27 p10 ?_
      refine lv_iload_n hx hb dX4_setFlag_30 rfl (lv_at hl 2 rfl) ?_
      refine lv_iload_n hx hb dX4_setFlag_31 rfl (lv_at hl 3 rfl) ?_
      obtain ⟨b13, h⟩ := h
      obtain ⟨S14, hS14⟩ : ∃ z, z = S6.setI q9 a1.toNatClampNeg a2 := ⟨_, rfl⟩
      have h := h S14 hS14
      refine kp_iast F hW g11 b13 dX4_setFlag_32 (fun H locs hW => ?_)
      rw [← hS14] at hW
      refine lv_iload_n hx hb dX4_setFlag_33 rfl (lv_at hl 0 rfl) ?_
      exact kp_reti F hW hr h (by decide) (by decide) dX4_setFlag_34
    · have h := h.1 c7
      refine lv_iconst (v := (-1)) hx hb dX4_setFlag_17 (by decide) ?_
      exact kp_reti F hW hr h (by decide) (by decide) dX4_setFlag_18
def wp_X4_perform (post : pS → Prop) (e0 : Nat) (o : Nat) (a1 : Int32) (a2 : Int32) (S : pS) : Prop :=
  (S.ok o 4 ∧ wp_X4_isBinding (fun r1 S2 => ((r1 = 0 → post S2) ∧ (¬ (r1 = 0) → (S2.ok o 4 ∧ ∃ q6, S2.P o 4 = some q6 ∧ S2.ok q6 6 ∧ wp_Jx4a65c_get_915e3 (fun r8 S9 => (S9.ok r8 1 ∧ ∃ q12, S9.P r8 1 = some q12 ∧ S9.ok q12 6 ∧ wp_Jx4a65c_get_915e3 (fun r14 S15 => (S15.ok r14 0 ∧ S15.ok o 4 ∧ wp_X4_isRefused (fun r18 S19 => ((r18 = 0 → (S19.ok r14 0 ∧ (((S19.I r14 3) = 0 → (S19.ok o 4 ∧ ∃ q25, S19.P o 7 = some q25 ∧ S19.ok q25 2 ∧ wp_X2_add (fun S28 => post S28) q25 (0 : Int32) (S15.I r14 4) S19)) ∧ ((S19.I r14 3) = 1 → (S19.ok o 4 ∧ wp_X4_play (fun S32 => post S32) o (S15.I r14 4) S19)) ∧ ((S19.I r14 3) = 2 → (S19.ok o 4 ∧ wp_X4_pushContext_ng (fun S36 => post S36) e0 o (S15.I r14 4) S19)) ∧ ((S19.I r14 3) = 3 → (S19.ok o 4 ∧ wp_X4_popContext (fun S40 => post S40) o S19)) ∧ ((S19.I r14 3) = 4 → (S19.ok o 4 ∧ wp_X4_setFlag (fun r43 S44 => post S44) o (S15.I r14 4) (1 : Int32) S19)) ∧ ((S19.I r14 3) = 5 → (S19.ok o 4 ∧ wp_X4_setFlag (fun r47 S48 => post S48) o (S15.I r14 4) (0 : Int32) S19)) ∧ (¬ (S19.I r14 3) = 0 ∧ ¬ (S19.I r14 3) = 1 ∧ ¬ (S19.I r14 3) = 2 ∧ ¬ (S19.I r14 3) = 3 ∧ ¬ (S19.I r14 3) = 4 ∧ ¬ (S19.I r14 3) = 5 → post S19)))) ∧ (¬ (r18 = 0) → (S19.ok o 4 ∧ ∃ q51, S19.P o 7 = some q51 ∧ S19.ok q51 2 ∧ wp_X2_add (fun S54 => post S54) q51 (2 : Int32) (S15.I r14 4) S19)))) o (S15.I r14 3) (S15.I r14 4) S15)) q12 a2 S9)) q6 a1 S2)))) o a1 a2 S)
def rm_X4_perform : Room := { frames := 4, cells := 0, slots := 0, locals := 126 }
set_option maxHeartbeats 4000000 in
set_option maxRecDepth 100000 in
theorem ct_X4_perform (l : Launch) (E : EV) {post : pS → Prop} (o : Nat) (a1 : Int32) (a2 : Int32) (S : pS) (h : wp_X4_perform post E.e0 o a1 a2 S) : CT l E yX4_perform cX4_perform 5 none rm_X4_perform (QV E post) [.ref o, .int a1, .int a2] S := by
  refine ct_intro (by decide +kernel) (Nat.le_of_ble_eq_true rfl) ?_
  intro p e s m below meth c A ls F hW hr hnm hl
  have hx := F.1
  have hb := F.2.1
  unfold wp_X4_perform at h
  have hl : lv_has ls 5 [(0, .ref o), (1, .int a1), (2, .int a2)] := hl
  refine lv_aload_n hx hb dX4_perform_0 rfl (lv_at hl 0 rfl) ?_
  refine lv_iload_n hx hb dX4_perform_1 rfl (lv_at hl 1 rfl) ?_
  refine lv_iload_n hx hb dX4_perform_2 rfl (lv_at hl 2 rfl) ?_
  obtain ⟨g3, h⟩ := h
  refine kp_calli (c1 := 0) (s1 := 0) F hW (kp_runV (As := [.int a1, .int a2]) (rest := []) F hW (ct_X4_isBinding l E _ _ _ _ h) g3 cbX4 rfl cf_X4_isBinding tw_304 rfl hl.1 ⟨by decide, by decide⟩ (Nat.le_of_ble_eq_true rfl) dX4_perform_3 ⟨by decide, by decide⟩) (by decide) (by decide) (fun r1 S2 H locs h hW => ?_)
  refine lv_if_ne (tgt := 10) hx hb dX4_perform_6 (by decide) (fun c4 => ?_) (fun c4 => ?_)
  · have h := h.2 c4
    refine lv_aload_n hx hb dX4_perform_10 rfl (lv_at hl 0 rfl) ?_
    obtain ⟨g5, h⟩ := h
    obtain ⟨q6, p7, h⟩ := h
    refine kp_getp F hW g5 cbX4 4 rfl tw_183 (fun _ h9 => h9) dX4_perform_11 p7 ?_
    refine lv_iload_n hx hb dX4_perform_14 rfl (lv_at hl 1 rfl) ?_
    obtain ⟨g10, h⟩ := h
    refine kp_callr (c1 := 0) (s1 := 0) F hW (kp_runV (As := [.int a1]) (rest := []) F hW (ct_Jx4a65c_get_915e3 l E _ _ _ h) g10 cbJx4a65c rfl cf_Jx4a65c_get_915e3 tw_165 rfl hl.1 ⟨by decide, by decide⟩ (Nat.le_of_ble_eq_true rfl) dX4_perform_15 ⟨by decide, by decide⟩) (by decide) (by decide) (fun r8 S9 H locs h hW => ?_)
    obtain ⟨g11, h⟩ := h
    refine kp_cast F hW g11 cbX1 tw_119 dX4_perform_18 ?_
    obtain ⟨q12, p13, h⟩ := h
    refine kp_getpN F hW g11 cbX1 1 rfl tw_130 (fun _ h9 => h9) dX4_perform_21 p13 ?_
    refine lv_iload_n hx hb dX4_perform_24 rfl (lv_at hl 2 rfl) ?_
    obtain ⟨g16, h⟩ := h
    refine kp_callr (c1 := 0) (s1 := 0) F hW (kp_runV (As := [.int a2]) (rest := []) F hW (ct_Jx4a65c_get_915e3 l E _ _ _ h) g16 cbJx4a65c rfl cf_Jx4a65c_get_915e3 tw_165 rfl hl.1 ⟨by decide, by decide⟩ (Nat.le_of_ble_eq_true rfl) dX4_perform_25 ⟨by decide, by decide⟩) (by decide) (by decide) (fun r14 S15 H locs h hW => ?_)
    obtain ⟨g17, h⟩ := h
    refine kp_cast F hW g17 cbX0 tw_269 dX4_perform_28 ?_
    refine lv_astore_n (lv' := [(3, .ref r14), (0, .ref o), (1, .int a1), (2, .int a2)]) hx hb dX4_perform_31 rfl hl (by decide) rfl (fun ls hl => ?_)
    refine lv_aload_n hx hb dX4_perform_32 rfl (lv_at hl 0 rfl) ?_
    refine kp_getiN F hW g17 cbX0 4 rfl tw_288 (fun _ h9 => h9) dX4_perform_33 ?_
    refine lv_istore (lv' := [(4, .int (S15.I r14 4)), (3, .ref r14), (0, .ref o), (1, .int a1), (2, .int a2)]) hx hb dX4_perform_36 hl (by decide) rfl (fun ls hl => ?_)
    refine lv_aload_n hx hb dX4_perform_38 rfl (lv_at hl 2 rfl) ?_
    refine lv_aload_n hx hb dX4_perform_39 rfl (lv_at hl 1 rfl) ?_
    refine kp_getiN F hW g17 cbX0 3 rfl tw_286 (fun _ h9 => h9) dX4_perform_40 ?_
    refine lv_iload hx hb dX4_perform_43 (lv_at hl 0 rfl) ?_
    obtain ⟨g20, h⟩ := h
    refine kp_calli (c1 := 0) (s1 := 0) F hW (kp_runV (As := [.int (S15.I r14 3), .int (S15.I r14 4)]) (rest := []) F hW (ct_X4_isRefused l E _ _ _ _ h) g20 cbX4 rfl cf_X4_isRefused tw_387 rfl hl.1 ⟨by decide, by decide⟩ (Nat.le_of_ble_eq_true rfl) dX4_perform_45 ⟨by decide, by decide⟩) (by decide) (by decide) (fun r18 S19 H locs h hW => ?_)
    refine lv_if_eq (tgt := 62) hx hb dX4_perform_48 (by decide) (fun c21 => ?_) (fun c21 => ?_)
    · have h := h.1 c21
      refine lv_aload_n hx hb dX4_perform_62 rfl (lv_at hl 1 rfl) ?_
      obtain ⟨g22, h⟩ := h
      refine kp_getiN F hW g22 cbX0 3 rfl tw_286 (fun _ h9 => h9) dX4_perform_63 ?_
      by_cases c23 : (S19.I r14 3) = 0
      · have h := h.1 c23
        refine kp_tab (v := 0) (off := 38) (tgt := 104) hx hb dX4_perform_66 c23 (by decide) (by decide) (by decide) (by decide) ?_
        refine lv_aload_n hx hb dX4_perform_104 rfl (lv_at hl 2 rfl) ?_
        obtain ⟨g24, h⟩ := h
        obtain ⟨q25, p26, h⟩ := h
        refine kp_getp F hW g24 cbX4 7 rfl tw_186 (fun _ h9 => h9) dX4_perform_105 p26 ?_
        refine lv_iconst (v := 0) hx hb dX4_perform_108 (by decide) ?_
        refine lv_iload hx hb dX4_perform_109 (lv_at hl 0 rfl) ?_
        obtain ⟨g29, h⟩ := h
        refine kp_callv (c1 := 0) (s1 := 0) F hW (kp_runVN (As := [.int (0 : Int32), .int (S15.I r14 4)]) (rest := []) F hW (ct_X2_add l E _ _ _ _ h) g29 cbX2 rfl cf_X2_add tw_376 rfl hl.1 ⟨by decide, by decide⟩ (Nat.le_of_ble_eq_true rfl) dX4_perform_111 ⟨by decide, by decide⟩) (by decide) (by decide) (fun S28 H locs h hW => ?_)
        refine lv_goto (tgt := 164) hx hb dX4_perform_114 (by decide) ?_
        exact kp_retv F hW hr h (by decide) (by decide) dX4_perform_164
      by_cases c30 : (S19.I r14 3) = 1
      · have h := h.2.1 c30
        refine kp_tab (v := 1) (off := 51) (tgt := 117) hx hb dX4_perform_66 c30 (by decide) (by decide) (by decide) (by decide) ?_
        refine lv_aload_n hx hb dX4_perform_117 rfl (lv_at hl 2 rfl) ?_
        refine lv_iload hx hb dX4_perform_118 (lv_at hl 0 rfl) ?_
        obtain ⟨g33, h⟩ := h
        refine kp_callv (c1 := 0) (s1 := 0) F hW (kp_runV (As := [.int (S15.I r14 4)]) (rest := []) F hW (ct_X4_play l E _ _ _ h) g33 cbX4 rfl cf_X4_play tw_391 rfl hl.1 ⟨by decide, by decide⟩ (Nat.le_of_ble_eq_true rfl) dX4_perform_120 ⟨by decide, by decide⟩) (by decide) (by decide) (fun S32 H locs h hW => ?_)
        refine lv_goto (tgt := 164) hx hb dX4_perform_123 (by decide) ?_
        exact kp_retv F hW hr h (by decide) (by decide) dX4_perform_164
      by_cases c34 : (S19.I r14 3) = 2
      · have h := h.2.2.1 c34
        refine kp_tab (v := 2) (off := 60) (tgt := 126) hx hb dX4_perform_66 c34 (by decide) (by decide) (by decide) (by decide) ?_
        refine lv_aload_n hx hb dX4_perform_126 rfl (lv_at hl 2 rfl) ?_
        refine lv_iload hx hb dX4_perform_127 (lv_at hl 0 rfl) ?_
        obtain ⟨g37, h⟩ := h
        refine kp_callv (c1 := 0) (s1 := 0) F hW (kp_runV (As := [.int (S15.I r14 4)]) (rest := []) F hW (ct_X4_pushContext_ng l E _ _ _ h) g37 cbX4 rfl cf_X4_pushContext tw_153 rfl hl.1 ⟨by decide, by decide⟩ (Nat.le_of_ble_eq_true rfl) dX4_perform_129 ⟨by decide, by decide⟩) (by decide) (by decide) (fun S36 H locs h hW => ?_)
        refine lv_goto (tgt := 164) hx hb dX4_perform_132 (by decide) ?_
        exact kp_retv F hW hr h (by decide) (by decide) dX4_perform_164
      by_cases c38 : (S19.I r14 3) = 3
      · have h := h.2.2.2.1 c38
        refine kp_tab (v := 3) (off := 69) (tgt := 135) hx hb dX4_perform_66 c38 (by decide) (by decide) (by decide) (by decide) ?_
        refine lv_aload_n hx hb dX4_perform_135 rfl (lv_at hl 2 rfl) ?_
        obtain ⟨g41, h⟩ := h
        refine kp_callv (c1 := 0) (s1 := 0) F hW (kp_runV (As := []) (rest := []) F hW (ct_X4_popContext l E _ _ h) g41 cbX4 rfl cf_X4_popContext tw_395 rfl hl.1 ⟨by decide, by decide⟩ (Nat.le_of_ble_eq_true rfl) dX4_perform_136 ⟨by decide, by decide⟩) (by decide) (by decide) (fun S40 H locs h hW => ?_)
        refine lv_goto (tgt := 164) hx hb dX4_perform_139 (by decide) ?_
        exact kp_retv F hW hr h (by decide) (by decide) dX4_perform_164
      by_cases c42 : (S19.I r14 3) = 4
      · have h := h.2.2.2.2.1 c42
        refine kp_tab (v := 4) (off := 76) (tgt := 142) hx hb dX4_perform_66 c42 (by decide) (by decide) (by decide) (by decide) ?_
        refine lv_aload_n hx hb dX4_perform_142 rfl (lv_at hl 2 rfl) ?_
        refine lv_iload hx hb dX4_perform_143 (lv_at hl 0 rfl) ?_
        refine lv_iconst (v := 1) hx hb dX4_perform_145 (by decide) ?_
        obtain ⟨g45, h⟩ := h
        refine kp_calli (c1 := 0) (s1 := 0) F hW (kp_runV (As := [.int (S15.I r14 4), .int (1 : Int32)]) (rest := []) F hW (ct_X4_setFlag l E _ _ _ _ h) g45 cbX4 rfl cf_X4_setFlag tw_399 rfl hl.1 ⟨by decide, by decide⟩ (Nat.le_of_ble_eq_true rfl) dX4_perform_146 ⟨by decide, by decide⟩) (by decide) (by decide) (fun r43 S44 H locs h hW => ?_)
        refine lv_pop hx hb dX4_perform_149 rfl ?_
        refine lv_goto (tgt := 164) hx hb dX4_perform_150 (by decide) ?_
        exact kp_retv F hW hr h (by decide) (by decide) dX4_perform_164
      by_cases c46 : (S19.I r14 3) = 5
      · have h := h.2.2.2.2.2.1 c46
        refine kp_tab (v := 5) (off := 87) (tgt := 153) hx hb dX4_perform_66 c46 (by decide) (by decide) (by decide) (by decide) ?_
        refine lv_aload_n hx hb dX4_perform_153 rfl (lv_at hl 2 rfl) ?_
        refine lv_iload hx hb dX4_perform_154 (lv_at hl 0 rfl) ?_
        refine lv_iconst (v := 0) hx hb dX4_perform_156 (by decide) ?_
        obtain ⟨g49, h⟩ := h
        refine kp_calli (c1 := 0) (s1 := 0) F hW (kp_runV (As := [.int (S15.I r14 4), .int (0 : Int32)]) (rest := []) F hW (ct_X4_setFlag l E _ _ _ _ h) g49 cbX4 rfl cf_X4_setFlag tw_399 rfl hl.1 ⟨by decide, by decide⟩ (Nat.le_of_ble_eq_true rfl) dX4_perform_157 ⟨by decide, by decide⟩) (by decide) (by decide) (fun r47 S48 H locs h hW => ?_)
        refine lv_pop hx hb dX4_perform_160 rfl ?_
        refine lv_goto (tgt := 164) hx hb dX4_perform_161 (by decide) ?_
        exact kp_retv F hW hr h (by decide) (by decide) dX4_perform_164
      have h := h.2.2.2.2.2.2 ⟨c23, c30, c34, c38, c42, c46⟩
      refine kp_tabD (tgt := 164) hx hb dX4_perform_66 (kp_out_0_5 c23 c30 c34 c38 c42 c46) (by decide) ?_
      exact kp_retv F hW hr h (by decide) (by decide) dX4_perform_164
    · have h := h.2 c21
      refine lv_aload_n hx hb dX4_perform_51 rfl (lv_at hl 2 rfl) ?_
      obtain ⟨g50, h⟩ := h
      obtain ⟨q51, p52, h⟩ := h
      refine kp_getp F hW g50 cbX4 7 rfl tw_186 (fun _ h9 => h9) dX4_perform_52 p52 ?_
      refine lv_iconst (v := 2) hx hb dX4_perform_55 (by decide) ?_
      refine lv_iload hx hb dX4_perform_56 (lv_at hl 0 rfl) ?_
      obtain ⟨g55, h⟩ := h
      refine kp_callv (c1 := 0) (s1 := 0) F hW (kp_runVN (As := [.int (2 : Int32), .int (S15.I r14 4)]) (rest := []) F hW (ct_X2_add l E _ _ _ _ h) g55 cbX2 rfl cf_X2_add tw_376 rfl hl.1 ⟨by decide, by decide⟩ (Nat.le_of_ble_eq_true rfl) dX4_perform_58 ⟨by decide, by decide⟩) (by decide) (by decide) (fun S54 H locs h hW => ?_)
      exact kp_retv F hW hr h (by decide) (by decide) dX4_perform_61
  · have h := h.1 c4
    exact kp_retv F hW hr h (by decide) (by decide) dX4_perform_9
def wp_X4_releasePending_L57 (post : pS → Prop) (e0 : Nat) : Nat → Nat → Int32 → Int32 → Int32 → Int32 → pS → Prop
  | 0, _, _, _, _, _, _ => False
  | n + 1, v0, v1, v2, v3, v4, S =>
  ((v4 < v1 → (S.ok v0 4 ∧ ∃ q25, S.P v0 1 = some q25 ∧ S.ok q25 3 ∧ wp_X3_clear (fun S28 => ((v2 = (-4 : Int32) → (S28.ok v0 4 ∧ ∃ q35, S28.P v0 7 = some q35 ∧ S28.ok q35 2 ∧ wp_X2_add (fun S38 => post S38) q35 (1 : Int32) v3 S28)) ∧ (¬ (v2 = (-4 : Int32)) → (S28.ok v0 4 ∧ wp_X4_perform (fun S32 => post S32) e0 v0 (v2 / (16 : Int32)) (v2 - v2 / (16 : Int32) * (16 : Int32)) S28)))) q25 S)) ∧ (¬ (v4 < v1) → (S.ok v0 4 ∧ ∃ q41, S.P v0 2 = some q41 ∧ ∃ q43, S.P v0 1 = some q43 ∧ S.ok q43 3 ∧ wp_X3_at (fun r45 S46 => (S46.ok q41 3 ∧ wp_X3_add (fun S49 => wp_X4_releasePending_L57 post e0 n v0 v1 v2 v3 (v4 + (-1 : Int32)) S49) q41 r45 S46)) q43 v4 S)))
def wp_X4_releasePending_L14 (post : pS → Prop) (e0 : Nat) : Nat → Nat → Int32 → Int32 → pS → Prop
  | 0, _, _, _, _ => False
  | n + 1, v0, v1, v2, S =>
  ((v2 = (-4 : Int32) → ((v1 ≤ (1 : Int32) → (S.ok v0 4 ∧ ∃ q53, S.P v0 1 = some q53 ∧ S.ok q53 3 ∧ wp_X3_at (fun r55 S56 => (S56.ok v0 4 ∧ ∃ q59, S56.P v0 1 = some q59 ∧ S56.ok q59 3 ∧ wp_X3_size (fun r61 S62 => (∃ n57, wp_X4_releasePending_L57 post e0 n57 v0 v1 v2 r55 (r61 - (1 : Int32)) S62)) q59 S56)) q53 (0 : Int32) S)) ∧ (¬ (v1 ≤ (1 : Int32)) → (S.ok v0 4 ∧ wp_X4_findBinding (fun r64 S65 => wp_X4_releasePending_L14 post e0 n v0 (v1 + (-1 : Int32)) r64 S65) v0 (v1 + (-1 : Int32)) S)))) ∧ (¬ (v2 = (-4 : Int32)) → (S.ok v0 4 ∧ ∃ q12, S.P v0 1 = some q12 ∧ S.ok q12 3 ∧ wp_X3_at (fun r14 S15 => (S15.ok v0 4 ∧ ∃ q18, S15.P v0 1 = some q18 ∧ S15.ok q18 3 ∧ wp_X3_size (fun r20 S21 => (∃ n57, wp_X4_releasePending_L57 post e0 n57 v0 v1 v2 r14 (r20 - (1 : Int32)) S21)) q18 S15)) q12 (0 : Int32) S)))
def wp_X4_releasePending (post : pS → Prop) (e0 : Nat) (o : Nat) (S : pS) : Prop :=
  (S.ok o 4 ∧ ∃ q2, S.P o 1 = some q2 ∧ S.ok q2 3 ∧ wp_X3_size (fun r4 S5 => (S5.ok o 4 ∧ wp_X4_findBinding (fun r7 S8 => (∃ n14, wp_X4_releasePending_L14 post e0 n14 o r4 r7 S8)) o r4 S5)) q2 S)
def rm_X4_releasePending : Room := { frames := 5, cells := 0, slots := 0, locals := 150 }
set_option maxHeartbeats 4000000 in
set_option maxRecDepth 100000 in
theorem wk_X4_releasePending_L57 {l : Launch} {p : Program} {e : Env} {s : State} {m : MethodId} {args : Array Value} {below : List Frame} {meth : Method} {c : Code} {A : Nat → Prop} {E : EV} {post : pS → Prop} (F : FX p s m args meth c cX4_releasePending 5 yX4_releasePending.cls E A) (hr : meth.sig.returnType = none) :
    ∀ (n : Nat) (v0 : Nat) (v1 : Int32) (v2 : Int32) (v3 : Int32) (v4 : Int32) (S : pS) (H : Heap) (locs : List Loc) (ls : Array Slot), wp_X4_releasePending_L57 post E.e0 n v0 v1 v2 v3 v4 S → WD E A s S H locs → lv_has ls 5 [(0, .ref v0), (1, .int v1), (2, .int v2), (3, .int v3), (4, .int v4)] → W p l e rm_X4_releasePending s m args below meth c H locs 0 0 (MQ below (QV E post A) args s rm_X4_releasePending.cells rm_X4_releasePending.slots A) (F0 m 57 ls []) := by
  have hx := F.1
  have hb := F.2.1
  intro n
  induction n with
  | zero =>
    intro v0 v1 v2 v3 v4 S H locs ls h hW hl
    exact h.elim
  | succ n ih =>
    intro v0 v1 v2 v3 v4 S H locs ls h hW hl
    unfold wp_X4_releasePending_L57 at h
    refine lv_iload hx hb dX4_releasePending_57 (lv_at hl 4 rfl) ?_
    refine lv_iload_n hx hb dX4_releasePending_59 rfl (lv_at hl 1 rfl) ?_
    refine lv_icmp_lt (tgt := 85) hx hb dX4_releasePending_60 (by decide) (fun c23 => ?_) (fun c23 => ?_)
    · have h := h.1 c23
      refine lv_aload_n hx hb dX4_releasePending_85 rfl (lv_at hl 0 rfl) ?_
      obtain ⟨g24, h⟩ := h
      obtain ⟨q25, p26, h⟩ := h
      refine kp_getp F hW g24 cbX4 1 rfl tw_180 (fun _ h9 => h9) dX4_releasePending_86 p26 ?_
      obtain ⟨g29, h⟩ := h
      refine kp_callv (c1 := 0) (s1 := 0) F hW (kp_runVN (As := []) (rest := []) F hW (ct_X3_clear l E _ _ h) g29 cbX3 rfl cf_X3_clear tw_242 rfl hl.1 ⟨by decide, by decide⟩ (Nat.le_of_ble_eq_true rfl) dX4_releasePending_89 ⟨by decide, by decide⟩) (by decide) (by decide) (fun S28 H locs h hW => ?_)
      refine lv_iload_n hx hb dX4_releasePending_92 rfl (lv_at hl 2 rfl) ?_
      refine lv_bipush (v := (-4)) hx hb dX4_releasePending_93 (by decide) ?_
      refine lv_icmp_ne (tgt := 110) hx hb dX4_releasePending_95 (by decide) (fun c30 => ?_) (fun c30 => ?_)
      · have h := h.2 c30
        refine lv_aload_n hx hb dX4_releasePending_110 rfl (lv_at hl 0 rfl) ?_
        refine lv_iload_n hx hb dX4_releasePending_111 rfl (lv_at hl 2 rfl) ?_
        refine lv_bipush (v := 16) hx hb dX4_releasePending_112 (by decide) ?_
        refine lv_idiv hx hb dX4_releasePending_114 (by decide) ?_
        refine lv_iload_n hx hb dX4_releasePending_115 rfl (lv_at hl 2 rfl) ?_
        refine lv_bipush (v := 16) hx hb dX4_releasePending_116 (by decide) ?_
        refine lv_irem hx hb dX4_releasePending_118 (by decide) ?_
        obtain ⟨g33, h⟩ := h
        refine kp_callv (c1 := 0) (s1 := 0) F hW (kp_runV (As := [.int (v2 / (16 : Int32)), .int (v2 - v2 / (16 : Int32) * (16 : Int32))]) (rest := []) F hW (ct_X4_perform l E _ _ _ _ h) g33 cbX4 rfl cf_X4_perform tw_383 rfl hl.1 ⟨by decide, by decide⟩ (Nat.le_of_ble_eq_true rfl) dX4_releasePending_119 ⟨by decide, by decide⟩) (by decide) (by decide) (fun S32 H locs h hW => ?_)
        exact kp_retv F hW hr h (by decide) (by decide) dX4_releasePending_122
      · have h := h.1 c30
        refine lv_aload_n hx hb dX4_releasePending_98 rfl (lv_at hl 0 rfl) ?_
        obtain ⟨g34, h⟩ := h
        obtain ⟨q35, p36, h⟩ := h
        refine kp_getp F hW g34 cbX4 7 rfl tw_186 (fun _ h9 => h9) dX4_releasePending_99 p36 ?_
        refine lv_iconst (v := 1) hx hb dX4_releasePending_102 (by decide) ?_
        refine lv_iload_n hx hb dX4_releasePending_103 rfl (lv_at hl 3 rfl) ?_
        obtain ⟨g39, h⟩ := h
        refine kp_callv (c1 := 0) (s1 := 0) F hW (kp_runVN (As := [.int (1 : Int32), .int v3]) (rest := []) F hW (ct_X2_add l E _ _ _ _ h) g39 cbX2 rfl cf_X2_add tw_376 rfl hl.1 ⟨by decide, by decide⟩ (Nat.le_of_ble_eq_true rfl) dX4_releasePending_104 ⟨by decide, by decide⟩) (by decide) (by decide) (fun S38 H locs h hW => ?_)
        refine lv_goto (tgt := 122) hx hb dX4_releasePending_107 (by decide) ?_
        exact kp_retv F hW hr h (by decide) (by decide) dX4_releasePending_122
    · have h := h.2 c23
      refine lv_aload_n hx hb dX4_releasePending_63 rfl (lv_at hl 0 rfl) ?_
      obtain ⟨g40, h⟩ := h
      obtain ⟨q41, p42, h⟩ := h
      refine kp_getp F hW g40 cbX4 2 rfl tw_181 (fun _ h9 => h9) dX4_releasePending_64 p42 ?_
      refine lv_aload_n hx hb dX4_releasePending_67 rfl (lv_at hl 0 rfl) ?_
      obtain ⟨q43, p44, h⟩ := h
      refine kp_getp F hW g40 cbX4 1 rfl tw_180 (fun _ h9 => h9) dX4_releasePending_68 p44 ?_
      refine lv_iload hx hb dX4_releasePending_71 (lv_at hl 4 rfl) ?_
      obtain ⟨g47, h⟩ := h
      refine kp_calli (c1 := 0) (s1 := 0) F hW (kp_runVN (As := [.int v4]) (rest := [.ref q41]) F hW (ct_X3_at l E _ _ _ h) g47 cbX3 rfl cf_X3_at tw_372 rfl hl.1 ⟨by decide, by decide⟩ (Nat.le_of_ble_eq_true rfl) dX4_releasePending_73 ⟨by decide, by decide⟩) (by decide) (by decide) (fun r45 S46 H locs h hW => ?_)
      obtain ⟨g50, h⟩ := h
      refine kp_callv (c1 := 0) (s1 := 0) F hW (kp_runVN (As := [.int r45]) (rest := []) F hW (ct_X3_add l E _ _ _ h) g50 cbX3 rfl cf_X3_add tw_230 rfl hl.1 ⟨by decide, by decide⟩ (Nat.le_of_ble_eq_true rfl) dX4_releasePending_76 ⟨by decide, by decide⟩) (by decide) (by decide) (fun S49 H locs h hW => ?_)
      refine lv_iinc (v := (v4 + (-1 : Int32))) (lv' := [(4, .int (v4 + (-1 : Int32))), (0, .ref v0), (1, .int v1), (2, .int v2), (3, .int v3)]) hx hb dX4_releasePending_79 hl (k := 4) rfl (by rfl) (by decide) rfl (fun ls hl => ?_)
      refine lv_goto (tgt := 57) hx hb dX4_releasePending_82 (by decide) ?_
      exact ih _ _ _ _ _ _ _ _ _ h hW (lv_sub hl [1, 2, 3, 4, 0] rfl)
set_option maxHeartbeats 4000000 in
set_option maxRecDepth 100000 in
theorem wk_X4_releasePending_L14 {l : Launch} {p : Program} {e : Env} {s : State} {m : MethodId} {args : Array Value} {below : List Frame} {meth : Method} {c : Code} {A : Nat → Prop} {E : EV} {post : pS → Prop} (F : FX p s m args meth c cX4_releasePending 5 yX4_releasePending.cls E A) (hr : meth.sig.returnType = none) :
    ∀ (n : Nat) (v0 : Nat) (v1 : Int32) (v2 : Int32) (S : pS) (H : Heap) (locs : List Loc) (ls : Array Slot), wp_X4_releasePending_L14 post E.e0 n v0 v1 v2 S → WD E A s S H locs → lv_has ls 5 [(0, .ref v0), (1, .int v1), (2, .int v2)] → W p l e rm_X4_releasePending s m args below meth c H locs 0 0 (MQ below (QV E post A) args s rm_X4_releasePending.cells rm_X4_releasePending.slots A) (F0 m 14 ls []) := by
  have hx := F.1
  have hb := F.2.1
  intro n
  induction n with
  | zero =>
    intro v0 v1 v2 S H locs ls h hW hl
    exact h.elim
  | succ n ih =>
    intro v0 v1 v2 S H locs ls h hW hl
    unfold wp_X4_releasePending_L14 at h
    refine lv_iload_n hx hb dX4_releasePending_14 rfl (lv_at hl 2 rfl) ?_
    refine lv_bipush (v := (-4)) hx hb dX4_releasePending_15 (by decide) ?_
    refine lv_icmp_ne (tgt := 37) hx hb dX4_releasePending_17 (by decide) (fun c10 => ?_) (fun c10 => ?_)
    · have h := h.2 c10
      refine lv_aload_n hx hb dX4_releasePending_37 rfl (lv_at hl 0 rfl) ?_
      obtain ⟨g11, h⟩ := h
      obtain ⟨q12, p13, h⟩ := h
      refine kp_getp F hW g11 cbX4 1 rfl tw_180 (fun _ h9 => h9) dX4_releasePending_38 p13 ?_
      refine lv_iconst (v := 0) hx hb dX4_releasePending_41 (by decide) ?_
      obtain ⟨g16, h⟩ := h
      refine kp_calli (c1 := 0) (s1 := 0) F hW (kp_runVN (As := [.int (0 : Int32)]) (rest := []) F hW (ct_X3_at l E _ _ _ h) g16 cbX3 rfl cf_X3_at tw_372 rfl hl.1 ⟨by decide, by decide⟩ (Nat.le_of_ble_eq_true rfl) dX4_releasePending_42 ⟨by decide, by decide⟩) (by decide) (by decide) (fun r14 S15 H locs h hW => ?_)
      refine lv_istore_n (lv' := [(3, .int r14), (0, .ref v0), (1, .int v1), (2, .int v2)]) hx hb dX4_releasePending_45 rfl hl (by decide) rfl (fun ls hl => ?_)
      refine lv_aload_n hx hb dX4_releasePending_46 rfl (lv_at hl 1 rfl) ?_
      obtain ⟨g17, h⟩ := h
      obtain ⟨q18, p19, h⟩ := h
      refine kp_getp F hW g17 cbX4 1 rfl tw_180 (fun _ h9 => h9) dX4_releasePending_47 p19 ?_
      obtain ⟨g22, h⟩ := h
      refine kp_calli (c1 := 0) (s1 := 0) F hW (kp_runVN (As := []) (rest := []) F hW (ct_X3_size l E _ _ h) g22 cbX3 rfl cf_X3_size tw_234 rfl hl.1 ⟨by decide, by decide⟩ (Nat.le_of_ble_eq_true rfl) dX4_releasePending_50 ⟨by decide, by decide⟩) (by decide) (by decide) (fun r20 S21 H locs h hW => ?_)
      refine lv_iconst (v := 1) hx hb dX4_releasePending_53 (by decide) ?_
      refine lv_isub hx hb dX4_releasePending_54 ?_
      refine lv_istore (lv' := [(4, .int (r20 - (1 : Int32))), (3, .int r14), (0, .ref v0), (1, .int v1), (2, .int v2)]) hx hb dX4_releasePending_55 hl (by decide) rfl (fun ls hl => ?_)
      obtain ⟨n9, h⟩ := h
      exact wk_X4_releasePending_L57 F hr n9 _ _ _ _ _ _ _ _ _ h hW (lv_sub hl [2, 3, 4, 1, 0] rfl)
    · have h := h.1 c10
      refine lv_iload_n hx hb dX4_releasePending_20 rfl (lv_at hl 1 rfl) ?_
      refine lv_iconst (v := 1) hx hb dX4_releasePending_21 (by decide) ?_
      refine lv_icmp_le (tgt := 37) hx hb dX4_releasePending_22 (by decide) (fun c51 => ?_) (fun c51 => ?_)
      · have h := h.1 c51
        refine lv_aload_n hx hb dX4_releasePending_37 rfl (lv_at hl 0 rfl) ?_
        obtain ⟨g52, h⟩ := h
        obtain ⟨q53, p54, h⟩ := h
        refine kp_getp F hW g52 cbX4 1 rfl tw_180 (fun _ h9 => h9) dX4_releasePending_38 p54 ?_
        refine lv_iconst (v := 0) hx hb dX4_releasePending_41 (by decide) ?_
        obtain ⟨g57, h⟩ := h
        refine kp_calli (c1 := 0) (s1 := 0) F hW (kp_runVN (As := [.int (0 : Int32)]) (rest := []) F hW (ct_X3_at l E _ _ _ h) g57 cbX3 rfl cf_X3_at tw_372 rfl hl.1 ⟨by decide, by decide⟩ (Nat.le_of_ble_eq_true rfl) dX4_releasePending_42 ⟨by decide, by decide⟩) (by decide) (by decide) (fun r55 S56 H locs h hW => ?_)
        refine lv_istore_n (lv' := [(3, .int r55), (0, .ref v0), (1, .int v1), (2, .int v2)]) hx hb dX4_releasePending_45 rfl hl (by decide) rfl (fun ls hl => ?_)
        refine lv_aload_n hx hb dX4_releasePending_46 rfl (lv_at hl 1 rfl) ?_
        obtain ⟨g58, h⟩ := h
        obtain ⟨q59, p60, h⟩ := h
        refine kp_getp F hW g58 cbX4 1 rfl tw_180 (fun _ h9 => h9) dX4_releasePending_47 p60 ?_
        obtain ⟨g63, h⟩ := h
        refine kp_calli (c1 := 0) (s1 := 0) F hW (kp_runVN (As := []) (rest := []) F hW (ct_X3_size l E _ _ h) g63 cbX3 rfl cf_X3_size tw_234 rfl hl.1 ⟨by decide, by decide⟩ (Nat.le_of_ble_eq_true rfl) dX4_releasePending_50 ⟨by decide, by decide⟩) (by decide) (by decide) (fun r61 S62 H locs h hW => ?_)
        refine lv_iconst (v := 1) hx hb dX4_releasePending_53 (by decide) ?_
        refine lv_isub hx hb dX4_releasePending_54 ?_
        refine lv_istore (lv' := [(4, .int (r61 - (1 : Int32))), (3, .int r55), (0, .ref v0), (1, .int v1), (2, .int v2)]) hx hb dX4_releasePending_55 hl (by decide) rfl (fun ls hl => ?_)
        obtain ⟨n9, h⟩ := h
        exact wk_X4_releasePending_L57 F hr n9 _ _ _ _ _ _ _ _ _ h hW (lv_sub hl [2, 3, 4, 1, 0] rfl)
      · have h := h.2 c51
        refine lv_iinc (v := (v1 + (-1 : Int32))) (lv' := [(1, .int (v1 + (-1 : Int32))), (0, .ref v0), (2, .int v2)]) hx hb dX4_releasePending_25 hl (k := 1) rfl (by rfl) (by decide) rfl (fun ls hl => ?_)
        refine lv_aload_n hx hb dX4_releasePending_28 rfl (lv_at hl 1 rfl) ?_
        refine lv_iload_n hx hb dX4_releasePending_29 rfl (lv_at hl 0 rfl) ?_
        obtain ⟨g66, h⟩ := h
        refine kp_calli (c1 := 0) (s1 := 0) F hW (kp_runV (As := [.int (v1 + (-1 : Int32))]) (rest := []) F hW (ct_X4_findBinding l E _ _ _ h) g66 cbX4 rfl cf_X4_findBinding tw_367 rfl hl.1 ⟨by decide, by decide⟩ (Nat.le_of_ble_eq_true rfl) dX4_releasePending_30 ⟨by decide, by decide⟩) (by decide) (by decide) (fun r64 S65 H locs h hW => ?_)
        refine lv_istore_n (lv' := [(2, .int r64), (1, .int (v1 + (-1 : Int32))), (0, .ref v0)]) hx hb dX4_releasePending_33 rfl hl (by decide) rfl (fun ls hl => ?_)
        refine lv_goto (tgt := 14) hx hb dX4_releasePending_34 (by decide) ?_
        exact ih _ _ _ _ _ _ _ h hW (lv_sub hl [2, 1, 0] rfl)
set_option maxHeartbeats 4000000 in
set_option maxRecDepth 100000 in
theorem ct_X4_releasePending (l : Launch) (E : EV) {post : pS → Prop} (o : Nat) (S : pS) (h : wp_X4_releasePending post E.e0 o S) : CT l E yX4_releasePending cX4_releasePending 5 none rm_X4_releasePending (QV E post) [.ref o] S := by
  refine ct_intro (by decide +kernel) (Nat.le_of_ble_eq_true rfl) ?_
  intro p e s m below meth c A ls F hW hr hnm hl
  have hx := F.1
  have hb := F.2.1
  unfold wp_X4_releasePending at h
  have hl : lv_has ls 5 [(0, .ref o)] := hl
  refine lv_aload_n hx hb dX4_releasePending_0 rfl (lv_at hl 0 rfl) ?_
  obtain ⟨g1, h⟩ := h
  obtain ⟨q2, p3, h⟩ := h
  refine kp_getp F hW g1 cbX4 1 rfl tw_180 (fun _ h9 => h9) dX4_releasePending_1 p3 ?_
  obtain ⟨g6, h⟩ := h
  refine kp_calli (c1 := 0) (s1 := 0) F hW (kp_runVN (As := []) (rest := []) F hW (ct_X3_size l E _ _ h) g6 cbX3 rfl cf_X3_size tw_234 rfl hl.1 ⟨by decide, by decide⟩ (Nat.le_of_ble_eq_true rfl) dX4_releasePending_4 ⟨by decide, by decide⟩) (by decide) (by decide) (fun r4 S5 H locs h hW => ?_)
  refine lv_istore_n (lv' := [(1, .int r4), (0, .ref o)]) hx hb dX4_releasePending_7 rfl hl (by decide) rfl (fun ls hl => ?_)
  refine lv_aload_n hx hb dX4_releasePending_8 rfl (lv_at hl 1 rfl) ?_
  refine lv_iload_n hx hb dX4_releasePending_9 rfl (lv_at hl 0 rfl) ?_
  obtain ⟨g9, h⟩ := h
  refine kp_calli (c1 := 0) (s1 := 0) F hW (kp_runV (As := [.int r4]) (rest := []) F hW (ct_X4_findBinding l E _ _ _ h) g9 cbX4 rfl cf_X4_findBinding tw_367 rfl hl.1 ⟨by decide, by decide⟩ (Nat.le_of_ble_eq_true rfl) dX4_releasePending_10 ⟨by decide, by decide⟩) (by decide) (by decide) (fun r7 S8 H locs h hW => ?_)
  refine lv_istore_n (lv' := [(2, .int r7), (1, .int r4), (0, .ref o)]) hx hb dX4_releasePending_13 rfl hl (by decide) rfl (fun ls hl => ?_)
  obtain ⟨n9, h⟩ := h
  exact wk_X4_releasePending_L14 F hr n9 _ _ _ _ _ _ _ h hW (lv_sub hl [2, 1, 0] rfl)
def wp_X4_processWaitingKeys_L2 (post : pS → Prop) (e0 : Nat) : Nat → Nat → Int32 → pS → Prop
  | 0, _, _, _ => False
  | n + 1, v0, v1, S =>
  (((100000 : Int32) ≤ v1 → post S) ∧ (¬ ((100000 : Int32) ≤ v1) → (S.ok v0 4 ∧ ∃ q3, S.P v0 2 = some q3 ∧ S.ok q3 3 ∧ wp_X3_size (fun r5 S6 => ((r5 ≤ 0 → post S6) ∧ (¬ (r5 ≤ 0) → (S6.ok v0 4 ∧ ∃ q10, S6.P v0 2 = some q10 ∧ S6.ok q10 3 ∧ wp_X3_removeLast (fun r12 S13 => ((r12 = (-1 : Int32) → (S13.ok v0 4 ∧ ∀ S32, S32 = S13.setI v0 11 ((S13.I v0 11) - (1 : Int32)) → wp_X4_processWaitingKeys_L2 post e0 n v0 (v1 + 1) S32)) ∧ (¬ (r12 = (-1 : Int32)) → (S13.ok v0 4 ∧ ∃ q17, S13.P v0 1 = some q17 ∧ S13.ok q17 3 ∧ wp_X3_add (fun S20 => (S20.ok v0 4 ∧ wp_X4_isExtensible (fun r22 S23 => ((r22 = 0 → (S23.ok v0 4 ∧ wp_X4_releasePending (fun S27 => wp_X4_processWaitingKeys_L2 post e0 n v0 (v1 + 1) S27) e0 v0 S23)) ∧ (¬ (r22 = 0) → (S23.ok v0 4 ∧ ∀ S30, S30 = S23.setI v0 9 (S23.I v0 8) → wp_X4_processWaitingKeys_L2 post e0 n v0 (v1 + 1) S30)))) v0 S20)) q17 r12 S13)))) q10 S6)))) q3 S)))
def wp_X4_processWaitingKeys (post : pS → Prop) (e0 : Nat) (o : Nat) (S : pS) : Prop :=
  (∃ n2, wp_X4_processWaitingKeys_L2 post e0 n2 o (0 : Int32) S)
def rm_X4_processWaitingKeys : Room := { frames := 6, cells := 0, slots := 0, locals := 174 }
set_option maxHeartbeats 4000000 in
set_option maxRecDepth 100000 in
theorem wk_X4_processWaitingKeys_L2 {l : Launch} {p : Program} {e : Env} {s : State} {m : MethodId} {args : Array Value} {below : List Frame} {meth : Method} {c : Code} {A : Nat → Prop} {E : EV} {post : pS → Prop} (F : FX p s m args meth c cX4_processWaitingKeys 3 yX4_processWaitingKeys.cls E A) (hr : meth.sig.returnType = none) :
    ∀ (n : Nat) (v0 : Nat) (v1 : Int32) (S : pS) (H : Heap) (locs : List Loc) (ls : Array Slot), wp_X4_processWaitingKeys_L2 post E.e0 n v0 v1 S → WD E A s S H locs → lv_has ls 3 [(0, .ref v0), (1, .int v1)] → W p l e rm_X4_processWaitingKeys s m args below meth c H locs 0 0 (MQ below (QV E post A) args s rm_X4_processWaitingKeys.cells rm_X4_processWaitingKeys.slots A) (F0 m 2 ls []) := by
  have hx := F.1
  have hb := F.2.1
  intro n
  induction n with
  | zero =>
    intro v0 v1 S H locs ls h hW hl
    exact h.elim
  | succ n ih =>
    intro v0 v1 S H locs ls h hW hl
    unfold wp_X4_processWaitingKeys_L2 at h
    refine lv_iload_n hx hb dX4_processWaitingKeys_2 rfl (lv_at hl 1 rfl) ?_
    refine lv_ldc (v := 100000) hx hb F.2.2.2.1 (F.2.2.2.2.1 _ tw_346) dX4_processWaitingKeys_3 ?_
    refine lv_icmp_ge (tgt := 80) hx hb dX4_processWaitingKeys_5 (by decide) (fun c1 => ?_) (fun c1 => ?_)
    · have h := h.1 c1
      exact kp_retv F hW hr h (by decide) (by decide) dX4_processWaitingKeys_80
    · have h := h.2 c1
      refine lv_aload_n hx hb dX4_processWaitingKeys_8 rfl (lv_at hl 0 rfl) ?_
      obtain ⟨g2, h⟩ := h
      obtain ⟨q3, p4, h⟩ := h
      refine kp_getp F hW g2 cbX4 2 rfl tw_181 (fun _ h9 => h9) dX4_processWaitingKeys_9 p4 ?_
      obtain ⟨g7, h⟩ := h
      refine kp_calli (c1 := 0) (s1 := 0) F hW (kp_runVN (As := []) (rest := []) F hW (ct_X3_size l E _ _ h) g7 cbX3 rfl cf_X3_size tw_234 rfl hl.1 ⟨by decide, by decide⟩ (Nat.le_of_ble_eq_true rfl) dX4_processWaitingKeys_12 ⟨by decide, by decide⟩) (by decide) (by decide) (fun r5 S6 H locs h hW => ?_)
      refine lv_if_le (tgt := 80) hx hb dX4_processWaitingKeys_15 (by decide) (fun c8 => ?_) (fun c8 => ?_)
      · have h := h.1 c8
        exact kp_retv F hW hr h (by decide) (by decide) dX4_processWaitingKeys_80
      · have h := h.2 c8
        refine lv_aload_n hx hb dX4_processWaitingKeys_18 rfl (lv_at hl 0 rfl) ?_
        obtain ⟨g9, h⟩ := h
        obtain ⟨q10, p11, h⟩ := h
        refine kp_getp F hW g9 cbX4 2 rfl tw_181 (fun _ h9 => h9) dX4_processWaitingKeys_19 p11 ?_
        obtain ⟨g14, h⟩ := h
        refine kp_calli (c1 := 0) (s1 := 0) F hW (kp_runVN (As := []) (rest := []) F hW (ct_X3_removeLast l E _ _ h) g14 cbX3 rfl cf_X3_removeLast tw_347 rfl hl.1 ⟨by decide, by decide⟩ (Nat.le_of_ble_eq_true rfl) dX4_processWaitingKeys_22 ⟨by decide, by decide⟩) (by decide) (by decide) (fun r12 S13 H locs h hW => ?_)
        refine lv_istore_n (lv' := [(2, .int r12), (0, .ref v0), (1, .int v1)]) hx hb dX4_processWaitingKeys_25 rfl hl (by decide) rfl (fun ls hl => ?_)
        refine lv_iload_n hx hb dX4_processWaitingKeys_26 rfl (lv_at hl 0 rfl) ?_
        refine lv_iconst (v := (-1)) hx hb dX4_processWaitingKeys_27 (by decide) ?_
        refine lv_icmp_ne (tgt := 44) hx hb dX4_processWaitingKeys_28 (by decide) (fun c15 => ?_) (fun c15 => ?_)
        · have h := h.2 c15
          refine lv_aload_n hx hb dX4_processWaitingKeys_44 rfl (lv_at hl 1 rfl) ?_
          obtain ⟨g16, h⟩ := h
          obtain ⟨q17, p18, h⟩ := h
          refine kp_getp F hW g16 cbX4 1 rfl tw_180 (fun _ h9 => h9) dX4_processWaitingKeys_45 p18 ?_
          refine lv_iload_n hx hb dX4_processWaitingKeys_48 rfl (lv_at hl 0 rfl) ?_
          obtain ⟨g21, h⟩ := h
          refine kp_callv (c1 := 0) (s1 := 0) F hW (kp_runVN (As := [.int r12]) (rest := []) F hW (ct_X3_add l E _ _ _ h) g21 cbX3 rfl cf_X3_add tw_230 rfl hl.1 ⟨by decide, by decide⟩ (Nat.le_of_ble_eq_true rfl) dX4_processWaitingKeys_49 ⟨by decide, by decide⟩) (by decide) (by decide) (fun S20 H locs h hW => ?_)
          refine lv_aload_n hx hb dX4_processWaitingKeys_52 rfl (lv_at hl 1 rfl) ?_
          obtain ⟨g24, h⟩ := h
          refine kp_calli (c1 := 0) (s1 := 0) F hW (kp_runV (As := []) (rest := []) F hW (ct_X4_isExtensible l E _ _ h) g24 cbX4 rfl cf_X4_isExtensible tw_351 rfl hl.1 ⟨by decide, by decide⟩ (Nat.le_of_ble_eq_true rfl) dX4_processWaitingKeys_53 ⟨by decide, by decide⟩) (by decide) (by decide) (fun r22 S23 H locs h hW => ?_)
          refine lv_if_eq (tgt := 70) hx hb dX4_processWaitingKeys_56 (by decide) (fun c25 => ?_) (fun c25 => ?_)
          · have h := h.1 c25
            refine lv_aload_n hx hb dX4_processWaitingKeys_70 rfl (lv_at hl 1 rfl) ?_
            obtain ⟨g28, h⟩ := h
            refine kp_callv (c1 := 0) (s1 := 0) F hW (kp_runV (As := []) (rest := []) F hW (ct_X4_releasePending l E _ _ h) g28 cbX4 rfl cf_X4_releasePending tw_363 rfl hl.1 ⟨by decide, by decide⟩ (Nat.le_of_ble_eq_true rfl) dX4_processWaitingKeys_71 ⟨by decide, by decide⟩) (by decide) (by decide) (fun S27 H locs h hW => ?_)
            refine lv_iinc (v := (v1 + 1)) (lv' := [(1, .int (v1 + 1)), (2, .int r12), (0, .ref v0)]) hx hb dX4_processWaitingKeys_74 hl (k := 2) rfl (by rfl) (by decide) rfl (fun ls hl => ?_)
            refine lv_goto (tgt := 2) hx hb dX4_processWaitingKeys_77 (by decide) ?_
            exact ih _ _ _ _ _ _ h hW (lv_sub hl [2, 0] rfl)
          · have h := h.2 c25
            refine lv_aload_n hx hb dX4_processWaitingKeys_59 rfl (lv_at hl 1 rfl) ?_
            refine lv_aload_n hx hb dX4_processWaitingKeys_60 rfl (lv_at hl 1 rfl) ?_
            obtain ⟨g29, h⟩ := h
            refine kp_geti F hW g29 cbX4 8 rfl tw_187 (fun _ h9 => h9) dX4_processWaitingKeys_61 ?_
            obtain ⟨S30, hS30⟩ : ∃ z, z = S23.setI v0 9 (S23.I v0 8) := ⟨_, rfl⟩
            have h := h S30 hS30
            refine kp_puti F hW g29 cbX4 9 rfl tw_188 (fun _ h9 => h9) rfl rfl dX4_processWaitingKeys_64 (fun H locs hW => ?_)
            rw [← hS30] at hW
            refine lv_goto (tgt := 74) hx hb dX4_processWaitingKeys_67 (by decide) ?_
            refine lv_iinc (v := (v1 + 1)) (lv' := [(1, .int (v1 + 1)), (2, .int r12), (0, .ref v0)]) hx hb dX4_processWaitingKeys_74 hl (k := 2) rfl (by rfl) (by decide) rfl (fun ls hl => ?_)
            refine lv_goto (tgt := 2) hx hb dX4_processWaitingKeys_77 (by decide) ?_
            exact ih _ _ _ _ _ _ h hW (lv_sub hl [2, 0] rfl)
        · have h := h.1 c15
          refine lv_aload_n hx hb dX4_processWaitingKeys_31 rfl (lv_at hl 1 rfl) ?_
          refine lv_dup hx hb dX4_processWaitingKeys_32 rfl ?_
          obtain ⟨g31, h⟩ := h
          refine kp_geti F hW g31 cbX4 11 rfl tw_190 (fun _ h9 => h9) dX4_processWaitingKeys_33 ?_
          refine lv_iconst (v := 1) hx hb dX4_processWaitingKeys_36 (by decide) ?_
          refine lv_isub hx hb dX4_processWaitingKeys_37 ?_
          obtain ⟨S32, hS32⟩ : ∃ z, z = S13.setI v0 11 ((S13.I v0 11) - (1 : Int32)) := ⟨_, rfl⟩
          have h := h S32 hS32
          refine kp_puti F hW g31 cbX4 11 rfl tw_190 (fun _ h9 => h9) rfl rfl dX4_processWaitingKeys_38 (fun H locs hW => ?_)
          rw [← hS32] at hW
          refine lv_goto (tgt := 74) hx hb dX4_processWaitingKeys_41 (by decide) ?_
          refine lv_iinc (v := (v1 + 1)) (lv' := [(1, .int (v1 + 1)), (2, .int r12), (0, .ref v0)]) hx hb dX4_processWaitingKeys_74 hl (k := 2) rfl (by rfl) (by decide) rfl (fun ls hl => ?_)
          refine lv_goto (tgt := 2) hx hb dX4_processWaitingKeys_77 (by decide) ?_
          exact ih _ _ _ _ _ _ h hW (lv_sub hl [2, 0] rfl)
set_option maxHeartbeats 4000000 in
set_option maxRecDepth 100000 in
theorem ct_X4_processWaitingKeys (l : Launch) (E : EV) {post : pS → Prop} (o : Nat) (S : pS) (h : wp_X4_processWaitingKeys post E.e0 o S) : CT l E yX4_processWaitingKeys cX4_processWaitingKeys 3 none rm_X4_processWaitingKeys (QV E post) [.ref o] S := by
  refine ct_intro (by decide +kernel) (Nat.le_of_ble_eq_true rfl) ?_
  intro p e s m below meth c A ls F hW hr hnm hl
  have hx := F.1
  have hb := F.2.1
  unfold wp_X4_processWaitingKeys at h
  have hl : lv_has ls 3 [(0, .ref o)] := hl
  refine lv_iconst (v := 0) hx hb dX4_processWaitingKeys_0 (by decide) ?_
  refine lv_istore_n (lv' := [(1, .int (0 : Int32)), (0, .ref o)]) hx hb dX4_processWaitingKeys_1 rfl hl (by decide) rfl (fun ls hl => ?_)
  obtain ⟨n9, h⟩ := h
  exact wk_X4_processWaitingKeys_L2 F hr n9 _ _ _ _ _ _ h hW (lv_sub hl [1, 0] rfl)
def wp_X4_press (post : Int32 → pS → Prop) (e0 : Nat) (o : Nat) (a1 : Int32) (S : pS) : Prop :=
  (wp_X4_isKey (fun r1 S2 => ((r1 = 0 → post (-1 : Int32) S2) ∧ (¬ (r1 = 0) → (S2.ok o 4 ∧ ∃ q5, S2.P o 7 = some q5 ∧ S2.ok q5 2 ∧ ∀ S8, S8 = S2.setI o 12 (0 : Int32) → wp_X4_isMacro (fun r10 S11 => ((r10 = 0 → (S11.ok o 4 ∧ ∃ q14, S11.P o 2 = some q14 ∧ S11.ok q14 3 ∧ wp_X3_add (fun S17 => (S17.ok o 4 ∧ wp_X4_processWaitingKeys (fun S20 => (S20.ok o 4 ∧ ∃ q23, S20.P o 7 = some q23 ∧ S20.ok q23 2 ∧ post ((S20.I q23 2) - (S2.I q5 2)) S20)) e0 o S17)) q14 a1 S11)) ∧ (¬ (r10 = 0) → (S11.ok o 4 ∧ ∃ q27, S11.P o 3 = some q27 ∧ S11.ok q27 6 ∧ wp_Jx4a65c_get_915e3 (fun r29 S30 => (S30.ok r29 3 ∧ wp_X3_add (fun S34 => (S34.ok o 4 ∧ ∃ q36, S34.P o 2 = some q36 ∧ S34.ok q36 3 ∧ wp_X3_add (fun S39 => (S39.ok o 4 ∧ wp_X4_processWaitingKeys (fun S42 => (S42.ok o 4 ∧ ∃ q45, S42.P o 7 = some q45 ∧ S42.ok q45 2 ∧ post ((S42.I q45 2) - (S2.I q5 2)) S42)) e0 o S39)) q36 a1 S34)) r29 a1 S30)) q27 (S11.I o 10) S11)))) o (S8.I o 10) S8)))) a1 S)
def rm_X4_press : Room := { frames := 7, cells := 0, slots := 0, locals := 196 }
set_option maxHeartbeats 4000000 in
set_option maxRecDepth 100000 in
theorem ct_X4_press (l : Launch) (E : EV) {post : Int32 → pS → Prop} (o : Nat) (a1 : Int32) (S : pS) (h : wp_X4_press post E.e0 o a1 S) : CT l E yX4_press cX4_press 3 (some .int) rm_X4_press (QI E post) [.ref o, .int a1] S := by
  refine ct_intro (by decide +kernel) (Nat.le_of_ble_eq_true rfl) ?_
  intro p e s m below meth c A ls F hW hr hnm hl
  have hx := F.1
  have hb := F.2.1
  unfold wp_X4_press at h
  have hl : lv_has ls 3 [(0, .ref o), (1, .int a1)] := hl
  refine lv_iload_n hx hb dX4_press_0 rfl (lv_at hl 1 rfl) ?_
  refine kp_calli (c1 := 0) (s1 := 0) F hW (kp_runS (As := [.int a1]) (rest := []) F hW (ct_X4_isKey l E _ _ h) cf_X4_isKey tw_223 rfl hl.1 ⟨by decide, by decide⟩ (Nat.le_of_ble_eq_true rfl) dX4_press_1 ⟨by decide, by decide⟩) (by decide) (by decide) (fun r1 S2 H locs h hW => ?_)
  refine lv_if_ne (tgt := 9) hx hb dX4_press_4 (by decide) (fun c3 => ?_) (fun c3 => ?_)
  · have h := h.2 c3
    refine lv_aload_n hx hb dX4_press_9 rfl (lv_at hl 0 rfl) ?_
    obtain ⟨g4, h⟩ := h
    obtain ⟨q5, p6, h⟩ := h
    refine kp_getp F hW g4 cbX4 7 rfl tw_186 (fun _ h9 => h9) dX4_press_10 p6 ?_
    obtain ⟨g7, h⟩ := h
    refine kp_getiN F hW g7 cbX2 2 rfl tw_145 (fun _ h9 => h9) dX4_press_13 ?_
    refine lv_istore_n (lv' := [(2, .int (S2.I q5 2)), (0, .ref o), (1, .int a1)]) hx hb dX4_press_16 rfl hl (by decide) rfl (fun ls hl => ?_)
    refine lv_aload_n hx hb dX4_press_17 rfl (lv_at hl 1 rfl) ?_
    refine lv_iconst (v := 0) hx hb dX4_press_18 (by decide) ?_
    obtain ⟨S8, hS8⟩ : ∃ z, z = S2.setI o 12 (0 : Int32) := ⟨_, rfl⟩
    have h := h S8 hS8
    refine kp_puti F hW g4 cbX4 12 rfl tw_191 (fun _ h9 => h9) rfl rfl dX4_press_19 (fun H locs hW => ?_)
    rw [← hS8] at hW
    refine lv_aload_n hx hb dX4_press_22 rfl (lv_at hl 1 rfl) ?_
    refine lv_aload_n hx hb dX4_press_23 rfl (lv_at hl 1 rfl) ?_
    have g9 : S8.ok o 4 := by rw [hS8]; exact g4
    refine kp_geti F hW g9 cbX4 10 rfl tw_189 (fun _ h9 => h9) dX4_press_24 ?_
    refine kp_calli (c1 := 0) (s1 := 0) F hW (kp_runV (As := [.int (S8.I o 10)]) (rest := []) F hW (ct_X4_isMacro l E _ _ _ h) g9 cbX4 rfl cf_X4_isMacro tw_265 rfl hl.1 ⟨by decide, by decide⟩ (Nat.le_of_ble_eq_true rfl) dX4_press_27 ⟨by decide, by decide⟩) (by decide) (by decide) (fun r10 S11 H locs h hW => ?_)
    refine lv_if_eq (tgt := 51) hx hb dX4_press_30 (by decide) (fun c12 => ?_) (fun c12 => ?_)
    · have h := h.1 c12
      refine lv_aload_n hx hb dX4_press_51 rfl (lv_at hl 1 rfl) ?_
      obtain ⟨g13, h⟩ := h
      obtain ⟨q14, p15, h⟩ := h
      refine kp_getp F hW g13 cbX4 2 rfl tw_181 (fun _ h9 => h9) dX4_press_52 p15 ?_
      refine lv_iload_n hx hb dX4_press_55 rfl (lv_at hl 2 rfl) ?_
      obtain ⟨g18, h⟩ := h
      refine kp_callv (c1 := 0) (s1 := 0) F hW (kp_runVN (As := [.int a1]) (rest := []) F hW (ct_X3_add l E _ _ _ h) g18 cbX3 rfl cf_X3_add tw_230 rfl hl.1 ⟨by decide, by decide⟩ (Nat.le_of_ble_eq_true rfl) dX4_press_56 ⟨by decide, by decide⟩) (by decide) (by decide) (fun S17 H locs h hW => ?_)
      refine lv_aload_n hx hb dX4_press_59 rfl (lv_at hl 1 rfl) ?_
      obtain ⟨g21, h⟩ := h
      refine kp_callv (c1 := 0) (s1 := 0) F hW (kp_runV (As := []) (rest := []) F hW (ct_X4_processWaitingKeys l E _ _ h) g21 cbX4 rfl cf_X4_processWaitingKeys tw_342 rfl hl.1 ⟨by decide, by decide⟩ (Nat.le_of_ble_eq_true rfl) dX4_press_60 ⟨by decide, by decide⟩) (by decide) (by decide) (fun S20 H locs h hW => ?_)
      refine lv_aload_n hx hb dX4_press_63 rfl (lv_at hl 1 rfl) ?_
      obtain ⟨g22, h⟩ := h
      obtain ⟨q23, p24, h⟩ := h
      refine kp_getp F hW g22 cbX4 7 rfl tw_186 (fun _ h9 => h9) dX4_press_64 p24 ?_
      obtain ⟨g25, h⟩ := h
      refine kp_getiN F hW g25 cbX2 2 rfl tw_145 (fun _ h9 => h9) dX4_press_67 ?_
      refine lv_iload_n hx hb dX4_press_70 rfl (lv_at hl 0 rfl) ?_
      refine lv_isub hx hb dX4_press_71 ?_
      exact kp_reti F hW hr h (by decide) (by decide) dX4_press_72
    · have h := h.2 c12
      refine lv_aload_n hx hb dX4_press_33 rfl (lv_at hl 1 rfl) ?_
      obtain ⟨g26, h⟩ := h
      obtain ⟨q27, p28, h⟩ := h
      refine kp_getp F hW g26 cbX4 3 rfl tw_182 (fun _ h9 => h9) dX4_press_34 p28 ?_
      refine lv_aload_n hx hb dX4_press_37 rfl (lv_at hl 1 rfl) ?_
      refine kp_geti F hW g26 cbX4 10 rfl tw_189 (fun _ h9 => h9) dX4_press_38 ?_
      obtain ⟨g31, h⟩ := h
      refine kp_callr (c1 := 0) (s1 := 0) F hW (kp_runV (As := [.int (S11.I o 10)]) (rest := []) F hW (ct_Jx4a65c_get_915e3 l E _ _ _ h) g31 cbJx4a65c rfl cf_Jx4a65c_get_915e3 tw_165 rfl hl.1 ⟨by decide, by decide⟩ (Nat.le_of_ble_eq_true rfl) dX4_press_41 ⟨by decide, by decide⟩) (by decide) (by decide) (fun r29 S30 H locs h hW => ?_)
      obtain ⟨g32, h⟩ := h
      refine kp_cast F hW g32 cbX3 tw_24 dX4_press_44 ?_
      refine lv_iload_n hx hb dX4_press_47 rfl (lv_at hl 2 rfl) ?_
      refine kp_callv (c1 := 0) (s1 := 0) F hW (kp_runVN (As := [.int a1]) (rest := []) F hW (ct_X3_add l E _ _ _ h) g32 cbX3 rfl cf_X3_add tw_230 rfl hl.1 ⟨by decide, by decide⟩ (Nat.le_of_ble_eq_true rfl) dX4_press_48 ⟨by decide, by decide⟩) (by decide) (by decide) (fun S34 H locs h hW => ?_)
      refine lv_aload_n hx hb dX4_press_51 rfl (lv_at hl 1 rfl) ?_
      obtain ⟨g35, h⟩ := h
      obtain ⟨q36, p37, h⟩ := h
      refine kp_getp F hW g35 cbX4 2 rfl tw_181 (fun _ h9 => h9) dX4_press_52 p37 ?_
      refine lv_iload_n hx hb dX4_press_55 rfl (lv_at hl 2 rfl) ?_
      obtain ⟨g40, h⟩ := h
      refine kp_callv (c1 := 0) (s1 := 0) F hW (kp_runVN (As := [.int a1]) (rest := []) F hW (ct_X3_add l E _ _ _ h) g40 cbX3 rfl cf_X3_add tw_230 rfl hl.1 ⟨by decide, by decide⟩ (Nat.le_of_ble_eq_true rfl) dX4_press_56 ⟨by decide, by decide⟩) (by decide) (by decide) (fun S39 H locs h hW => ?_)
      refine lv_aload_n hx hb dX4_press_59 rfl (lv_at hl 1 rfl) ?_
      obtain ⟨g43, h⟩ := h
      refine kp_callv (c1 := 0) (s1 := 0) F hW (kp_runV (As := []) (rest := []) F hW (ct_X4_processWaitingKeys l E _ _ h) g43 cbX4 rfl cf_X4_processWaitingKeys tw_342 rfl hl.1 ⟨by decide, by decide⟩ (Nat.le_of_ble_eq_true rfl) dX4_press_60 ⟨by decide, by decide⟩) (by decide) (by decide) (fun S42 H locs h hW => ?_)
      refine lv_aload_n hx hb dX4_press_63 rfl (lv_at hl 1 rfl) ?_
      obtain ⟨g44, h⟩ := h
      obtain ⟨q45, p46, h⟩ := h
      refine kp_getp F hW g44 cbX4 7 rfl tw_186 (fun _ h9 => h9) dX4_press_64 p46 ?_
      obtain ⟨g47, h⟩ := h
      refine kp_getiN F hW g47 cbX2 2 rfl tw_145 (fun _ h9 => h9) dX4_press_67 ?_
      refine lv_iload_n hx hb dX4_press_70 rfl (lv_at hl 0 rfl) ?_
      refine lv_isub hx hb dX4_press_71 ?_
      exact kp_reti F hW hr h (by decide) (by decide) dX4_press_72
  · have h := h.1 c3
    refine lv_iconst (v := (-1)) hx hb dX4_press_7 (by decide) ?_
    exact kp_reti F hW hr h (by decide) (by decide) dX4_press_8
def wp_X4_tick_L28 (post : Int32 → pS → Prop) (e0 : Nat) : Nat → Nat → Int32 → Int32 → Int32 → pS → Prop
  | 0, _, _, _, _, _ => False
  | n + 1, v0, v1, v2, v3, S =>
  ((v1 ≤ v3 → (S.ok v0 4 ∧ ∃ q11, S.P v0 7 = some q11 ∧ S.ok q11 2 ∧ post ((S.I q11 2) - v2) S)) ∧ (¬ (v1 ≤ v3) → (S.ok v0 4 ∧ ∃ q15, S.P v0 1 = some q15 ∧ S.ok q15 3 ∧ wp_X3_size (fun r17 S18 => ((r17 ≤ 0 → (S18.ok v0 4 ∧ ∃ q22, S18.P v0 7 = some q22 ∧ S18.ok q22 2 ∧ post ((S18.I q22 2) - v2) S18)) ∧ (¬ (r17 ≤ 0) → (S18.ok v0 4 ∧ ∀ S26, S26 = S18.setI v0 9 ((S18.I v0 9) - (1 : Int32)) → ((0 < (S26.I v0 9) → wp_X4_tick_L28 post e0 n v0 v1 v2 (v3 + 1) S26) ∧ (¬ (0 < (S26.I v0 9)) → (wp_X4_releasePending (fun S30 => (S30.ok v0 4 ∧ wp_X4_processWaitingKeys (fun S32 => wp_X4_tick_L28 post e0 n v0 v1 v2 (v3 + 1) S32) e0 v0 S30)) e0 v0 S26))))))) q15 S)))
def wp_X4_tick (post : Int32 → pS → Prop) (e0 : Nat) (o : Nat) (a1 : Int32) (S : pS) : Prop :=
  (wp_X4_isBetween (fun r1 S2 => ((r1 = 0 → post (-1 : Int32) S2) ∧ (¬ (r1 = 0) → (S2.ok o 4 ∧ ∃ q5, S2.P o 7 = some q5 ∧ S2.ok q5 2 ∧ ∀ S8, S8 = S2.setI o 12 (0 : Int32) → (∃ n28, wp_X4_tick_L28 post e0 n28 o a1 (S2.I q5 2) (0 : Int32) S8))))) a1 (0 : Int32) (999 : Int32) S)
def rm_X4_tick : Room := { frames := 7, cells := 0, slots := 0, locals := 196 }
set_option maxHeartbeats 4000000 in
set_option maxRecDepth 100000 in
theorem wk_X4_tick_L28 {l : Launch} {p : Program} {e : Env} {s : State} {m : MethodId} {args : Array Value} {below : List Frame} {meth : Method} {c : Code} {A : Nat → Prop} {E : EV} {post : Int32 → pS → Prop} (F : FX p s m args meth c cX4_tick 4 yX4_tick.cls E A) (hr : meth.sig.returnType = (some .int)) :
    ∀ (n : Nat) (v0 : Nat) (v1 : Int32) (v2 : Int32) (v3 : Int32) (S : pS) (H : Heap) (locs : List Loc) (ls : Array Slot), wp_X4_tick_L28 post E.e0 n v0 v1 v2 v3 S → WD E A s S H locs → lv_has ls 4 [(0, .ref v0), (1, .int v1), (2, .int v2), (3, .int v3)] → W p l e rm_X4_tick s m args below meth c H locs 0 0 (MQ below (QI E post A) args s rm_X4_tick.cells rm_X4_tick.slots A) (F0 m 28 ls []) := by
  have hx := F.1
  have hb := F.2.1
  intro n
  induction n with
  | zero =>
    intro v0 v1 v2 v3 S H locs ls h hW hl
    exact h.elim
  | succ n ih =>
    intro v0 v1 v2 v3 S H locs ls h hW hl
    unfold wp_X4_tick_L28 at h
    refine lv_iload_n hx hb dX4_tick_28 rfl (lv_at hl 3 rfl) ?_
    refine lv_iload_n hx hb dX4_tick_29 rfl (lv_at hl 1 rfl) ?_
    refine lv_icmp_ge (tgt := 74) hx hb dX4_tick_30 (by decide) (fun c9 => ?_) (fun c9 => ?_)
    · have h := h.1 c9
      refine lv_aload_n hx hb dX4_tick_74 rfl (lv_at hl 0 rfl) ?_
      obtain ⟨g10, h⟩ := h
      obtain ⟨q11, p12, h⟩ := h
      refine kp_getp F hW g10 cbX4 7 rfl tw_186 (fun _ h9 => h9) dX4_tick_75 p12 ?_
      obtain ⟨g13, h⟩ := h
      refine kp_getiN F hW g13 cbX2 2 rfl tw_145 (fun _ h9 => h9) dX4_tick_78 ?_
      refine lv_iload_n hx hb dX4_tick_81 rfl (lv_at hl 2 rfl) ?_
      refine lv_isub hx hb dX4_tick_82 ?_
      exact kp_reti F hW hr h (by decide) (by decide) dX4_tick_83
    · have h := h.2 c9
      refine lv_aload_n hx hb dX4_tick_33 rfl (lv_at hl 0 rfl) ?_
      obtain ⟨g14, h⟩ := h
      obtain ⟨q15, p16, h⟩ := h
      refine kp_getp F hW g14 cbX4 1 rfl tw_180 (fun _ h9 => h9) dX4_tick_34 p16 ?_
      obtain ⟨g19, h⟩ := h
      refine kp_calli (c1 := 0) (s1 := 0) F hW (kp_runVN (As := []) (rest := []) F hW (ct_X3_size l E _ _ h) g19 cbX3 rfl cf_X3_size tw_234 rfl hl.1 ⟨by decide, by decide⟩ (Nat.le_of_ble_eq_true rfl) dX4_tick_37 ⟨by decide, by decide⟩) (by decide) (by decide) (fun r17 S18 H locs h hW => ?_)
      refine lv_if_le (tgt := 74) hx hb dX4_tick_40 (by decide) (fun c20 => ?_) (fun c20 => ?_)
      · have h := h.1 c20
        refine lv_aload_n hx hb dX4_tick_74 rfl (lv_at hl 0 rfl) ?_
        obtain ⟨g21, h⟩ := h
        obtain ⟨q22, p23, h⟩ := h
        refine kp_getp F hW g21 cbX4 7 rfl tw_186 (fun _ h9 => h9) dX4_tick_75 p23 ?_
        obtain ⟨g24, h⟩ := h
        refine kp_getiN F hW g24 cbX2 2 rfl tw_145 (fun _ h9 => h9) dX4_tick_78 ?_
        refine lv_iload_n hx hb dX4_tick_81 rfl (lv_at hl 2 rfl) ?_
        refine lv_isub hx hb dX4_tick_82 ?_
        exact kp_reti F hW hr h (by decide) (by decide) dX4_tick_83
      · have h := h.2 c20
        refine lv_aload_n hx hb dX4_tick_43 rfl (lv_at hl 0 rfl) ?_
        refine lv_dup hx hb dX4_tick_44 rfl ?_
        obtain ⟨g25, h⟩ := h
        refine kp_geti F hW g25 cbX4 9 rfl tw_188 (fun _ h9 => h9) dX4_tick_45 ?_
        refine lv_iconst (v := 1) hx hb dX4_tick_48 (by decide) ?_
        refine lv_isub hx hb dX4_tick_49 ?_
        obtain ⟨S26, hS26⟩ : ∃ z, z = S18.setI v0 9 ((S18.I v0 9) - (1 : Int32)) := ⟨_, rfl⟩
        have h := h S26 hS26
        refine kp_puti F hW g25 cbX4 9 rfl tw_188 (fun _ h9 => h9) rfl rfl dX4_tick_50 (fun H locs hW => ?_)
        rw [← hS26] at hW
        refine lv_aload_n hx hb dX4_tick_53 rfl (lv_at hl 0 rfl) ?_
        have g27 : S26.ok v0 4 := by rw [hS26]; exact g25
        refine kp_geti F hW g27 cbX4 9 rfl tw_188 (fun _ h9 => h9) dX4_tick_54 ?_
        refine lv_if_gt (tgt := 68) hx hb dX4_tick_57 (by decide) (fun c28 => ?_) (fun c28 => ?_)
        · have h := h.1 c28
          refine lv_iinc (v := (v3 + 1)) (lv' := [(3, .int (v3 + 1)), (0, .ref v0), (1, .int v1), (2, .int v2)]) hx hb dX4_tick_68 hl (k := 3) rfl (by rfl) (by decide) rfl (fun ls hl => ?_)
          refine lv_goto (tgt := 28) hx hb dX4_tick_71 (by decide) ?_
          exact ih _ _ _ _ _ _ _ _ h hW (lv_sub hl [1, 2, 3, 0] rfl)
        · have h := h.2 c28
          refine lv_aload_n hx hb dX4_tick_60 rfl (lv_at hl 0 rfl) ?_
          refine kp_callv (c1 := 0) (s1 := 0) F hW (kp_runV (As := []) (rest := []) F hW (ct_X4_releasePending l E _ _ h) g27 cbX4 rfl cf_X4_releasePending tw_363 rfl hl.1 ⟨by decide, by decide⟩ (Nat.le_of_ble_eq_true rfl) dX4_tick_61 ⟨by decide, by decide⟩) (by decide) (by decide) (fun S30 H locs h hW => ?_)
          refine lv_aload_n hx hb dX4_tick_64 rfl (lv_at hl 0 rfl) ?_
          obtain ⟨g33, h⟩ := h
          refine kp_callv (c1 := 0) (s1 := 0) F hW (kp_runV (As := []) (rest := []) F hW (ct_X4_processWaitingKeys l E _ _ h) g33 cbX4 rfl cf_X4_processWaitingKeys tw_342 rfl hl.1 ⟨by decide, by decide⟩ (Nat.le_of_ble_eq_true rfl) dX4_tick_65 ⟨by decide, by decide⟩) (by decide) (by decide) (fun S32 H locs h hW => ?_)
          refine lv_iinc (v := (v3 + 1)) (lv' := [(3, .int (v3 + 1)), (0, .ref v0), (1, .int v1), (2, .int v2)]) hx hb dX4_tick_68 hl (k := 3) rfl (by rfl) (by decide) rfl (fun ls hl => ?_)
          refine lv_goto (tgt := 28) hx hb dX4_tick_71 (by decide) ?_
          exact ih _ _ _ _ _ _ _ _ h hW (lv_sub hl [1, 2, 3, 0] rfl)
set_option maxHeartbeats 4000000 in
set_option maxRecDepth 100000 in
theorem ct_X4_tick (l : Launch) (E : EV) {post : Int32 → pS → Prop} (o : Nat) (a1 : Int32) (S : pS) (h : wp_X4_tick post E.e0 o a1 S) : CT l E yX4_tick cX4_tick 4 (some .int) rm_X4_tick (QI E post) [.ref o, .int a1] S := by
  refine ct_intro (by decide +kernel) (Nat.le_of_ble_eq_true rfl) ?_
  intro p e s m below meth c A ls F hW hr hnm hl
  have hx := F.1
  have hb := F.2.1
  unfold wp_X4_tick at h
  have hl : lv_has ls 4 [(0, .ref o), (1, .int a1)] := hl
  refine lv_iload_n hx hb dX4_tick_0 rfl (lv_at hl 1 rfl) ?_
  refine lv_iconst (v := 0) hx hb dX4_tick_1 (by decide) ?_
  refine lv_sipush (v := 999) hx hb dX4_tick_2 (by decide) ?_
  refine kp_calli (c1 := 0) (s1 := 0) F hW (kp_runS (As := [.int a1, .int (0 : Int32), .int (999 : Int32)]) (rest := []) F hW (ct_X4_isBetween l E _ _ _ _ h) cf_X4_isBetween tw_258 rfl hl.1 ⟨by decide, by decide⟩ (Nat.le_of_ble_eq_true rfl) dX4_tick_5 ⟨by decide, by decide⟩) (by decide) (by decide) (fun r1 S2 H locs h hW => ?_)
  refine lv_if_ne (tgt := 13) hx hb dX4_tick_8 (by decide) (fun c3 => ?_) (fun c3 => ?_)
  · have h := h.2 c3
    refine lv_aload_n hx hb dX4_tick_13 rfl (lv_at hl 0 rfl) ?_
    obtain ⟨g4, h⟩ := h
    obtain ⟨q5, p6, h⟩ := h
    refine kp_getp F hW g4 cbX4 7 rfl tw_186 (fun _ h9 => h9) dX4_tick_14 p6 ?_
    obtain ⟨g7, h⟩ := h
    refine kp_getiN F hW g7 cbX2 2 rfl tw_145 (fun _ h9 => h9) dX4_tick_17 ?_
    refine lv_istore_n (lv' := [(2, .int (S2.I q5 2)), (0, .ref o), (1, .int a1)]) hx hb dX4_tick_20 rfl hl (by decide) rfl (fun ls hl => ?_)
    refine lv_aload_n hx hb dX4_tick_21 rfl (lv_at hl 1 rfl) ?_
    refine lv_iconst (v := 0) hx hb dX4_tick_22 (by decide) ?_
    obtain ⟨S8, hS8⟩ : ∃ z, z = S2.setI o 12 (0 : Int32) := ⟨_, rfl⟩
    have h := h S8 hS8
    refine kp_puti F hW g4 cbX4 12 rfl tw_191 (fun _ h9 => h9) rfl rfl dX4_tick_23 (fun H locs hW => ?_)
    rw [← hS8] at hW
    refine lv_iconst (v := 0) hx hb dX4_tick_26 (by decide) ?_
    refine lv_istore_n (lv' := [(3, .int (0 : Int32)), (2, .int (S2.I q5 2)), (0, .ref o), (1, .int a1)]) hx hb dX4_tick_27 rfl hl (by decide) rfl (fun ls hl => ?_)
    obtain ⟨n9, h⟩ := h
    exact wk_X4_tick_L28 F hr n9 _ _ _ _ _ _ _ _ h hW (lv_sub hl [2, 3, 1, 0] rfl)
  · have h := h.1 c3
    refine lv_iconst (v := (-1)) hx hb dX4_tick_11 (by decide) ?_
    exact kp_reti F hW hr h (by decide) (by decide) dX4_tick_12
def wp_X4_setTimeout (post : Int32 → pS → Prop) (o : Nat) (a1 : Int32) (S : pS) : Prop :=
  (wp_X4_isBetween (fun r1 S2 => ((r1 = 0 → post (-1 : Int32) S2) ∧ (¬ (r1 = 0) → (S2.ok o 4 ∧ ∀ S5, S5 = S2.setI o 8 a1 → post (S2.I o 8) S5)))) a1 (1 : Int32) (99 : Int32) S)
def rm_X4_setTimeout : Room := { frames := 1, cells := 0, slots := 0, locals := 22 }
set_option maxHeartbeats 4000000 in
set_option maxRecDepth 100000 in
theorem ct_X4_setTimeout (l : Launch) (E : EV) {post : Int32 → pS → Prop} (o : Nat) (a1 : Int32) (S : pS) (h : wp_X4_setTimeout post o a1 S) : CT l E yX4_setTimeout cX4_setTimeout 3 (some .int) rm_X4_setTimeout (QI E post) [.ref o, .int a1] S := by
  refine ct_intro (by decide +kernel) (Nat.le_of_ble_eq_true rfl) ?_
  intro p e s m below meth c A ls F hW hr hnm hl
  have hx := F.1
  have hb := F.2.1
  unfold wp_X4_setTimeout at h
  have hl : lv_has ls 3 [(0, .ref o), (1, .int a1)] := hl
  refine lv_iload_n hx hb dX4_setTimeout_0 rfl (lv_at hl 1 rfl) ?_
  refine lv_iconst (v := 1) hx hb dX4_setTimeout_1 (by decide) ?_
  refine lv_bipush (v := 99) hx hb dX4_setTimeout_2 (by decide) ?_
  refine kp_calli (c1 := 0) (s1 := 0) F hW (kp_runS (As := [.int a1, .int (1 : Int32), .int (99 : Int32)]) (rest := []) F hW (ct_X4_isBetween l E _ _ _ _ h) cf_X4_isBetween tw_258 rfl hl.1 ⟨by decide, by decide⟩ (Nat.le_of_ble_eq_true rfl) dX4_setTimeout_4 ⟨by decide, by decide⟩) (by decide) (by decide) (fun r1 S2 H locs h hW => ?_)
  refine lv_if_ne (tgt := 12) hx hb dX4_setTimeout_7 (by decide) (fun c3 => ?_) (fun c3 => ?_)
  · have h := h.2 c3
    refine lv_aload_n hx hb dX4_setTimeout_12 rfl (lv_at hl 0 rfl) ?_
    obtain ⟨g4, h⟩ := h
    refine kp_geti F hW g4 cbX4 8 rfl tw_187 (fun _ h9 => h9) dX4_setTimeout_13 ?_
    refine lv_istore_n (lv' := [(2, .int (S2.I o 8)), (0, .ref o), (1, .int a1)]) hx hb dX4_setTimeout_16 rfl hl (by decide) rfl (fun ls hl => ?_)
    refine lv_aload_n hx hb dX4_setTimeout_17 rfl (lv_at hl 1 rfl) ?_
    refine lv_iload_n hx hb dX4_setTimeout_18 rfl (lv_at hl 2 rfl) ?_
    obtain ⟨S5, hS5⟩ : ∃ z, z = S2.setI o 8 a1 := ⟨_, rfl⟩
    have h := h S5 hS5
    refine kp_puti F hW g4 cbX4 8 rfl tw_187 (fun _ h9 => h9) rfl rfl dX4_setTimeout_19 (fun H locs hW => ?_)
    rw [← hS5] at hW
    refine lv_iload_n hx hb dX4_setTimeout_22 rfl (lv_at hl 0 rfl) ?_
    exact kp_reti F hW hr h (by decide) (by decide) dX4_setTimeout_23
  · have h := h.1 c3
    refine lv_iconst (v := (-1)) hx hb dX4_setTimeout_10 (by decide) ?_
    exact kp_reti F hW hr h (by decide) (by decide) dX4_setTimeout_11
def wp_X4_pendingLength (post : Int32 → pS → Prop) (o : Nat) (S : pS) : Prop :=
  (S.ok o 4 ∧ ∃ q2, S.P o 1 = some q2 ∧ S.ok q2 3 ∧ wp_X3_size (fun r4 S5 => post r4 S5) q2 S)
def rm_X4_pendingLength : Room := { frames := 1, cells := 0, slots := 0, locals := 20 }
set_option maxHeartbeats 4000000 in
set_option maxRecDepth 100000 in
theorem ct_X4_pendingLength (l : Launch) (E : EV) {post : Int32 → pS → Prop} (o : Nat) (S : pS) (h : wp_X4_pendingLength post o S) : CT l E yX4_pendingLength cX4_pendingLength 1 (some .int) rm_X4_pendingLength (QI E post) [.ref o] S := by
  refine ct_intro (by decide +kernel) (Nat.le_of_ble_eq_true rfl) ?_
  intro p e s m below meth c A ls F hW hr hnm hl
  have hx := F.1
  have hb := F.2.1
  unfold wp_X4_pendingLength at h
  have hl : lv_has ls 1 [(0, .ref o)] := hl
  refine lv_aload_n hx hb dX4_pendingLength_0 rfl (lv_at hl 0 rfl) ?_
  obtain ⟨g1, h⟩ := h
  obtain ⟨q2, p3, h⟩ := h
  refine kp_getp F hW g1 cbX4 1 rfl tw_180 (fun _ h9 => h9) dX4_pendingLength_1 p3 ?_
  obtain ⟨g6, h⟩ := h
  refine kp_calli (c1 := 0) (s1 := 0) F hW (kp_runVN (As := []) (rest := []) F hW (ct_X3_size l E _ _ h) g6 cbX3 rfl cf_X3_size tw_234 rfl hl.1 ⟨by decide, by decide⟩ (Nat.le_of_ble_eq_true rfl) dX4_pendingLength_4 ⟨by decide, by decide⟩) (by decide) (by decide) (fun r4 S5 H locs h hW => ?_)
  exact kp_reti F hW hr h (by decide) (by decide) dX4_pendingLength_7
def wp_X4_pendingKey (post : Int32 → pS → Prop) (o : Nat) (a1 : Int32) (S : pS) : Prop :=
  ((0 ≤ a1 → (S.ok o 4 ∧ ∃ q3, S.P o 1 = some q3 ∧ S.ok q3 3 ∧ wp_X3_at (fun r5 S6 => post r5 S6) q3 a1 S)) ∧ (¬ (0 ≤ a1) → post (-1 : Int32) S))
def rm_X4_pendingKey : Room := { frames := 1, cells := 0, slots := 0, locals := 21 }
set_option maxHeartbeats 4000000 in
set_option maxRecDepth 100000 in
theorem ct_X4_pendingKey (l : Launch) (E : EV) {post : Int32 → pS → Prop} (o : Nat) (a1 : Int32) (S : pS) (h : wp_X4_pendingKey post o a1 S) : CT l E yX4_pendingKey cX4_pendingKey 2 (some .int) rm_X4_pendingKey (QI E post) [.ref o, .int a1] S := by
  refine ct_intro (by decide +kernel) (Nat.le_of_ble_eq_true rfl) ?_
  intro p e s m below meth c A ls F hW hr hnm hl
  have hx := F.1
  have hb := F.2.1
  unfold wp_X4_pendingKey at h
  have hl : lv_has ls 2 [(0, .ref o), (1, .int a1)] := hl
  refine lv_iload_n hx hb dX4_pendingKey_0 rfl (lv_at hl 1 rfl) ?_
  refine lv_if_ge (tgt := 6) hx hb dX4_pendingKey_1 (by decide) (fun c1 => ?_) (fun c1 => ?_)
  · have h := h.1 c1
    refine lv_aload_n hx hb dX4_pendingKey_6 rfl (lv_at hl 0 rfl) ?_
    obtain ⟨g2, h⟩ := h
    obtain ⟨q3, p4, h⟩ := h
    refine kp_getp F hW g2 cbX4 1 rfl tw_180 (fun _ h9 => h9) dX4_pendingKey_7 p4 ?_
    refine lv_iload_n hx hb dX4_pendingKey_10 rfl (lv_at hl 1 rfl) ?_
    obtain ⟨g7, h⟩ := h
    refine kp_calli (c1 := 0) (s1 := 0) F hW (kp_runVN (As := [.int a1]) (rest := []) F hW (ct_X3_at l E _ _ _ h) g7 cbX3 rfl cf_X3_at tw_372 rfl hl.1 ⟨by decide, by decide⟩ (Nat.le_of_ble_eq_true rfl) dX4_pendingKey_11 ⟨by decide, by decide⟩) (by decide) (by decide) (fun r5 S6 H locs h hW => ?_)
    exact kp_reti F hW hr h (by decide) (by decide) dX4_pendingKey_14
  · have h := h.2 c1
    refine lv_iconst (v := (-1)) hx hb dX4_pendingKey_4 (by decide) ?_
    exact kp_reti F hW hr h (by decide) (by decide) dX4_pendingKey_5
def wp_X4_remainingTime (post : Int32 → pS → Prop) (o : Nat) (S : pS) : Prop :=
  (S.ok o 4 ∧ ∃ q2, S.P o 1 = some q2 ∧ S.ok q2 3 ∧ wp_X3_size (fun r4 S5 => ((r4 = 0 → post (0 : Int32) S5) ∧ (¬ (r4 = 0) → (S5.ok o 4 ∧ post (S5.I o 9) S5)))) q2 S)
def rm_X4_remainingTime : Room := { frames := 1, cells := 0, slots := 0, locals := 20 }
set_option maxHeartbeats 4000000 in
set_option maxRecDepth 100000 in
theorem ct_X4_remainingTime (l : Launch) (E : EV) {post : Int32 → pS → Prop} (o : Nat) (S : pS) (h : wp_X4_remainingTime post o S) : CT l E yX4_remainingTime cX4_remainingTime 1 (some .int) rm_X4_remainingTime (QI E post) [.ref o] S := by
  refine ct_intro (by decide +kernel) (Nat.le_of_ble_eq_true rfl) ?_
  intro p e s m below meth c A ls F hW hr hnm hl
  have hx := F.1
  have hb := F.2.1
  unfold wp_X4_remainingTime at h
  have hl : lv_has ls 1 [(0, .ref o)] := hl
  refine lv_aload_n hx hb dX4_remainingTime_0 rfl (lv_at hl 0 rfl) ?_
  obtain ⟨g1, h⟩ := h
  obtain ⟨q2, p3, h⟩ := h
  refine kp_getp F hW g1 cbX4 1 rfl tw_180 (fun _ h9 => h9) dX4_remainingTime_1 p3 ?_
  obtain ⟨g6, h⟩ := h
  refine kp_calli (c1 := 0) (s1 := 0) F hW (kp_runVN (As := []) (rest := []) F hW (ct_X3_size l E _ _ h) g6 cbX3 rfl cf_X3_size tw_234 rfl hl.1 ⟨by decide, by decide⟩ (Nat.le_of_ble_eq_true rfl) dX4_remainingTime_4 ⟨by decide, by decide⟩) (by decide) (by decide) (fun r4 S5 H locs h hW => ?_)
  refine lv_if_ne (tgt := 14) hx hb dX4_remainingTime_7 (by decide) (fun c7 => ?_) (fun c7 => ?_)
  · have h := h.2 c7
    refine lv_aload_n hx hb dX4_remainingTime_14 rfl (lv_at hl 0 rfl) ?_
    obtain ⟨g8, h⟩ := h
    refine kp_geti F hW g8 cbX4 9 rfl tw_188 (fun _ h9 => h9) dX4_remainingTime_15 ?_
    exact kp_reti F hW hr h (by decide) (by decide) dX4_remainingTime_18
  · have h := h.1 c7
    refine lv_iconst (v := 0) hx hb dX4_remainingTime_10 (by decide) ?_
    refine lv_goto (tgt := 18) hx hb dX4_remainingTime_11 (by decide) ?_
    exact kp_reti F hW hr h (by decide) (by decide) dX4_remainingTime_18
def wp_X4_pendingBinding (post : Int32 → pS → Prop) (o : Nat) (S : pS) : Prop :=
  (S.ok o 4 ∧ ∃ q2, S.P o 1 = some q2 ∧ S.ok q2 3 ∧ wp_X3_size (fun r4 S5 => (S5.ok o 4 ∧ wp_X4_findBinding (fun r7 S8 => post r7 S8) o r4 S5)) q2 S)
def rm_X4_pendingBinding : Room := { frames := 4, cells := 0, slots := 0, locals := 89 }
set_option maxHeartbeats 4000000 in
set_option maxRecDepth 100000 in
theorem ct_X4_pendingBinding (l : Launch) (E : EV) {post : Int32 → pS → Prop} (o : Nat) (S : pS) (h : wp_X4_pendingBinding post o S) : CT l E yX4_pendingBinding cX4_pendingBinding 1 (some .int) rm_X4_pendingBinding (QI E post) [.ref o] S := by
  refine ct_intro (by decide +kernel) (Nat.le_of_ble_eq_true rfl) ?_
  intro p e s m below meth c A ls F hW hr hnm hl
  have hx := F.1
  have hb := F.2.1
  unfold wp_X4_pendingBinding at h
  have hl : lv_has ls 1 [(0, .ref o)] := hl
  refine lv_aload_n hx hb dX4_pendingBinding_0 rfl (lv_at hl 0 rfl) ?_
  refine lv_aload_n hx hb dX4_pendingBinding_1 rfl (lv_at hl 0 rfl) ?_
  obtain ⟨g1, h⟩ := h
  obtain ⟨q2, p3, h⟩ := h
  refine kp_getp F hW g1 cbX4 1 rfl tw_180 (fun _ h9 => h9) dX4_pendingBinding_2 p3 ?_
  obtain ⟨g6, h⟩ := h
  refine kp_calli (c1 := 0) (s1 := 0) F hW (kp_runVN (As := []) (rest := [.ref o]) F hW (ct_X3_size l E _ _ h) g6 cbX3 rfl cf_X3_size tw_234 rfl hl.1 ⟨by decide, by decide⟩ (Nat.le_of_ble_eq_true rfl) dX4_pendingBinding_5 ⟨by decide, by decide⟩) (by decide) (by decide) (fun r4 S5 H locs h hW => ?_)
  obtain ⟨g9, h⟩ := h
  refine kp_calli (c1 := 0) (s1 := 0) F hW (kp_runV (As := [.int r4]) (rest := []) F hW (ct_X4_findBinding l E _ _ _ h) g9 cbX4 rfl cf_X4_findBinding tw_367 rfl hl.1 ⟨by decide, by decide⟩ (Nat.le_of_ble_eq_true rfl) dX4_pendingBinding_8 ⟨by decide, by decide⟩) (by decide) (by decide) (fun r7 S8 H locs h hW => ?_)
  exact kp_reti F hW hr h (by decide) (by decide) dX4_pendingBinding_11
def wp_X4_flag (post : Int32 → pS → Prop) (o : Nat) (a1 : Int32) (S : pS) : Prop :=
  (S.ok o 4 ∧ wp_X4_isFlag (fun r1 S2 => ((r1 = 0 → post (-1 : Int32) S2) ∧ (¬ (r1 = 0) → (S2.ok o 4 ∧ ∃ q6, S2.P o 6 = some q6 ∧ S2.ok q6 7 ∧ vp_in a1 (S2.n q6) ∧ post (S2.I q6 a1.toNatClampNeg) S2)))) o a1 S)
def rm_X4_flag : Room := { frames := 1, cells := 0, slots := 0, locals := 21 }
set_option maxHeartbeats 4000000 in
set_option maxRecDepth 100000 in
theorem ct_X4_flag (l : Launch) (E : EV) {post : Int32 → pS → Prop} (o : Nat) (a1 : Int32) (S : pS) (h : wp_X4_flag post o a1 S) : CT l E yX4_flag cX4_flag 2 (some .int) rm_X4_flag (QI E post) [.ref o, .int a1] S := by
  refine ct_intro (by decide +kernel) (Nat.le_of_ble_eq_true rfl) ?_
  intro p e s m below meth c A ls F hW hr hnm hl
  have hx := F.1
  have hb := F.2.1
  unfold wp_X4_flag at h
  have hl : lv_has ls 2 [(0, .ref o), (1, .int a1)] := hl
  refine lv_aload_n hx hb dX4_flag_0 rfl (lv_at hl 0 rfl) ?_
  refine lv_iload_n hx hb dX4_flag_1 rfl (lv_at hl 1 rfl) ?_
  obtain ⟨g3, h⟩ := h
  refine kp_calli (c1 := 0) (s1 := 0) F hW (kp_runV (As := [.int a1]) (rest := []) F hW (ct_X4_isFlag l E _ _ _ h) g3 cbX4 rfl cf_X4_isFlag tw_254 rfl hl.1 ⟨by decide, by decide⟩ (Nat.le_of_ble_eq_true rfl) dX4_flag_2 ⟨by decide, by decide⟩) (by decide) (by decide) (fun r1 S2 H locs h hW => ?_)
  refine lv_if_ne (tgt := 10) hx hb dX4_flag_5 (by decide) (fun c4 => ?_) (fun c4 => ?_)
  · have h := h.2 c4
    refine lv_aload_n hx hb dX4_flag_10 rfl (lv_at hl 0 rfl) ?_
    obtain ⟨g5, h⟩ := h
    obtain ⟨q6, p7, h⟩ := h
    refine kp_getp F hW g5 cbX4 6 rfl tw_185 (fun _ h9 => h9) dX4_flag_11 p7 ?_
    refine lv_iload_n hx hb dX4_flag_14 rfl (lv_at hl 1 rfl) ?_
    obtain ⟨g8, h⟩ := h
    obtain ⟨b9, h⟩ := h
    refine kp_iald F hW g8 b9 dX4_flag_15 ?_
    exact kp_reti F hW hr h (by decide) (by decide) dX4_flag_16
  · have h := h.1 c4
    refine lv_iconst (v := (-1)) hx hb dX4_flag_8 (by decide) ?_
    exact kp_reti F hW hr h (by decide) (by decide) dX4_flag_9
def wp_X4_stackSize (post : Int32 → pS → Prop) (o : Nat) (S : pS) : Prop :=
  (S.ok o 4 ∧ ∃ q2, S.P o 5 = some q2 ∧ S.ok q2 6 ∧ wp_Jx4a65c_size_8abf5 (fun r4 S5 => post r4 S5) q2 S)
def rm_X4_stackSize : Room := { frames := 1, cells := 0, slots := 0, locals := 20 }
set_option maxHeartbeats 4000000 in
set_option maxRecDepth 100000 in
theorem ct_X4_stackSize (l : Launch) (E : EV) {post : Int32 → pS → Prop} (o : Nat) (S : pS) (h : wp_X4_stackSize post o S) : CT l E yX4_stackSize cX4_stackSize 1 (some .int) rm_X4_stackSize (QI E post) [.ref o] S := by
  refine ct_intro (by decide +kernel) (Nat.le_of_ble_eq_true rfl) ?_
  intro p e s m below meth c A ls F hW hr hnm hl
  have hx := F.1
  have hb := F.2.1
  unfold wp_X4_stackSize at h
  have hl : lv_has ls 1 [(0, .ref o)] := hl
  refine lv_aload_n hx hb dX4_stackSize_0 rfl (lv_at hl 0 rfl) ?_
  obtain ⟨g1, h⟩ := h
  obtain ⟨q2, p3, h⟩ := h
  refine kp_getp F hW g1 cbX4 5 rfl tw_184 (fun _ h9 => h9) dX4_stackSize_1 p3 ?_
  obtain ⟨g6, h⟩ := h
  refine kp_calli (c1 := 0) (s1 := 0) F hW (kp_runV (As := []) (rest := []) F hW (ct_Jx4a65c_size_8abf5 l E _ _ h) g6 cbJx4a65c rfl cf_Jx4a65c_size_8abf5 tw_161 rfl hl.1 ⟨by decide, by decide⟩ (Nat.le_of_ble_eq_true rfl) dX4_stackSize_4 ⟨by decide, by decide⟩) (by decide) (by decide) (fun r4 S5 H locs h hW => ?_)
  exact kp_reti F hW hr h (by decide) (by decide) dX4_stackSize_7
def wp_X4_stackContext (post : Int32 → pS → Prop) (o : Nat) (a1 : Int32) (S : pS) : Prop :=
  ((0 ≤ a1 → (S.ok o 4 ∧ ∃ q3, S.P o 5 = some q3 ∧ S.ok q3 6 ∧ wp_Jx4a65c_size_8abf5 (fun r5 S6 => ((a1 < r5 → (S6.ok o 4 ∧ ∃ q10, S6.P o 5 = some q10 ∧ S6.ok q10 6 ∧ wp_Jx4a65c_size_8abf5 (fun r12 S13 => (S13.ok q10 6 ∧ wp_Jx4a65c_get_915e3 (fun r15 S16 => (S16.ok r15 1 ∧ post (S16.I r15 0) S16)) q10 ((r12 - (1 : Int32)) - a1) S13)) q10 S6)) ∧ (¬ (a1 < r5) → post (-4 : Int32) S6))) q3 S)) ∧ (¬ (0 ≤ a1) → post (-1 : Int32) S))
def rm_X4_stackContext : Room := { frames := 3, cells := 0, slots := 0, locals := 64 }
set_option maxHeartbeats 4000000 in
set_option maxRecDepth 100000 in
theorem ct_X4_stackContext (l : Launch) (E : EV) {post : Int32 → pS → Prop} (o : Nat) (a1 : Int32) (S : pS) (h : wp_X4_stackContext post o a1 S) : CT l E yX4_stackContext cX4_stackContext 2 (some .int) rm_X4_stackContext (QI E post) [.ref o, .int a1] S := by
  refine ct_intro (by decide +kernel) (Nat.le_of_ble_eq_true rfl) ?_
  intro p e s m below meth c A ls F hW hr hnm hl
  have hx := F.1
  have hb := F.2.1
  unfold wp_X4_stackContext at h
  have hl : lv_has ls 2 [(0, .ref o), (1, .int a1)] := hl
  refine lv_iload_n hx hb dX4_stackContext_0 rfl (lv_at hl 1 rfl) ?_
  refine lv_if_ge (tgt := 6) hx hb dX4_stackContext_1 (by decide) (fun c1 => ?_) (fun c1 => ?_)
  · have h := h.1 c1
    refine lv_iload_n hx hb dX4_stackContext_6 rfl (lv_at hl 1 rfl) ?_
    refine lv_aload_n hx hb dX4_stackContext_7 rfl (lv_at hl 0 rfl) ?_
    obtain ⟨g2, h⟩ := h
    obtain ⟨q3, p4, h⟩ := h
    refine kp_getp F hW g2 cbX4 5 rfl tw_184 (fun _ h9 => h9) dX4_stackContext_8 p4 ?_
    obtain ⟨g7, h⟩ := h
    refine kp_calli (c1 := 0) (s1 := 0) F hW (kp_runV (As := []) (rest := [.int a1]) F hW (ct_Jx4a65c_size_8abf5 l E _ _ h) g7 cbJx4a65c rfl cf_Jx4a65c_size_8abf5 tw_161 rfl hl.1 ⟨by decide, by decide⟩ (Nat.le_of_ble_eq_true rfl) dX4_stackContext_11 ⟨by decide, by decide⟩) (by decide) (by decide) (fun r5 S6 H locs h hW => ?_)
    refine lv_icmp_lt (tgt := 20) hx hb dX4_stackContext_14 (by decide) (fun c8 => ?_) (fun c8 => ?_)
    · have h := h.1 c8
      refine lv_aload_n hx hb dX4_stackContext_20 rfl (lv_at hl 0 rfl) ?_
      obtain ⟨g9, h⟩ := h
      obtain ⟨q10, p11, h⟩ := h
      refine kp_getp F hW g9 cbX4 5 rfl tw_184 (fun _ h9 => h9) dX4_stackContext_21 p11 ?_
      refine lv_aload_n hx hb dX4_stackContext_24 rfl (lv_at hl 0 rfl) ?_
      refine kp_getp F hW g9 cbX4 5 rfl tw_184 (fun _ h9 => h9) dX4_stackContext_25 p11 ?_
      obtain ⟨g14, h⟩ := h
      refine kp_calli (c1 := 0) (s1 := 0) F hW (kp_runV (As := []) (rest := [.ref q10]) F hW (ct_Jx4a65c_size_8abf5 l E _ _ h) g14 cbJx4a65c rfl cf_Jx4a65c_size_8abf5 tw_161 rfl hl.1 ⟨by decide, by decide⟩ (Nat.le_of_ble_eq_true rfl) dX4_stackContext_28 ⟨by decide, by decide⟩) (by decide) (by decide) (fun r12 S13 H locs h hW => ?_)
      refine lv_iconst (v := 1) hx hb dX4_stackContext_31 (by decide) ?_
      refine lv_isub hx hb dX4_stackContext_32 ?_
      refine lv_iload_n hx hb dX4_stackContext_33 rfl (lv_at hl 1 rfl) ?_
      refine lv_isub hx hb dX4_stackContext_34 ?_
      obtain ⟨g17, h⟩ := h
      refine kp_callr (c1 := 0) (s1 := 0) F hW (kp_runV (As := [.int ((r12 - (1 : Int32)) - a1)]) (rest := []) F hW (ct_Jx4a65c_get_915e3 l E _ _ _ h) g17 cbJx4a65c rfl cf_Jx4a65c_get_915e3 tw_165 rfl hl.1 ⟨by decide, by decide⟩ (Nat.le_of_ble_eq_true rfl) dX4_stackContext_35 ⟨by decide, by decide⟩) (by decide) (by decide) (fun r15 S16 H locs h hW => ?_)
      obtain ⟨g18, h⟩ := h
      refine kp_cast F hW g18 cbX1 tw_119 dX4_stackContext_38 ?_
      refine kp_getiN F hW g18 cbX1 0 rfl tw_128 (fun _ h9 => h9) dX4_stackContext_41 ?_
      exact kp_reti F hW hr h (by decide) (by decide) dX4_stackContext_44
    · have h := h.2 c8
      refine lv_bipush (v := (-4)) hx hb dX4_stackContext_17 (by decide) ?_
      exact kp_reti F hW hr h (by decide) (by decide) dX4_stackContext_19
  · have h := h.2 c1
    refine lv_iconst (v := (-1)) hx hb dX4_stackContext_4 (by decide) ?_
    exact kp_reti F hW hr h (by decide) (by decide) dX4_stackContext_5
def wp_X4_startRecording (post : Int32 → pS → Prop) (o : Nat) (a1 : Int32) (S : pS) : Prop :=
  (S.ok o 4 ∧ wp_X4_isMacro (fun r1 S2 => ((r1 = 0 → post (-1 : Int32) S2) ∧ (¬ (r1 = 0) → (S2.ok o 4 ∧ (((S2.I o 10) = (-1 : Int32) → (∃ q7, S2.P o 3 = some q7 ∧ S2.ok q7 6 ∧ wp_Jx4a65c_get_915e3 (fun r9 S10 => (S10.ok r9 3 ∧ wp_X3_size (fun r13 S14 => (S14.ok r9 3 ∧ wp_X3_clear (fun S16 => (S16.ok o 4 ∧ ∀ S19, S19 = S16.setI o 10 a1 → post r13 S19)) r9 S14)) r9 S10)) q7 a1 S2)) ∧ (¬ ((S2.I o 10) = (-1 : Int32)) → post (-2 : Int32) S2)))))) o a1 S)
def rm_X4_startRecording : Room := { frames := 3, cells := 0, slots := 0, locals := 64 }
set_option maxHeartbeats 4000000 in
set_option maxRecDepth 100000 in
theorem ct_X4_startRecording (l : Launch) (E : EV) {post : Int32 → pS → Prop} (o : Nat) (a1 : Int32) (S : pS) (h : wp_X4_startRecording post o a1 S) : CT l E yX4_startRecording cX4_startRecording 4 (some .int) rm_X4_startRecording (QI E post) [.ref o, .int a1] S := by
  refine ct_intro (by decide +kernel) (Nat.le_of_ble_eq_true rfl) ?_
  intro p e s m below meth c A ls F hW hr hnm hl
  have hx := F.1
  have hb := F.2.1
  unfold wp_X4_startRecording at h
  have hl : lv_has ls 4 [(0, .ref o), (1, .int a1)] := hl
  refine lv_aload_n hx hb dX4_startRecording_0 rfl (lv_at hl 0 rfl) ?_
  refine lv_iload_n hx hb dX4_startRecording_1 rfl (lv_at hl 1 rfl) ?_
  obtain ⟨g3, h⟩ := h
  refine kp_calli (c1 := 0) (s1 := 0) F hW (kp_runV (As := [.int a1]) (rest := []) F hW (ct_X4_isMacro l E _ _ _ h) g3 cbX4 rfl cf_X4_isMacro tw_265 rfl hl.1 ⟨by decide, by decide⟩ (Nat.le_of_ble_eq_true rfl) dX4_startRecording_2 ⟨by decide, by decide⟩) (by decide) (by decide) (fun r1 S2 H locs h hW => ?_)
  refine lv_if_ne (tgt := 10) hx hb dX4_startRecording_5 (by decide) (fun c4 => ?_) (fun c4 => ?_)
  · have h := h.2 c4
    refine lv_aload_n hx hb dX4_startRecording_10 rfl (lv_at hl 0 rfl) ?_
    obtain ⟨g5, h⟩ := h
    refine kp_geti F hW g5 cbX4 10 rfl tw_189 (fun _ h9 => h9) dX4_startRecording_11 ?_
    refine lv_iconst (v := (-1)) hx hb dX4_startRecording_14 (by decide) ?_
    refine lv_icmp_eq (tgt := 21) hx hb dX4_startRecording_15 (by decide) (fun c6 => ?_) (fun c6 => ?_)
    · have h := h.1 c6
      refine lv_aload_n hx hb dX4_startRecording_21 rfl (lv_at hl 0 rfl) ?_
      obtain ⟨q7, p8, h⟩ := h
      refine kp_getp F hW g5 cbX4 3 rfl tw_182 (fun _ h9 => h9) dX4_startRecording_22 p8 ?_
      refine lv_iload_n hx hb dX4_startRecording_25 rfl (lv_at hl 1 rfl) ?_
      obtain ⟨g11, h⟩ := h
      refine kp_callr (c1 := 0) (s1 := 0) F hW (kp_runV (As := [.int a1]) (rest := []) F hW (ct_Jx4a65c_get_915e3 l E _ _ _ h) g11 cbJx4a65c rfl cf_Jx4a65c_get_915e3 tw_165 rfl hl.1 ⟨by decide, by decide⟩ (Nat.le_of_ble_eq_true rfl) dX4_startRecording_26 ⟨by decide, by decide⟩) (by decide) (by decide) (fun r9 S10 H locs h hW => ?_)
      obtain ⟨g12, h⟩ := h
      refine kp_cast F hW g12 cbX3 tw_24 dX4_startRecording_29 ?_
      refine lv_astore_n (lv' := [(2, .ref r9), (0, .ref o), (1, .int a1)]) hx hb dX4_startRecording_32 rfl hl (by decide) rfl (fun ls hl => ?_)
      refine lv_aload_n hx hb dX4_startRecording_33 rfl (lv_at hl 0 rfl) ?_
      refine kp_calli (c1 := 0) (s1 := 0) F hW (kp_runVN (As := []) (rest := []) F hW (ct_X3_size l E _ _ h) g12 cbX3 rfl cf_X3_size tw_234 rfl hl.1 ⟨by decide, by decide⟩ (Nat.le_of_ble_eq_true rfl) dX4_startRecording_34 ⟨by decide, by decide⟩) (by decide) (by decide) (fun r13 S14 H locs h hW => ?_)
      refine lv_istore_n (lv' := [(3, .int r13), (2, .ref r9), (0, .ref o), (1, .int a1)]) hx hb dX4_startRecording_37 rfl hl (by decide) rfl (fun ls hl => ?_)
      refine lv_aload_n hx hb dX4_startRecording_38 rfl (lv_at hl 1 rfl) ?_
      obtain ⟨g17, h⟩ := h
      refine kp_callv (c1 := 0) (s1 := 0) F hW (kp_runVN (As := []) (rest := []) F hW (ct_X3_clear l E _ _ h) g17 cbX3 rfl cf_X3_clear tw_242 rfl hl.1 ⟨by decide, by decide⟩ (Nat.le_of_ble_eq_true rfl) dX4_startRecording_39 ⟨by decide, by decide⟩) (by decide) (by decide) (fun S16 H locs h hW => ?_)
      refine lv_aload_n hx hb dX4_startRecording_42 rfl (lv_at hl 2 rfl) ?_
      refine lv_iload_n hx hb dX4_startRecording_43 rfl (lv_at hl 3 rfl) ?_
      obtain ⟨g18, h⟩ := h
      obtain ⟨S19, hS19⟩ : ∃ z, z = S16.setI o 10 a1 := ⟨_, rfl⟩
      have h := h S19 hS19
      refine kp_puti F hW g18 cbX4 10 rfl tw_189 (fun _ h9 => h9) rfl rfl dX4_startRecording_44 (fun H locs hW => ?_)
      rw [← hS19] at hW
      refine lv_iload_n hx hb dX4_startRecording_47 rfl (lv_at hl 0 rfl) ?_
      exact kp_reti F hW hr h (by decide) (by decide) dX4_startRecording_48
    · have h := h.2 c6
      refine lv_bipush (v := (-2)) hx hb dX4_startRecording_18 (by decide) ?_
      exact kp_reti F hW hr h (by decide) (by decide) dX4_startRecording_20
  · have h := h.1 c4
    refine lv_iconst (v := (-1)) hx hb dX4_startRecording_8 (by decide) ?_
    exact kp_reti F hW hr h (by decide) (by decide) dX4_startRecording_9
def wp_X4_stopRecording (post : Int32 → pS → Prop) (o : Nat) (S : pS) : Prop :=
  (S.ok o 4 ∧ wp_X4_isMacro (fun r2 S3 => ((r2 = 0 → post (-2 : Int32) S3) ∧ (¬ (r2 = 0) → (S3.ok o 4 ∧ ∃ q6, S3.P o 3 = some q6 ∧ S3.ok q6 6 ∧ wp_Jx4a65c_get_915e3 (fun r8 S9 => (S9.ok r8 3 ∧ wp_X3_size (fun r12 S13 => (S13.ok o 4 ∧ ∀ S15, S15 = S13.setI o 10 (-1 : Int32) → post r12 S15)) r8 S9)) q6 (S3.I o 10) S3)))) o (S.I o 10) S)
def rm_X4_stopRecording : Room := { frames := 3, cells := 0, slots := 0, locals := 64 }
set_option maxHeartbeats 4000000 in
set_option maxRecDepth 100000 in
theorem ct_X4_stopRecording (l : Launch) (E : EV) {post : Int32 → pS → Prop} (o : Nat) (S : pS) (h : wp_X4_stopRecording post o S) : CT l E yX4_stopRecording cX4_stopRecording 2 (some .int) rm_X4_stopRecording (QI E post) [.ref o] S := by
  refine ct_intro (by decide +kernel) (Nat.le_of_ble_eq_true rfl) ?_
  intro p e s m below meth c A ls F hW hr hnm hl
  have hx := F.1
  have hb := F.2.1
  unfold wp_X4_stopRecording at h
  have hl : lv_has ls 2 [(0, .ref o)] := hl
  refine lv_aload_n hx hb dX4_stopRecording_0 rfl (lv_at hl 0 rfl) ?_
  refine lv_aload_n hx hb dX4_stopRecording_1 rfl (lv_at hl 0 rfl) ?_
  obtain ⟨g1, h⟩ := h
  refine kp_geti F hW g1 cbX4 10 rfl tw_189 (fun _ h9 => h9) dX4_stopRecording_2 ?_
  refine kp_calli (c1 := 0) (s1 := 0) F hW (kp_runV (As := [.int (S.I o 10)]) (rest := []) F hW (ct_X4_isMacro l E _ _ _ h) g1 cbX4 rfl cf_X4_isMacro tw_265 rfl hl.1 ⟨by decide, by decide⟩ (Nat.le_of_ble_eq_true rfl) dX4_stopRecording_5 ⟨by decide, by decide⟩) (by decide) (by decide) (fun r2 S3 H locs h hW => ?_)
  refine lv_if_ne (tgt := 14) hx hb dX4_stopRecording_8 (by decide) (fun c4 => ?_) (fun c4 => ?_)
  · have h := h.2 c4
    refine lv_aload_n hx hb dX4_stopRecording_14 rfl (lv_at hl 0 rfl) ?_
    obtain ⟨g5, h⟩ := h
    obtain ⟨q6, p7, h⟩ := h
    refine kp_getp F hW g5 cbX4 3 rfl tw_182 (fun _ h9 => h9) dX4_stopRecording_15 p7 ?_
    refine lv_aload_n hx hb dX4_stopRecording_18 rfl (lv_at hl 0 rfl) ?_
    refine kp_geti F hW g5 cbX4 10 rfl tw_189 (fun _ h9 => h9) dX4_stopRecording_19 ?_
    obtain ⟨g10, h⟩ := h
    refine kp_callr (c1 := 0) (s1 := 0) F hW (kp_runV (As := [.int (S3.I o 10)]) (rest := []) F hW (ct_Jx4a65c_get_915e3 l E _ _ _ h) g10 cbJx4a65c rfl cf_Jx4a65c_get_915e3 tw_165 rfl hl.1 ⟨by decide, by decide⟩ (Nat.le_of_ble_eq_true rfl) dX4_stopRecording_22 ⟨by decide, by decide⟩) (by decide) (by decide) (fun r8 S9 H locs h hW => ?_)
    obtain ⟨g11, h⟩ := h
    refine kp_cast F hW g11 cbX3 tw_24 dX4_stopRecording_25 ?_
    refine kp_calli (c1 := 0) (s1 := 0) F hW (kp_runVN (As := []) (rest := []) F hW (ct_X3_size l E _ _ h) g11 cbX3 rfl cf_X3_size tw_234 rfl hl.1 ⟨by decide, by decide⟩ (Nat.le_of_ble_eq_true rfl) dX4_stopRecording_28 ⟨by decide, by decide⟩) (by decide) (by decide) (fun r12 S13 H locs h hW => ?_)
    refine lv_istore_n (lv' := [(1, .int r12), (0, .ref o)]) hx hb dX4_stopRecording_31 rfl hl (by decide) rfl (fun ls hl => ?_)
    refine lv_aload_n hx hb dX4_stopRecording_32 rfl (lv_at hl 1 rfl) ?_
    refine lv_iconst (v := (-1)) hx hb dX4_stopRecording_33 (by decide) ?_
    obtain ⟨g14, h⟩ := h
    obtain ⟨S15, hS15⟩ : ∃ z, z = S13.setI o 10 (-1 : Int32) := ⟨_, rfl⟩
    have h := h S15 hS15
    refine kp_puti F hW g14 cbX4 10 rfl tw_189 (fun _ h9 => h9) rfl rfl dX4_stopRecording_34 (fun H locs hW => ?_)
    rw [← hS15] at hW
    refine lv_iload_n hx hb dX4_stopRecording_37 rfl (lv_at hl 0 rfl) ?_
    exact kp_reti F hW hr h (by decide) (by decide) dX4_stopRecording_38
  · have h := h.1 c4
    refine lv_bipush (v := (-2)) hx hb dX4_stopRecording_11 (by decide) ?_
    exact kp_reti F hW hr h (by decide) (by decide) dX4_stopRecording_13
def wp_X4_macroKey (post : Int32 → pS → Prop) (o : Nat) (a1 : Int32) (a2 : Int32) (S : pS) : Prop :=
  (S.ok o 4 ∧ wp_X4_isMacro (fun r1 S2 => ((r1 = 0 → post (-1 : Int32) S2) ∧ (¬ (r1 = 0) → ((0 ≤ a2 → (S2.ok o 4 ∧ ∃ q7, S2.P o 3 = some q7 ∧ S2.ok q7 6 ∧ wp_Jx4a65c_get_915e3 (fun r9 S10 => (S10.ok r9 3 ∧ wp_X3_at (fun r13 S14 => post r13 S14) r9 a2 S10)) q7 a1 S2)) ∧ (¬ (0 ≤ a2) → post (-1 : Int32) S2))))) o a1 S)
def rm_X4_macroKey : Room := { frames := 3, cells := 0, slots := 0, locals := 64 }
set_option maxHeartbeats 4000000 in
set_option maxRecDepth 100000 in
theorem ct_X4_macroKey (l : Launch) (E : EV) {post : Int32 → pS → Prop} (o : Nat) (a1 : Int32) (a2 : Int32) (S : pS) (h : wp_X4_macroKey post o a1 a2 S) : CT l E yX4_macroKey cX4_macroKey 3 (some .int) rm_X4_macroKey (QI E post) [.ref o, .int a1, .int a2] S := by
  refine ct_intro (by decide +kernel) (Nat.le_of_ble_eq_true rfl) ?_
  intro p e s m below meth c A ls F hW hr hnm hl
  have hx := F.1
  have hb := F.2.1
  unfold wp_X4_macroKey at h
  have hl : lv_has ls 3 [(0, .ref o), (1, .int a1), (2, .int a2)] := hl
  refine lv_aload_n hx hb dX4_macroKey_0 rfl (lv_at hl 0 rfl) ?_
  refine lv_iload_n hx hb dX4_macroKey_1 rfl (lv_at hl 1 rfl) ?_
  obtain ⟨g3, h⟩ := h
  refine kp_calli (c1 := 0) (s1 := 0) F hW (kp_runV (As := [.int a1]) (rest := []) F hW (ct_X4_isMacro l E _ _ _ h) g3 cbX4 rfl cf_X4_isMacro tw_265 rfl hl.1 ⟨by decide, by decide⟩ (Nat.le_of_ble_eq_true rfl) dX4_macroKey_2 ⟨by decide, by decide⟩) (by decide) (by decide) (fun r1 S2 H locs h hW => ?_)
  refine lv_if_eq (tgt := 12) hx hb dX4_macroKey_5 (by decide) (fun c4 => ?_) (fun c4 => ?_)
  · have h := h.1 c4
    refine lv_iconst (v := (-1)) hx hb dX4_macroKey_12 (by decide) ?_
    exact kp_reti F hW hr h (by decide) (by decide) dX4_macroKey_13
  · have h := h.2 c4
    refine lv_iload_n hx hb dX4_macroKey_8 rfl (lv_at hl 2 rfl) ?_
    refine lv_if_ge (tgt := 14) hx hb dX4_macroKey_9 (by decide) (fun c5 => ?_) (fun c5 => ?_)
    · have h := h.1 c5
      refine lv_aload_n hx hb dX4_macroKey_14 rfl (lv_at hl 0 rfl) ?_
      obtain ⟨g6, h⟩ := h
      obtain ⟨q7, p8, h⟩ := h
      refine kp_getp F hW g6 cbX4 3 rfl tw_182 (fun _ h9 => h9) dX4_macroKey_15 p8 ?_
      refine lv_iload_n hx hb dX4_macroKey_18 rfl (lv_at hl 1 rfl) ?_
      obtain ⟨g11, h⟩ := h
      refine kp_callr (c1 := 0) (s1 := 0) F hW (kp_runV (As := [.int a1]) (rest := []) F hW (ct_Jx4a65c_get_915e3 l E _ _ _ h) g11 cbJx4a65c rfl cf_Jx4a65c_get_915e3 tw_165 rfl hl.1 ⟨by decide, by decide⟩ (Nat.le_of_ble_eq_true rfl) dX4_macroKey_19 ⟨by decide, by decide⟩) (by decide) (by decide) (fun r9 S10 H locs h hW => ?_)
      obtain ⟨g12, h⟩ := h
      refine kp_cast F hW g12 cbX3 tw_24 dX4_macroKey_22 ?_
      refine lv_iload_n hx hb dX4_macroKey_25 rfl (lv_at hl 2 rfl) ?_
      refine kp_calli (c1 := 0) (s1 := 0) F hW (kp_runVN (As := [.int a2]) (rest := []) F hW (ct_X3_at l E _ _ _ h) g12 cbX3 rfl cf_X3_at tw_372 rfl hl.1 ⟨by decide, by decide⟩ (Nat.le_of_ble_eq_true rfl) dX4_macroKey_26 ⟨by decide, by decide⟩) (by decide) (by decide) (fun r13 S14 H locs h hW => ?_)
      exact kp_reti F hW hr h (by decide) (by decide) dX4_macroKey_29
    · have h := h.2 c5
      refine lv_iconst (v := (-1)) hx hb dX4_macroKey_12 (by decide) ?_
      exact kp_reti F hW hr h (by decide) (by decide) dX4_macroKey_13
def wp_X4_reportCount (post : Int32 → pS → Prop) (o : Nat) (S : pS) : Prop :=
  (S.ok o 4 ∧ ∃ q2, S.P o 7 = some q2 ∧ S.ok q2 2 ∧ post (S.I q2 2) S)
def rm_X4_reportCount : Room := { frames := 0, cells := 0, slots := 0, locals := 0 }
set_option maxHeartbeats 4000000 in
set_option maxRecDepth 100000 in
theorem ct_X4_reportCount (l : Launch) (E : EV) {post : Int32 → pS → Prop} (o : Nat) (S : pS) (h : wp_X4_reportCount post o S) : CT l E yX4_reportCount cX4_reportCount 1 (some .int) rm_X4_reportCount (QI E post) [.ref o] S := by
  refine ct_intro (by decide +kernel) (Nat.le_of_ble_eq_true rfl) ?_
  intro p e s m below meth c A ls F hW hr hnm hl
  have hx := F.1
  have hb := F.2.1
  unfold wp_X4_reportCount at h
  have hl : lv_has ls 1 [(0, .ref o)] := hl
  refine lv_aload_n hx hb dX4_reportCount_0 rfl (lv_at hl 0 rfl) ?_
  obtain ⟨g1, h⟩ := h
  obtain ⟨q2, p3, h⟩ := h
  refine kp_getp F hW g1 cbX4 7 rfl tw_186 (fun _ h9 => h9) dX4_reportCount_1 p3 ?_
  obtain ⟨g4, h⟩ := h
  refine kp_getiN F hW g4 cbX2 2 rfl tw_145 (fun _ h9 => h9) dX4_reportCount_4 ?_
  exact kp_reti F hW hr h (by decide) (by decide) dX4_reportCount_7
def wp_X4_reportKind (post : Int32 → pS → Prop) (o : Nat) (a1 : Int32) (S : pS) : Prop :=
  ((0 ≤ a1 → (S.ok o 4 ∧ ∃ q3, S.P o 7 = some q3 ∧ S.ok q3 2 ∧ wp_X2_kindOf (fun r5 S6 => post r5 S6) q3 a1 S)) ∧ (¬ (0 ≤ a1) → post (-1 : Int32) S))
def rm_X4_reportKind : Room := { frames := 2, cells := 0, slots := 0, locals := 43 }
set_option maxHeartbeats 4000000 in
set_option maxRecDepth 100000 in
theorem ct_X4_reportKind (l : Launch) (E : EV) {post : Int32 → pS → Prop} (o : Nat) (a1 : Int32) (S : pS) (h : wp_X4_reportKind post o a1 S) : CT l E yX4_reportKind cX4_reportKind 2 (some .int) rm_X4_reportKind (QI E post) [.ref o, .int a1] S := by
  refine ct_intro (by decide +kernel) (Nat.le_of_ble_eq_true rfl) ?_
  intro p e s m below meth c A ls F hW hr hnm hl
  have hx := F.1
  have hb := F.2.1
  unfold wp_X4_reportKind at h
  have hl : lv_has ls 2 [(0, .ref o), (1, .int a1)] := hl
  refine lv_iload_n hx hb dX4_reportKind_0 rfl (lv_at hl 1 rfl) ?_
  refine lv_if_ge (tgt := 6) hx hb dX4_reportKind_1 (by decide) (fun c1 => ?_) (fun c1 => ?_)
  · have h := h.1 c1
    refine lv_aload_n hx hb dX4_reportKind_6 rfl (lv_at hl 0 rfl) ?_
    obtain ⟨g2, h⟩ := h
    obtain ⟨q3, p4, h⟩ := h
    refine kp_getp F hW g2 cbX4 7 rfl tw_186 (fun _ h9 => h9) dX4_reportKind_7 p4 ?_
    refine lv_iload_n hx hb dX4_reportKind_10 rfl (lv_at hl 1 rfl) ?_
    obtain ⟨g7, h⟩ := h
    refine kp_calli (c1 := 0) (s1 := 0) F hW (kp_runVN (As := [.int a1]) (rest := []) F hW (ct_X2_kindOf l E _ _ _ h) g7 cbX2 rfl cf_X2_kindOf tw_460 rfl hl.1 ⟨by decide, by decide⟩ (Nat.le_of_ble_eq_true rfl) dX4_reportKind_11 ⟨by decide, by decide⟩) (by decide) (by decide) (fun r5 S6 H locs h hW => ?_)
    exact kp_reti F hW hr h (by decide) (by decide) dX4_reportKind_14
  · have h := h.2 c1
    refine lv_iconst (v := (-1)) hx hb dX4_reportKind_4 (by decide) ?_
    exact kp_reti F hW hr h (by decide) (by decide) dX4_reportKind_5
def wp_X4_reportArgument (post : Int32 → pS → Prop) (o : Nat) (a1 : Int32) (S : pS) : Prop :=
  ((0 ≤ a1 → (S.ok o 4 ∧ ∃ q3, S.P o 7 = some q3 ∧ S.ok q3 2 ∧ wp_X2_argumentOf (fun r5 S6 => post r5 S6) q3 a1 S)) ∧ (¬ (0 ≤ a1) → post (-1 : Int32) S))
def rm_X4_reportArgument : Room := { frames := 2, cells := 0, slots := 0, locals := 43 }
set_option maxHeartbeats 4000000 in
set_option maxRecDepth 100000 in
theorem ct_X4_reportArgument (l : Launch) (E : EV) {post : Int32 → pS → Prop} (o : Nat) (a1 : Int32) (S : pS) (h : wp_X4_reportArgument post o a1 S) : CT l E yX4_reportArgument cX4_reportArgument 2 (some .int) rm_X4_reportArgument (QI E post) [.ref o, .int a1] S := by
  refine ct_intro (by decide +kernel) (Nat.le_of_ble_eq_true rfl) ?_
  intro p e s m below meth c A ls F hW hr hnm hl
  have hx := F.1
  have hb := F.2.1
  unfold wp_X4_reportArgument at h
  have hl : lv_has ls 2 [(0, .ref o), (1, .int a1)] := hl
  refine lv_iload_n hx hb dX4_reportArgument_0 rfl (lv_at hl 1 rfl) ?_
  refine lv_if_ge (tgt := 6) hx hb dX4_reportArgument_1 (by decide) (fun c1 => ?_) (fun c1 => ?_)
  · have h := h.1 c1
    refine lv_aload_n hx hb dX4_reportArgument_6 rfl (lv_at hl 0 rfl) ?_
    obtain ⟨g2, h⟩ := h
    obtain ⟨q3, p4, h⟩ := h
    refine kp_getp F hW g2 cbX4 7 rfl tw_186 (fun _ h9 => h9) dX4_reportArgument_7 p4 ?_
    refine lv_iload_n hx hb dX4_reportArgument_10 rfl (lv_at hl 1 rfl) ?_
    obtain ⟨g7, h⟩ := h
    refine kp_calli (c1 := 0) (s1 := 0) F hW (kp_runVN (As := [.int a1]) (rest := []) F hW (ct_X2_argumentOf l E _ _ _ h) g7 cbX2 rfl cf_X2_argumentOf tw_472 rfl hl.1 ⟨by decide, by decide⟩ (Nat.le_of_ble_eq_true rfl) dX4_reportArgument_11 ⟨by decide, by decide⟩) (by decide) (by decide) (fun r5 S6 H locs h hW => ?_)
    exact kp_reti F hW hr h (by decide) (by decide) dX4_reportArgument_14
  · have h := h.2 c1
    refine lv_iconst (v := (-1)) hx hb dX4_reportArgument_4 (by decide) ?_
    exact kp_reti F hW hr h (by decide) (by decide) dX4_reportArgument_5
