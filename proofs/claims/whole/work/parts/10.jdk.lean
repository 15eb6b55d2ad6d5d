def wp_Jxa1e45_init_da8c8 (post : pS → Prop) (o : Nat) (S : pS) : Prop :=
  post S
def rm_Jxa1e45_init_da8c8 : Room := { frames := 1, cells := 0, slots := 0, locals := 20 }
set_option maxHeartbeats 4000000 in
set_option maxRecDepth 100000 in
theorem ct_Jxa1e45_init_da8c8 (l : Launch) (E : EV) {post : pS → Prop} (o : Nat) (S : pS) (h : wp_Jxa1e45_init_da8c8 post o S) : CT l E yJxa1e45_init_da8c8 cJxa1e45_init_da8c8 1 none rm_Jxa1e45_init_da8c8 (QV E post) [.ref o] S := by
  refine ct_intro (by decide +kernel) (Nat.le_of_ble_eq_true rfl) ?_
  intro p e s m below meth c A ls F hW hr hnm hl
  have hx := F.1
  have hb := F.2.1
  unfold wp_Jxa1e45_init_da8c8 at h
  have hl : lv_has ls 1 [(0, .ref o)] := hl
  refine lv_aload_n hx hb dJxa1e45_init_da8c8_0 rfl (lv_at hl 0 rfl) ?_
  refine kp_oinit F hl.1 tw_52 tw_22 tw_23 dJxa1e45_init_da8c8_1 (by decide) (Nat.le_of_ble_eq_true rfl) ?_
  exact kp_retv F hW hr h (by decide) (by decide) dJxa1e45_init_da8c8_4
def wp_Jxc12de_init_da8c8 (post : pS → Prop) (o : Nat) (S : pS) : Prop :=
  (wp_Jxa1e45_init_da8c8 (fun S2 => (S2.ok o 6 ∧ ∀ S4, S4 = S2.setI o 0 (0 : Int32) → post S4)) o S)
def rm_Jxc12de_init_da8c8 : Room := { frames := 2, cells := 0, slots := 0, locals := 40 }
set_option maxHeartbeats 4000000 in
set_option maxRecDepth 100000 in
theorem ct_Jxc12de_init_da8c8 (l : Launch) (E : EV) {post : pS → Prop} (o : Nat) (S : pS) (h : wp_Jxc12de_init_da8c8 post o S) : CT l E yJxc12de_init_da8c8 cJxc12de_init_da8c8 1 none rm_Jxc12de_init_da8c8 (QV E post) [.ref o] S := by
  refine ct_intro (by decide +kernel) (Nat.le_of_ble_eq_true rfl) ?_
  intro p e s m below meth c A ls F hW hr hnm hl
  have hx := F.1
  have hb := F.2.1
  unfold wp_Jxc12de_init_da8c8 at h
  have hl : lv_has ls 1 [(0, .ref o)] := hl
  refine lv_aload_n hx hb dJxc12de_init_da8c8_0 rfl (lv_at hl 0 rfl) ?_
  refine kp_callv (c1 := 0) (s1 := 0) F hW (kp_runI (As := []) (rest := []) F hW (ct_Jxa1e45_init_da8c8 l E _ _ h) cf_Jxa1e45_init_da8c8 tw_49 rfl hl.1 ⟨by decide, by decide⟩ (Nat.le_of_ble_eq_true rfl) dJxc12de_init_da8c8_1 ⟨by decide, by decide⟩) (by decide) (by decide) (fun S2 H locs h hW => ?_)
  refine lv_aload_n hx hb dJxc12de_init_da8c8_4 rfl (lv_at hl 0 rfl) ?_
  refine lv_iconst (v := 0) hx hb dJxc12de_init_da8c8_5 (by decide) ?_
  obtain ⟨g3, h⟩ := h
  obtain ⟨S4, hS4⟩ : ∃ z, z = S2.setI o 0 (0 : Int32) := ⟨_, rfl⟩
  have h := h S4 hS4
  refine kp_puti F hW g3 cbJx4a65c 0 rfl tw_57 (fun _ h9 => h9) rfl rfl dJxc12de_init_da8c8_6 (fun H locs hW => ?_)
  rw [← hS4] at hW
  exact kp_retv F hW hr h (by decide) (by decide) dJxc12de_init_da8c8_9
def wp_Jx4a65c_init_da8c8 (post : pS → Prop) (e0 : Nat) (o : Nat) (S : pS) : Prop :=
  (wp_Jxc12de_init_da8c8 (fun S2 => (S2.ok o 6 ∧ ∀ S4, S4 = S2.setP o 1 (some e0) → post S4)) o S)
def rm_Jx4a65c_init_da8c8 : Room := { frames := 3, cells := 0, slots := 0, locals := 60 }
set_option maxHeartbeats 4000000 in
set_option maxRecDepth 100000 in
theorem ct_Jx4a65c_init_da8c8 (l : Launch) (E : EV) {post : pS → Prop} (o : Nat) (S : pS) (h : wp_Jx4a65c_init_da8c8 post E.e0 o S) : CT l E yJx4a65c_init_da8c8 cJx4a65c_init_da8c8 1 none rm_Jx4a65c_init_da8c8 (QV E post) [.ref o] S := by
  refine ct_intro (by decide +kernel) (Nat.le_of_ble_eq_true rfl) ?_
  intro p e s m below meth c A ls F hW hr hnm hl
  have hx := F.1
  have hb := F.2.1
  unfold wp_Jx4a65c_init_da8c8 at h
  have hl : lv_has ls 1 [(0, .ref o)] := hl
  refine lv_aload_n hx hb dJx4a65c_init_da8c8_0 rfl (lv_at hl 0 rfl) ?_
  refine kp_callv (c1 := 0) (s1 := 0) F hW (kp_runI (As := []) (rest := []) F hW (ct_Jxc12de_init_da8c8 l E _ _ h) cf_Jxc12de_init_da8c8 tw_46 rfl hl.1 ⟨by decide, by decide⟩ (Nat.le_of_ble_eq_true rfl) dJx4a65c_init_da8c8_1 ⟨by decide, by decide⟩) (by decide) (by decide) (fun S2 H locs h hW => ?_)
  refine lv_aload_n hx hb dJx4a65c_init_da8c8_4 rfl (lv_at hl 0 rfl) ?_
  refine kp_gets F hW tw_53 dJx4a65c_init_da8c8_5 ?_
  obtain ⟨g3, h⟩ := h
  obtain ⟨S4, hS4⟩ : ∃ z, z = S2.setP o 1 (some E.e0) := ⟨_, rfl⟩
  have h := h S4 hS4
  refine kp_putp F hW g3 cbJx4a65c 1 rfl tw_55 (fun _ h9 => h9) rfl (Or.inr ⟨_, rfl⟩) dJx4a65c_init_da8c8_8 (fun H locs hW => ?_)
  rw [← hS4] at hW
  exact kp_retv F hW hr h (by decide) (by decide) dJx4a65c_init_da8c8_11
def wp_J9_floorMod_7cf53 (post : Int32 → pS → Prop) (a1 : Int32) (a2 : Int32) (S : pS) : Prop :=
  (¬ a2 = 0 ∧ ((0 ≤ (a1 ^^^ a2) → post (a1 - a1 / a2 * a2) S) ∧ (¬ (0 ≤ (a1 ^^^ a2)) → (((a1 - a1 / a2 * a2) = 0 → post (a1 - a1 / a2 * a2) S) ∧ (¬ ((a1 - a1 / a2 * a2) = 0) → post ((a1 - a1 / a2 * a2) + a2) S)))))
def rm_J9_floorMod_7cf53 : Room := { frames := 0, cells := 0, slots := 0, locals := 0 }
set_option maxHeartbeats 4000000 in
set_option maxRecDepth 100000 in
theorem ct_J9_floorMod_7cf53 (l : Launch) (E : EV) {post : Int32 → pS → Prop} (a1 : Int32) (a2 : Int32) (S : pS) (h : wp_J9_floorMod_7cf53 post a1 a2 S) : CT l E yJ9_floorMod_7cf53 cJ9_floorMod_7cf53 3 (some .int) rm_J9_floorMod_7cf53 (QI E post) [.int a1, .int a2] S := by
  refine ct_intro (by decide +kernel) (Nat.le_of_ble_eq_true rfl) ?_
  intro p e s m below meth c A ls F hW hr hnm hl
  have hx := F.1
  have hb := F.2.1
  unfold wp_J9_floorMod_7cf53 at h
  have hl : lv_has ls 3 [(0, .int a1), (1, .int a2)] := hl
  refine lv_iload_n hx hb dJ9_floorMod_7cf53_0 rfl (lv_at hl 0 rfl) ?_
  refine lv_iload_n hx hb dJ9_floorMod_7cf53_1 rfl (lv_at hl 1 rfl) ?_
  obtain ⟨z1, h⟩ := h
  refine lv_irem hx hb dJ9_floorMod_7cf53_2 z1 ?_
  refine lv_istore_n (lv' := [(2, .int (a1 - a1 / a2 * a2)), (0, .int a1), (1, .int a2)]) hx hb dJ9_floorMod_7cf53_3 rfl hl (by decide) rfl (fun ls hl => ?_)
  refine lv_iload_n hx hb dJ9_floorMod_7cf53_4 rfl (lv_at hl 1 rfl) ?_
  refine lv_iload_n hx hb dJ9_floorMod_7cf53_5 rfl (lv_at hl 2 rfl) ?_
  refine lv_ixor hx hb dJ9_floorMod_7cf53_6 ?_
  refine lv_if_ge (tgt := 18) hx hb dJ9_floorMod_7cf53_7 (by decide) (fun c2 => ?_) (fun c2 => ?_)
  · have h := h.1 c2
    refine lv_iload_n hx hb dJ9_floorMod_7cf53_18 rfl (lv_at hl 0 rfl) ?_
    exact kp_reti F hW hr h (by decide) (by decide) dJ9_floorMod_7cf53_19
  · have h := h.2 c2
    refine lv_iload_n hx hb dJ9_floorMod_7cf53_10 rfl (lv_at hl 0 rfl) ?_
    refine lv_if_eq (tgt := 18) hx hb dJ9_floorMod_7cf53_11 (by decide) (fun c3 => ?_) (fun c3 => ?_)
    · have h := h.1 c3
      refine lv_iload_n hx hb dJ9_floorMod_7cf53_18 rfl (lv_at hl 0 rfl) ?_
      exact kp_reti F hW hr h (by decide) (by decide) dJ9_floorMod_7cf53_19
    · have h := h.2 c3
      refine lv_iload_n hx hb dJ9_floorMod_7cf53_14 rfl (lv_at hl 0 rfl) ?_
      refine lv_iload_n hx hb dJ9_floorMod_7cf53_15 rfl (lv_at hl 2 rfl) ?_
      refine lv_iadd hx hb dJ9_floorMod_7cf53_16 ?_
      exact kp_reti F hW hr h (by decide) (by decide) dJ9_floorMod_7cf53_17
def wp_J9_max_7cf53 (post : Int32 → pS → Prop) (a1 : Int32) (a2 : Int32) (S : pS) : Prop :=
  ((a1 < a2 → post a2 S) ∧ (¬ (a1 < a2) → post a1 S))
def rm_J9_max_7cf53 : Room := { frames := 0, cells := 0, slots := 0, locals := 0 }
set_option maxHeartbeats 4000000 in
set_option maxRecDepth 100000 in
theorem ct_J9_max_7cf53 (l : Launch) (E : EV) {post : Int32 → pS → Prop} (a1 : Int32) (a2 : Int32) (S : pS) (h : wp_J9_max_7cf53 post a1 a2 S) : CT l E yJ9_max_7cf53 cJ9_max_7cf53 2 (some .int) rm_J9_max_7cf53 (QI E post) [.int a1, .int a2] S := by
  refine ct_intro (by decide +kernel) (Nat.le_of_ble_eq_true rfl) ?_
  intro p e s m below meth c A ls F hW hr hnm hl
  have hx := F.1
  have hb := F.2.1
  unfold wp_J9_max_7cf53 at h
  have hl : lv_has ls 2 [(0, .int a1), (1, .int a2)] := hl
  refine lv_iload_n hx hb dJ9_max_7cf53_0 rfl (lv_at hl 0 rfl) ?_
  refine lv_iload_n hx hb dJ9_max_7cf53_1 rfl (lv_at hl 1 rfl) ?_
  refine lv_icmp_lt (tgt := 9) hx hb dJ9_max_7cf53_2 (by decide) (fun c1 => ?_) (fun c1 => ?_)
  · have h := h.1 c1
    refine lv_iload_n hx hb dJ9_max_7cf53_9 rfl (lv_at hl 1 rfl) ?_
    exact kp_reti F hW hr h (by decide) (by decide) dJ9_max_7cf53_10
  · have h := h.2 c1
    refine lv_iload_n hx hb dJ9_max_7cf53_5 rfl (lv_at hl 0 rfl) ?_
    refine lv_goto (tgt := 10) hx hb dJ9_max_7cf53_6 (by decide) ?_
    exact kp_reti F hW hr h (by decide) (by decide) dJ9_max_7cf53_10
def wp_Jx4a65c_grow_92f84 (post : Nat → pS → Prop) (e0 : Nat) (o : Nat) (a1 : Int32) (S : pS) : Prop :=
  (S.ok o 6 ∧ ∃ q2, S.P o 1 = some q2 ∧ ((q2 = e0 → ((0 < (0 : Int32) → False) ∧ (¬ (0 < (0 : Int32)) → ((some q2 = some e0 → (wp_J9_max_7cf53 (fun r6 S7 => (¬ r6 < 0 ∧ r6.toNatClampNeg ≤ 10 ∧ ∀ q8, q8 ∉ S7.L → q8 ≠ e0 → ∀ S12, S12 = S7.new q8 8 r6.toNatClampNeg → S12.ok o 6 ∧ ∀ S16, S16 = S12.setP o 1 (some q8) → post q8 S16)) (10 : Int32) a1 S)) ∧ (¬ (some q2 = some e0) → False))))) ∧ (¬ q2 = e0 → (S.ok q2 8 ∧ ((0 < (nI (S.n q2)) → False) ∧ (¬ (0 < (nI (S.n q2))) → ((some q2 = some e0 → (wp_J9_max_7cf53 (fun r20 S21 => (¬ r20 < 0 ∧ r20.toNatClampNeg ≤ 10 ∧ ∀ q22, q22 ∉ S21.L → q22 ≠ e0 → ∀ S26, S26 = S21.new q22 8 r20.toNatClampNeg → S26.ok o 6 ∧ ∀ S30, S30 = S26.setP o 1 (some q22) → post q22 S30)) (10 : Int32) a1 S)) ∧ (¬ (some q2 = some e0) → False))))))))
def rm_Jx4a65c_grow_92f84 : Room := { frames := 1, cells := 1, slots := 10, locals := 21 }
set_option maxHeartbeats 4000000 in
set_option maxRecDepth 100000 in
theorem ct_Jx4a65c_grow_92f84 (l : Launch) (E : EV) {post : Nat → pS → Prop} (o : Nat) (a1 : Int32) (S : pS) (h : wp_Jx4a65c_grow_92f84 post E.e0 o a1 S) : CT l E yJx4a65c_grow_92f84 cJx4a65c_grow_92f84 4 (some (.array (.object "java/lang/Object"))) rm_Jx4a65c_grow_92f84 (QR E post) [.ref o, .int a1] S := by
  refine ct_intro (by decide +kernel) (Nat.le_of_ble_eq_true rfl) ?_
  intro p e s m below meth c A ls F hW hr hnm hl
  have hx := F.1
  have hb := F.2.1
  unfold wp_Jx4a65c_grow_92f84 at h
  have hl : lv_has ls 4 [(0, .ref o), (1, .int a1)] := hl
  refine lv_aload_n hx hb dJx4a65c_grow_92f84_0 rfl (lv_at hl 0 rfl) ?_
  obtain ⟨g1, h⟩ := h
  obtain ⟨q2, p3, h⟩ := h
  refine kp_getp F hW g1 cbJx4a65c 1 rfl tw_55 (fun _ h9 => h9) dJx4a65c_grow_92f84_1 p3 ?_
  by_cases z31 : q2 = E.e0
  · have h := h.1 z31
    refine kp_elen F hW z31 dJx4a65c_grow_92f84_4 ?_
    refine lv_istore_n (lv' := [(2, .int (0 : Int32)), (0, .ref o), (1, .int a1)]) hx hb dJx4a65c_grow_92f84_5 rfl hl (by decide) rfl (fun ls hl => ?_)
    refine lv_iload_n hx hb dJx4a65c_grow_92f84_6 rfl (lv_at hl 0 rfl) ?_
    refine lv_if_gt (tgt := 20) hx hb dJx4a65c_grow_92f84_7 (by decide) (fun c4 => ?_) (fun c4 => ?_)
    · have h := h.1 c4
      exact h.elim
    · have h := h.2 c4
      refine lv_aload_n hx hb dJx4a65c_grow_92f84_10 rfl (lv_at hl 1 rfl) ?_
      refine kp_getp F hW g1 cbJx4a65c 1 rfl tw_55 (fun _ h9 => h9) dJx4a65c_grow_92f84_11 p3 ?_
      refine kp_gets F hW tw_53 dJx4a65c_grow_92f84_14 ?_
      refine lv_acmp_eq (rx := some q2) (ry := some E.e0) (tgt := 45) hx hb dJx4a65c_grow_92f84_17 (by decide) (fun c5 => ?_) (fun c5 => ?_)
      · have h := h.1 c5
        refine lv_aload_n hx hb dJx4a65c_grow_92f84_45 rfl (lv_at hl 1 rfl) ?_
        refine lv_bipush (v := 10) hx hb dJx4a65c_grow_92f84_46 (by decide) ?_
        refine lv_iload_n hx hb dJx4a65c_grow_92f84_48 rfl (lv_at hl 2 rfl) ?_
        refine kp_calli (c1 := 0) (s1 := 0) F hW (kp_runS (As := [.int (10 : Int32), .int a1]) (rest := [.ref o]) F hW (ct_J9_max_7cf53 l E _ _ _ h) cf_J9_max_7cf53 tw_117 rfl hl.1 ⟨by decide, by decide⟩ (Nat.le_of_ble_eq_true rfl) dJx4a65c_grow_92f84_49 ⟨by decide, by decide⟩) (by decide) (by decide) (fun r6 S7 H locs h hW => ?_)
        obtain ⟨z10, z11, h⟩ := h
        refine kp_newr (c1 := 1) (s1 := 10) F hW tw_118 z10 (Nat.le_trans z11 (by decide)) dJx4a65c_grow_92f84_52 (by decide) (by rw [Nat.zero_add]; exact z11) (by decide) (by decide) (fun q8 H f9 f13 hW => ?_)
        obtain ⟨S12, hS12⟩ : ∃ z, z = S7.new q8 8 r6.toNatClampNeg := ⟨_, rfl⟩
        rw [← hS12] at hW
        have h := h q8 f9 f13 S12 hS12
        have g14 : S12.ok q8 8 := by rw [hS12]; exact ok_new
        refine lv_dup_x1 hx hb dJx4a65c_grow_92f84_55 rfl rfl ?_
        obtain ⟨g15, h⟩ := h
        obtain ⟨S16, hS16⟩ : ∃ z, z = S12.setP o 1 (some q8) := ⟨_, rfl⟩
        have h := h S16 hS16
        refine kp_putp F hW g15 cbJx4a65c 1 rfl tw_55 (fun _ h9 => h9) rfl (Or.inr ⟨_, rfl⟩) dJx4a65c_grow_92f84_56 (fun H locs hW => ?_)
        rw [← hS16] at hW
        exact kp_retr F hW hr (Or.inr ⟨_, rfl⟩) h (by decide) (by decide) dJx4a65c_grow_92f84_59
      · have h := h.2 c5
        exact h.elim
  · have h := h.2 z31
    obtain ⟨g17, h⟩ := h
    refine kp_rlen F hW g17 dJx4a65c_grow_92f84_4 ?_
    refine lv_istore_n (lv' := [(2, .int (nI (S.n q2))), (0, .ref o), (1, .int a1)]) hx hb dJx4a65c_grow_92f84_5 rfl hl (by decide) rfl (fun ls hl => ?_)
    refine lv_iload_n hx hb dJx4a65c_grow_92f84_6 rfl (lv_at hl 0 rfl) ?_
    refine lv_if_gt (tgt := 20) hx hb dJx4a65c_grow_92f84_7 (by decide) (fun c18 => ?_) (fun c18 => ?_)
    · have h := h.1 c18
      exact h.elim
    · have h := h.2 c18
      refine lv_aload_n hx hb dJx4a65c_grow_92f84_10 rfl (lv_at hl 1 rfl) ?_
      refine kp_getp F hW g1 cbJx4a65c 1 rfl tw_55 (fun _ h9 => h9) dJx4a65c_grow_92f84_11 p3 ?_
      refine kp_gets F hW tw_53 dJx4a65c_grow_92f84_14 ?_
      refine lv_acmp_eq (rx := some q2) (ry := some E.e0) (tgt := 45) hx hb dJx4a65c_grow_92f84_17 (by decide) (fun c19 => ?_) (fun c19 => ?_)
      · have h := h.1 c19
        refine lv_aload_n hx hb dJx4a65c_grow_92f84_45 rfl (lv_at hl 1 rfl) ?_
        refine lv_bipush (v := 10) hx hb dJx4a65c_grow_92f84_46 (by decide) ?_
        refine lv_iload_n hx hb dJx4a65c_grow_92f84_48 rfl (lv_at hl 2 rfl) ?_
        refine kp_calli (c1 := 0) (s1 := 0) F hW (kp_runS (As := [.int (10 : Int32), .int a1]) (rest := [.ref o]) F hW (ct_J9_max_7cf53 l E _ _ _ h) cf_J9_max_7cf53 tw_117 rfl hl.1 ⟨by decide, by decide⟩ (Nat.le_of_ble_eq_true rfl) dJx4a65c_grow_92f84_49 ⟨by decide, by decide⟩) (by decide) (by decide) (fun r20 S21 H locs h hW => ?_)
        obtain ⟨z24, z25, h⟩ := h
        refine kp_newr (c1 := 1) (s1 := 10) F hW tw_118 z24 (Nat.le_trans z25 (by decide)) dJx4a65c_grow_92f84_52 (by decide) (by rw [Nat.zero_add]; exact z25) (by decide) (by decide) (fun q22 H f23 f27 hW => ?_)
        obtain ⟨S26, hS26⟩ : ∃ z, z = S21.new q22 8 r20.toNatClampNeg := ⟨_, rfl⟩
        rw [← hS26] at hW
        have h := h q22 f23 f27 S26 hS26
        have g28 : S26.ok q22 8 := by rw [hS26]; exact ok_new
        refine lv_dup_x1 hx hb dJx4a65c_grow_92f84_55 rfl rfl ?_
        obtain ⟨g29, h⟩ := h
        obtain ⟨S30, hS30⟩ : ∃ z, z = S26.setP o 1 (some q22) := ⟨_, rfl⟩
        have h := h S30 hS30
        refine kp_putp F hW g29 cbJx4a65c 1 rfl tw_55 (fun _ h9 => h9) rfl (Or.inr ⟨_, rfl⟩) dJx4a65c_grow_92f84_56 (fun H locs hW => ?_)
        rw [← hS30] at hW
        exact kp_retr F hW hr (Or.inr ⟨_, rfl⟩) h (by decide) (by decide) dJx4a65c_grow_92f84_59
      · have h := h.2 c19
        exact h.elim
def wp_Jx4a65c_grow_d5877 (post : Nat → pS → Prop) (e0 : Nat) (o : Nat) (S : pS) : Prop :=
  (S.ok o 6 ∧ wp_Jx4a65c_grow_92f84 (fun r2 S3 => post r2 S3) e0 o ((S.I o 2) + (1 : Int32)) S)
def rm_Jx4a65c_grow_d5877 : Room := { frames := 2, cells := 1, slots := 10, locals := 44 }
set_option maxHeartbeats 4000000 in
set_option maxRecDepth 100000 in
theorem ct_Jx4a65c_grow_d5877 (l : Launch) (E : EV) {post : Nat → pS → Prop} (o : Nat) (S : pS) (h : wp_Jx4a65c_grow_d5877 post E.e0 o S) : CT l E yJx4a65c_grow_d5877 cJx4a65c_grow_d5877 1 (some (.array (.object "java/lang/Object"))) rm_Jx4a65c_grow_d5877 (QR E post) [.ref o] S := by
  refine ct_intro (by decide +kernel) (Nat.le_of_ble_eq_true rfl) ?_
  intro p e s m below meth c A ls F hW hr hnm hl
  have hx := F.1
  have hb := F.2.1
  unfold wp_Jx4a65c_grow_d5877 at h
  have hl : lv_has ls 1 [(0, .ref o)] := hl
  refine lv_aload_n hx hb dJx4a65c_grow_d5877_0 rfl (lv_at hl 0 rfl) ?_
  refine lv_aload_n hx hb dJx4a65c_grow_d5877_1 rfl (lv_at hl 0 rfl) ?_
  obtain ⟨g1, h⟩ := h
  refine kp_geti F hW g1 cbJx4a65c 2 rfl tw_56 (fun _ h9 => h9) dJx4a65c_grow_d5877_2 ?_
  refine lv_iconst (v := 1) hx hb dJx4a65c_grow_d5877_5 (by decide) ?_
  refine lv_iadd hx hb dJx4a65c_grow_d5877_6 ?_
  refine kp_callr (c1 := 1) (s1 := 10) F hW (kp_runV (As := [.int ((S.I o 2) + (1 : Int32))]) (rest := []) F hW (ct_Jx4a65c_grow_92f84 l E _ _ _ h) g1 cbJx4a65c rfl cf_Jx4a65c_grow_92f84 tw_79 rfl hl.1 ⟨by decide, by decide⟩ (Nat.le_of_ble_eq_true rfl) dJx4a65c_grow_d5877_7 ⟨by decide, by decide⟩) (by decide) (by decide) (fun r2 S3 H locs h hW => ?_)
  exact kp_retr F hW hr (Or.inr ⟨_, rfl⟩) h (by decide) (by decide) dJx4a65c_grow_d5877_10
def wp_Jx4a65c_add_72be8 (post : pS → Prop) (e0 : Nat) (o : Nat) (a1 : Nat) (a2 : Nat) (a3 : Int32) (S : pS) : Prop :=
  ((a2 = e0 → ((a3 = (0 : Int32) → (S.ok o 6 ∧ wp_Jx4a65c_grow_d5877 (fun r8 S9 => (S9.ok r8 8 ∧ vp_in a3 (S9.n r8) ∧ (S9.ok a1 0 ∨ S9.ok a1 1 ∨ S9.ok a1 3) ∧ ∀ S14, S14 = S9.setP r8 a3.toNatClampNeg (some a1) → S14.ok o 6 ∧ ∀ S16, S16 = S14.setI o 2 (a3 + (1 : Int32)) → post S16)) e0 o S)) ∧ (¬ (a3 = (0 : Int32)) → (S.ok a2 8 ∧ vp_in a3 (S.n a2) ∧ (S.ok a1 0 ∨ S.ok a1 1 ∨ S.ok a1 3) ∧ ∀ S5, S5 = S.setP a2 a3.toNatClampNeg (some a1) → S5.ok o 6 ∧ ∀ S7, S7 = S5.setI o 2 (a3 + (1 : Int32)) → post S7)))) ∧ (¬ a2 = e0 → (S.ok a2 8 ∧ ((a3 = (nI (S.n a2)) → (S.ok o 6 ∧ wp_Jx4a65c_grow_d5877 (fun r24 S25 => (S25.ok r24 8 ∧ vp_in a3 (S25.n r24) ∧ (S25.ok a1 0 ∨ S25.ok a1 1 ∨ S25.ok a1 3) ∧ ∀ S30, S30 = S25.setP r24 a3.toNatClampNeg (some a1) → S30.ok o 6 ∧ ∀ S32, S32 = S30.setI o 2 (a3 + (1 : Int32)) → post S32)) e0 o S)) ∧ (¬ (a3 = (nI (S.n a2))) → (vp_in a3 (S.n a2) ∧ (S.ok a1 0 ∨ S.ok a1 1 ∨ S.ok a1 3) ∧ ∀ S21, S21 = S.setP a2 a3.toNatClampNeg (some a1) → S21.ok o 6 ∧ ∀ S23, S23 = S21.setI o 2 (a3 + (1 : Int32)) → post S23))))))
def rm_Jx4a65c_add_72be8 : Room := { frames := 3, cells := 1, slots := 10, locals := 64 }
set_option maxHeartbeats 4000000 in
set_option maxRecDepth 100000 in
theorem ct_Jx4a65c_add_72be8 (l : Launch) (E : EV) {post : pS → Prop} (o : Nat) (a1 : Nat) (a2 : Nat) (a3 : Int32) (S : pS) (h : wp_Jx4a65c_add_72be8 post E.e0 o a1 a2 a3 S) : CT l E yJx4a65c_add_72be8 cJx4a65c_add_72be8 4 none rm_Jx4a65c_add_72be8 (QV E post) [.ref o, .ref a1, .ref a2, .int a3] S := by
  refine ct_intro (by decide +kernel) (Nat.le_of_ble_eq_true rfl) ?_
  intro p e s m below meth c A ls F hW hr hnm hl
  have hx := F.1
  have hb := F.2.1
  unfold wp_Jx4a65c_add_72be8 at h
  have hl : lv_has ls 4 [(0, .ref o), (1, .ref a1), (2, .ref a2), (3, .int a3)] := hl
  refine lv_iload_n hx hb dJx4a65c_add_72be8_0 rfl (lv_at hl 3 rfl) ?_
  refine lv_aload_n hx hb dJx4a65c_add_72be8_1 rfl (lv_at hl 2 rfl) ?_
  by_cases z33 : a2 = E.e0
  · have h := h.1 z33
    refine kp_elen F hW z33 dJx4a65c_add_72be8_2 ?_
    refine lv_icmp_ne (tgt := 11) hx hb dJx4a65c_add_72be8_3 (by decide) (fun c1 => ?_) (fun c1 => ?_)
    · have h := h.2 c1
      refine lv_aload_n hx hb dJx4a65c_add_72be8_11 rfl (lv_at hl 2 rfl) ?_
      refine lv_iload_n hx hb dJx4a65c_add_72be8_12 rfl (lv_at hl 3 rfl) ?_
      refine lv_aload_n hx hb dJx4a65c_add_72be8_13 rfl (lv_at hl 1 rfl) ?_
      obtain ⟨g2, h⟩ := h
      obtain ⟨b3, h⟩ := h
      obtain ⟨k4, h⟩ := h
      obtain ⟨S5, hS5⟩ : ∃ z, z = S.setP a2 a3.toNatClampNeg (some a1) := ⟨_, rfl⟩
      have h := h S5 hS5
      refine kp_rastK F hW g2 k4 b3 dJx4a65c_add_72be8_14 (fun H locs hW => ?_)
      rw [← hS5] at hW
      refine lv_aload_n hx hb dJx4a65c_add_72be8_15 rfl (lv_at hl 0 rfl) ?_
      refine lv_iload_n hx hb dJx4a65c_add_72be8_16 rfl (lv_at hl 3 rfl) ?_
      refine lv_iconst (v := 1) hx hb dJx4a65c_add_72be8_17 (by decide) ?_
      refine lv_iadd hx hb dJx4a65c_add_72be8_18 ?_
      obtain ⟨g6, h⟩ := h
      obtain ⟨S7, hS7⟩ : ∃ z, z = S5.setI o 2 (a3 + (1 : Int32)) := ⟨_, rfl⟩
      have h := h S7 hS7
      refine kp_puti F hW g6 cbJx4a65c 2 rfl tw_56 (fun _ h9 => h9) rfl rfl dJx4a65c_add_72be8_19 (fun H locs hW => ?_)
      rw [← hS7] at hW
      exact kp_retv F hW hr h (by decide) (by decide) dJx4a65c_add_72be8_22
    · have h := h.1 c1
      refine lv_aload_n hx hb dJx4a65c_add_72be8_6 rfl (lv_at hl 0 rfl) ?_
      obtain ⟨g10, h⟩ := h
      refine kp_callr (c1 := 1) (s1 := 10) F hW (kp_runV (As := []) (rest := []) F hW (ct_Jx4a65c_grow_d5877 l E _ _ h) g10 cbJx4a65c rfl cf_Jx4a65c_grow_d5877 tw_75 rfl hl.1 ⟨by decide, by decide⟩ (Nat.le_of_ble_eq_true rfl) dJx4a65c_add_72be8_7 ⟨by decide, by decide⟩) (by decide) (by decide) (fun r8 S9 H locs h hW => ?_)
      refine lv_astore_n (lv' := [(2, .ref r8), (0, .ref o), (1, .ref a1), (3, .int a3)]) hx hb dJx4a65c_add_72be8_10 rfl hl (by decide) rfl (fun ls hl => ?_)
      refine lv_aload_n hx hb dJx4a65c_add_72be8_11 rfl (lv_at hl 0 rfl) ?_
      refine lv_iload_n hx hb dJx4a65c_add_72be8_12 rfl (lv_at hl 3 rfl) ?_
      refine lv_aload_n hx hb dJx4a65c_add_72be8_13 rfl (lv_at hl 2 rfl) ?_
      obtain ⟨g11, h⟩ := h
      obtain ⟨b12, h⟩ := h
      obtain ⟨k13, h⟩ := h
      obtain ⟨S14, hS14⟩ : ∃ z, z = S9.setP r8 a3.toNatClampNeg (some a1) := ⟨_, rfl⟩
      have h := h S14 hS14
      refine kp_rastK F hW g11 k13 b12 dJx4a65c_add_72be8_14 (fun H locs hW => ?_)
      rw [← hS14] at hW
      refine lv_aload_n hx hb dJx4a65c_add_72be8_15 rfl (lv_at hl 1 rfl) ?_
      refine lv_iload_n hx hb dJx4a65c_add_72be8_16 rfl (lv_at hl 3 rfl) ?_
      refine lv_iconst (v := 1) hx hb dJx4a65c_add_72be8_17 (by decide) ?_
      refine lv_iadd hx hb dJx4a65c_add_72be8_18 ?_
      obtain ⟨g15, h⟩ := h
      obtain ⟨S16, hS16⟩ : ∃ z, z = S14.setI o 2 (a3 + (1 : Int32)) := ⟨_, rfl⟩
      have h := h S16 hS16
      refine kp_puti F hW g15 cbJx4a65c 2 rfl tw_56 (fun _ h9 => h9) rfl rfl dJx4a65c_add_72be8_19 (fun H locs hW => ?_)
      rw [← hS16] at hW
      exact kp_retv F hW hr h (by decide) (by decide) dJx4a65c_add_72be8_22
  · have h := h.2 z33
    obtain ⟨g17, h⟩ := h
    refine kp_rlen F hW g17 dJx4a65c_add_72be8_2 ?_
    refine lv_icmp_ne (tgt := 11) hx hb dJx4a65c_add_72be8_3 (by decide) (fun c18 => ?_) (fun c18 => ?_)
    · have h := h.2 c18
      refine lv_aload_n hx hb dJx4a65c_add_72be8_11 rfl (lv_at hl 2 rfl) ?_
      refine lv_iload_n hx hb dJx4a65c_add_72be8_12 rfl (lv_at hl 3 rfl) ?_
      refine lv_aload_n hx hb dJx4a65c_add_72be8_13 rfl (lv_at hl 1 rfl) ?_
      obtain ⟨b19, h⟩ := h
      obtain ⟨k20, h⟩ := h
      obtain ⟨S21, hS21⟩ : ∃ z, z = S.setP a2 a3.toNatClampNeg (some a1) := ⟨_, rfl⟩
      have h := h S21 hS21
      refine kp_rastK F hW g17 k20 b19 dJx4a65c_add_72be8_14 (fun H locs hW => ?_)
      rw [← hS21] at hW
      refine lv_aload_n hx hb dJx4a65c_add_72be8_15 rfl (lv_at hl 0 rfl) ?_
      refine lv_iload_n hx hb dJx4a65c_add_72be8_16 rfl (lv_at hl 3 rfl) ?_
      refine lv_iconst (v := 1) hx hb dJx4a65c_add_72be8_17 (by decide) ?_
      refine lv_iadd hx hb dJx4a65c_add_72be8_18 ?_
      obtain ⟨g22, h⟩ := h
      obtain ⟨S23, hS23⟩ : ∃ z, z = S21.setI o 2 (a3 + (1 : Int32)) := ⟨_, rfl⟩
      have h := h S23 hS23
      refine kp_puti F hW g22 cbJx4a65c 2 rfl tw_56 (fun _ h9 => h9) rfl rfl dJx4a65c_add_72be8_19 (fun H locs hW => ?_)
      rw [← hS23] at hW
      exact kp_retv F hW hr h (by decide) (by decide) dJx4a65c_add_72be8_22
    · have h := h.1 c18
      refine lv_aload_n hx hb dJx4a65c_add_72be8_6 rfl (lv_at hl 0 rfl) ?_
      obtain ⟨g26, h⟩ := h
      refine kp_callr (c1 := 1) (s1 := 10) F hW (kp_runV (As := []) (rest := []) F hW (ct_Jx4a65c_grow_d5877 l E _ _ h) g26 cbJx4a65c rfl cf_Jx4a65c_grow_d5877 tw_75 rfl hl.1 ⟨by decide, by decide⟩ (Nat.le_of_ble_eq_true rfl) dJx4a65c_add_72be8_7 ⟨by decide, by decide⟩) (by decide) (by decide) (fun r24 S25 H locs h hW => ?_)
      refine lv_astore_n (lv' := [(2, .ref r24), (0, .ref o), (1, .ref a1), (3, .int a3)]) hx hb dJx4a65c_add_72be8_10 rfl hl (by decide) rfl (fun ls hl => ?_)
      refine lv_aload_n hx hb dJx4a65c_add_72be8_11 rfl (lv_at hl 0 rfl) ?_
      refine lv_iload_n hx hb dJx4a65c_add_72be8_12 rfl (lv_at hl 3 rfl) ?_
      refine lv_aload_n hx hb dJx4a65c_add_72be8_13 rfl (lv_at hl 2 rfl) ?_
      obtain ⟨g27, h⟩ := h
      obtain ⟨b28, h⟩ := h
      obtain ⟨k29, h⟩ := h
      obtain ⟨S30, hS30⟩ : ∃ z, z = S25.setP r24 a3.toNatClampNeg (some a1) := ⟨_, rfl⟩
      have h := h S30 hS30
      refine kp_rastK F hW g27 k29 b28 dJx4a65c_add_72be8_14 (fun H locs hW => ?_)
      rw [← hS30] at hW
      refine lv_aload_n hx hb dJx4a65c_add_72be8_15 rfl (lv_at hl 1 rfl) ?_
      refine lv_iload_n hx hb dJx4a65c_add_72be8_16 rfl (lv_at hl 3 rfl) ?_
      refine lv_iconst (v := 1) hx hb dJx4a65c_add_72be8_17 (by decide) ?_
      refine lv_iadd hx hb dJx4a65c_add_72be8_18 ?_
      obtain ⟨g31, h⟩ := h
      obtain ⟨S32, hS32⟩ : ∃ z, z = S30.setI o 2 (a3 + (1 : Int32)) := ⟨_, rfl⟩
      have h := h S32 hS32
      refine kp_puti F hW g31 cbJx4a65c 2 rfl tw_56 (fun _ h9 => h9) rfl rfl dJx4a65c_add_72be8_19 (fun H locs hW => ?_)
      rw [← hS32] at hW
      exact kp_retv F hW hr h (by decide) (by decide) dJx4a65c_add_72be8_22
def wp_Jx4a65c_add_9ea2d (post : Int32 → pS → Prop) (e0 : Nat) (o : Nat) (a1 : Nat) (S : pS) : Prop :=
  (S.ok o 6 ∧ ∀ S2, S2 = S.setI o 0 ((S.I o 0) + (1 : Int32)) → ∃ q4, S2.P o 1 = some q4 ∧ wp_Jx4a65c_add_72be8 (fun S7 => post (1 : Int32) S7) e0 o a1 q4 (S2.I o 2) S2)
def rm_Jx4a65c_add_9ea2d : Room := { frames := 4, cells := 1, slots := 10, locals := 87 }
set_option maxHeartbeats 4000000 in
set_option maxRecDepth 100000 in
theorem ct_Jx4a65c_add_9ea2d (l : Launch) (E : EV) {post : Int32 → pS → Prop} (o : Nat) (a1 : Nat) (S : pS) (h : wp_Jx4a65c_add_9ea2d post E.e0 o a1 S) : CT l E yJx4a65c_add_9ea2d cJx4a65c_add_9ea2d 2 (some .boolean) rm_Jx4a65c_add_9ea2d (QI E post) [.ref o, .ref a1] S := by
  refine ct_intro (by decide +kernel) (Nat.le_of_ble_eq_true rfl) ?_
  intro p e s m below meth c A ls F hW hr hnm hl
  have hx := F.1
  have hb := F.2.1
  unfold wp_Jx4a65c_add_9ea2d at h
  have hl : lv_has ls 2 [(0, .ref o), (1, .ref a1)] := hl
  refine lv_aload_n hx hb dJx4a65c_add_9ea2d_0 rfl (lv_at hl 0 rfl) ?_
  refine lv_dup hx hb dJx4a65c_add_9ea2d_1 rfl ?_
  obtain ⟨g1, h⟩ := h
  refine kp_geti F hW g1 cbJx4a65c 0 rfl tw_58 (u_same (F.2.2.2.2.1 _ tw_59)) dJx4a65c_add_9ea2d_2 ?_
  refine lv_iconst (v := 1) hx hb dJx4a65c_add_9ea2d_5 (by decide) ?_
  refine lv_iadd hx hb dJx4a65c_add_9ea2d_6 ?_
  obtain ⟨S2, hS2⟩ : ∃ z, z = S.setI o 0 ((S.I o 0) + (1 : Int32)) := ⟨_, rfl⟩
  have h := h S2 hS2
  refine kp_puti F hW g1 cbJx4a65c 0 rfl tw_58 (u_same (F.2.2.2.2.1 _ tw_59)) rfl rfl dJx4a65c_add_9ea2d_7 (fun H locs hW => ?_)
  rw [← hS2] at hW
  refine lv_aload_n hx hb dJx4a65c_add_9ea2d_10 rfl (lv_at hl 0 rfl) ?_
  refine lv_aload_n hx hb dJx4a65c_add_9ea2d_11 rfl (lv_at hl 1 rfl) ?_
  refine lv_aload_n hx hb dJx4a65c_add_9ea2d_12 rfl (lv_at hl 0 rfl) ?_
  have g3 : S2.ok o 6 := by rw [hS2]; exact g1
  obtain ⟨q4, p5, h⟩ := h
  refine kp_getp F hW g3 cbJx4a65c 1 rfl tw_55 (fun _ h9 => h9) dJx4a65c_add_9ea2d_13 p5 ?_
  refine lv_aload_n hx hb dJx4a65c_add_9ea2d_16 rfl (lv_at hl 0 rfl) ?_
  refine kp_geti F hW g3 cbJx4a65c 2 rfl tw_56 (fun _ h9 => h9) dJx4a65c_add_9ea2d_17 ?_
  refine kp_callv (c1 := 1) (s1 := 10) F hW (kp_runV (As := [.ref a1, .ref q4, .int (S2.I o 2)]) (rest := []) F hW (ct_Jx4a65c_add_72be8 l E _ _ _ _ _ h) g3 cbJx4a65c rfl cf_Jx4a65c_add_72be8 tw_71 rfl hl.1 ⟨by decide, by decide⟩ (Nat.le_of_ble_eq_true rfl) dJx4a65c_add_9ea2d_20 ⟨by decide, by decide⟩) (by decide) (by decide) (fun S7 H locs h hW => ?_)
  refine lv_iconst (v := 1) hx hb dJx4a65c_add_9ea2d_23 (by decide) ?_
  exact kp_retz F hW hr (Or.inr rfl) h (by decide) (by decide) dJx4a65c_add_9ea2d_24
def wp_Jx4a65c_size_8abf5 (post : Int32 → pS → Prop) (o : Nat) (S : pS) : Prop :=
  (S.ok o 6 ∧ post (S.I o 2) S)
def rm_Jx4a65c_size_8abf5 : Room := { frames := 0, cells := 0, slots := 0, locals := 0 }
set_option maxHeartbeats 4000000 in
set_option maxRecDepth 100000 in
theorem ct_Jx4a65c_size_8abf5 (l : Launch) (E : EV) {post : Int32 → pS → Prop} (o : Nat) (S : pS) (h : wp_Jx4a65c_size_8abf5 post o S) : CT l E yJx4a65c_size_8abf5 cJx4a65c_size_8abf5 1 (some .int) rm_Jx4a65c_size_8abf5 (QI E post) [.ref o] S := by
  refine ct_intro (by decide +kernel) (Nat.le_of_ble_eq_true rfl) ?_
  intro p e s m below meth c A ls F hW hr hnm hl
  have hx := F.1
  have hb := F.2.1
  unfold wp_Jx4a65c_size_8abf5 at h
  have hl : lv_has ls 1 [(0, .ref o)] := hl
  refine lv_aload_n hx hb dJx4a65c_size_8abf5_0 rfl (lv_at hl 0 rfl) ?_
  obtain ⟨g1, h⟩ := h
  refine kp_geti F hW g1 cbJx4a65c 2 rfl tw_56 (fun _ h9 => h9) dJx4a65c_size_8abf5_1 ?_
  exact kp_reti F hW hr h (by decide) (by decide) dJx4a65c_size_8abf5_4
def wp_J3_checkIndex_8e157 (post : Int32 → pS → Prop) (a1 : Int32) (a2 : Int32) (S : pS) : Prop :=
  ((a1 < 0 → False) ∧ (¬ (a1 < 0) → ((a1 < a2 → post a1 S) ∧ (¬ (a1 < a2) → False))))
def rm_J3_checkIndex_8e157 : Room := { frames := 0, cells := 0, slots := 0, locals := 0 }
set_option maxHeartbeats 4000000 in
set_option maxRecDepth 100000 in
theorem ct_J3_checkIndex_8e157 (l : Launch) (E : EV) {post : Int32 → pS → Prop} (a1 : Int32) (a2 : Int32) (S : pS) (h : wp_J3_checkIndex_8e157 post a1 a2 S) : CT l E yJ3_checkIndex_8e157 cJ3_checkIndex_8e157 3 (some .int) rm_J3_checkIndex_8e157 (QI E post) [.int a1, .int a2, .null] S := by
  refine ct_intro (by decide +kernel) (Nat.le_of_ble_eq_true rfl) ?_
  intro p e s m below meth c A ls F hW hr hnm hl
  have hx := F.1
  have hb := F.2.1
  unfold wp_J3_checkIndex_8e157 at h
  have hl : lv_has ls 3 [(0, .int a1), (1, .int a2), (2, .null)] := hl
  refine lv_iload_n hx hb dJ3_checkIndex_8e157_0 rfl (lv_at hl 0 rfl) ?_
  refine lv_if_lt (tgt := 9) hx hb dJ3_checkIndex_8e157_1 (by decide) (fun c1 => ?_) (fun c1 => ?_)
  · have h := h.1 c1
    exact h.elim
  · have h := h.2 c1
    refine lv_iload_n hx hb dJ3_checkIndex_8e157_4 rfl (lv_at hl 0 rfl) ?_
    refine lv_iload_n hx hb dJ3_checkIndex_8e157_5 rfl (lv_at hl 1 rfl) ?_
    refine lv_icmp_lt (tgt := 16) hx hb dJ3_checkIndex_8e157_6 (by decide) (fun c2 => ?_) (fun c2 => ?_)
    · have h := h.1 c2
      refine lv_iload_n hx hb dJ3_checkIndex_8e157_16 rfl (lv_at hl 0 rfl) ?_
      exact kp_reti F hW hr h (by decide) (by decide) dJ3_checkIndex_8e157_17
    · have h := h.2 c2
      exact h.elim
def wp_J15_checkIndex_7cf53 (post : Int32 → pS → Prop) (a1 : Int32) (a2 : Int32) (S : pS) : Prop :=
  (wp_J3_checkIndex_8e157 (fun r1 S2 => post r1 S2) a1 a2 S)
def rm_J15_checkIndex_7cf53 : Room := { frames := 1, cells := 0, slots := 0, locals := 22 }
set_option maxHeartbeats 4000000 in
set_option maxRecDepth 100000 in
theorem ct_J15_checkIndex_7cf53 (l : Launch) (E : EV) {post : Int32 → pS → Prop} (a1 : Int32) (a2 : Int32) (S : pS) (h : wp_J15_checkIndex_7cf53 post a1 a2 S) : CT l E yJ15_checkIndex_7cf53 cJ15_checkIndex_7cf53 2 (some .int) rm_J15_checkIndex_7cf53 (QI E post) [.int a1, .int a2] S := by
  refine ct_intro (by decide +kernel) (Nat.le_of_ble_eq_true rfl) ?_
  intro p e s m below meth c A ls F hW hr hnm hl
  have hx := F.1
  have hb := F.2.1
  unfold wp_J15_checkIndex_7cf53 at h
  have hl : lv_has ls 2 [(0, .int a1), (1, .int a2)] := hl
  refine lv_iload_n hx hb dJ15_checkIndex_7cf53_0 rfl (lv_at hl 0 rfl) ?_
  refine lv_iload_n hx hb dJ15_checkIndex_7cf53_1 rfl (lv_at hl 1 rfl) ?_
  refine lv_null hx hb dJ15_checkIndex_7cf53_2 ?_
  refine kp_calli (c1 := 0) (s1 := 0) F hW (kp_runS (As := [.int a1, .int a2, .null]) (rest := []) F hW (ct_J3_checkIndex_8e157 l E _ _ _ h) cf_J3_checkIndex_8e157 tw_172 rfl hl.1 ⟨by decide, by decide⟩ (Nat.le_of_ble_eq_true rfl) dJ15_checkIndex_7cf53_3 ⟨by decide, by decide⟩) (by decide) (by decide) (fun r1 S2 H locs h hW => ?_)
  exact kp_reti F hW hr h (by decide) (by decide) dJ15_checkIndex_7cf53_6
def wp_Jx4a65c_elementData_915e3 (post : Nat → pS → Prop) (o : Nat) (a1 : Int32) (S : pS) : Prop :=
  (S.ok o 6 ∧ ∃ q2, S.P o 1 = some q2 ∧ S.ok q2 8 ∧ vp_in a1 (S.n q2) ∧ ∃ q6, S.P q2 a1.toNatClampNeg = some q6 ∧ post q6 S)
def rm_Jx4a65c_elementData_915e3 : Room := { frames := 0, cells := 0, slots := 0, locals := 0 }
set_option maxHeartbeats 4000000 in
set_option maxRecDepth 100000 in
theorem ct_Jx4a65c_elementData_915e3 (l : Launch) (E : EV) {post : Nat → pS → Prop} (o : Nat) (a1 : Int32) (S : pS) (h : wp_Jx4a65c_elementData_915e3 post o a1 S) : CT l E yJx4a65c_elementData_915e3 cJx4a65c_elementData_915e3 2 (some (.object "java/lang/Object")) rm_Jx4a65c_elementData_915e3 (QR E post) [.ref o, .int a1] S := by
  refine ct_intro (by decide +kernel) (Nat.le_of_ble_eq_true rfl) ?_
  intro p e s m below meth c A ls F hW hr hnm hl
  have hx := F.1
  have hb := F.2.1
  unfold wp_Jx4a65c_elementData_915e3 at h
  have hl : lv_has ls 2 [(0, .ref o), (1, .int a1)] := hl
  refine lv_aload_n hx hb dJx4a65c_elementData_915e3_0 rfl (lv_at hl 0 rfl) ?_
  obtain ⟨g1, h⟩ := h
  obtain ⟨q2, p3, h⟩ := h
  refine kp_getp F hW g1 cbJx4a65c 1 rfl tw_55 (fun _ h9 => h9) dJx4a65c_elementData_915e3_1 p3 ?_
  refine lv_iload_n hx hb dJx4a65c_elementData_915e3_4 rfl (lv_at hl 1 rfl) ?_
  obtain ⟨g4, h⟩ := h
  obtain ⟨b5, h⟩ := h
  obtain ⟨q6, p7, h⟩ := h
  refine kp_rald F hW g4 b5 dJx4a65c_elementData_915e3_5 p7 ?_
  exact kp_retr F hW hr (Or.inl ⟨_, rfl⟩) h (by decide) (by decide) dJx4a65c_elementData_915e3_6
def wp_Jx4a65c_get_915e3 (post : Nat → pS → Prop) (o : Nat) (a1 : Int32) (S : pS) : Prop :=
  (S.ok o 6 ∧ wp_J15_checkIndex_7cf53 (fun r2 S3 => (S3.ok o 6 ∧ wp_Jx4a65c_elementData_915e3 (fun r4 S5 => post r4 S5) o a1 S3)) a1 (S.I o 2) S)
def rm_Jx4a65c_get_915e3 : Room := { frames := 2, cells := 0, slots := 0, locals := 43 }
set_option maxHeartbeats 4000000 in
set_option maxRecDepth 100000 in
theorem ct_Jx4a65c_get_915e3 (l : Launch) (E : EV) {post : Nat → pS → Prop} (o : Nat) (a1 : Int32) (S : pS) (h : wp_Jx4a65c_get_915e3 post o a1 S) : CT l E yJx4a65c_get_915e3 cJx4a65c_get_915e3 2 (some (.object "java/lang/Object")) rm_Jx4a65c_get_915e3 (QR E post) [.ref o, .int a1] S := by
  refine ct_intro (by decide +kernel) (Nat.le_of_ble_eq_true rfl) ?_
  intro p e s m below meth c A ls F hW hr hnm hl
  have hx := F.1
  have hb := F.2.1
  unfold wp_Jx4a65c_get_915e3 at h
  have hl : lv_has ls 2 [(0, .ref o), (1, .int a1)] := hl
  refine lv_iload_n hx hb dJx4a65c_get_915e3_0 rfl (lv_at hl 1 rfl) ?_
  refine lv_aload_n hx hb dJx4a65c_get_915e3_1 rfl (lv_at hl 0 rfl) ?_
  obtain ⟨g1, h⟩ := h
  refine kp_geti F hW g1 cbJx4a65c 2 rfl tw_56 (fun _ h9 => h9) dJx4a65c_get_915e3_2 ?_
  refine kp_calli (c1 := 0) (s1 := 0) F hW (kp_runS (As := [.int a1, .int (S.I o 2)]) (rest := []) F hW (ct_J15_checkIndex_7cf53 l E _ _ _ h) cf_J15_checkIndex_7cf53 tw_169 rfl hl.1 ⟨by decide, by decide⟩ (Nat.le_of_ble_eq_true rfl) dJx4a65c_get_915e3_5 ⟨by decide, by decide⟩) (by decide) (by decide) (fun r2 S3 H locs h hW => ?_)
  refine lv_pop hx hb dJx4a65c_get_915e3_8 rfl ?_
  refine lv_aload_n hx hb dJx4a65c_get_915e3_9 rfl (lv_at hl 0 rfl) ?_
  refine lv_iload_n hx hb dJx4a65c_get_915e3_10 rfl (lv_at hl 1 rfl) ?_
  obtain ⟨g6, h⟩ := h
  refine kp_callr (c1 := 0) (s1 := 0) F hW (kp_runV (As := [.int a1]) (rest := []) F hW (ct_Jx4a65c_elementData_915e3 l E _ _ _ h) g6 cbJx4a65c rfl cf_Jx4a65c_elementData_915e3 tw_175 rfl hl.1 ⟨by decide, by decide⟩ (Nat.le_of_ble_eq_true rfl) dJx4a65c_get_915e3_11 ⟨by decide, by decide⟩) (by decide) (by decide) (fun r4 S5 H locs h hW => ?_)
  exact kp_retr F hW hr (Or.inl ⟨_, rfl⟩) h (by decide) (by decide) dJx4a65c_get_915e3_14
def wp_Jx4a65c_fastRemove_b59b0 (post : pS → Prop) (o : Nat) (a1 : Nat) (a2 : Int32) (S : pS) : Prop :=
  (S.ok o 6 ∧ ∀ S2, S2 = S.setI o 0 ((S.I o 0) + (1 : Int32)) → ((((S2.I o 2) - (1 : Int32)) ≤ a2 → (∀ S5, S5 = S2.setI o 2 ((S2.I o 2) - (1 : Int32)) → S5.ok a1 8 ∧ vp_in ((S2.I o 2) - (1 : Int32)) (S5.n a1) ∧ ∀ S8, S8 = S5.setP a1 ((S2.I o 2) - (1 : Int32)).toNatClampNeg none → post S8)) ∧ (¬ (((S2.I o 2) - (1 : Int32)) ≤ a2) → (S2.ok a1 8 ∧ ¬ (a2 + (1 : Int32)) < 0 ∧ ¬ a2 < 0 ∧ ¬ (((S2.I o 2) - (1 : Int32)) - a2) < 0 ∧ (a2 + (1 : Int32)).toNatClampNeg + (((S2.I o 2) - (1 : Int32)) - a2).toNatClampNeg ≤ S2.n a1 ∧ a2.toNatClampNeg + (((S2.I o 2) - (1 : Int32)) - a2).toNatClampNeg ≤ S2.n a1 ∧ (∀ i : Nat, i < (((S2.I o 2) - (1 : Int32)) - a2).toNatClampNeg → ∀ y : Nat, S2.P a1 ((a2 + (1 : Int32)).toNatClampNeg + i) = some y → S2.ok y 0) ∧ ∀ S16, S16 = S2.rowP a1 (va_cpy (S2.P a1) (S2.P a1) (a2 + (1 : Int32)).toNatClampNeg a2.toNatClampNeg (((S2.I o 2) - (1 : Int32)) - a2).toNatClampNeg) → ∀ S18, S18 = S16.setI o 2 ((S2.I o 2) - (1 : Int32)) → vp_in ((S2.I o 2) - (1 : Int32)) (S18.n a1) ∧ ∀ S22, S22 = S18.setP a1 ((S2.I o 2) - (1 : Int32)).toNatClampNeg none → post S22))))
def rm_Jx4a65c_fastRemove_b59b0 : Room := { frames := 1, cells := 0, slots := 0, locals := 60 }
set_option maxHeartbeats 4000000 in
set_option maxRecDepth 100000 in
theorem ct_Jx4a65c_fastRemove_b59b0 (l : Launch) (E : EV) {post : pS → Prop} (o : Nat) (a1 : Nat) (a2 : Int32) (S : pS) (h : wp_Jx4a65c_fastRemove_b59b0 post o a1 a2 S) : CT l E yJx4a65c_fastRemove_b59b0 cJx4a65c_fastRemove_b59b0 4 none rm_Jx4a65c_fastRemove_b59b0 (QV E post) [.ref o, .ref a1, .int a2] S := by
  refine ct_intro (by decide +kernel) (Nat.le_of_ble_eq_true rfl) ?_
  intro p e s m below meth c A ls F hW hr hnm hl
  have hx := F.1
  have hb := F.2.1
  unfold wp_Jx4a65c_fastRemove_b59b0 at h
  have hl : lv_has ls 4 [(0, .ref o), (1, .ref a1), (2, .int a2)] := hl
  refine lv_aload_n hx hb dJx4a65c_fastRemove_b59b0_0 rfl (lv_at hl 0 rfl) ?_
  refine lv_dup hx hb dJx4a65c_fastRemove_b59b0_1 rfl ?_
  obtain ⟨g1, h⟩ := h
  refine kp_geti F hW g1 cbJx4a65c 0 rfl tw_58 (u_same (F.2.2.2.2.1 _ tw_59)) dJx4a65c_fastRemove_b59b0_2 ?_
  refine lv_iconst (v := 1) hx hb dJx4a65c_fastRemove_b59b0_5 (by decide) ?_
  refine lv_iadd hx hb dJx4a65c_fastRemove_b59b0_6 ?_
  obtain ⟨S2, hS2⟩ : ∃ z, z = S.setI o 0 ((S.I o 0) + (1 : Int32)) := ⟨_, rfl⟩
  have h := h S2 hS2
  refine kp_puti F hW g1 cbJx4a65c 0 rfl tw_58 (u_same (F.2.2.2.2.1 _ tw_59)) rfl rfl dJx4a65c_fastRemove_b59b0_7 (fun H locs hW => ?_)
  rw [← hS2] at hW
  refine lv_aload_n hx hb dJx4a65c_fastRemove_b59b0_10 rfl (lv_at hl 0 rfl) ?_
  have g3 : S2.ok o 6 := by rw [hS2]; exact g1
  refine kp_geti F hW g3 cbJx4a65c 2 rfl tw_56 (fun _ h9 => h9) dJx4a65c_fastRemove_b59b0_11 ?_
  refine lv_iconst (v := 1) hx hb dJx4a65c_fastRemove_b59b0_14 (by decide) ?_
  refine lv_isub hx hb dJx4a65c_fastRemove_b59b0_15 ?_
  refine lv_dup hx hb dJx4a65c_fastRemove_b59b0_16 rfl ?_
  refine lv_istore_n (lv' := [(3, .int ((S2.I o 2) - (1 : Int32))), (0, .ref o), (1, .ref a1), (2, .int a2)]) hx hb dJx4a65c_fastRemove_b59b0_17 rfl hl (by decide) rfl (fun ls hl => ?_)
  refine lv_iload_n hx hb dJx4a65c_fastRemove_b59b0_18 rfl (lv_at hl 3 rfl) ?_
  refine lv_icmp_le (tgt := 34) hx hb dJx4a65c_fastRemove_b59b0_19 (by decide) (fun c4 => ?_) (fun c4 => ?_)
  · have h := h.1 c4
    refine lv_aload_n hx hb dJx4a65c_fastRemove_b59b0_34 rfl (lv_at hl 2 rfl) ?_
    refine lv_aload_n hx hb dJx4a65c_fastRemove_b59b0_35 rfl (lv_at hl 1 rfl) ?_
    refine lv_iload_n hx hb dJx4a65c_fastRemove_b59b0_36 rfl (lv_at hl 0 rfl) ?_
    refine lv_dup_x1 hx hb dJx4a65c_fastRemove_b59b0_37 rfl rfl ?_
    obtain ⟨S5, hS5⟩ : ∃ z, z = S2.setI o 2 ((S2.I o 2) - (1 : Int32)) := ⟨_, rfl⟩
    have h := h S5 hS5
    refine kp_puti F hW g3 cbJx4a65c 2 rfl tw_56 (fun _ h9 => h9) rfl rfl dJx4a65c_fastRemove_b59b0_38 (fun H locs hW => ?_)
    rw [← hS5] at hW
    refine lv_null hx hb dJx4a65c_fastRemove_b59b0_41 ?_
    obtain ⟨g6, h⟩ := h
    obtain ⟨b7, h⟩ := h
    obtain ⟨S8, hS8⟩ : ∃ z, z = S5.setP a1 ((S2.I o 2) - (1 : Int32)).toNatClampNeg none := ⟨_, rfl⟩
    have h := h S8 hS8
    refine kp_rastN F hW g6 b7 dJx4a65c_fastRemove_b59b0_42 (fun H locs hW => ?_)
    rw [← hS8] at hW
    exact kp_retv F hW hr h (by decide) (by decide) dJx4a65c_fastRemove_b59b0_43
  · have h := h.2 c4
    refine lv_aload_n hx hb dJx4a65c_fastRemove_b59b0_22 rfl (lv_at hl 2 rfl) ?_
    refine lv_iload_n hx hb dJx4a65c_fastRemove_b59b0_23 rfl (lv_at hl 3 rfl) ?_
    refine lv_iconst (v := 1) hx hb dJx4a65c_fastRemove_b59b0_24 (by decide) ?_
    refine lv_iadd hx hb dJx4a65c_fastRemove_b59b0_25 ?_
    refine lv_aload_n hx hb dJx4a65c_fastRemove_b59b0_26 rfl (lv_at hl 2 rfl) ?_
    refine lv_iload_n hx hb dJx4a65c_fastRemove_b59b0_27 rfl (lv_at hl 3 rfl) ?_
    refine lv_iload_n hx hb dJx4a65c_fastRemove_b59b0_28 rfl (lv_at hl 0 rfl) ?_
    refine lv_iload_n hx hb dJx4a65c_fastRemove_b59b0_29 rfl (lv_at hl 3 rfl) ?_
    refine lv_isub hx hb dJx4a65c_fastRemove_b59b0_30 ?_
    obtain ⟨g9, h⟩ := h
    obtain ⟨z10, z11, z12, z13, z14, z15, h⟩ := h
    obtain ⟨S16, hS16⟩ : ∃ z, z = S2.rowP a1 (va_cpy (S2.P a1) (S2.P a1) (a2 + (1 : Int32)).toNatClampNeg a2.toNatClampNeg (((S2.I o 2) - (1 : Int32)) - a2).toNatClampNeg) := ⟨_, rfl⟩
    have h := h S16 hS16
    refine kp_copy F hW hl.1 tw_316 tw_116 tw_115 tw_9 g9 z10 z11 z12 z13 z14 z15 cbX0 tw_713 (by decide) (Nat.le_of_ble_eq_true rfl) dJx4a65c_fastRemove_b59b0_31 (fun H locs hW => ?_)
    rw [← hS16] at hW
    refine lv_aload_n hx hb dJx4a65c_fastRemove_b59b0_34 rfl (lv_at hl 2 rfl) ?_
    refine lv_aload_n hx hb dJx4a65c_fastRemove_b59b0_35 rfl (lv_at hl 1 rfl) ?_
    refine lv_iload_n hx hb dJx4a65c_fastRemove_b59b0_36 rfl (lv_at hl 0 rfl) ?_
    refine lv_dup_x1 hx hb dJx4a65c_fastRemove_b59b0_37 rfl rfl ?_
    have g17 : S16.ok o 6 := by rw [hS16]; exact g3
    obtain ⟨S18, hS18⟩ : ∃ z, z = S16.setI o 2 ((S2.I o 2) - (1 : Int32)) := ⟨_, rfl⟩
    have h := h S18 hS18
    refine kp_puti F hW g17 cbJx4a65c 2 rfl tw_56 (fun _ h9 => h9) rfl rfl dJx4a65c_fastRemove_b59b0_38 (fun H locs hW => ?_)
    rw [← hS18] at hW
    refine lv_null hx hb dJx4a65c_fastRemove_b59b0_41 ?_
    have g19 : S16.ok a1 8 := by rw [hS16]; exact g9
    have g20 : S18.ok a1 8 := by rw [hS18]; exact g19
    obtain ⟨b21, h⟩ := h
    obtain ⟨S22, hS22⟩ : ∃ z, z = S18.setP a1 ((S2.I o 2) - (1 : Int32)).toNatClampNeg none := ⟨_, rfl⟩
    have h := h S22 hS22
    refine kp_rastN F hW g20 b21 dJx4a65c_fastRemove_b59b0_42 (fun H locs hW => ?_)
    rw [← hS22] at hW
    exact kp_retv F hW hr h (by decide) (by decide) dJx4a65c_fastRemove_b59b0_43
def wp_Jx4a65c_remove_915e3 (post : Nat → pS → Prop) (o : Nat) (a1 : Int32) (S : pS) : Prop :=
  (S.ok o 6 ∧ wp_J15_checkIndex_7cf53 (fun r2 S3 => (S3.ok o 6 ∧ ∃ q5, S3.P o 1 = some q5 ∧ S3.ok q5 8 ∧ vp_in a1 (S3.n q5) ∧ ∃ q9, S3.P q5 a1.toNatClampNeg = some q9 ∧ wp_Jx4a65c_fastRemove_b59b0 (fun S12 => post q9 S12) o q5 a1 S3)) a1 (S.I o 2) S)
def rm_Jx4a65c_remove_915e3 : Room := { frames := 2, cells := 0, slots := 0, locals := 83 }
set_option maxHeartbeats 4000000 in
set_option maxRecDepth 100000 in
theorem ct_Jx4a65c_remove_915e3 (l : Launch) (E : EV) {post : Nat → pS → Prop} (o : Nat) (a1 : Int32) (S : pS) (h : wp_Jx4a65c_remove_915e3 post o a1 S) : CT l E yJx4a65c_remove_915e3 cJx4a65c_remove_915e3 4 (some (.object "java/lang/Object")) rm_Jx4a65c_remove_915e3 (QR E post) [.ref o, .int a1] S := by
  refine ct_intro (by decide +kernel) (Nat.le_of_ble_eq_true rfl) ?_
  intro p e s m below meth c A ls F hW hr hnm hl
  have hx := F.1
  have hb := F.2.1
  unfold wp_Jx4a65c_remove_915e3 at h
  have hl : lv_has ls 4 [(0, .ref o), (1, .int a1)] := hl
  refine lv_iload_n hx hb dJx4a65c_remove_915e3_0 rfl (lv_at hl 1 rfl) ?_
  refine lv_aload_n hx hb dJx4a65c_remove_915e3_1 rfl (lv_at hl 0 rfl) ?_
  obtain ⟨g1, h⟩ := h
  refine kp_geti F hW g1 cbJx4a65c 2 rfl tw_56 (fun _ h9 => h9) dJx4a65c_remove_915e3_2 ?_
  refine kp_calli (c1 := 0) (s1 := 0) F hW (kp_runS (As := [.int a1, .int (S.I o 2)]) (rest := []) F hW (ct_J15_checkIndex_7cf53 l E _ _ _ h) cf_J15_checkIndex_7cf53 tw_169 rfl hl.1 ⟨by decide, by decide⟩ (Nat.le_of_ble_eq_true rfl) dJx4a65c_remove_915e3_5 ⟨by decide, by decide⟩) (by decide) (by decide) (fun r2 S3 H locs h hW => ?_)
  refine lv_pop hx hb dJx4a65c_remove_915e3_8 rfl ?_
  refine lv_aload_n hx hb dJx4a65c_remove_915e3_9 rfl (lv_at hl 0 rfl) ?_
  obtain ⟨g4, h⟩ := h
  obtain ⟨q5, p6, h⟩ := h
  refine kp_getp F hW g4 cbJx4a65c 1 rfl tw_55 (fun _ h9 => h9) dJx4a65c_remove_915e3_10 p6 ?_
  refine lv_astore_n (lv' := [(2, .ref q5), (0, .ref o), (1, .int a1)]) hx hb dJx4a65c_remove_915e3_13 rfl hl (by decide) rfl (fun ls hl => ?_)
  refine lv_aload_n hx hb dJx4a65c_remove_915e3_14 rfl (lv_at hl 0 rfl) ?_
  refine lv_iload_n hx hb dJx4a65c_remove_915e3_15 rfl (lv_at hl 2 rfl) ?_
  obtain ⟨g7, h⟩ := h
  obtain ⟨b8, h⟩ := h
  obtain ⟨q9, p10, h⟩ := h
  refine kp_rald F hW g7 b8 dJx4a65c_remove_915e3_16 p10 ?_
  refine lv_astore_n (lv' := [(3, .ref q9), (2, .ref q5), (0, .ref o), (1, .int a1)]) hx hb dJx4a65c_remove_915e3_17 rfl hl (by decide) rfl (fun ls hl => ?_)
  refine lv_aload_n hx hb dJx4a65c_remove_915e3_18 rfl (lv_at hl 2 rfl) ?_
  refine lv_aload_n hx hb dJx4a65c_remove_915e3_19 rfl (lv_at hl 1 rfl) ?_
  refine lv_iload_n hx hb dJx4a65c_remove_915e3_20 rfl (lv_at hl 3 rfl) ?_
  refine kp_callv (c1 := 0) (s1 := 0) F hW (kp_runV (As := [.ref q5, .int a1]) (rest := []) F hW (ct_Jx4a65c_fastRemove_b59b0 l E _ _ _ _ h) g4 cbJx4a65c rfl cf_Jx4a65c_fastRemove_b59b0 tw_312 rfl hl.1 ⟨by decide, by decide⟩ (Nat.le_of_ble_eq_true rfl) dJx4a65c_remove_915e3_21 ⟨by decide, by decide⟩) (by decide) (by decide) (fun S12 H locs h hW => ?_)
  refine lv_aload_n hx hb dJx4a65c_remove_915e3_24 rfl (lv_at hl 0 rfl) ?_
  exact kp_retr F hW hr (Or.inl ⟨_, rfl⟩) h (by decide) (by decide) dJx4a65c_remove_915e3_25
def wp_Jx4a65c_add_72be8_ng (post : pS → Prop) (e0 : Nat) (o : Nat) (a1 : Nat) (a2 : Nat) (a3 : Int32) (S : pS) : Prop :=
  ((a2 = e0 → ((a3 = (0 : Int32) → False) ∧ (¬ (a3 = (0 : Int32)) → (S.ok a2 8 ∧ vp_in a3 (S.n a2) ∧ (S.ok a1 0 ∨ S.ok a1 1 ∨ S.ok a1 3) ∧ ∀ S5, S5 = S.setP a2 a3.toNatClampNeg (some a1) → S5.ok o 6 ∧ ∀ S7, S7 = S5.setI o 2 (a3 + (1 : Int32)) → post S7)))) ∧ (¬ a2 = e0 → (S.ok a2 8 ∧ ((a3 = (nI (S.n a2)) → False) ∧ (¬ (a3 = (nI (S.n a2))) → (vp_in a3 (S.n a2) ∧ (S.ok a1 0 ∨ S.ok a1 1 ∨ S.ok a1 3) ∧ ∀ S12, S12 = S.setP a2 a3.toNatClampNeg (some a1) → S12.ok o 6 ∧ ∀ S14, S14 = S12.setI o 2 (a3 + (1 : Int32)) → post S14))))))
def rm_Jx4a65c_add_72be8_ng : Room := { frames := 0, cells := 0, slots := 0, locals := 0 }
set_option maxHeartbeats 4000000 in
set_option maxRecDepth 100000 in
theorem ct_Jx4a65c_add_72be8_ng (l : Launch) (E : EV) {post : pS → Prop} (o : Nat) (a1 : Nat) (a2 : Nat) (a3 : Int32) (S : pS) (h : wp_Jx4a65c_add_72be8_ng post E.e0 o a1 a2 a3 S) : CT l E yJx4a65c_add_72be8 cJx4a65c_add_72be8 4 none rm_Jx4a65c_add_72be8_ng (QV E post) [.ref o, .ref a1, .ref a2, .int a3] S := by
  refine ct_intro (by decide +kernel) (Nat.le_of_ble_eq_true rfl) ?_
  intro p e s m below meth c A ls F hW hr hnm hl
  have hx := F.1
  have hb := F.2.1
  unfold wp_Jx4a65c_add_72be8_ng at h
  have hl : lv_has ls 4 [(0, .ref o), (1, .ref a1), (2, .ref a2), (3, .int a3)] := hl
  refine lv_iload_n hx hb dJx4a65c_add_72be8_0 rfl (lv_at hl 3 rfl) ?_
  refine lv_aload_n hx hb dJx4a65c_add_72be8_1 rfl (lv_at hl 2 rfl) ?_
  by_cases z15 : a2 = E.e0
  · have h := h.1 z15
    refine kp_elen F hW z15 dJx4a65c_add_72be8_2 ?_
    refine lv_icmp_ne (tgt := 11) hx hb dJx4a65c_add_72be8_3 (by decide) (fun c1 => ?_) (fun c1 => ?_)
    · have h := h.2 c1
      refine lv_aload_n hx hb dJx4a65c_add_72be8_11 rfl (lv_at hl 2 rfl) ?_
      refine lv_iload_n hx hb dJx4a65c_add_72be8_12 rfl (lv_at hl 3 rfl) ?_
      refine lv_aload_n hx hb dJx4a65c_add_72be8_13 rfl (lv_at hl 1 rfl) ?_
      obtain ⟨g2, h⟩ := h
      obtain ⟨b3, h⟩ := h
      obtain ⟨k4, h⟩ := h
      obtain ⟨S5, hS5⟩ : ∃ z, z = S.setP a2 a3.toNatClampNeg (some a1) := ⟨_, rfl⟩
      have h := h S5 hS5
      refine kp_rastK F hW g2 k4 b3 dJx4a65c_add_72be8_14 (fun H locs hW => ?_)
      rw [← hS5] at hW
      refine lv_aload_n hx hb dJx4a65c_add_72be8_15 rfl (lv_at hl 0 rfl) ?_
      refine lv_iload_n hx hb dJx4a65c_add_72be8_16 rfl (lv_at hl 3 rfl) ?_
      refine lv_iconst (v := 1) hx hb dJx4a65c_add_72be8_17 (by decide) ?_
      refine lv_iadd hx hb dJx4a65c_add_72be8_18 ?_
      obtain ⟨g6, h⟩ := h
      obtain ⟨S7, hS7⟩ : ∃ z, z = S5.setI o 2 (a3 + (1 : Int32)) := ⟨_, rfl⟩
      have h := h S7 hS7
      refine kp_puti F hW g6 cbJx4a65c 2 rfl tw_56 (fun _ h9 => h9) rfl rfl dJx4a65c_add_72be8_19 (fun H locs hW => ?_)
      rw [← hS7] at hW
      exact kp_retv F hW hr h (by decide) (by decide) dJx4a65c_add_72be8_22
    · have h := h.1 c1
      exact h.elim
  · have h := h.2 z15
    obtain ⟨g8, h⟩ := h
    refine kp_rlen F hW g8 dJx4a65c_add_72be8_2 ?_
    refine lv_icmp_ne (tgt := 11) hx hb dJx4a65c_add_72be8_3 (by decide) (fun c9 => ?_) (fun c9 => ?_)
    · have h := h.2 c9
      refine lv_aload_n hx hb dJx4a65c_add_72be8_11 rfl (lv_at hl 2 rfl) ?_
      refine lv_iload_n hx hb dJx4a65c_add_72be8_12 rfl (lv_at hl 3 rfl) ?_
      refine lv_aload_n hx hb dJx4a65c_add_72be8_13 rfl (lv_at hl 1 rfl) ?_
      obtain ⟨b10, h⟩ := h
      obtain ⟨k11, h⟩ := h
      obtain ⟨S12, hS12⟩ : ∃ z, z = S.setP a2 a3.toNatClampNeg (some a1) := ⟨_, rfl⟩
      have h := h S12 hS12
      refine kp_rastK F hW g8 k11 b10 dJx4a65c_add_72be8_14 (fun H locs hW => ?_)
      rw [← hS12] at hW
      refine lv_aload_n hx hb dJx4a65c_add_72be8_15 rfl (lv_at hl 0 rfl) ?_
      refine lv_iload_n hx hb dJx4a65c_add_72be8_16 rfl (lv_at hl 3 rfl) ?_
      refine lv_iconst (v := 1) hx hb dJx4a65c_add_72be8_17 (by decide) ?_
      refine lv_iadd hx hb dJx4a65c_add_72be8_18 ?_
      obtain ⟨g13, h⟩ := h
      obtain ⟨S14, hS14⟩ : ∃ z, z = S12.setI o 2 (a3 + (1 : Int32)) := ⟨_, rfl⟩
      have h := h S14 hS14
      refine kp_puti F hW g13 cbJx4a65c 2 rfl tw_56 (fun _ h9 => h9) rfl rfl dJx4a65c_add_72be8_19 (fun H locs hW => ?_)
      rw [← hS14] at hW
      exact kp_retv F hW hr h (by decide) (by decide) dJx4a65c_add_72be8_22
    · have h := h.1 c9
      exact h.elim
def wp_Jx4a65c_add_9ea2d_ng (post : Int32 → pS → Prop) (e0 : Nat) (o : Nat) (a1 : Nat) (S : pS) : Prop :=
  (S.ok o 6 ∧ ∀ S2, S2 = S.setI o 0 ((S.I o 0) + (1 : Int32)) → ∃ q4, S2.P o 1 = some q4 ∧ wp_Jx4a65c_add_72be8_ng (fun S7 => post (1 : Int32) S7) e0 o a1 q4 (S2.I o 2) S2)
def rm_Jx4a65c_add_9ea2d_ng : Room := { frames := 1, cells := 0, slots := 0, locals := 23 }
set_option maxHeartbeats 4000000 in
set_option maxRecDepth 100000 in
theorem ct_Jx4a65c_add_9ea2d_ng (l : Launch) (E : EV) {post : Int32 → pS → Prop} (o : Nat) (a1 : Nat) (S : pS) (h : wp_Jx4a65c_add_9ea2d_ng post E.e0 o a1 S) : CT l E yJx4a65c_add_9ea2d cJx4a65c_add_9ea2d 2 (some .boolean) rm_Jx4a65c_add_9ea2d_ng (QI E post) [.ref o, .ref a1] S := by
  refine ct_intro (by decide +kernel) (Nat.le_of_ble_eq_true rfl) ?_
  intro p e s m below meth c A ls F hW hr hnm hl
  have hx := F.1
  have hb := F.2.1
  unfold wp_Jx4a65c_add_9ea2d_ng at h
  have hl : lv_has ls 2 [(0, .ref o), (1, .ref a1)] := hl
  refine lv_aload_n hx hb dJx4a65c_add_9ea2d_0 rfl (lv_at hl 0 rfl) ?_
  refine lv_dup hx hb dJx4a65c_add_9ea2d_1 rfl ?_
  obtain ⟨g1, h⟩ := h
  refine kp_geti F hW g1 cbJx4a65c 0 rfl tw_58 (u_same (F.2.2.2.2.1 _ tw_59)) dJx4a65c_add_9ea2d_2 ?_
  refine lv_iconst (v := 1) hx hb dJx4a65c_add_9ea2d_5 (by decide) ?_
  refine lv_iadd hx hb dJx4a65c_add_9ea2d_6 ?_
  obtain ⟨S2, hS2⟩ : ∃ z, z = S.setI o 0 ((S.I o 0) + (1 : Int32)) := ⟨_, rfl⟩
  have h := h S2 hS2
  refine kp_puti F hW g1 cbJx4a65c 0 rfl tw_58 (u_same (F.2.2.2.2.1 _ tw_59)) rfl rfl dJx4a65c_add_9ea2d_7 (fun H locs hW => ?_)
  rw [← hS2] at hW
  refine lv_aload_n hx hb dJx4a65c_add_9ea2d_10 rfl (lv_at hl 0 rfl) ?_
  refine lv_aload_n hx hb dJx4a65c_add_9ea2d_11 rfl (lv_at hl 1 rfl) ?_
  refine lv_aload_n hx hb dJx4a65c_add_9ea2d_12 rfl (lv_at hl 0 rfl) ?_
  have g3 : S2.ok o 6 := by rw [hS2]; exact g1
  obtain ⟨q4, p5, h⟩ := h
  refine kp_getp F hW g3 cbJx4a65c 1 rfl tw_55 (fun _ h9 => h9) dJx4a65c_add_9ea2d_13 p5 ?_
  refine lv_aload_n hx hb dJx4a65c_add_9ea2d_16 rfl (lv_at hl 0 rfl) ?_
  refine kp_geti F hW g3 cbJx4a65c 2 rfl tw_56 (fun _ h9 => h9) dJx4a65c_add_9ea2d_17 ?_
  refine kp_callv (c1 := 0) (s1 := 0) F hW (kp_runV (As := [.ref a1, .ref q4, .int (S2.I o 2)]) (rest := []) F hW (ct_Jx4a65c_add_72be8_ng l E _ _ _ _ _ h) g3 cbJx4a65c rfl cf_Jx4a65c_add_72be8 tw_71 rfl hl.1 ⟨by decide, by decide⟩ (Nat.le_of_ble_eq_true rfl) dJx4a65c_add_9ea2d_20 ⟨by decide, by decide⟩) (by decide) (by decide) (fun S7 H locs h hW => ?_)
  refine lv_iconst (v := 1) hx hb dJx4a65c_add_9ea2d_23 (by decide) ?_
  exact kp_retz F hW hr (Or.inr rfl) h (by decide) (by decide) dJx4a65c_add_9ea2d_24
