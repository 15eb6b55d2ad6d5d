/-! CLASS AND REFERENCE, call by call -/
def CX (e0 : Nat) (c : Nat → Nat) (A A' : aS) (r : Int32) (wp : (Int32 → pS → Prop) → pS → Prop) : Prop := ∀ (la : Nat → Nat) (S : pS) (post : Int32 → pS → Prop), RepX e0 c la A S → (∀ la' S', RepX e0 c la' A' S' → post r S') → wp post S
def CM (A A' : aS) (r : Int32) (wp : (Int32 → pS → Prop) → Nat → pS → Prop) : Prop := ∀ (o : Nat) (b : Nat → Nat) (S : pS) (post : Int32 → pS → Prop), ShM o b S → view o b S = toV A → (∀ S', ShM o b S' → view o b S' = toV A' → post r S') → wp post o S
def Duo (e0 : Nat) (c : Nat → Nat) (A : aS) (R : Nat) (wx : (Int32 → pS → Prop) → pS → Prop) (wm : (Int32 → pS → Prop) → Nat → pS → Prop) : Prop := ∃ r A', J A' (R + 1001000) ∧ CX e0 c A A' r wx ∧ CM A A' r wm
section DUO
variable {e0 : Nat} {c : Nat → Nat} {A : aS} {R : Nat}
theorem J.r23 (h : J A R) (hR : R < 1000000000) : A.s 23 < 2147483647 := by
  have := h.b23
  omega
theorem du_append {x : Int32} (h : J A R) (hR : R < 1000000000) : Duo e0 c A R (fun p S => wp_X4_appendKey p (c 32) x S) (fun p o S => wp_X5_appendKey p o x S) := by
  have hj : J (a_append A x).2 (R + 1001000) := J_append h
  refine ⟨(a_append A x).1, (a_append A x).2, hj, fun la S post hr hp => xq_append hr h.b10 (fun S' q => hp la S' q), fun o b S post hs hv hp => rv_X5_appendKey (postV := fun r V => r = (a_append A x).1 ∧ V = toV (a_append A x).2) (fun r S1 s1 q => q.1 ▸ hp S1 s1 q.2) x hs ?_⟩
  rw [hv]
  exact mv_append h.b10 ⟨rfl, rfl⟩
theorem du_clear (h : J A R) (hR : R < 1000000000) : Duo e0 c A R (fun p S => wp_X4_clearKeys p (c 32) S) (fun p o S => wp_X5_clearKeys p o S) := by
  have hj : J (a_clear A).2 (R + 1001000) := J_clear h
  refine ⟨(a_clear A).1, (a_clear A).2, hj, fun la S post hr hp => xq_clear hr h.b10 (fun S' q => hp la S' q), fun o b S post hs hv hp => rv_X5_clearKeys (postV := fun r V => r = (a_clear A).1 ∧ V = toV (a_clear A).2) (fun r S1 s1 q => q.1 ▸ hp S1 s1 q.2) hs ?_⟩
  rw [hv]
  exact mv_clear ⟨rfl, rfl⟩
theorem du_count {x : Int32} (h : J A R) (hR : R < 1000000000) : Duo e0 c A R (fun p S => wp_X4_bindingCount p (c 32) x S) (fun p o S => wp_X5_bindingCount p o x S) := by
  have hj : J (a_count A x).2 (R + 1001000) := by
    have e : (a_count A x).2 = A := by unfold a_count; repeat (first | rfl | split)
    rw [e]; exact h.up
  refine ⟨(a_count A x).1, (a_count A x).2, hj, fun la S post hr hp => xq_count hr (fun S' q => hp la S' q), fun o b S post hs hv hp => rv_X5_bindingCount (postV := fun r V => r = (a_count A x).1 ∧ V = toV (a_count A x).2) (fun r S1 s1 q => q.1 ▸ hp S1 s1 q.2) x hs ?_⟩
  rw [hv]
  exact mv_count ⟨rfl, rfl⟩
theorem du_press {x : Int32} (h : J A R) (hR : R < 1000000000) : Duo e0 c A R (fun p S => wp_X4_press p e0 (c 32) x S) (fun p o S => wp_X5_press p o x S) := by
  have hj : J (a_press A x).2 (R + 1001000) := J_press h
  refine ⟨(a_press A x).1, (a_press A x).2, hj, fun la S post hr hp => xq_press hr h.1 (by omega) (fun S' q => hp la S' q), fun o b S post hs hv hp => rv_X5_press (postV := fun r V => r = (a_press A x).1 ∧ V = toV (a_press A x).2) (fun r S1 s1 q => q.1 ▸ hp S1 s1 q.2) x hs ?_⟩
  rw [hv]
  exact mv_press h.1 (by omega) ⟨rfl, rfl⟩
theorem du_tick {x : Int32} (h : J A R) (hR : R < 1000000000) : Duo e0 c A R (fun p S => wp_X4_tick p e0 (c 32) x S) (fun p o S => wp_X5_tick p o x S) := by
  have hj : J (a_tick A x).2 (R + 1001000) := J_tick h
  refine ⟨(a_tick A x).1, (a_tick A x).2, hj, fun la S post hr hp => xq_tick hr h.1 (by omega) (fun S' q => hp la S' q), fun o b S post hs hv hp => rv_X5_tick (postV := fun r V => r = (a_tick A x).1 ∧ V = toV (a_tick A x).2) (fun r S1 s1 q => q.1 ▸ hp S1 s1 q.2) x hs ?_⟩
  rw [hv]
  exact mv_tick h.1 (by omega) ⟨rfl, rfl⟩
theorem du_timeout {x : Int32} (h : J A R) (hR : R < 1000000000) : Duo e0 c A R (fun p S => wp_X4_setTimeout p (c 32) x S) (fun p o S => wp_X5_setTimeout p o x S) := by
  have hj : J (a_timeout A x).2 (R + 1001000) := J_timeout h
  refine ⟨(a_timeout A x).1, (a_timeout A x).2, hj, fun la S post hr hp => xq_timeout hr (fun S' q => hp la S' q), fun o b S post hs hv hp => rv_X5_setTimeout (postV := fun r V => r = (a_timeout A x).1 ∧ V = toV (a_timeout A x).2) (fun r S1 s1 q => q.1 ▸ hp S1 s1 q.2) x hs ?_⟩
  rw [hv]
  exact mv_timeout ⟨rfl, rfl⟩
theorem du_setFlag {x y : Int32} (h : J A R) (hR : R < 1000000000) : Duo e0 c A R (fun p S => wp_X4_setFlag p (c 32) x y S) (fun p o S => wp_X5_setFlag p o x y S) := by
  have hj : J (a_setFlag A x y).2 (R + 1001000) := J_setFlag h
  refine ⟨(a_setFlag A x y).1, (a_setFlag A x y).2, hj, fun la S post hr hp => xq_setFlag hr (fun S' q => hp la S' q), fun o b S post hs hv hp => rv_X5_setFlag (postV := fun r V => r = (a_setFlag A x y).1 ∧ V = toV (a_setFlag A x y).2) (fun r S1 s1 q => q.1 ▸ hp S1 s1 q.2) x y hs ?_⟩
  rw [hv]
  exact mv_setFlag ⟨rfl, rfl⟩
theorem du_plen (h : J A R) (hR : R < 1000000000) : Duo e0 c A R (fun p S => wp_X4_pendingLength p (c 32) S) (fun p o S => wp_X5_pendingLength p o S) := by
  have hj : J (a_plen A).2 (R + 1001000) := h.up
  refine ⟨(a_plen A).1, (a_plen A).2, hj, fun la S post hr hp => xq_plen hr h.b12 (fun S' q => hp la S' q), fun o b S post hs hv hp => rv_X5_pendingLength (postV := fun r V => r = (a_plen A).1 ∧ V = toV (a_plen A).2) (fun r S1 s1 q => q.1 ▸ hp S1 s1 q.2) hs ?_⟩
  rw [hv]
  unfold wv_X5_pendingLength; exact ⟨rfl, rfl⟩
theorem du_pkey {x : Int32} (h : J A R) (hR : R < 1000000000) : Duo e0 c A R (fun p S => wp_X4_pendingKey p (c 32) x S) (fun p o S => wp_X5_pendingKey p o x S) := by
  have hj : J (a_pkey A x).2 (R + 1001000) := by
    have e : (a_pkey A x).2 = A := by unfold a_pkey; repeat (first | rfl | split)
    rw [e]; exact h.up
  refine ⟨(a_pkey A x).1, (a_pkey A x).2, hj, fun la S post hr hp => xq_pkey hr h.b12 (fun S' q => hp la S' q), fun o b S post hs hv hp => rv_X5_pendingKey (postV := fun r V => r = (a_pkey A x).1 ∧ V = toV (a_pkey A x).2) (fun r S1 s1 q => q.1 ▸ hp S1 s1 q.2) x hs ?_⟩
  rw [hv]
  exact mv_pkey h.b12 ⟨rfl, rfl⟩
theorem du_rem (h : J A R) (hR : R < 1000000000) : Duo e0 c A R (fun p S => wp_X4_remainingTime p (c 32) S) (fun p o S => wp_X5_remainingTime p o S) := by
  have hj : J (a_rem A).2 (R + 1001000) := h.up
  refine ⟨(a_rem A).1, (a_rem A).2, hj, fun la S post hr hp => xq_rem hr h.b12 (fun S' q => hp la S' q), fun o b S post hs hv hp => rv_X5_remainingTime (postV := fun r V => r = (a_rem A).1 ∧ V = toV (a_rem A).2) (fun r S1 s1 q => q.1 ▸ hp S1 s1 q.2) hs ?_⟩
  rw [hv]
  exact mv_rem h.b12 ⟨rfl, rfl⟩
theorem du_pbind (h : J A R) (hR : R < 1000000000) : Duo e0 c A R (fun p S => wp_X4_pendingBinding p (c 32) S) (fun p o S => wp_X5_pendingBinding p o S) := by
  have hj : J (a_pbind A).2 (R + 1001000) := h.up
  refine ⟨(a_pbind A).1, (a_pbind A).2, hj, fun la S post hr hp => xq_pbind hr h.bs h.b12 (fun S' q => hp la S' q), fun o b S post hs hv hp => rv_X5_pendingBinding (postV := fun r V => r = (a_pbind A).1 ∧ V = toV (a_pbind A).2) (fun r S1 s1 q => q.1 ▸ hp S1 s1 q.2) hs ?_⟩
  rw [hv]
  exact mv_pbind h.bs h.b12 ⟨rfl, rfl⟩
theorem du_flag {x : Int32} (h : J A R) (hR : R < 1000000000) : Duo e0 c A R (fun p S => wp_X4_flag p (c 32) x S) (fun p o S => wp_X5_flag p o x S) := by
  have hj : J (a_flag A x).2 (R + 1001000) := by
    have e : (a_flag A x).2 = A := by unfold a_flag; repeat (first | rfl | split)
    rw [e]; exact h.up
  refine ⟨(a_flag A x).1, (a_flag A x).2, hj, fun la S post hr hp => xq_flag hr (fun S' q => hp la S' q), fun o b S post hs hv hp => rv_X5_flag (postV := fun r V => r = (a_flag A x).1 ∧ V = toV (a_flag A x).2) (fun r S1 s1 q => q.1 ▸ hp S1 s1 q.2) x hs ?_⟩
  rw [hv]
  exact mv_flag ⟨rfl, rfl⟩
theorem du_ssize (h : J A R) (hR : R < 1000000000) : Duo e0 c A R (fun p S => wp_X4_stackSize p (c 32) S) (fun p o S => wp_X5_stackSize p o S) := by
  have hj : J (a_ssize A).2 (R + 1001000) := h.up
  refine ⟨(a_ssize A).1, (a_ssize A).2, hj, fun la S post hr hp => xq_ssize hr h.bs.1.1.2 (fun S' q => hp la S' q), fun o b S post hs hv hp => rv_X5_stackSize (postV := fun r V => r = (a_ssize A).1 ∧ V = toV (a_ssize A).2) (fun r S1 s1 q => q.1 ▸ hp S1 s1 q.2) hs ?_⟩
  rw [hv]
  unfold wv_X5_stackSize; exact ⟨rfl, rfl⟩
theorem du_sctx {x : Int32} (h : J A R) (hR : R < 1000000000) : Duo e0 c A R (fun p S => wp_X4_stackContext p (c 32) x S) (fun p o S => wp_X5_stackContext p o x S) := by
  have hj : J (a_sctx A x).2 (R + 1001000) := by
    have e : (a_sctx A x).2 = A := by unfold a_sctx; repeat (first | rfl | split)
    rw [e]; exact h.up
  refine ⟨(a_sctx A x).1, (a_sctx A x).2, hj, fun la S post hr hp => xq_sctx hr h.bs.1 (fun S' q => hp la S' q), fun o b S post hs hv hp => rv_X5_stackContext (postV := fun r V => r = (a_sctx A x).1 ∧ V = toV (a_sctx A x).2) (fun r S1 s1 q => q.1 ▸ hp S1 s1 q.2) x hs ?_⟩
  rw [hv]
  exact mv_sctx h.bs.1.1 ⟨rfl, rfl⟩
theorem du_start {x : Int32} (h : J A R) (hR : R < 1000000000) : Duo e0 c A R (fun p S => wp_X4_startRecording p (c 32) x S) (fun p o S => wp_X5_startRecording p o x S) := by
  have hj : J (a_start A x).2 (R + 1001000) := J_start h
  refine ⟨(a_start A x).1, (a_start A x).2, hj, fun la S post hr hp => xq_start hr h.bs.2.2.1 (fun S' q => hp la S' q), fun o b S post hs hv hp => rv_X5_startRecording (postV := fun r V => r = (a_start A x).1 ∧ V = toV (a_start A x).2) (fun r S1 s1 q => q.1 ▸ hp S1 s1 q.2) x hs ?_⟩
  rw [hv]
  exact mv_start ⟨rfl, rfl⟩
theorem du_stop (h : J A R) (hR : R < 1000000000) : Duo e0 c A R (fun p S => wp_X4_stopRecording p (c 32) S) (fun p o S => wp_X5_stopRecording p o S) := by
  have hj : J (a_stop A).2 (R + 1001000) := J_stop h
  refine ⟨(a_stop A).1, (a_stop A).2, hj, fun la S post hr hp => xq_stop hr h.bs.2.2.1 (fun S' q => hp la S' q), fun o b S post hs hv hp => rv_X5_stopRecording (postV := fun r V => r = (a_stop A).1 ∧ V = toV (a_stop A).2) (fun r S1 s1 q => q.1 ▸ hp S1 s1 q.2) hs ?_⟩
  rw [hv]
  exact mv_stop ⟨rfl, rfl⟩
theorem du_mkey {x y : Int32} (h : J A R) (hR : R < 1000000000) : Duo e0 c A R (fun p S => wp_X4_macroKey p (c 32) x y S) (fun p o S => wp_X5_macroKey p o x y S) := by
  have hj : J (a_mkey A x y).2 (R + 1001000) := by
    have e : (a_mkey A x y).2 = A := by unfold a_mkey; repeat (first | rfl | split)
    rw [e]; exact h.up
  refine ⟨(a_mkey A x y).1, (a_mkey A x y).2, hj, fun la S post hr hp => xq_mkey hr h.bs.2.2.1 (fun S' q => hp la S' q), fun o b S post hs hv hp => rv_X5_macroKey (postV := fun r V => r = (a_mkey A x y).1 ∧ V = toV (a_mkey A x y).2) (fun r S1 s1 q => q.1 ▸ hp S1 s1 q.2) x y hs ?_⟩
  rw [hv]
  exact mv_mkey h.bs.2.2.1 ⟨rfl, rfl⟩
theorem du_rcount (h : J A R) (hR : R < 1000000000) : Duo e0 c A R (fun p S => wp_X4_reportCount p (c 32) S) (fun p o S => wp_X5_reportCount p o S) := by
  have hj : J (a_rcount A).2 (R + 1001000) := h.up
  refine ⟨(a_rcount A).1, (a_rcount A).2, hj, fun la S post hr hp => xq_rcount hr (fun S' q => hp la S' q), fun o b S post hs hv hp => rv_X5_reportCount (postV := fun r V => r = (a_rcount A).1 ∧ V = toV (a_rcount A).2) (fun r S1 s1 q => q.1 ▸ hp S1 s1 q.2) hs ?_⟩
  rw [hv]
  unfold wv_X5_reportCount; exact ⟨rfl, rfl⟩
theorem du_kind {x : Int32} (h : J A R) (hR : R < 1000000000) : Duo e0 c A R (fun p S => wp_X4_reportKind p (c 32) x S) (fun p o S => wp_X5_reportKind p o x S) := by
  have hj : J (a_rep A 24 x).2 (R + 1001000) := by
    have e : (a_rep A 24 x).2 = A := by unfold a_rep; repeat (first | rfl | split)
    rw [e]; exact h.up
  refine ⟨(a_rep A 24 x).1, (a_rep A 24 x).2, hj, fun la S post hr hp => xq_kind hr (h.r23 hR) (fun S' q => hp la S' q), fun o b S post hs hv hp => rv_X5_reportKind (postV := fun r V => r = (a_rep A 24 x).1 ∧ V = toV (a_rep A 24 x).2) (fun r S1 s1 q => q.1 ▸ hp S1 s1 q.2) x hs ?_⟩
  rw [hv]
  unfold wv_X5_reportKind; exact mv_rep (post := fun r V => r = (a_rep A 24 x).1 ∧ V = toV (a_rep A 24 x).2) (by decide) (by decide) (h.r23 hR) ⟨rfl, rfl⟩
theorem du_arg {x : Int32} (h : J A R) (hR : R < 1000000000) : Duo e0 c A R (fun p S => wp_X4_reportArgument p (c 32) x S) (fun p o S => wp_X5_reportArgument p o x S) := by
  have hj : J (a_rep A 25 x).2 (R + 1001000) := by
    have e : (a_rep A 25 x).2 = A := by unfold a_rep; repeat (first | rfl | split)
    rw [e]; exact h.up
  refine ⟨(a_rep A 25 x).1, (a_rep A 25 x).2, hj, fun la S post hr hp => xq_arg hr (h.r23 hR) (fun S' q => hp la S' q), fun o b S post hs hv hp => rv_X5_reportArgument (postV := fun r V => r = (a_rep A 25 x).1 ∧ V = toV (a_rep A 25 x).2) (fun r S1 s1 q => q.1 ▸ hp S1 s1 q.2) x hs ?_⟩
  rw [hv]
  unfold wv_X5_reportArgument; exact mv_rep (post := fun r V => r = (a_rep A 25 x).1 ∧ V = toV (a_rep A 25 x).2) (by decide) (by decide) (h.r23 hR) ⟨rfl, rfl⟩
theorem du_bind {x f v a g : Int32} (h : J A R) : Duo e0 c A R (fun p S => wp_X4_bind p e0 (c 32) x f v a g S) (fun p o S => wp_X5_bind p o x f v a g S) := by
  have hm := h.bs.1.2.2.1
  by_cases q : bOK x f v a g
  · by_cases q1 : A.s 10 = 0
    · refine ⟨-2, A, h.up, fun la S post hr hp => xq_bind hr h.bs.1 h.b10 (fun z => absurd q z) (fun _ _ => hp la S hr) (fun _ z => absurd q1 z) (fun _ z => absurd q1 z), fun o b S post hs hv hp => rv_X5_bind (postV := fun r V => r = -2 ∧ V = toV A) (fun r S1 s1 q => q.1 ▸ hp S1 s1 q.2) x f v a g hs ?_⟩
      rw [hv]
      exact mv_bind h.b10 hm (fun z => absurd q z) (fun _ _ => ⟨rfl, rfl⟩) (fun _ z => absurd q1 z) (fun _ z => absurd q1 z)
    · by_cases q2 : A.w 3 x.toNatClampNeg = 10
      · refine ⟨-3, A, h.up, fun la S post hr hp => xq_bind hr h.bs.1 h.b10 (fun z => absurd q z) (fun _ z => absurd z q1) (fun _ _ _ => hp la S hr) (fun _ _ z => absurd q2 z), fun o b S post hs hv hp => rv_X5_bind (postV := fun r V => r = -3 ∧ V = toV A) (fun r S1 s1 q => q.1 ▸ hp S1 s1 q.2) x f v a g hs ?_⟩
        rw [hv]
        exact mv_bind h.b10 hm (fun z => absurd q z) (fun _ z => absurd z q1) (fun _ _ _ => ⟨rfl, rfl⟩) (fun _ _ z => absurd q2 z)
      · refine ⟨nI (A.w 3 x.toNatClampNeg), bndA A x.toNatClampNeg f v a.toNatClampNeg g.toNatClampNeg, J_bind h q q1 q2, fun la S post hr hp => xq_bind hr h.bs.1 h.b10 (fun z => absurd q z) (fun _ z => absurd z q1) (fun _ _ z => absurd z q2) (fun _ _ _ la' S' w => hp la' S' w), fun o b S post hs hv hp => rv_X5_bind (postV := fun r V => r = nI (A.w 3 x.toNatClampNeg) ∧ V = toV (bndA A x.toNatClampNeg f v a.toNatClampNeg g.toNatClampNeg)) (fun r S1 s1 q => q.1 ▸ hp S1 s1 q.2) x f v a g hs ?_⟩
        rw [hv]
        exact mv_bind h.b10 hm (fun z => absurd q z) (fun _ z => absurd z q1) (fun _ _ z => absurd z q2) (fun _ _ _ => ⟨rfl, rfl⟩)
  · refine ⟨-1, A, h.up, fun la S post hr hp => xq_bind hr h.bs.1 h.b10 (fun _ => hp la S hr) (fun z => absurd z q) (fun z => absurd z q) (fun z => absurd z q), fun o b S post hs hv hp => rv_X5_bind (postV := fun r V => r = -1 ∧ V = toV A) (fun r S1 s1 q => q.1 ▸ hp S1 s1 q.2) x f v a g hs ?_⟩
    rw [hv]
    exact mv_bind h.b10 hm (fun _ => ⟨rfl, rfl⟩) (fun z => absurd z q) (fun z => absurd z q) (fun z => absurd z q)
theorem du_unbind {x y : Int32} (h : J A R) : Duo e0 c A R (fun p S => wp_X4_unbind p (c 32) x y S) (fun p o S => wp_X5_unbind p o x y S) := by
  by_cases q : isB A x y
  · refine ⟨nI (A.w 3 x.toNatClampNeg - 1), unbA A x.toNatClampNeg y.toNatClampNeg, J_unbind h q, fun la S post hr hp => xq_unbind hr h.bs.1 (fun z => absurd q z) (fun _ S' w => hp la S' w), fun o b S post hs hv hp => rv_X5_unbind (postV := fun r V => r = nI (A.w 3 x.toNatClampNeg - 1) ∧ V = toV (unbA A x.toNatClampNeg y.toNatClampNeg)) (fun r S1 s1 q => q.1 ▸ hp S1 s1 q.2) x y hs ?_⟩
    rw [hv]
    exact mv_unbind h.bs.1 (fun z => absurd q z) (fun _ => ⟨rfl, rfl⟩)
  · refine ⟨-1, A, h.up, fun la S post hr hp => xq_unbind hr h.bs.1 (fun _ => hp la S hr) (fun z => absurd z q), fun o b S post hs hv hp => rv_X5_unbind (postV := fun r V => r = -1 ∧ V = toV A) (fun r S1 s1 q => q.1 ▸ hp S1 s1 q.2) x y hs ?_⟩
    rw [hv]
    exact mv_unbind h.bs.1 (fun _ => ⟨rfl, rfl⟩) (fun z => absurd z q)
theorem du_shadow {x y : Int32} (h : J A R) : Duo e0 c A R (fun p S => wp_X4_shadowedBy p (c 32) x y S) (fun p o S => wp_X5_shadowedBy p o x y S) := by
  by_cases q : isB A x y
  · refine ⟨oI (shB A x.toNatClampNeg y.toNatClampNeg), A, h.up, fun la S post hr hp => xq_shadow hr h.bs.1 h.2 (fun z => absurd q z) (fun _ => hp la S hr), fun o b S post hs hv hp => rv_X5_shadowedBy (postV := fun r V => r = oI (shB A x.toNatClampNeg y.toNatClampNeg) ∧ V = toV A) (fun r S1 s1 q => q.1 ▸ hp S1 s1 q.2) x y hs ?_⟩
    rw [hv]
    exact mv_shadow h.bs.1 (fun z => absurd q z) (fun _ => ⟨rfl, rfl⟩)
  · refine ⟨-1, A, h.up, fun la S post hr hp => xq_shadow hr h.bs.1 h.2 (fun _ => hp la S hr) (fun z => absurd z q), fun o b S post hs hv hp => rv_X5_shadowedBy (postV := fun r V => r = -1 ∧ V = toV A) (fun r S1 s1 q => q.1 ▸ hp S1 s1 q.2) x y hs ?_⟩
    rw [hv]
    exact mv_shadow h.bs.1 (fun _ => ⟨rfl, rfl⟩) (fun z => absurd z q)
end DUO
