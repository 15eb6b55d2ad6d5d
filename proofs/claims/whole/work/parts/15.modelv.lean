def wv_X5_in (post : Int32 → vS → Prop) (a1 : Int32) (a2 : Int32) (a3 : Int32) (V : vS) : Prop :=
  ((a1 < a2 → post (0 : Int32) V) ∧ (¬ (a1 < a2) → ((a3 < a1 → post (0 : Int32) V) ∧ (¬ (a3 < a1) → post (1 : Int32) V))))
theorem rv_X5_in {o : Nat} {b : Nat → Nat} {post : Int32 → pS → Prop} {postV : Int32 → vS → Prop} (hp : ∀ (r : Int32) (S1 : pS), ShM o b S1 → postV r (view o b S1) → post r S1) (a1 : Int32) (a2 : Int32) (a3 : Int32) {S : pS} (hs : ShM o b S) (hv : wv_X5_in postV a1 a2 a3 (view o b S)) : wp_X5_in post a1 a2 a3 S := by
  have hb := hs.2.2
  unfold wp_X5_in
  unfold wv_X5_in at hv
  refine ⟨fun c1 => ?_, fun c1 => ?_⟩
  · have hv := hv.1 c1
    exact hp _ _ hs hv
  · have hv := hv.2 c1
    refine ⟨fun c2 => ?_, fun c2 => ?_⟩
    · have hv := hv.1 c2
      exact hp _ _ hs hv
    · have hv := hv.2 c2
      exact hp _ _ hs hv
def wv_X5_appendKey (post : Int32 → vS → Prop) (a1 : Int32) (V : vS) : Prop :=
  (wv_X5_in (fun r1 V2 => ((r1 = 0 → post (-1 : Int32) V2) ∧ (¬ (r1 = 0) → (((V2.s 10) = (4 : Int32) → post (-3 : Int32) V2) ∧ (¬ ((V2.s 10) = (4 : Int32)) → (vp_in (V2.s 10) 4 ∧ ∀ V10, V10 = V2.setA 11 (V2.s 10).toNatClampNeg a1 → ∀ V12, V12 = V10.setS 10 ((V10.s 10) + (1 : Int32)) → post (V12.s 10) V12)))))) a1 (0 : Int32) (11 : Int32) V)
theorem rv_X5_appendKey {o : Nat} {b : Nat → Nat} {post : Int32 → pS → Prop} {postV : Int32 → vS → Prop} (hp : ∀ (r : Int32) (S1 : pS), ShM o b S1 → postV r (view o b S1) → post r S1) (a1 : Int32) {S : pS} (hs : ShM o b S) (hv : wv_X5_appendKey postV a1 (view o b S)) : wp_X5_appendKey post o a1 S := by
  have hb := hs.2.2
  unfold wp_X5_appendKey
  unfold wv_X5_appendKey at hv
  refine rv_X5_in (fun r1 S2 hs hv => ?_) _ _ _  hs hv
  refine ⟨fun c3 => ?_, fun c3 => ?_⟩
  · have hv := hv.1 c3
    exact hp _ _ hs hv
  · have hv := hv.2 c3
    refine ⟨hs.1, ?_⟩
    refine ⟨fun c5 => ?_, fun c5 => ?_⟩
    · have hv := hv.1 c5
      exact hp _ _ hs hv
    · have hv := hv.2 c5
      refine ⟨_, (hs.2.1 11 rfl).1, ?_⟩
      refine ⟨(hs.2.1 11 rfl).2.1, ?_⟩
      refine ⟨vin_of (hs.2.1 11 rfl).2.2 hv.1, ?_⟩
      have hv := hv.2
      intro S10 hS10
      subst hS10
      have hv := hv _ rfl
      rw [← view_setA hb] at hv
      intro S12 hS12
      subst hS12
      have hv := hv _ rfl
      rw [← view_setS hb] at hv
      exact hp _ _ hs hv
def wv_X5_clearKeys (post : Int32 → vS → Prop)  (V : vS) : Prop :=
  (∀ V2, V2 = V.setS 10 (0 : Int32) → post (V.s 10) V2)
theorem rv_X5_clearKeys {o : Nat} {b : Nat → Nat} {post : Int32 → pS → Prop} {postV : Int32 → vS → Prop} (hp : ∀ (r : Int32) (S1 : pS), ShM o b S1 → postV r (view o b S1) → post r S1)  {S : pS} (hs : ShM o b S) (hv : wv_X5_clearKeys postV (view o b S)) : wp_X5_clearKeys post o S := by
  have hb := hs.2.2
  unfold wp_X5_clearKeys
  unfold wv_X5_clearKeys at hv
  refine ⟨hs.1, ?_⟩
  intro S2 hS2
  subst hS2
  have hv := hv _ rfl
  rw [← view_setS hb] at hv
  exact hp _ _ hs hv
def wv_X5_most (post : Int32 → vS → Prop) (a1 : Int32) (V : vS) : Prop :=
  ((a1 = 0 → post (99 : Int32) V) ∧ (a1 = 1 → post (3 : Int32) V) ∧ (a1 = 2 → post (3 : Int32) V) ∧ (a1 = 3 → post (0 : Int32) V) ∧ (¬ a1 = 0 ∧ ¬ a1 = 1 ∧ ¬ a1 = 2 ∧ ¬ a1 = 3 → post (5 : Int32) V))
theorem rv_X5_most {o : Nat} {b : Nat → Nat} {post : Int32 → pS → Prop} {postV : Int32 → vS → Prop} (hp : ∀ (r : Int32) (S1 : pS), ShM o b S1 → postV r (view o b S1) → post r S1) (a1 : Int32) {S : pS} (hs : ShM o b S) (hv : wv_X5_most postV a1 (view o b S)) : wp_X5_most post a1 S := by
  have hb := hs.2.2
  unfold wp_X5_most
  unfold wv_X5_most at hv
  refine ⟨?_, ?_, ?_, ?_, ?_⟩
  · intro c1
    have hv := hv.1 c1
    exact hp _ _ hs hv
  · intro c2
    have hv := hv.2.1 c2
    exact hp _ _ hs hv
  · intro c3
    have hv := hv.2.2.1 c3
    exact hp _ _ hs hv
  · intro c4
    have hv := hv.2.2.2.1 c4
    exact hp _ _ hs hv
  · intro c9
    have hv := hv.2.2.2.2 c9
    exact hp _ _ hs hv
def wv_X5_bind_L120 (post : Int32 → vS → Prop) : Nat → Int32 → Int32 → Int32 → Int32 → Int32 → Int32 → Int32 → vS → Prop
  | 0, _, _, _, _, _, _, _, _ => False
  | n + 1, v1, v2, v3, v4, v5, v7, v8, V =>
  (((V.s 10) ≤ v8 → (vp_in v7 40 ∧ ∀ V35, V35 = V.setA 6 v7.toNatClampNeg v2 → vp_in v7 40 ∧ ∀ V41, V41 = V35.setA 7 v7.toNatClampNeg v3 → vp_in v7 40 ∧ ∀ V47, V47 = V41.setA 8 v7.toNatClampNeg v4 → vp_in v7 40 ∧ ∀ V53, V53 = V47.setA 9 v7.toNatClampNeg v5 → vp_in v1 4 ∧ vp_in v1 4 ∧ ∀ V60, V60 = V53.setA 3 v1.toNatClampNeg ((V53.a 3 v1.toNatClampNeg) + (1 : Int32)) → ∀ V62, V62 = V60.setS 10 (0 : Int32) → vp_in v1 4 ∧ post ((V62.a 3 v1.toNatClampNeg) - (1 : Int32)) V62)) ∧ (¬ ((V.s 10) ≤ v8) → (vp_in v8 4 ∧ vp_in (((4 : Int32) * v7) + v8) 160 ∧ ∀ V77, V77 = V.setA 5 (((4 : Int32) * v7) + v8).toNatClampNeg (V.a 11 v8.toNatClampNeg) → wv_X5_bind_L120 post n v1 v2 v3 v4 v5 v7 (v8 + 1) V77)))
def wv_X5_bind (post : Int32 → vS → Prop) (a1 : Int32) (a2 : Int32) (a3 : Int32) (a4 : Int32) (a5 : Int32) (V : vS) : Prop :=
  (wv_X5_in (fun r1 V2 => ((r1 = 0 → post (-1 : Int32) V2) ∧ (¬ (r1 = 0) → (wv_X5_in (fun r4 V5 => ((r4 = 0 → post (-1 : Int32) V5) ∧ (¬ (r4 = 0) → ((a2 < 0 → (wv_X5_in (fun r8 V9 => ((r8 = 0 → post (-1 : Int32) V9) ∧ (¬ (r8 = 0) → (wv_X5_most (fun r11 V12 => (wv_X5_in (fun r13 V14 => ((r13 = 0 → post (-1 : Int32) V14) ∧ (¬ (r13 = 0) → (((V14.s 10) = 0 → post (-2 : Int32) V14) ∧ (¬ ((V14.s 10) = 0) → (vp_in a1 4 ∧ (((V14.a 3 a1.toNatClampNeg) = (10 : Int32) → post (-3 : Int32) V14) ∧ (¬ ((V14.a 3 a1.toNatClampNeg) = (10 : Int32)) → (vp_in a1 4 ∧ vp_in (((10 : Int32) * a1) + (V14.a 3 a1.toNatClampNeg)) 40 ∧ ∀ V28, V28 = V14.setA 4 (((10 : Int32) * a1) + (V14.a 3 a1.toNatClampNeg)).toNatClampNeg (V14.s 10) → (∃ n120, wv_X5_bind_L120 post n120 a1 a2 a3 a4 a5 (((10 : Int32) * a1) + (V14.a 3 a1.toNatClampNeg)) (0 : Int32) V28)))))))))) a5 (0 : Int32) r11 V12)) a4 V9)))) a4 (0 : Int32) (5 : Int32) V5)) ∧ (¬ (a2 < 0) → (wv_X5_in (fun r78 V79 => ((r78 = 0 → post (-1 : Int32) V79) ∧ (¬ (r78 = 0) → (wv_X5_in (fun r81 V82 => ((r81 = 0 → post (-1 : Int32) V82) ∧ (¬ (r81 = 0) → (wv_X5_most (fun r84 V85 => (wv_X5_in (fun r86 V87 => ((r86 = 0 → post (-1 : Int32) V87) ∧ (¬ (r86 = 0) → (((V87.s 10) = 0 → post (-2 : Int32) V87) ∧ (¬ ((V87.s 10) = 0) → (vp_in a1 4 ∧ (((V87.a 3 a1.toNatClampNeg) = (10 : Int32) → post (-3 : Int32) V87) ∧ (¬ ((V87.a 3 a1.toNatClampNeg) = (10 : Int32)) → (vp_in a1 4 ∧ vp_in (((10 : Int32) * a1) + (V87.a 3 a1.toNatClampNeg)) 40 ∧ ∀ V101, V101 = V87.setA 4 (((10 : Int32) * a1) + (V87.a 3 a1.toNatClampNeg)).toNatClampNeg (V87.s 10) → (∃ n120, wv_X5_bind_L120 post n120 a1 a2 a3 a4 a5 (((10 : Int32) * a1) + (V87.a 3 a1.toNatClampNeg)) (0 : Int32) V101)))))))))) a5 (0 : Int32) r84 V85)) a4 V82)))) a4 (0 : Int32) (5 : Int32) V79)))) a3 (0 : Int32) (1 : Int32) V5)))))) a2 (-1 : Int32) (5 : Int32) V2)))) a1 (0 : Int32) (3 : Int32) V)
theorem rv_X5_bind_L120 {o : Nat} {b : Nat → Nat} {post : Int32 → pS → Prop} {postV : Int32 → vS → Prop} (hp : ∀ (r : Int32) (S1 : pS), ShM o b S1 → postV r (view o b S1) → post r S1) :
    ∀ (n : Nat) (v1 : Int32) (v2 : Int32) (v3 : Int32) (v4 : Int32) (v5 : Int32) (v7 : Int32) (v8 : Int32) (S : pS), ShM o b S → wv_X5_bind_L120 postV n v1 v2 v3 v4 v5 v7 v8 (view o b S) → wp_X5_bind_L120 post n o v1 v2 v3 v4 v5 v7 v8 S := by
  intro n
  induction n with
  | zero =>
    intro v1 v2 v3 v4 v5 v7 v8 S hs hv
    exact hv.elim
  | succ n ih =>
    intro v1 v2 v3 v4 v5 v7 v8 S hs hv
    have hb := hs.2.2
    unfold wp_X5_bind_L120
    unfold wv_X5_bind_L120 at hv
    refine ⟨hs.1, ?_⟩
    refine ⟨fun c30 => ?_, fun c30 => ?_⟩
    · have hv := hv.1 c30
      refine ⟨_, (hs.2.1 6 rfl).1, ?_⟩
      refine ⟨(hs.2.1 6 rfl).2.1, ?_⟩
      refine ⟨vin_of (hs.2.1 6 rfl).2.2 hv.1, ?_⟩
      have hv := hv.2
      intro S35 hS35
      subst hS35
      have hv := hv _ rfl
      rw [← view_setA hb] at hv
      refine ⟨_, (hs.2.1 7 rfl).1, ?_⟩
      refine ⟨(hs.2.1 7 rfl).2.1, ?_⟩
      refine ⟨vin_of (hs.2.1 7 rfl).2.2 hv.1, ?_⟩
      have hv := hv.2
      intro S41 hS41
      subst hS41
      have hv := hv _ rfl
      rw [← view_setA hb] at hv
      refine ⟨_, (hs.2.1 8 rfl).1, ?_⟩
      refine ⟨(hs.2.1 8 rfl).2.1, ?_⟩
      refine ⟨vin_of (hs.2.1 8 rfl).2.2 hv.1, ?_⟩
      have hv := hv.2
      intro S47 hS47
      subst hS47
      have hv := hv _ rfl
      rw [← view_setA hb] at hv
      refine ⟨_, (hs.2.1 9 rfl).1, ?_⟩
      refine ⟨(hs.2.1 9 rfl).2.1, ?_⟩
      refine ⟨vin_of (hs.2.1 9 rfl).2.2 hv.1, ?_⟩
      have hv := hv.2
      intro S53 hS53
      subst hS53
      have hv := hv _ rfl
      rw [← view_setA hb] at hv
      refine ⟨_, (hs.2.1 3 rfl).1, ?_⟩
      refine ⟨(hs.2.1 3 rfl).2.1, ?_⟩
      refine ⟨vin_of (hs.2.1 3 rfl).2.2 hv.1, ?_⟩
      have hv := hv.2
      refine ⟨vin_of (hs.2.1 3 rfl).2.2 hv.1, ?_⟩
      have hv := hv.2
      intro S60 hS60
      subst hS60
      have hv := hv _ rfl
      rw [← view_setA hb] at hv
      intro S62 hS62
      subst hS62
      have hv := hv _ rfl
      rw [← view_setS hb] at hv
      refine ⟨vin_of (hs.2.1 3 rfl).2.2 hv.1, ?_⟩
      have hv := hv.2
      exact hp _ _ hs hv
    · have hv := hv.2 c30
      refine ⟨_, (hs.2.1 5 rfl).1, ?_⟩
      refine ⟨_, (hs.2.1 11 rfl).1, ?_⟩
      refine ⟨(hs.2.1 11 rfl).2.1, ?_⟩
      refine ⟨vin_of (hs.2.1 11 rfl).2.2 hv.1, ?_⟩
      have hv := hv.2
      refine ⟨(hs.2.1 5 rfl).2.1, ?_⟩
      refine ⟨vin_of (hs.2.1 5 rfl).2.2 hv.1, ?_⟩
      have hv := hv.2
      intro S77 hS77
      subst hS77
      have hv := hv _ rfl
      rw [← view_setA hb] at hv
      exact ih _ _ _ _ _ _ _ _ hs hv
theorem rv_X5_bind {o : Nat} {b : Nat → Nat} {post : Int32 → pS → Prop} {postV : Int32 → vS → Prop} (hp : ∀ (r : Int32) (S1 : pS), ShM o b S1 → postV r (view o b S1) → post r S1) (a1 : Int32) (a2 : Int32) (a3 : Int32) (a4 : Int32) (a5 : Int32) {S : pS} (hs : ShM o b S) (hv : wv_X5_bind postV a1 a2 a3 a4 a5 (view o b S)) : wp_X5_bind post o a1 a2 a3 a4 a5 S := by
  have hb := hs.2.2
  unfold wp_X5_bind
  unfold wv_X5_bind at hv
  refine rv_X5_in (fun r1 S2 hs hv => ?_) _ _ _  hs hv
  refine ⟨fun c3 => ?_, fun c3 => ?_⟩
  · have hv := hv.1 c3
    exact hp _ _ hs hv
  · have hv := hv.2 c3
    refine rv_X5_in (fun r4 S5 hs hv => ?_) _ _ _  hs hv
    refine ⟨fun c6 => ?_, fun c6 => ?_⟩
    · have hv := hv.1 c6
      exact hp _ _ hs hv
    · have hv := hv.2 c6
      refine ⟨fun c7 => ?_, fun c7 => ?_⟩
      · have hv := hv.1 c7
        refine rv_X5_in (fun r8 S9 hs hv => ?_) _ _ _  hs hv
        refine ⟨fun c10 => ?_, fun c10 => ?_⟩
        · have hv := hv.1 c10
          exact hp _ _ hs hv
        · have hv := hv.2 c10
          refine rv_X5_most (fun r11 S12 hs hv => ?_) _  hs hv
          refine rv_X5_in (fun r13 S14 hs hv => ?_) _ _ _  hs hv
          refine ⟨fun c15 => ?_, fun c15 => ?_⟩
          · have hv := hv.1 c15
            exact hp _ _ hs hv
          · have hv := hv.2 c15
            refine ⟨hs.1, ?_⟩
            refine ⟨fun c17 => ?_, fun c17 => ?_⟩
            · have hv := hv.1 c17
              exact hp _ _ hs hv
            · have hv := hv.2 c17
              refine ⟨_, (hs.2.1 3 rfl).1, ?_⟩
              refine ⟨(hs.2.1 3 rfl).2.1, ?_⟩
              refine ⟨vin_of (hs.2.1 3 rfl).2.2 hv.1, ?_⟩
              have hv := hv.2
              refine ⟨fun c22 => ?_, fun c22 => ?_⟩
              · have hv := hv.1 c22
                exact hp _ _ hs hv
              · have hv := hv.2 c22
                refine ⟨vin_of (hs.2.1 3 rfl).2.2 hv.1, ?_⟩
                have hv := hv.2
                refine ⟨_, (hs.2.1 4 rfl).1, ?_⟩
                refine ⟨(hs.2.1 4 rfl).2.1, ?_⟩
                refine ⟨vin_of (hs.2.1 4 rfl).2.2 hv.1, ?_⟩
                have hv := hv.2
                intro S28 hS28
                subst hS28
                have hv := hv _ rfl
                rw [← view_setA hb] at hv
                obtain ⟨n9, hv⟩ := hv
                exact ⟨n9, rv_X5_bind_L120 hp n9 _ _ _ _ _ _ _ _ hs hv⟩
      · have hv := hv.2 c7
        refine rv_X5_in (fun r78 S79 hs hv => ?_) _ _ _  hs hv
        refine ⟨fun c80 => ?_, fun c80 => ?_⟩
        · have hv := hv.1 c80
          exact hp _ _ hs hv
        · have hv := hv.2 c80
          refine rv_X5_in (fun r81 S82 hs hv => ?_) _ _ _  hs hv
          refine ⟨fun c83 => ?_, fun c83 => ?_⟩
          · have hv := hv.1 c83
            exact hp _ _ hs hv
          · have hv := hv.2 c83
            refine rv_X5_most (fun r84 S85 hs hv => ?_) _  hs hv
            refine rv_X5_in (fun r86 S87 hs hv => ?_) _ _ _  hs hv
            refine ⟨fun c88 => ?_, fun c88 => ?_⟩
            · have hv := hv.1 c88
              exact hp _ _ hs hv
            · have hv := hv.2 c88
              refine ⟨hs.1, ?_⟩
              refine ⟨fun c90 => ?_, fun c90 => ?_⟩
              · have hv := hv.1 c90
                exact hp _ _ hs hv
              · have hv := hv.2 c90
                refine ⟨_, (hs.2.1 3 rfl).1, ?_⟩
                refine ⟨(hs.2.1 3 rfl).2.1, ?_⟩
                refine ⟨vin_of (hs.2.1 3 rfl).2.2 hv.1, ?_⟩
                have hv := hv.2
                refine ⟨fun c95 => ?_, fun c95 => ?_⟩
                · have hv := hv.1 c95
                  exact hp _ _ hs hv
                · have hv := hv.2 c95
                  refine ⟨vin_of (hs.2.1 3 rfl).2.2 hv.1, ?_⟩
                  have hv := hv.2
                  refine ⟨_, (hs.2.1 4 rfl).1, ?_⟩
                  refine ⟨(hs.2.1 4 rfl).2.1, ?_⟩
                  refine ⟨vin_of (hs.2.1 4 rfl).2.2 hv.1, ?_⟩
                  have hv := hv.2
                  intro S101 hS101
                  subst hS101
                  have hv := hv _ rfl
                  rw [← view_setA hb] at hv
                  obtain ⟨n9, hv⟩ := hv
                  exact ⟨n9, rv_X5_bind_L120 hp n9 _ _ _ _ _ _ _ _ hs hv⟩
def wv_X5_isBinding (post : Int32 → vS → Prop) (a1 : Int32) (a2 : Int32) (V : vS) : Prop :=
  (wv_X5_in (fun r1 V2 => ((r1 = 0 → post (0 : Int32) V2) ∧ (¬ (r1 = 0) → (vp_in a1 4 ∧ wv_X5_in (fun r9 V10 => ((r9 = 0 → post (0 : Int32) V10) ∧ (¬ (r9 = 0) → post (1 : Int32) V10))) a2 (0 : Int32) ((V2.a 3 a1.toNatClampNeg) - (1 : Int32)) V2)))) a1 (0 : Int32) (3 : Int32) V)
theorem rv_X5_isBinding {o : Nat} {b : Nat → Nat} {post : Int32 → pS → Prop} {postV : Int32 → vS → Prop} (hp : ∀ (r : Int32) (S1 : pS), ShM o b S1 → postV r (view o b S1) → post r S1) (a1 : Int32) (a2 : Int32) {S : pS} (hs : ShM o b S) (hv : wv_X5_isBinding postV a1 a2 (view o b S)) : wp_X5_isBinding post o a1 a2 S := by
  have hb := hs.2.2
  unfold wp_X5_isBinding
  unfold wv_X5_isBinding at hv
  refine rv_X5_in (fun r1 S2 hs hv => ?_) _ _ _  hs hv
  refine ⟨fun c3 => ?_, fun c3 => ?_⟩
  · have hv := hv.1 c3
    exact hp _ _ hs hv
  · have hv := hv.2 c3
    refine ⟨hs.1, ?_⟩
    refine ⟨_, (hs.2.1 3 rfl).1, ?_⟩
    refine ⟨(hs.2.1 3 rfl).2.1, ?_⟩
    refine ⟨vin_of (hs.2.1 3 rfl).2.2 hv.1, ?_⟩
    have hv := hv.2
    refine rv_X5_in (fun r9 S10 hs hv => ?_) _ _ _  hs hv
    refine ⟨fun c11 => ?_, fun c11 => ?_⟩
    · have hv := hv.1 c11
      exact hp _ _ hs hv
    · have hv := hv.2 c11
      exact hp _ _ hs hv
def wv_X5_unbind_L116 (post : Int32 → vS → Prop) (k28 : Int32 → Int32 → vS → Prop) : Nat → Int32 → Int32 → Int32 → vS → Prop
  | 0, _, _, _, _ => False
  | n + 1, v1, v3, v4, V =>
  (((4 : Int32) ≤ v4 → k28 v1 (v3 + 1) V) ∧ (¬ ((4 : Int32) ≤ v4) → (vp_in ((((4 : Int32) * v3) + (4 : Int32)) + v4) 160 ∧ vp_in (((4 : Int32) * v3) + v4) 160 ∧ ∀ V60, V60 = V.setA 5 (((4 : Int32) * v3) + v4).toNatClampNeg (V.a 5 ((((4 : Int32) * v3) + (4 : Int32)) + v4).toNatClampNeg) → wv_X5_unbind_L116 post k28 n v1 v3 (v4 + 1) V60)))
def wv_X5_unbind_L28 (post : Int32 → vS → Prop) : Nat → Int32 → Int32 → vS → Prop
  | 0, _, _, _ => False
  | n + 1, v1, v3, V =>
  (vp_in v1 4 ∧ (((((10 : Int32) * v1) + (V.a 3 v1.toNatClampNeg)) ≤ v3 → (vp_in v1 4 ∧ post (V.a 3 v1.toNatClampNeg) V)) ∧ (¬ ((((10 : Int32) * v1) + (V.a 3 v1.toNatClampNeg)) ≤ v3) → (vp_in (v3 + (1 : Int32)) 40 ∧ vp_in v3 40 ∧ ∀ V24, V24 = V.setA 4 v3.toNatClampNeg (V.a 4 (v3 + (1 : Int32)).toNatClampNeg) → vp_in (v3 + (1 : Int32)) 40 ∧ vp_in v3 40 ∧ ∀ V31, V31 = V24.setA 6 v3.toNatClampNeg (V24.a 6 (v3 + (1 : Int32)).toNatClampNeg) → vp_in (v3 + (1 : Int32)) 40 ∧ vp_in v3 40 ∧ ∀ V38, V38 = V31.setA 7 v3.toNatClampNeg (V31.a 7 (v3 + (1 : Int32)).toNatClampNeg) → vp_in (v3 + (1 : Int32)) 40 ∧ vp_in v3 40 ∧ ∀ V45, V45 = V38.setA 8 v3.toNatClampNeg (V38.a 8 (v3 + (1 : Int32)).toNatClampNeg) → vp_in (v3 + (1 : Int32)) 40 ∧ vp_in v3 40 ∧ ∀ V52, V52 = V45.setA 9 v3.toNatClampNeg (V45.a 9 (v3 + (1 : Int32)).toNatClampNeg) → (∃ n116, wv_X5_unbind_L116 post (wv_X5_unbind_L28 post n) n116 v1 v3 (0 : Int32) V52)))))
def wv_X5_unbind (post : Int32 → vS → Prop) (a1 : Int32) (a2 : Int32) (V : vS) : Prop :=
  (wv_X5_isBinding (fun r1 V2 => ((r1 = 0 → post (-1 : Int32) V2) ∧ (¬ (r1 = 0) → (vp_in a1 4 ∧ vp_in a1 4 ∧ ∀ V11, V11 = V2.setA 3 a1.toNatClampNeg ((V2.a 3 a1.toNatClampNeg) - (1 : Int32)) → (∃ n28, wv_X5_unbind_L28 post n28 a1 (((10 : Int32) * a1) + a2) V11))))) a1 a2 V)
theorem rv_X5_unbind_L116 {o : Nat} {b : Nat → Nat} {post : Int32 → pS → Prop} {postV : Int32 → vS → Prop} {k28 : Nat → Int32 → Int32 → pS → Prop} {k28V : Int32 → Int32 → vS → Prop} (hp : ∀ (r : Int32) (S1 : pS), ShM o b S1 → postV r (view o b S1) → post r S1) (hk28 : ∀ (v1 : Int32) (v3 : Int32) (S : pS), ShM o b S → k28V v1 v3 (view o b S) → k28 o v1 v3 S) :
    ∀ (n : Nat) (v1 : Int32) (v3 : Int32) (v4 : Int32) (S : pS), ShM o b S → wv_X5_unbind_L116 postV k28V n v1 v3 v4 (view o b S) → wp_X5_unbind_L116 post k28 n o v1 v3 v4 S := by
  intro n
  induction n with
  | zero =>
    intro v1 v3 v4 S hs hv
    exact hv.elim
  | succ n ih =>
    intro v1 v3 v4 S hs hv
    have hb := hs.2.2
    unfold wp_X5_unbind_L116
    unfold wv_X5_unbind_L116 at hv
    refine ⟨fun c53 => ?_, fun c53 => ?_⟩
    · have hv := hv.1 c53
      exact hk28 _ _ _ hs hv
    · have hv := hv.2 c53
      refine ⟨hs.1, ?_⟩
      refine ⟨_, (hs.2.1 5 rfl).1, ?_⟩
      refine ⟨(hs.2.1 5 rfl).2.1, ?_⟩
      refine ⟨vin_of (hs.2.1 5 rfl).2.2 hv.1, ?_⟩
      have hv := hv.2
      refine ⟨vin_of (hs.2.1 5 rfl).2.2 hv.1, ?_⟩
      have hv := hv.2
      intro S60 hS60
      subst hS60
      have hv := hv _ rfl
      rw [← view_setA hb] at hv
      exact ih _ _ _ _ hs hv
theorem rv_X5_unbind_L28 {o : Nat} {b : Nat → Nat} {post : Int32 → pS → Prop} {postV : Int32 → vS → Prop} (hp : ∀ (r : Int32) (S1 : pS), ShM o b S1 → postV r (view o b S1) → post r S1) :
    ∀ (n : Nat) (v1 : Int32) (v3 : Int32) (S : pS), ShM o b S → wv_X5_unbind_L28 postV n v1 v3 (view o b S) → wp_X5_unbind_L28 post n o v1 v3 S := by
  intro n
  induction n with
  | zero =>
    intro v1 v3 S hs hv
    exact hv.elim
  | succ n ih =>
    intro v1 v3 S hs hv
    have hb := hs.2.2
    unfold wp_X5_unbind_L28
    unfold wv_X5_unbind_L28 at hv
    refine ⟨hs.1, ?_⟩
    refine ⟨_, (hs.2.1 3 rfl).1, ?_⟩
    refine ⟨(hs.2.1 3 rfl).2.1, ?_⟩
    refine ⟨vin_of (hs.2.1 3 rfl).2.2 hv.1, ?_⟩
    have hv := hv.2
    refine ⟨fun c17 => ?_, fun c17 => ?_⟩
    · have hv := hv.1 c17
      refine ⟨vin_of (hs.2.1 3 rfl).2.2 hv.1, ?_⟩
      have hv := hv.2
      exact hp _ _ hs hv
    · have hv := hv.2 c17
      refine ⟨_, (hs.2.1 4 rfl).1, ?_⟩
      refine ⟨(hs.2.1 4 rfl).2.1, ?_⟩
      refine ⟨vin_of (hs.2.1 4 rfl).2.2 hv.1, ?_⟩
      have hv := hv.2
      refine ⟨vin_of (hs.2.1 4 rfl).2.2 hv.1, ?_⟩
      have hv := hv.2
      intro S24 hS24
      subst hS24
      have hv := hv _ rfl
      rw [← view_setA hb] at hv
      refine ⟨_, (hs.2.1 6 rfl).1, ?_⟩
      refine ⟨(hs.2.1 6 rfl).2.1, ?_⟩
      refine ⟨vin_of (hs.2.1 6 rfl).2.2 hv.1, ?_⟩
      have hv := hv.2
      refine ⟨vin_of (hs.2.1 6 rfl).2.2 hv.1, ?_⟩
      have hv := hv.2
      intro S31 hS31
      subst hS31
      have hv := hv _ rfl
      rw [← view_setA hb] at hv
      refine ⟨_, (hs.2.1 7 rfl).1, ?_⟩
      refine ⟨(hs.2.1 7 rfl).2.1, ?_⟩
      refine ⟨vin_of (hs.2.1 7 rfl).2.2 hv.1, ?_⟩
      have hv := hv.2
      refine ⟨vin_of (hs.2.1 7 rfl).2.2 hv.1, ?_⟩
      have hv := hv.2
      intro S38 hS38
      subst hS38
      have hv := hv _ rfl
      rw [← view_setA hb] at hv
      refine ⟨_, (hs.2.1 8 rfl).1, ?_⟩
      refine ⟨(hs.2.1 8 rfl).2.1, ?_⟩
      refine ⟨vin_of (hs.2.1 8 rfl).2.2 hv.1, ?_⟩
      have hv := hv.2
      refine ⟨vin_of (hs.2.1 8 rfl).2.2 hv.1, ?_⟩
      have hv := hv.2
      intro S45 hS45
      subst hS45
      have hv := hv _ rfl
      rw [← view_setA hb] at hv
      refine ⟨_, (hs.2.1 9 rfl).1, ?_⟩
      refine ⟨(hs.2.1 9 rfl).2.1, ?_⟩
      refine ⟨vin_of (hs.2.1 9 rfl).2.2 hv.1, ?_⟩
      have hv := hv.2
      refine ⟨vin_of (hs.2.1 9 rfl).2.2 hv.1, ?_⟩
      have hv := hv.2
      intro S52 hS52
      subst hS52
      have hv := hv _ rfl
      rw [← view_setA hb] at hv
      obtain ⟨n9, hv⟩ := hv
      exact ⟨n9, rv_X5_unbind_L116 hp ih n9 _ _ _ _ hs hv⟩
theorem rv_X5_unbind {o : Nat} {b : Nat → Nat} {post : Int32 → pS → Prop} {postV : Int32 → vS → Prop} (hp : ∀ (r : Int32) (S1 : pS), ShM o b S1 → postV r (view o b S1) → post r S1) (a1 : Int32) (a2 : Int32) {S : pS} (hs : ShM o b S) (hv : wv_X5_unbind postV a1 a2 (view o b S)) : wp_X5_unbind post o a1 a2 S := by
  have hb := hs.2.2
  unfold wp_X5_unbind
  unfold wv_X5_unbind at hv
  refine ⟨hs.1, ?_⟩
  refine rv_X5_isBinding (fun r1 S2 hs hv => ?_) _ _  hs hv
  refine ⟨fun c4 => ?_, fun c4 => ?_⟩
  · have hv := hv.1 c4
    exact hp _ _ hs hv
  · have hv := hv.2 c4
    refine ⟨hs.1, ?_⟩
    refine ⟨_, (hs.2.1 3 rfl).1, ?_⟩
    refine ⟨(hs.2.1 3 rfl).2.1, ?_⟩
    refine ⟨vin_of (hs.2.1 3 rfl).2.2 hv.1, ?_⟩
    have hv := hv.2
    refine ⟨vin_of (hs.2.1 3 rfl).2.2 hv.1, ?_⟩
    have hv := hv.2
    intro S11 hS11
    subst hS11
    have hv := hv _ rfl
    rw [← view_setA hb] at hv
    obtain ⟨n9, hv⟩ := hv
    exact ⟨n9, rv_X5_unbind_L28 hp n9 _ _ _ hs hv⟩
def wv_X5_bindingCount (post : Int32 → vS → Prop) (a1 : Int32) (V : vS) : Prop :=
  (wv_X5_in (fun r1 V2 => ((r1 = 0 → post (-1 : Int32) V2) ∧ (¬ (r1 = 0) → (vp_in a1 4 ∧ post (V2.a 3 a1.toNatClampNeg) V2)))) a1 (0 : Int32) (3 : Int32) V)
theorem rv_X5_bindingCount {o : Nat} {b : Nat → Nat} {post : Int32 → pS → Prop} {postV : Int32 → vS → Prop} (hp : ∀ (r : Int32) (S1 : pS), ShM o b S1 → postV r (view o b S1) → post r S1) (a1 : Int32) {S : pS} (hs : ShM o b S) (hv : wv_X5_bindingCount postV a1 (view o b S)) : wp_X5_bindingCount post o a1 S := by
  have hb := hs.2.2
  unfold wp_X5_bindingCount
  unfold wv_X5_bindingCount at hv
  refine rv_X5_in (fun r1 S2 hs hv => ?_) _ _ _  hs hv
  refine ⟨fun c3 => ?_, fun c3 => ?_⟩
  · have hv := hv.1 c3
    exact hp _ _ hs hv
  · have hv := hv.2 c3
    refine ⟨hs.1, ?_⟩
    refine ⟨_, (hs.2.1 3 rfl).1, ?_⟩
    refine ⟨(hs.2.1 3 rfl).2.1, ?_⟩
    refine ⟨vin_of (hs.2.1 3 rfl).2.2 hv.1, ?_⟩
    have hv := hv.2
    exact hp _ _ hs hv
def wv_X5_shadowedBy_L104 (post : Int32 → vS → Prop) (k21 : Int32 → Int32 → Int32 → Int32 → vS → Prop) : Nat → Int32 → Int32 → Int32 → Int32 → Int32 → Int32 → Int32 → vS → Prop
  | 0, _, _, _, _, _, _, _, _ => False
  | n + 1, v1, v2, v3, v4, v5, v6, v7, V =>
  (vp_in v3 40 ∧ (((V.a 4 v3.toNatClampNeg) ≤ v7 → ((v6 = 0 → k21 v1 v2 v3 (v4 + 1) V) ∧ (¬ (v6 = 0) → post v4 V))) ∧ (¬ ((V.a 4 v3.toNatClampNeg) ≤ v7) → ((v6 = 0 → wv_X5_shadowedBy_L104 post k21 n v1 v2 v3 v4 v5 (0 : Int32) (v7 + 1) V) ∧ (¬ (v6 = 0) → (vp_in (((4 : Int32) * v5) + v7) 160 ∧ vp_in (((4 : Int32) * v3) + v7) 160 ∧ (((V.a 5 (((4 : Int32) * v5) + v7).toNatClampNeg) = (V.a 5 (((4 : Int32) * v3) + v7).toNatClampNeg) → wv_X5_shadowedBy_L104 post k21 n v1 v2 v3 v4 v5 (1 : Int32) (v7 + 1) V) ∧ (¬ ((V.a 5 (((4 : Int32) * v5) + v7).toNatClampNeg) = (V.a 5 (((4 : Int32) * v3) + v7).toNatClampNeg)) → wv_X5_shadowedBy_L104 post k21 n v1 v2 v3 v4 v5 (0 : Int32) (v7 + 1) V))))))))
def wv_X5_shadowedBy_L21 (post : Int32 → vS → Prop) : Nat → Int32 → Int32 → Int32 → Int32 → vS → Prop
  | 0, _, _, _, _, _ => False
  | n + 1, v1, v2, v3, v4, V =>
  ((v2 ≤ v4 → post (-4 : Int32) V) ∧ (¬ (v2 ≤ v4) → (vp_in (((10 : Int32) * v1) + v4) 40 ∧ vp_in v3 40 ∧ (((V.a 4 (((10 : Int32) * v1) + v4).toNatClampNeg) = (V.a 4 v3.toNatClampNeg) → (vp_in (((10 : Int32) * v1) + v4) 40 ∧ (((V.a 6 (((10 : Int32) * v1) + v4).toNatClampNeg) < 0 → (∃ n104, wv_X5_shadowedBy_L104 post (wv_X5_shadowedBy_L21 post n) n104 v1 v2 v3 v4 (((10 : Int32) * v1) + v4) (1 : Int32) (0 : Int32) V)) ∧ (¬ ((V.a 6 (((10 : Int32) * v1) + v4).toNatClampNeg) < 0) → (vp_in (((10 : Int32) * v1) + v4) 40 ∧ vp_in v3 40 ∧ (((V.a 6 (((10 : Int32) * v1) + v4).toNatClampNeg) = (V.a 6 v3.toNatClampNeg) → (vp_in (((10 : Int32) * v1) + v4) 40 ∧ vp_in v3 40 ∧ (((V.a 7 (((10 : Int32) * v1) + v4).toNatClampNeg) = (V.a 7 v3.toNatClampNeg) → (∃ n104, wv_X5_shadowedBy_L104 post (wv_X5_shadowedBy_L21 post n) n104 v1 v2 v3 v4 (((10 : Int32) * v1) + v4) (1 : Int32) (0 : Int32) V)) ∧ (¬ ((V.a 7 (((10 : Int32) * v1) + v4).toNatClampNeg) = (V.a 7 v3.toNatClampNeg)) → (∃ n104, wv_X5_shadowedBy_L104 post (wv_X5_shadowedBy_L21 post n) n104 v1 v2 v3 v4 (((10 : Int32) * v1) + v4) (0 : Int32) (0 : Int32) V))))) ∧ (¬ ((V.a 6 (((10 : Int32) * v1) + v4).toNatClampNeg) = (V.a 6 v3.toNatClampNeg)) → (∃ n104, wv_X5_shadowedBy_L104 post (wv_X5_shadowedBy_L21 post n) n104 v1 v2 v3 v4 (((10 : Int32) * v1) + v4) (0 : Int32) (0 : Int32) V)))))))) ∧ (¬ ((V.a 4 (((10 : Int32) * v1) + v4).toNatClampNeg) = (V.a 4 v3.toNatClampNeg)) → (∃ n104, wv_X5_shadowedBy_L104 post (wv_X5_shadowedBy_L21 post n) n104 v1 v2 v3 v4 (((10 : Int32) * v1) + v4) (0 : Int32) (0 : Int32) V))))))
def wv_X5_shadowedBy (post : Int32 → vS → Prop) (a1 : Int32) (a2 : Int32) (V : vS) : Prop :=
  (wv_X5_isBinding (fun r1 V2 => ((r1 = 0 → post (-1 : Int32) V2) ∧ (¬ (r1 = 0) → (∃ n21, wv_X5_shadowedBy_L21 post n21 a1 a2 (((10 : Int32) * a1) + a2) (0 : Int32) V2)))) a1 a2 V)
theorem rv_X5_shadowedBy_L104 {o : Nat} {b : Nat → Nat} {post : Int32 → pS → Prop} {postV : Int32 → vS → Prop} {k21 : Nat → Int32 → Int32 → Int32 → Int32 → pS → Prop} {k21V : Int32 → Int32 → Int32 → Int32 → vS → Prop} (hp : ∀ (r : Int32) (S1 : pS), ShM o b S1 → postV r (view o b S1) → post r S1) (hk21 : ∀ (v1 : Int32) (v2 : Int32) (v3 : Int32) (v4 : Int32) (S : pS), ShM o b S → k21V v1 v2 v3 v4 (view o b S) → k21 o v1 v2 v3 v4 S) :
    ∀ (n : Nat) (v1 : Int32) (v2 : Int32) (v3 : Int32) (v4 : Int32) (v5 : Int32) (v6 : Int32) (v7 : Int32) (S : pS), ShM o b S → wv_X5_shadowedBy_L104 postV k21V n v1 v2 v3 v4 v5 v6 v7 (view o b S) → wp_X5_shadowedBy_L104 post k21 n o v1 v2 v3 v4 v5 v6 v7 S := by
  intro n
  induction n with
  | zero =>
    intro v1 v2 v3 v4 v5 v6 v7 S hs hv
    exact hv.elim
  | succ n ih =>
    intro v1 v2 v3 v4 v5 v6 v7 S hs hv
    have hb := hs.2.2
    unfold wp_X5_shadowedBy_L104
    unfold wv_X5_shadowedBy_L104 at hv
    refine ⟨hs.1, ?_⟩
    refine ⟨_, (hs.2.1 4 rfl).1, ?_⟩
    refine ⟨(hs.2.1 4 rfl).2.1, ?_⟩
    refine ⟨vin_of (hs.2.1 4 rfl).2.2 hv.1, ?_⟩
    have hv := hv.2
    refine ⟨fun c18 => ?_, fun c18 => ?_⟩
    · have hv := hv.1 c18
      refine ⟨fun c19 => ?_, fun c19 => ?_⟩
      · have hv := hv.1 c19
        exact hk21 _ _ _ _ _ hs hv
      · have hv := hv.2 c19
        exact hp _ _ hs hv
    · have hv := hv.2 c18
      refine ⟨fun c20 => ?_, fun c20 => ?_⟩
      · have hv := hv.1 c20
        exact ih _ _ _ _ _ _ _ _ hs hv
      · have hv := hv.2 c20
        refine ⟨_, (hs.2.1 5 rfl).1, ?_⟩
        refine ⟨(hs.2.1 5 rfl).2.1, ?_⟩
        refine ⟨vin_of (hs.2.1 5 rfl).2.2 hv.1, ?_⟩
        have hv := hv.2
        refine ⟨vin_of (hs.2.1 5 rfl).2.2 hv.1, ?_⟩
        have hv := hv.2
        refine ⟨fun c26 => ?_, fun c26 => ?_⟩
        · have hv := hv.1 c26
          exact ih _ _ _ _ _ _ _ _ hs hv
        · have hv := hv.2 c26
          exact ih _ _ _ _ _ _ _ _ hs hv
theorem rv_X5_shadowedBy_L21 {o : Nat} {b : Nat → Nat} {post : Int32 → pS → Prop} {postV : Int32 → vS → Prop} (hp : ∀ (r : Int32) (S1 : pS), ShM o b S1 → postV r (view o b S1) → post r S1) :
    ∀ (n : Nat) (v1 : Int32) (v2 : Int32) (v3 : Int32) (v4 : Int32) (S : pS), ShM o b S → wv_X5_shadowedBy_L21 postV n v1 v2 v3 v4 (view o b S) → wp_X5_shadowedBy_L21 post n o v1 v2 v3 v4 S := by
  intro n
  induction n with
  | zero =>
    intro v1 v2 v3 v4 S hs hv
    exact hv.elim
  | succ n ih =>
    intro v1 v2 v3 v4 S hs hv
    have hb := hs.2.2
    unfold wp_X5_shadowedBy_L21
    unfold wv_X5_shadowedBy_L21 at hv
    refine ⟨fun c5 => ?_, fun c5 => ?_⟩
    · have hv := hv.1 c5
      exact hp _ _ hs hv
    · have hv := hv.2 c5
      refine ⟨hs.1, ?_⟩
      refine ⟨_, (hs.2.1 4 rfl).1, ?_⟩
      refine ⟨(hs.2.1 4 rfl).2.1, ?_⟩
      refine ⟨vin_of (hs.2.1 4 rfl).2.2 hv.1, ?_⟩
      have hv := hv.2
      refine ⟨vin_of (hs.2.1 4 rfl).2.2 hv.1, ?_⟩
      have hv := hv.2
      refine ⟨fun c12 => ?_, fun c12 => ?_⟩
      · have hv := hv.1 c12
        refine ⟨_, (hs.2.1 6 rfl).1, ?_⟩
        refine ⟨(hs.2.1 6 rfl).2.1, ?_⟩
        refine ⟨vin_of (hs.2.1 6 rfl).2.2 hv.1, ?_⟩
        have hv := hv.2
        refine ⟨fun c31 => ?_, fun c31 => ?_⟩
        · have hv := hv.1 c31
          obtain ⟨n9, hv⟩ := hv
          exact ⟨n9, rv_X5_shadowedBy_L104 hp ih n9 _ _ _ _ _ _ _ _ hs hv⟩
        · have hv := hv.2 c31
          refine ⟨vin_of (hs.2.1 6 rfl).2.2 hv.1, ?_⟩
          have hv := hv.2
          refine ⟨vin_of (hs.2.1 6 rfl).2.2 hv.1, ?_⟩
          have hv := hv.2
          refine ⟨fun c34 => ?_, fun c34 => ?_⟩
          · have hv := hv.1 c34
            refine ⟨_, (hs.2.1 7 rfl).1, ?_⟩
            refine ⟨(hs.2.1 7 rfl).2.1, ?_⟩
            refine ⟨vin_of (hs.2.1 7 rfl).2.2 hv.1, ?_⟩
            have hv := hv.2
            refine ⟨vin_of (hs.2.1 7 rfl).2.2 hv.1, ?_⟩
            have hv := hv.2
            refine ⟨fun c40 => ?_, fun c40 => ?_⟩
            · have hv := hv.1 c40
              obtain ⟨n9, hv⟩ := hv
              exact ⟨n9, rv_X5_shadowedBy_L104 hp ih n9 _ _ _ _ _ _ _ _ hs hv⟩
            · have hv := hv.2 c40
              obtain ⟨n9, hv⟩ := hv
              exact ⟨n9, rv_X5_shadowedBy_L104 hp ih n9 _ _ _ _ _ _ _ _ hs hv⟩
          · have hv := hv.2 c34
            obtain ⟨n9, hv⟩ := hv
            exact ⟨n9, rv_X5_shadowedBy_L104 hp ih n9 _ _ _ _ _ _ _ _ hs hv⟩
      · have hv := hv.2 c12
        obtain ⟨n9, hv⟩ := hv
        exact ⟨n9, rv_X5_shadowedBy_L104 hp ih n9 _ _ _ _ _ _ _ _ hs hv⟩
theorem rv_X5_shadowedBy {o : Nat} {b : Nat → Nat} {post : Int32 → pS → Prop} {postV : Int32 → vS → Prop} (hp : ∀ (r : Int32) (S1 : pS), ShM o b S1 → postV r (view o b S1) → post r S1) (a1 : Int32) (a2 : Int32) {S : pS} (hs : ShM o b S) (hv : wv_X5_shadowedBy postV a1 a2 (view o b S)) : wp_X5_shadowedBy post o a1 a2 S := by
  have hb := hs.2.2
  unfold wp_X5_shadowedBy
  unfold wv_X5_shadowedBy at hv
  refine ⟨hs.1, ?_⟩
  refine rv_X5_isBinding (fun r1 S2 hs hv => ?_) _ _  hs hv
  refine ⟨fun c4 => ?_, fun c4 => ?_⟩
  · have hv := hv.1 c4
    exact hp _ _ hs hv
  · have hv := hv.2 c4
    obtain ⟨n9, hv⟩ := hv
    exact ⟨n9, rv_X5_shadowedBy_L21 hp n9 _ _ _ _ _ hs hv⟩
def wv_X5_fits_L48 (post : Int32 → vS → Prop) : Nat → Int32 → Int32 → Int32 → Int32 → vS → Prop
  | 0, _, _, _, _, _ => False
  | n + 1, v1, v2, v3, v4, V =>
  ((v2 ≤ v4 → (v3 = 0 ∨ v3 = 1) ∧ post v3 V) ∧ (¬ (v2 ≤ v4) → ((v3 = 0 → (v3 = 0 ∨ v3 = 1) ∧ post v3 V) ∧ (¬ (v3 = 0) → (vp_in (((4 : Int32) * v1) + v4) 160 ∧ vp_in v4 5 ∧ (((V.a 5 (((4 : Int32) * v1) + v4).toNatClampNeg) = (V.a 13 v4.toNatClampNeg) → wv_X5_fits_L48 post n v1 v2 (1 : Int32) (v4 + 1) V) ∧ (¬ ((V.a 5 (((4 : Int32) * v1) + v4).toNatClampNeg) = (V.a 13 v4.toNatClampNeg)) → wv_X5_fits_L48 post n v1 v2 (0 : Int32) (v4 + 1) V)))))))
def wv_X5_fits (post : Int32 → vS → Prop) (a1 : Int32) (a2 : Int32) (V : vS) : Prop :=
  (vp_in a1 40 ∧ (((V.a 4 a1.toNatClampNeg) < a2 → (∃ n48, wv_X5_fits_L48 post n48 a1 a2 (0 : Int32) (0 : Int32) V)) ∧ (¬ ((V.a 4 a1.toNatClampNeg) < a2) → (vp_in a1 40 ∧ (((V.a 6 a1.toNatClampNeg) < 0 → (∃ n48, wv_X5_fits_L48 post n48 a1 a2 (1 : Int32) (0 : Int32) V)) ∧ (¬ ((V.a 6 a1.toNatClampNeg) < 0) → (vp_in a1 40 ∧ vp_in (V.a 6 a1.toNatClampNeg) 6 ∧ vp_in a1 40 ∧ (((V.a 0 (V.a 6 a1.toNatClampNeg).toNatClampNeg) = (V.a 7 a1.toNatClampNeg) → (∃ n48, wv_X5_fits_L48 post n48 a1 a2 (1 : Int32) (0 : Int32) V)) ∧ (¬ ((V.a 0 (V.a 6 a1.toNatClampNeg).toNatClampNeg) = (V.a 7 a1.toNatClampNeg)) → (∃ n48, wv_X5_fits_L48 post n48 a1 a2 (0 : Int32) (0 : Int32) V))))))))))
theorem rv_X5_fits_L48 {o : Nat} {b : Nat → Nat} {post : Int32 → pS → Prop} {postV : Int32 → vS → Prop} (hp : ∀ (r : Int32) (S1 : pS), ShM o b S1 → postV r (view o b S1) → post r S1) :
    ∀ (n : Nat) (v1 : Int32) (v2 : Int32) (v3 : Int32) (v4 : Int32) (S : pS), ShM o b S → wv_X5_fits_L48 postV n v1 v2 v3 v4 (view o b S) → wp_X5_fits_L48 post n o v1 v2 v3 v4 S := by
  intro n
  induction n with
  | zero =>
    intro v1 v2 v3 v4 S hs hv
    exact hv.elim
  | succ n ih =>
    intro v1 v2 v3 v4 S hs hv
    have hb := hs.2.2
    unfold wp_X5_fits_L48
    unfold wv_X5_fits_L48 at hv
    refine ⟨fun c7 => ?_, fun c7 => ?_⟩
    · have hv := hv.1 c7
      exact ⟨hv.1, hp _ _ hs hv.2⟩
    · have hv := hv.2 c7
      refine ⟨fun c8 => ?_, fun c8 => ?_⟩
      · have hv := hv.1 c8
        exact ⟨hv.1, hp _ _ hs hv.2⟩
      · have hv := hv.2 c8
        refine ⟨hs.1, ?_⟩
        refine ⟨_, (hs.2.1 5 rfl).1, ?_⟩
        refine ⟨(hs.2.1 5 rfl).2.1, ?_⟩
        refine ⟨vin_of (hs.2.1 5 rfl).2.2 hv.1, ?_⟩
        have hv := hv.2
        refine ⟨_, (hs.2.1 13 rfl).1, ?_⟩
        refine ⟨(hs.2.1 13 rfl).2.1, ?_⟩
        refine ⟨vin_of (hs.2.1 13 rfl).2.2 hv.1, ?_⟩
        have hv := hv.2
        refine ⟨fun c18 => ?_, fun c18 => ?_⟩
        · have hv := hv.1 c18
          exact ih _ _ _ _ _ hs hv
        · have hv := hv.2 c18
          exact ih _ _ _ _ _ hs hv
theorem rv_X5_fits {o : Nat} {b : Nat → Nat} {post : Int32 → pS → Prop} {postV : Int32 → vS → Prop} (hp : ∀ (r : Int32) (S1 : pS), ShM o b S1 → postV r (view o b S1) → post r S1) (a1 : Int32) (a2 : Int32) {S : pS} (hs : ShM o b S) (hv : wv_X5_fits postV a1 a2 (view o b S)) : wp_X5_fits post o a1 a2 S := by
  have hb := hs.2.2
  unfold wp_X5_fits
  unfold wv_X5_fits at hv
  refine ⟨hs.1, ?_⟩
  refine ⟨_, (hs.2.1 4 rfl).1, ?_⟩
  refine ⟨(hs.2.1 4 rfl).2.1, ?_⟩
  refine ⟨vin_of (hs.2.1 4 rfl).2.2 hv.1, ?_⟩
  have hv := hv.2
  refine ⟨fun c6 => ?_, fun c6 => ?_⟩
  · have hv := hv.1 c6
    obtain ⟨n9, hv⟩ := hv
    exact ⟨n9, rv_X5_fits_L48 hp n9 _ _ _ _ _ hs hv⟩
  · have hv := hv.2 c6
    refine ⟨_, (hs.2.1 6 rfl).1, ?_⟩
    refine ⟨(hs.2.1 6 rfl).2.1, ?_⟩
    refine ⟨vin_of (hs.2.1 6 rfl).2.2 hv.1, ?_⟩
    have hv := hv.2
    refine ⟨fun c23 => ?_, fun c23 => ?_⟩
    · have hv := hv.1 c23
      obtain ⟨n9, hv⟩ := hv
      exact ⟨n9, rv_X5_fits_L48 hp n9 _ _ _ _ _ hs hv⟩
    · have hv := hv.2 c23
      refine ⟨_, (hs.2.1 0 rfl).1, ?_⟩
      refine ⟨vin_of (hs.2.1 6 rfl).2.2 hv.1, ?_⟩
      have hv := hv.2
      refine ⟨(hs.2.1 0 rfl).2.1, ?_⟩
      refine ⟨vin_of (hs.2.1 0 rfl).2.2 hv.1, ?_⟩
      have hv := hv.2
      refine ⟨_, (hs.2.1 7 rfl).1, ?_⟩
      refine ⟨(hs.2.1 7 rfl).2.1, ?_⟩
      refine ⟨vin_of (hs.2.1 7 rfl).2.2 hv.1, ?_⟩
      have hv := hv.2
      refine ⟨fun c33 => ?_, fun c33 => ?_⟩
      · have hv := hv.1 c33
        obtain ⟨n9, hv⟩ := hv
        exact ⟨n9, rv_X5_fits_L48 hp n9 _ _ _ _ _ hs hv⟩
      · have hv := hv.2 c33
        obtain ⟨n9, hv⟩ := hv
        exact ⟨n9, rv_X5_fits_L48 hp n9 _ _ _ _ _ hs hv⟩
def wv_X5_bound_L13 (post : Int32 → vS → Prop) (k7 : Int32 → Int32 → vS → Prop) : Nat → Int32 → Int32 → Int32 → vS → Prop
  | 0, _, _, _, _ => False
  | n + 1, v1, v2, v3, V =>
  (vp_in v2 4 ∧ vp_in (V.a 2 v2.toNatClampNeg) 4 ∧ (((V.a 3 (V.a 2 v2.toNatClampNeg).toNatClampNeg) ≤ v3 → k7 v1 (v2 + (-1 : Int32)) V) ∧ (¬ ((V.a 3 (V.a 2 v2.toNatClampNeg).toNatClampNeg) ≤ v3) → (vp_in v2 4 ∧ vp_in (((10 : Int32) * (V.a 2 v2.toNatClampNeg)) + v3) 40 ∧ (((V.a 4 (((10 : Int32) * (V.a 2 v2.toNatClampNeg)) + v3).toNatClampNeg) = v1 → (wv_X5_fits (fun r19 V20 => ((r19 = 0 → wv_X5_bound_L13 post k7 n v1 v2 (v3 + 1) V20) ∧ (¬ (r19 = 0) → post (((10 : Int32) * (V.a 2 v2.toNatClampNeg)) + v3) V20))) (((10 : Int32) * (V.a 2 v2.toNatClampNeg)) + v3) v1 V)) ∧ (¬ ((V.a 4 (((10 : Int32) * (V.a 2 v2.toNatClampNeg)) + v3).toNatClampNeg) = v1) → wv_X5_bound_L13 post k7 n v1 v2 (v3 + 1) V))))))
def wv_X5_bound_L7 (post : Int32 → vS → Prop) : Nat → Int32 → Int32 → vS → Prop
  | 0, _, _, _ => False
  | n + 1, v1, v2, V =>
  ((v2 < 0 → post (-4 : Int32) V) ∧ (¬ (v2 < 0) → (∃ n13, wv_X5_bound_L13 post (wv_X5_bound_L7 post n) n13 v1 v2 (0 : Int32) V)))
def wv_X5_bound (post : Int32 → vS → Prop) (a1 : Int32) (V : vS) : Prop :=
  (∃ n7, wv_X5_bound_L7 post n7 a1 ((V.s 1) - (1 : Int32)) V)
theorem rv_X5_bound_L13 {o : Nat} {b : Nat → Nat} {post : Int32 → pS → Prop} {postV : Int32 → vS → Prop} {k7 : Nat → Int32 → Int32 → pS → Prop} {k7V : Int32 → Int32 → vS → Prop} (hp : ∀ (r : Int32) (S1 : pS), ShM o b S1 → postV r (view o b S1) → post r S1) (hk7 : ∀ (v1 : Int32) (v2 : Int32) (S : pS), ShM o b S → k7V v1 v2 (view o b S) → k7 o v1 v2 S) :
    ∀ (n : Nat) (v1 : Int32) (v2 : Int32) (v3 : Int32) (S : pS), ShM o b S → wv_X5_bound_L13 postV k7V n v1 v2 v3 (view o b S) → wp_X5_bound_L13 post k7 n o v1 v2 v3 S := by
  intro n
  induction n with
  | zero =>
    intro v1 v2 v3 S hs hv
    exact hv.elim
  | succ n ih =>
    intro v1 v2 v3 S hs hv
    have hb := hs.2.2
    unfold wp_X5_bound_L13
    unfold wv_X5_bound_L13 at hv
    refine ⟨hs.1, ?_⟩
    refine ⟨_, (hs.2.1 3 rfl).1, ?_⟩
    refine ⟨_, (hs.2.1 2 rfl).1, ?_⟩
    refine ⟨(hs.2.1 2 rfl).2.1, ?_⟩
    refine ⟨vin_of (hs.2.1 2 rfl).2.2 hv.1, ?_⟩
    have hv := hv.2
    refine ⟨(hs.2.1 3 rfl).2.1, ?_⟩
    refine ⟨vin_of (hs.2.1 3 rfl).2.2 hv.1, ?_⟩
    have hv := hv.2
    refine ⟨fun c12 => ?_, fun c12 => ?_⟩
    · have hv := hv.1 c12
      exact hk7 _ _ _ hs hv
    · have hv := hv.2 c12
      refine ⟨vin_of (hs.2.1 2 rfl).2.2 hv.1, ?_⟩
      have hv := hv.2
      refine ⟨_, (hs.2.1 4 rfl).1, ?_⟩
      refine ⟨(hs.2.1 4 rfl).2.1, ?_⟩
      refine ⟨vin_of (hs.2.1 4 rfl).2.2 hv.1, ?_⟩
      have hv := hv.2
      refine ⟨fun c18 => ?_, fun c18 => ?_⟩
      · have hv := hv.1 c18
        refine rv_X5_fits (fun r19 S20 hs hv => ?_) _ _  hs hv
        refine ⟨fun c21 => ?_, fun c21 => ?_⟩
        · have hv := hv.1 c21
          exact ih _ _ _ _ hs hv
        · have hv := hv.2 c21
          exact hp _ _ hs hv
      · have hv := hv.2 c18
        exact ih _ _ _ _ hs hv
theorem rv_X5_bound_L7 {o : Nat} {b : Nat → Nat} {post : Int32 → pS → Prop} {postV : Int32 → vS → Prop} (hp : ∀ (r : Int32) (S1 : pS), ShM o b S1 → postV r (view o b S1) → post r S1) :
    ∀ (n : Nat) (v1 : Int32) (v2 : Int32) (S : pS), ShM o b S → wv_X5_bound_L7 postV n v1 v2 (view o b S) → wp_X5_bound_L7 post n o v1 v2 S := by
  intro n
  induction n with
  | zero =>
    intro v1 v2 S hs hv
    exact hv.elim
  | succ n ih =>
    intro v1 v2 S hs hv
    have hb := hs.2.2
    unfold wp_X5_bound_L7
    unfold wv_X5_bound_L7 at hv
    refine ⟨fun c2 => ?_, fun c2 => ?_⟩
    · have hv := hv.1 c2
      exact hp _ _ hs hv
    · have hv := hv.2 c2
      obtain ⟨n9, hv⟩ := hv
      exact ⟨n9, rv_X5_bound_L13 hp ih n9 _ _ _ _ hs hv⟩
theorem rv_X5_bound {o : Nat} {b : Nat → Nat} {post : Int32 → pS → Prop} {postV : Int32 → vS → Prop} (hp : ∀ (r : Int32) (S1 : pS), ShM o b S1 → postV r (view o b S1) → post r S1) (a1 : Int32) {S : pS} (hs : ShM o b S) (hv : wv_X5_bound postV a1 (view o b S)) : wp_X5_bound post o a1 S := by
  have hb := hs.2.2
  unfold wp_X5_bound
  unfold wv_X5_bound at hv
  refine ⟨hs.1, ?_⟩
  obtain ⟨n9, hv⟩ := hv
  exact ⟨n9, rv_X5_bound_L7 hp n9 _ _ _ hs hv⟩
def wv_X5_isExtensible_L12 (post : Int32 → vS → Prop) (k2 : Int32 → vS → Prop) : Nat → Int32 → Int32 → vS → Prop
  | 0, _, _, _ => False
  | n + 1, v1, v2, V =>
  (vp_in v1 4 ∧ vp_in (V.a 2 v1.toNatClampNeg) 4 ∧ (((V.a 3 (V.a 2 v1.toNatClampNeg).toNatClampNeg) ≤ v2 → k2 (v1 + 1) V) ∧ (¬ ((V.a 3 (V.a 2 v1.toNatClampNeg).toNatClampNeg) ≤ v2) → (vp_in v1 4 ∧ vp_in (((10 : Int32) * (V.a 2 v1.toNatClampNeg)) + v2) 40 ∧ (((V.a 4 (((10 : Int32) * (V.a 2 v1.toNatClampNeg)) + v2).toNatClampNeg) ≤ (V.s 12) → wv_X5_isExtensible_L12 post k2 n v1 (v2 + 1) V) ∧ (¬ ((V.a 4 (((10 : Int32) * (V.a 2 v1.toNatClampNeg)) + v2).toNatClampNeg) ≤ (V.s 12)) → (wv_X5_fits (fun r19 V20 => ((r19 = 0 → wv_X5_isExtensible_L12 post k2 n v1 (v2 + 1) V20) ∧ (¬ (r19 = 0) → post (1 : Int32) V20))) (((10 : Int32) * (V.a 2 v1.toNatClampNeg)) + v2) (V.s 12) V)))))))
def wv_X5_isExtensible_L2 (post : Int32 → vS → Prop) : Nat → Int32 → vS → Prop
  | 0, _, _ => False
  | n + 1, v1, V =>
  (((V.s 1) ≤ v1 → post (0 : Int32) V) ∧ (¬ ((V.s 1) ≤ v1) → (∃ n12, wv_X5_isExtensible_L12 post (wv_X5_isExtensible_L2 post n) n12 v1 (0 : Int32) V)))
def wv_X5_isExtensible (post : Int32 → vS → Prop)  (V : vS) : Prop :=
  (∃ n2, wv_X5_isExtensible_L2 post n2 (0 : Int32) V)
theorem rv_X5_isExtensible_L12 {o : Nat} {b : Nat → Nat} {post : Int32 → pS → Prop} {postV : Int32 → vS → Prop} {k2 : Nat → Int32 → pS → Prop} {k2V : Int32 → vS → Prop} (hp : ∀ (r : Int32) (S1 : pS), ShM o b S1 → postV r (view o b S1) → post r S1) (hk2 : ∀ (v1 : Int32) (S : pS), ShM o b S → k2V v1 (view o b S) → k2 o v1 S) :
    ∀ (n : Nat) (v1 : Int32) (v2 : Int32) (S : pS), ShM o b S → wv_X5_isExtensible_L12 postV k2V n v1 v2 (view o b S) → wp_X5_isExtensible_L12 post k2 n o v1 v2 S := by
  intro n
  induction n with
  | zero =>
    intro v1 v2 S hs hv
    exact hv.elim
  | succ n ih =>
    intro v1 v2 S hs hv
    have hb := hs.2.2
    unfold wp_X5_isExtensible_L12
    unfold wv_X5_isExtensible_L12 at hv
    refine ⟨hs.1, ?_⟩
    refine ⟨_, (hs.2.1 3 rfl).1, ?_⟩
    refine ⟨_, (hs.2.1 2 rfl).1, ?_⟩
    refine ⟨(hs.2.1 2 rfl).2.1, ?_⟩
    refine ⟨vin_of (hs.2.1 2 rfl).2.2 hv.1, ?_⟩
    have hv := hv.2
    refine ⟨(hs.2.1 3 rfl).2.1, ?_⟩
    refine ⟨vin_of (hs.2.1 3 rfl).2.2 hv.1, ?_⟩
    have hv := hv.2
    refine ⟨fun c12 => ?_, fun c12 => ?_⟩
    · have hv := hv.1 c12
      exact hk2 _ _ hs hv
    · have hv := hv.2 c12
      refine ⟨vin_of (hs.2.1 2 rfl).2.2 hv.1, ?_⟩
      have hv := hv.2
      refine ⟨_, (hs.2.1 4 rfl).1, ?_⟩
      refine ⟨(hs.2.1 4 rfl).2.1, ?_⟩
      refine ⟨vin_of (hs.2.1 4 rfl).2.2 hv.1, ?_⟩
      have hv := hv.2
      refine ⟨fun c18 => ?_, fun c18 => ?_⟩
      · have hv := hv.1 c18
        exact ih _ _ _ hs hv
      · have hv := hv.2 c18
        refine rv_X5_fits (fun r19 S20 hs hv => ?_) _ _  hs hv
        refine ⟨fun c21 => ?_, fun c21 => ?_⟩
        · have hv := hv.1 c21
          exact ih _ _ _ hs hv
        · have hv := hv.2 c21
          exact hp _ _ hs hv
theorem rv_X5_isExtensible_L2 {o : Nat} {b : Nat → Nat} {post : Int32 → pS → Prop} {postV : Int32 → vS → Prop} (hp : ∀ (r : Int32) (S1 : pS), ShM o b S1 → postV r (view o b S1) → post r S1) :
    ∀ (n : Nat) (v1 : Int32) (S : pS), ShM o b S → wv_X5_isExtensible_L2 postV n v1 (view o b S) → wp_X5_isExtensible_L2 post n o v1 S := by
  intro n
  induction n with
  | zero =>
    intro v1 S hs hv
    exact hv.elim
  | succ n ih =>
    intro v1 S hs hv
    have hb := hs.2.2
    unfold wp_X5_isExtensible_L2
    unfold wv_X5_isExtensible_L2 at hv
    refine ⟨hs.1, ?_⟩
    refine ⟨fun c2 => ?_, fun c2 => ?_⟩
    · have hv := hv.1 c2
      exact hp _ _ hs hv
    · have hv := hv.2 c2
      obtain ⟨n9, hv⟩ := hv
      exact ⟨n9, rv_X5_isExtensible_L12 hp ih n9 _ _ _ hs hv⟩
theorem rv_X5_isExtensible {o : Nat} {b : Nat → Nat} {post : Int32 → pS → Prop} {postV : Int32 → vS → Prop} (hp : ∀ (r : Int32) (S1 : pS), ShM o b S1 → postV r (view o b S1) → post r S1)  {S : pS} (hs : ShM o b S) (hv : wv_X5_isExtensible postV (view o b S)) : wp_X5_isExtensible post o S := by
  have hb := hs.2.2
  unfold wp_X5_isExtensible
  unfold wv_X5_isExtensible at hv
  obtain ⟨n9, hv⟩ := hv
  exact ⟨n9, rv_X5_isExtensible_L2 hp n9 _ _ hs hv⟩
def wv_X5_says (post : vS → Prop) (a1 : Int32) (a2 : Int32) (V : vS) : Prop :=
  (vp_in ((V.s 23) - (V.s 23) / (40 : Int32) * (40 : Int32)) 40 ∧ ∀ V6, V6 = V.setA 24 ((V.s 23) - (V.s 23) / (40 : Int32) * (40 : Int32)).toNatClampNeg a1 → vp_in ((V6.s 23) - (V6.s 23) / (40 : Int32) * (40 : Int32)) 40 ∧ ∀ V12, V12 = V6.setA 25 ((V6.s 23) - (V6.s 23) / (40 : Int32) * (40 : Int32)).toNatClampNeg a2 → ∀ V14, V14 = V12.setS 23 ((V12.s 23) + (1 : Int32)) → post V14)
theorem rv_X5_says {o : Nat} {b : Nat → Nat} {post : pS → Prop} {postV : vS → Prop} (hp : ∀ (S1 : pS), ShM o b S1 → postV (view o b S1) → post S1) (a1 : Int32) (a2 : Int32) {S : pS} (hs : ShM o b S) (hv : wv_X5_says postV a1 a2 (view o b S)) : wp_X5_says post o a1 a2 S := by
  have hb := hs.2.2
  unfold wp_X5_says
  unfold wv_X5_says at hv
  refine ⟨hs.1, ?_⟩
  refine ⟨_, (hs.2.1 24 rfl).1, ?_⟩
  refine ⟨(hs.2.1 24 rfl).2.1, ?_⟩
  refine ⟨vin_of (hs.2.1 24 rfl).2.2 hv.1, ?_⟩
  have hv := hv.2
  intro S6 hS6
  subst hS6
  have hv := hv _ rfl
  rw [← view_setA hb] at hv
  refine ⟨_, (hs.2.1 25 rfl).1, ?_⟩
  refine ⟨(hs.2.1 25 rfl).2.1, ?_⟩
  refine ⟨vin_of (hs.2.1 25 rfl).2.2 hv.1, ?_⟩
  have hv := hv.2
  intro S12 hS12
  subst hS12
  have hv := hv _ rfl
  rw [← view_setA hb] at hv
  intro S14 hS14
  subst hS14
  have hv := hv _ rfl
  rw [← view_setS hb] at hv
  exact hp _ hs hv
def wv_X5_adds (post : vS → Prop) (a1 : Int32) (V : vS) : Prop :=
  (vp_in (V.s 16) 100 ∧ ∀ V6, V6 = V.setA 17 (V.s 16).toNatClampNeg a1 → ∀ V8, V8 = V6.setS 16 ((V6.s 16) + (1 : Int32)) → post V8)
theorem rv_X5_adds {o : Nat} {b : Nat → Nat} {post : pS → Prop} {postV : vS → Prop} (hp : ∀ (S1 : pS), ShM o b S1 → postV (view o b S1) → post S1) (a1 : Int32) {S : pS} (hs : ShM o b S) (hv : wv_X5_adds postV a1 (view o b S)) : wp_X5_adds post o a1 S := by
  have hb := hs.2.2
  unfold wp_X5_adds
  unfold wv_X5_adds at hv
  refine ⟨hs.1, ?_⟩
  refine ⟨_, (hs.2.1 17 rfl).1, ?_⟩
  refine ⟨(hs.2.1 17 rfl).2.1, ?_⟩
  refine ⟨vin_of (hs.2.1 17 rfl).2.2 hv.1, ?_⟩
  have hv := hv.2
  intro S6 hS6
  subst hS6
  have hv := hv _ rfl
  rw [← view_setA hb] at hv
  intro S8 hS8
  subst hS8
  have hv := hv _ rfl
  rw [← view_setS hb] at hv
  exact hp _ hs hv
def wv_X5_plays_L67 (post : vS → Prop) : Nat → Int32 → Int32 → vS → Prop
  | 0, _, _, _ => False
  | n + 1, v1, v2, V =>
  ((v2 < 0 → post V) ∧ (¬ (v2 < 0) → (vp_in (((12 : Int32) * v1) + v2) 48 ∧ wv_X5_adds (fun V27 => wv_X5_plays_L67 post n v1 (v2 + (-1 : Int32)) V27) (V.a 22 (((12 : Int32) * v1) + v2).toNatClampNeg) V)))
def wv_X5_plays (post : vS → Prop) (a1 : Int32) (V : vS) : Prop :=
  (((V.s 20) = a1 → (wv_X5_says (fun V4 => post V4) (2 : Int32) a1 V)) ∧ (¬ ((V.s 20) = a1) → (((V.s 18) = (3 : Int32) → (wv_X5_says (fun V7 => post V7) (2 : Int32) a1 V)) ∧ (¬ ((V.s 18) = (3 : Int32)) → (((V.s 19) = (20 : Int32) → (wv_X5_says (fun V29 => post V29) (2 : Int32) a1 V)) ∧ (¬ ((V.s 19) = (20 : Int32)) → (∀ V9, V9 = V.setS 18 ((V.s 18) + (1 : Int32)) → ∀ V11, V11 = V9.setS 19 ((V9.s 19) + (1 : Int32)) → wv_X5_adds (fun V13 => (vp_in a1 4 ∧ (∃ n67, wv_X5_plays_L67 post n67 a1 ((V13.a 21 a1.toNatClampNeg) - (1 : Int32)) V13))) (12 : Int32) V11)))))))
theorem rv_X5_plays_L67 {o : Nat} {b : Nat → Nat} {post : pS → Prop} {postV : vS → Prop} (hp : ∀ (S1 : pS), ShM o b S1 → postV (view o b S1) → post S1) :
    ∀ (n : Nat) (v1 : Int32) (v2 : Int32) (S : pS), ShM o b S → wv_X5_plays_L67 postV n v1 v2 (view o b S) → wp_X5_plays_L67 post n o v1 v2 S := by
  intro n
  induction n with
  | zero =>
    intro v1 v2 S hs hv
    exact hv.elim
  | succ n ih =>
    intro v1 v2 S hs hv
    have hb := hs.2.2
    unfold wp_X5_plays_L67
    unfold wv_X5_plays_L67 at hv
    refine ⟨fun c20 => ?_, fun c20 => ?_⟩
    · have hv := hv.1 c20
      exact hp _ hs hv
    · have hv := hv.2 c20
      refine ⟨hs.1, ?_⟩
      refine ⟨_, (hs.2.1 22 rfl).1, ?_⟩
      refine ⟨(hs.2.1 22 rfl).2.1, ?_⟩
      refine ⟨vin_of (hs.2.1 22 rfl).2.2 hv.1, ?_⟩
      have hv := hv.2
      refine rv_X5_adds (fun S27 hs hv => ?_) _  hs hv
      exact ih _ _ _ hs hv
theorem rv_X5_plays {o : Nat} {b : Nat → Nat} {post : pS → Prop} {postV : vS → Prop} (hp : ∀ (S1 : pS), ShM o b S1 → postV (view o b S1) → post S1) (a1 : Int32) {S : pS} (hs : ShM o b S) (hv : wv_X5_plays postV a1 (view o b S)) : wp_X5_plays post o a1 S := by
  have hb := hs.2.2
  unfold wp_X5_plays
  unfold wv_X5_plays at hv
  refine ⟨hs.1, ?_⟩
  refine ⟨fun c2 => ?_, fun c2 => ?_⟩
  · have hv := hv.1 c2
    refine rv_X5_says (fun S4 hs hv => ?_) _ _  hs hv
    exact hp _ hs hv
  · have hv := hv.2 c2
    refine ⟨fun c5 => ?_, fun c5 => ?_⟩
    · have hv := hv.1 c5
      refine rv_X5_says (fun S7 hs hv => ?_) _ _  hs hv
      exact hp _ hs hv
    · have hv := hv.2 c5
      refine ⟨fun c8 => ?_, fun c8 => ?_⟩
      · have hv := hv.1 c8
        refine rv_X5_says (fun S29 hs hv => ?_) _ _  hs hv
        exact hp _ hs hv
      · have hv := hv.2 c8
        intro S9 hS9
        subst hS9
        have hv := hv _ rfl
        rw [← view_setS hb] at hv
        intro S11 hS11
        subst hS11
        have hv := hv _ rfl
        rw [← view_setS hb] at hv
        refine rv_X5_adds (fun S13 hs hv => ?_) _  hs hv
        refine ⟨hs.1, ?_⟩
        refine ⟨_, (hs.2.1 21 rfl).1, ?_⟩
        refine ⟨(hs.2.1 21 rfl).2.1, ?_⟩
        refine ⟨vin_of (hs.2.1 21 rfl).2.2 hv.1, ?_⟩
        have hv := hv.2
        obtain ⟨n9, hv⟩ := hv
        exact ⟨n9, rv_X5_plays_L67 hp n9 _ _ _ hs hv⟩
def wv_X5_performs (post : vS → Prop) (a1 : Int32) (a2 : Int32) (V : vS) : Prop :=
  ((a1 = 0 → (wv_X5_says (fun V3 => post V3) (0 : Int32) a2 V)) ∧ (a1 = 1 → (wv_X5_plays (fun V7 => post V7) a2 V)) ∧ (a1 = 2 → (((V.s 1) = (4 : Int32) → (wv_X5_says (fun V20 => post V20) (2 : Int32) a2 V)) ∧ (¬ ((V.s 1) = (4 : Int32)) → (vp_in (V.s 1) 4 ∧ ∀ V16, V16 = V.setA 2 (V.s 1).toNatClampNeg a2 → ∀ V18, V18 = V16.setS 1 ((V16.s 1) + (1 : Int32)) → post V18)))) ∧ (a1 = 3 → (((V.s 1) = (1 : Int32) → (wv_X5_says (fun V26 => post V26) (2 : Int32) (0 : Int32) V)) ∧ (¬ ((V.s 1) = (1 : Int32)) → (∀ V24, V24 = V.setS 1 ((V.s 1) - (1 : Int32)) → post V24)))) ∧ (¬ a1 = 0 ∧ ¬ a1 = 1 ∧ ¬ a1 = 2 ∧ ¬ a1 = 3 → ((a1 = (4 : Int32) → (vp_in a2 6 ∧ ∀ V36, V36 = V.setA 0 a2.toNatClampNeg (1 : Int32) → post V36)) ∧ (¬ (a1 = (4 : Int32)) → (vp_in a2 6 ∧ ∀ V33, V33 = V.setA 0 a2.toNatClampNeg (0 : Int32) → post V33)))))
theorem rv_X5_performs {o : Nat} {b : Nat → Nat} {post : pS → Prop} {postV : vS → Prop} (hp : ∀ (S1 : pS), ShM o b S1 → postV (view o b S1) → post S1) (a1 : Int32) (a2 : Int32) {S : pS} (hs : ShM o b S) (hv : wv_X5_performs postV a1 a2 (view o b S)) : wp_X5_performs post o a1 a2 S := by
  have hb := hs.2.2
  unfold wp_X5_performs
  unfold wv_X5_performs at hv
  refine ⟨?_, ?_, ?_, ?_, ?_⟩
  · intro c1
    have hv := hv.1 c1
    refine ⟨hs.1, ?_⟩
    refine rv_X5_says (fun S3 hs hv => ?_) _ _  hs hv
    exact hp _ hs hv
  · intro c5
    have hv := hv.2.1 c5
    refine ⟨hs.1, ?_⟩
    refine rv_X5_plays (fun S7 hs hv => ?_) _  hs hv
    exact hp _ hs hv
  · intro c9
    have hv := hv.2.2.1 c9
    refine ⟨hs.1, ?_⟩
    refine ⟨fun c11 => ?_, fun c11 => ?_⟩
    · have hv := hv.1 c11
      refine rv_X5_says (fun S20 hs hv => ?_) _ _  hs hv
      exact hp _ hs hv
    · have hv := hv.2 c11
      refine ⟨_, (hs.2.1 2 rfl).1, ?_⟩
      refine ⟨(hs.2.1 2 rfl).2.1, ?_⟩
      refine ⟨vin_of (hs.2.1 2 rfl).2.2 hv.1, ?_⟩
      have hv := hv.2
      intro S16 hS16
      subst hS16
      have hv := hv _ rfl
      rw [← view_setA hb] at hv
      intro S18 hS18
      subst hS18
      have hv := hv _ rfl
      rw [← view_setS hb] at hv
      exact hp _ hs hv
  · intro c21
    have hv := hv.2.2.2.1 c21
    refine ⟨hs.1, ?_⟩
    refine ⟨fun c23 => ?_, fun c23 => ?_⟩
    · have hv := hv.1 c23
      refine rv_X5_says (fun S26 hs hv => ?_) _ _  hs hv
      exact hp _ hs hv
    · have hv := hv.2 c23
      intro S24 hS24
      subst hS24
      have hv := hv _ rfl
      rw [← view_setS hb] at hv
      exact hp _ hs hv
  · intro c9
    have hv := hv.2.2.2.2 c9
    refine ⟨hs.1, ?_⟩
    refine ⟨_, (hs.2.1 0 rfl).1, ?_⟩
    refine ⟨fun c30 => ?_, fun c30 => ?_⟩
    · have hv := hv.1 c30
      refine ⟨(hs.2.1 0 rfl).2.1, ?_⟩
      refine ⟨vin_of (hs.2.1 0 rfl).2.2 hv.1, ?_⟩
      have hv := hv.2
      intro S36 hS36
      subst hS36
      have hv := hv _ rfl
      rw [← view_setA hb] at hv
      exact hp _ hs hv
    · have hv := hv.2 c30
      refine ⟨(hs.2.1 0 rfl).2.1, ?_⟩
      refine ⟨vin_of (hs.2.1 0 rfl).2.2 hv.1, ?_⟩
      have hv := hv.2
      intro S33 hS33
      subst hS33
      have hv := hv _ rfl
      rw [← view_setA hb] at hv
      exact hp _ hs hv
def wv_X5_frees_L7 (post : vS → Prop) : Nat → Int32 → Int32 → vS → Prop
  | 0, _, _, _ => False
  | n + 1, v1, v2, V =>
  ((v2 < v1 → (∀ V4, V4 = V.setS 12 (0 : Int32) → post V4)) ∧ (¬ (v2 < v1) → (vp_in v2 5 ∧ wv_X5_adds (fun V11 => wv_X5_frees_L7 post n v1 (v2 + (-1 : Int32)) V11) (V.a 13 v2.toNatClampNeg) V)))
def wv_X5_frees (post : vS → Prop) (a1 : Int32) (V : vS) : Prop :=
  (∃ n7, wv_X5_frees_L7 post n7 a1 ((V.s 12) - (1 : Int32)) V)
theorem rv_X5_frees_L7 {o : Nat} {b : Nat → Nat} {post : pS → Prop} {postV : vS → Prop} (hp : ∀ (S1 : pS), ShM o b S1 → postV (view o b S1) → post S1) :
    ∀ (n : Nat) (v1 : Int32) (v2 : Int32) (S : pS), ShM o b S → wv_X5_frees_L7 postV n v1 v2 (view o b S) → wp_X5_frees_L7 post n o v1 v2 S := by
  intro n
  induction n with
  | zero =>
    intro v1 v2 S hs hv
    exact hv.elim
  | succ n ih =>
    intro v1 v2 S hs hv
    have hb := hs.2.2
    unfold wp_X5_frees_L7
    unfold wv_X5_frees_L7 at hv
    refine ⟨fun c2 => ?_, fun c2 => ?_⟩
    · have hv := hv.1 c2
      refine ⟨hs.1, ?_⟩
      intro S4 hS4
      subst hS4
      have hv := hv _ rfl
      rw [← view_setS hb] at hv
      exact hp _ hs hv
    · have hv := hv.2 c2
      refine ⟨hs.1, ?_⟩
      refine ⟨_, (hs.2.1 13 rfl).1, ?_⟩
      refine ⟨(hs.2.1 13 rfl).2.1, ?_⟩
      refine ⟨vin_of (hs.2.1 13 rfl).2.2 hv.1, ?_⟩
      have hv := hv.2
      refine rv_X5_adds (fun S11 hs hv => ?_) _  hs hv
      exact ih _ _ _ hs hv
theorem rv_X5_frees {o : Nat} {b : Nat → Nat} {post : pS → Prop} {postV : vS → Prop} (hp : ∀ (S1 : pS), ShM o b S1 → postV (view o b S1) → post S1) (a1 : Int32) {S : pS} (hs : ShM o b S) (hv : wv_X5_frees postV a1 (view o b S)) : wp_X5_frees post o a1 S := by
  have hb := hs.2.2
  unfold wp_X5_frees
  unfold wv_X5_frees at hv
  refine ⟨hs.1, ?_⟩
  obtain ⟨n9, hv⟩ := hv
  exact ⟨n9, rv_X5_frees_L7 hp n9 _ _ _ hs hv⟩
def wv_X5_ends_L11 (post : vS → Prop) : Nat → Int32 → Int32 → vS → Prop
  | 0, _, _, _ => False
  | n + 1, v1, v2, V =>
  ((v2 = (-4 : Int32) → ((v1 ≤ (1 : Int32) → ((v2 = (-4 : Int32) → (vp_in (0 : Int32) 5 ∧ wv_X5_frees (fun V52 => (wv_X5_says (fun V54 => post V54) (1 : Int32) (V.a 13 (0 : Int32).toNatClampNeg) V52)) (1 : Int32) V)) ∧ (¬ (v2 = (-4 : Int32)) → (vp_in v2 40 ∧ vp_in v2 40 ∧ wv_X5_frees (fun V42 => (wv_X5_performs (fun V44 => post V44) (V.a 8 v2.toNatClampNeg) (V.a 9 v2.toNatClampNeg) V42)) v1 V)))) ∧ (¬ (v1 ≤ (1 : Int32)) → (wv_X5_bound (fun r56 V57 => wv_X5_ends_L11 post n (v1 + (-1 : Int32)) r56 V57) (v1 + (-1 : Int32)) V)))) ∧ (¬ (v2 = (-4 : Int32)) → ((v2 = (-4 : Int32) → (vp_in (0 : Int32) 5 ∧ wv_X5_frees (fun V26 => (wv_X5_says (fun V28 => post V28) (1 : Int32) (V.a 13 (0 : Int32).toNatClampNeg) V26)) (1 : Int32) V)) ∧ (¬ (v2 = (-4 : Int32)) → (vp_in v2 40 ∧ vp_in v2 40 ∧ wv_X5_frees (fun V16 => (wv_X5_performs (fun V18 => post V18) (V.a 8 v2.toNatClampNeg) (V.a 9 v2.toNatClampNeg) V16)) v1 V)))))
def wv_X5_ends (post : vS → Prop)  (V : vS) : Prop :=
  (wv_X5_bound (fun r2 V3 => (∃ n11, wv_X5_ends_L11 post n11 (V.s 12) r2 V3)) (V.s 12) V)
theorem rv_X5_ends_L11 {o : Nat} {b : Nat → Nat} {post : pS → Prop} {postV : vS → Prop} (hp : ∀ (S1 : pS), ShM o b S1 → postV (view o b S1) → post S1) :
    ∀ (n : Nat) (v1 : Int32) (v2 : Int32) (S : pS), ShM o b S → wv_X5_ends_L11 postV n v1 v2 (view o b S) → wp_X5_ends_L11 post n o v1 v2 S := by
  intro n
  induction n with
  | zero =>
    intro v1 v2 S hs hv
    exact hv.elim
  | succ n ih =>
    intro v1 v2 S hs hv
    have hb := hs.2.2
    unfold wp_X5_ends_L11
    unfold wv_X5_ends_L11 at hv
    refine ⟨fun c4 => ?_, fun c4 => ?_⟩
    · have hv := hv.1 c4
      refine ⟨fun c30 => ?_, fun c30 => ?_⟩
      · have hv := hv.1 c30
        refine ⟨fun c31 => ?_, fun c31 => ?_⟩
        · have hv := hv.1 c31
          refine ⟨hs.1, ?_⟩
          refine ⟨_, (hs.2.1 13 rfl).1, ?_⟩
          refine ⟨(hs.2.1 13 rfl).2.1, ?_⟩
          refine ⟨vin_of (hs.2.1 13 rfl).2.2 hv.1, ?_⟩
          have hv := hv.2
          refine rv_X5_frees (fun S52 hs hv => ?_) _  hs hv
          refine ⟨hs.1, ?_⟩
          refine rv_X5_says (fun S54 hs hv => ?_) _ _  hs hv
          exact hp _ hs hv
        · have hv := hv.2 c31
          refine ⟨hs.1, ?_⟩
          refine ⟨_, (hs.2.1 8 rfl).1, ?_⟩
          refine ⟨(hs.2.1 8 rfl).2.1, ?_⟩
          refine ⟨vin_of (hs.2.1 8 rfl).2.2 hv.1, ?_⟩
          have hv := hv.2
          refine ⟨_, (hs.2.1 9 rfl).1, ?_⟩
          refine ⟨(hs.2.1 9 rfl).2.1, ?_⟩
          refine ⟨vin_of (hs.2.1 9 rfl).2.2 hv.1, ?_⟩
          have hv := hv.2
          refine rv_X5_frees (fun S42 hs hv => ?_) _  hs hv
          refine ⟨hs.1, ?_⟩
          refine rv_X5_performs (fun S44 hs hv => ?_) _ _  hs hv
          exact hp _ hs hv
      · have hv := hv.2 c30
        refine ⟨hs.1, ?_⟩
        refine rv_X5_bound (fun r56 S57 hs hv => ?_) _  hs hv
        exact ih _ _ _ hs hv
    · have hv := hv.2 c4
      refine ⟨fun c5 => ?_, fun c5 => ?_⟩
      · have hv := hv.1 c5
        refine ⟨hs.1, ?_⟩
        refine ⟨_, (hs.2.1 13 rfl).1, ?_⟩
        refine ⟨(hs.2.1 13 rfl).2.1, ?_⟩
        refine ⟨vin_of (hs.2.1 13 rfl).2.2 hv.1, ?_⟩
        have hv := hv.2
        refine rv_X5_frees (fun S26 hs hv => ?_) _  hs hv
        refine ⟨hs.1, ?_⟩
        refine rv_X5_says (fun S28 hs hv => ?_) _ _  hs hv
        exact hp _ hs hv
      · have hv := hv.2 c5
        refine ⟨hs.1, ?_⟩
        refine ⟨_, (hs.2.1 8 rfl).1, ?_⟩
        refine ⟨(hs.2.1 8 rfl).2.1, ?_⟩
        refine ⟨vin_of (hs.2.1 8 rfl).2.2 hv.1, ?_⟩
        have hv := hv.2
        refine ⟨_, (hs.2.1 9 rfl).1, ?_⟩
        refine ⟨(hs.2.1 9 rfl).2.1, ?_⟩
        refine ⟨vin_of (hs.2.1 9 rfl).2.2 hv.1, ?_⟩
        have hv := hv.2
        refine rv_X5_frees (fun S16 hs hv => ?_) _  hs hv
        refine ⟨hs.1, ?_⟩
        refine rv_X5_performs (fun S18 hs hv => ?_) _ _  hs hv
        exact hp _ hs hv
theorem rv_X5_ends {o : Nat} {b : Nat → Nat} {post : pS → Prop} {postV : vS → Prop} (hp : ∀ (S1 : pS), ShM o b S1 → postV (view o b S1) → post S1)  {S : pS} (hs : ShM o b S) (hv : wv_X5_ends postV (view o b S)) : wp_X5_ends post o S := by
  have hb := hs.2.2
  unfold wp_X5_ends
  unfold wv_X5_ends at hv
  refine ⟨hs.1, ?_⟩
  refine rv_X5_bound (fun r2 S3 hs hv => ?_) _  hs hv
  obtain ⟨n9, hv⟩ := hv
  exact ⟨n9, rv_X5_ends_L11 hp n9 _ _ _ hs hv⟩
def wv_X5_works_L0 (post : vS → Prop) : Nat → vS → Prop
  | 0, _ => False
  | n + 1, V =>
  (((V.s 16) ≤ 0 → post V) ∧ (¬ ((V.s 16) ≤ 0) → (∀ V3, V3 = V.setS 16 ((V.s 16) - (1 : Int32)) → vp_in (V3.s 16) 100 ∧ (((V3.a 17 (V3.s 16).toNatClampNeg) = (12 : Int32) → (∀ V26, V26 = V3.setS 18 ((V3.s 18) - (1 : Int32)) → wv_X5_works_L0 post n V26)) ∧ (¬ ((V3.a 17 (V3.s 16).toNatClampNeg) = (12 : Int32)) → (vp_in (V3.s 12) 5 ∧ ∀ V14, V14 = V3.setA 13 (V3.s 12).toNatClampNeg (V3.a 17 (V3.s 16).toNatClampNeg) → ∀ V16, V16 = V14.setS 12 ((V14.s 12) + (1 : Int32)) → wv_X5_isExtensible (fun r17 V18 => ((r17 = 0 → (wv_X5_ends (fun V22 => wv_X5_works_L0 post n V22) V18)) ∧ (¬ (r17 = 0) → (∀ V25, V25 = V18.setS 15 (V18.s 14) → wv_X5_works_L0 post n V25)))) V16))))))
def wv_X5_works (post : vS → Prop)  (V : vS) : Prop :=
  (∃ n0, wv_X5_works_L0 post n0 V)
theorem rv_X5_works_L0 {o : Nat} {b : Nat → Nat} {post : pS → Prop} {postV : vS → Prop} (hp : ∀ (S1 : pS), ShM o b S1 → postV (view o b S1) → post S1) :
    ∀ (n : Nat)  (S : pS), ShM o b S → wv_X5_works_L0 postV n (view o b S) → wp_X5_works_L0 post n o S := by
  intro n
  induction n with
  | zero =>
    intro  S hs hv
    exact hv.elim
  | succ n ih =>
    intro  S hs hv
    have hb := hs.2.2
    unfold wp_X5_works_L0
    unfold wv_X5_works_L0 at hv
    refine ⟨hs.1, ?_⟩
    refine ⟨fun c2 => ?_, fun c2 => ?_⟩
    · have hv := hv.1 c2
      exact hp _ hs hv
    · have hv := hv.2 c2
      intro S3 hS3
      subst hS3
      have hv := hv _ rfl
      rw [← view_setS hb] at hv
      refine ⟨_, (hs.2.1 17 rfl).1, ?_⟩
      refine ⟨(hs.2.1 17 rfl).2.1, ?_⟩
      refine ⟨vin_of (hs.2.1 17 rfl).2.2 hv.1, ?_⟩
      have hv := hv.2
      refine ⟨fun c9 => ?_, fun c9 => ?_⟩
      · have hv := hv.1 c9
        intro S26 hS26
        subst hS26
        have hv := hv _ rfl
        rw [← view_setS hb] at hv
        exact ih _ hs hv
      · have hv := hv.2 c9
        refine ⟨_, (hs.2.1 13 rfl).1, ?_⟩
        refine ⟨(hs.2.1 13 rfl).2.1, ?_⟩
        refine ⟨vin_of (hs.2.1 13 rfl).2.2 hv.1, ?_⟩
        have hv := hv.2
        intro S14 hS14
        subst hS14
        have hv := hv _ rfl
        rw [← view_setA hb] at hv
        intro S16 hS16
        subst hS16
        have hv := hv _ rfl
        rw [← view_setS hb] at hv
        refine rv_X5_isExtensible (fun r17 S18 hs hv => ?_)  hs hv
        refine ⟨fun c20 => ?_, fun c20 => ?_⟩
        · have hv := hv.1 c20
          refine ⟨hs.1, ?_⟩
          refine rv_X5_ends (fun S22 hs hv => ?_)  hs hv
          exact ih _ hs hv
        · have hv := hv.2 c20
          refine ⟨hs.1, ?_⟩
          intro S25 hS25
          subst hS25
          have hv := hv _ rfl
          rw [← view_setS hb] at hv
          exact ih _ hs hv
theorem rv_X5_works {o : Nat} {b : Nat → Nat} {post : pS → Prop} {postV : vS → Prop} (hp : ∀ (S1 : pS), ShM o b S1 → postV (view o b S1) → post S1)  {S : pS} (hs : ShM o b S) (hv : wv_X5_works postV (view o b S)) : wp_X5_works post o S := by
  have hb := hs.2.2
  unfold wp_X5_works
  unfold wv_X5_works at hv
  obtain ⟨n9, hv⟩ := hv
  exact ⟨n9, rv_X5_works_L0 hp n9 _ hs hv⟩
def wv_X5_press (post : Int32 → vS → Prop) (a1 : Int32) (V : vS) : Prop :=
  (wv_X5_in (fun r1 V2 => ((r1 = 0 → post (-1 : Int32) V2) ∧ (¬ (r1 = 0) → (∀ V5, V5 = V2.setS 19 (0 : Int32) → (((V5.s 20) < 0 → (wv_X5_adds (fun V9 => (wv_X5_works (fun V11 => post ((V11.s 23) - (V2.s 23)) V11) V9)) a1 V5)) ∧ (¬ ((V5.s 20) < 0) → (vp_in (V5.s 20) 4 ∧ (((12 : Int32) ≤ (V5.a 21 (V5.s 20).toNatClampNeg) → (wv_X5_adds (fun V20 => (wv_X5_works (fun V22 => post ((V22.s 23) - (V2.s 23)) V22) V20)) a1 V5)) ∧ (¬ ((12 : Int32) ≤ (V5.a 21 (V5.s 20).toNatClampNeg)) → (vp_in (V5.s 20) 4 ∧ vp_in (((12 : Int32) * (V5.s 20)) + (V5.a 21 (V5.s 20).toNatClampNeg)) 48 ∧ ∀ V30, V30 = V5.setA 22 (((12 : Int32) * (V5.s 20)) + (V5.a 21 (V5.s 20).toNatClampNeg)).toNatClampNeg a1 → vp_in (V30.s 20) 4 ∧ vp_in (V30.s 20) 4 ∧ ∀ V36, V36 = V30.setA 21 (V30.s 20).toNatClampNeg ((V30.a 21 (V30.s 20).toNatClampNeg) + (1 : Int32)) → wv_X5_adds (fun V38 => (wv_X5_works (fun V41 => post ((V41.s 23) - (V2.s 23)) V41) V38)) a1 V36)))))))))) a1 (0 : Int32) (11 : Int32) V)
theorem rv_X5_press {o : Nat} {b : Nat → Nat} {post : Int32 → pS → Prop} {postV : Int32 → vS → Prop} (hp : ∀ (r : Int32) (S1 : pS), ShM o b S1 → postV r (view o b S1) → post r S1) (a1 : Int32) {S : pS} (hs : ShM o b S) (hv : wv_X5_press postV a1 (view o b S)) : wp_X5_press post o a1 S := by
  have hb := hs.2.2
  unfold wp_X5_press
  unfold wv_X5_press at hv
  refine rv_X5_in (fun r1 S2 hs hv => ?_) _ _ _  hs hv
  refine ⟨fun c3 => ?_, fun c3 => ?_⟩
  · have hv := hv.1 c3
    exact hp _ _ hs hv
  · have hv := hv.2 c3
    refine ⟨hs.1, ?_⟩
    intro S5 hS5
    subst hS5
    have hv := hv _ rfl
    rw [← view_setS hb] at hv
    refine ⟨fun c7 => ?_, fun c7 => ?_⟩
    · have hv := hv.1 c7
      refine rv_X5_adds (fun S9 hs hv => ?_) _  hs hv
      refine ⟨hs.1, ?_⟩
      refine rv_X5_works (fun S11 hs hv => ?_)  hs hv
      refine ⟨hs.1, ?_⟩
      exact hp _ _ hs hv
    · have hv := hv.2 c7
      refine ⟨_, (hs.2.1 21 rfl).1, ?_⟩
      refine ⟨(hs.2.1 21 rfl).2.1, ?_⟩
      refine ⟨vin_of (hs.2.1 21 rfl).2.2 hv.1, ?_⟩
      have hv := hv.2
      refine ⟨fun c18 => ?_, fun c18 => ?_⟩
      · have hv := hv.1 c18
        refine rv_X5_adds (fun S20 hs hv => ?_) _  hs hv
        refine ⟨hs.1, ?_⟩
        refine rv_X5_works (fun S22 hs hv => ?_)  hs hv
        refine ⟨hs.1, ?_⟩
        exact hp _ _ hs hv
      · have hv := hv.2 c18
        refine ⟨_, (hs.2.1 22 rfl).1, ?_⟩
        refine ⟨vin_of (hs.2.1 21 rfl).2.2 hv.1, ?_⟩
        have hv := hv.2
        refine ⟨(hs.2.1 22 rfl).2.1, ?_⟩
        refine ⟨vin_of (hs.2.1 22 rfl).2.2 hv.1, ?_⟩
        have hv := hv.2
        intro S30 hS30
        subst hS30
        have hv := hv _ rfl
        rw [← view_setA hb] at hv
        refine ⟨vin_of (hs.2.1 21 rfl).2.2 hv.1, ?_⟩
        have hv := hv.2
        refine ⟨vin_of (hs.2.1 21 rfl).2.2 hv.1, ?_⟩
        have hv := hv.2
        intro S36 hS36
        subst hS36
        have hv := hv _ rfl
        rw [← view_setA hb] at hv
        refine rv_X5_adds (fun S38 hs hv => ?_) _  hs hv
        refine ⟨hs.1, ?_⟩
        refine rv_X5_works (fun S41 hs hv => ?_)  hs hv
        refine ⟨hs.1, ?_⟩
        exact hp _ _ hs hv
def wv_X5_tick_L25 (post : Int32 → vS → Prop) : Nat → Int32 → Int32 → Int32 → vS → Prop
  | 0, _, _, _, _ => False
  | n + 1, v1, v2, v3, V =>
  ((v1 ≤ v3 → post ((V.s 23) - v2) V) ∧ (¬ (v1 ≤ v3) → (((V.s 12) ≤ 0 → post ((V.s 23) - v2) V) ∧ (¬ ((V.s 12) ≤ 0) → (∀ V10, V10 = V.setS 15 ((V.s 15) - (1 : Int32)) → (((V10.s 15) = 0 → (wv_X5_ends (fun V14 => (wv_X5_works (fun V16 => wv_X5_tick_L25 post n v1 v2 (v3 + 1) V16) V14)) V10)) ∧ (¬ ((V10.s 15) = 0) → wv_X5_tick_L25 post n v1 v2 (v3 + 1) V10)))))))
def wv_X5_tick (post : Int32 → vS → Prop) (a1 : Int32) (V : vS) : Prop :=
  (wv_X5_in (fun r1 V2 => ((r1 = 0 → post (-1 : Int32) V2) ∧ (¬ (r1 = 0) → (∀ V5, V5 = V2.setS 19 (0 : Int32) → (∃ n25, wv_X5_tick_L25 post n25 a1 (V2.s 23) (0 : Int32) V5))))) a1 (0 : Int32) (999 : Int32) V)
theorem rv_X5_tick_L25 {o : Nat} {b : Nat → Nat} {post : Int32 → pS → Prop} {postV : Int32 → vS → Prop} (hp : ∀ (r : Int32) (S1 : pS), ShM o b S1 → postV r (view o b S1) → post r S1) :
    ∀ (n : Nat) (v1 : Int32) (v2 : Int32) (v3 : Int32) (S : pS), ShM o b S → wv_X5_tick_L25 postV n v1 v2 v3 (view o b S) → wp_X5_tick_L25 post n o v1 v2 v3 S := by
  intro n
  induction n with
  | zero =>
    intro v1 v2 v3 S hs hv
    exact hv.elim
  | succ n ih =>
    intro v1 v2 v3 S hs hv
    have hb := hs.2.2
    unfold wp_X5_tick_L25
    unfold wv_X5_tick_L25 at hv
    refine ⟨fun c6 => ?_, fun c6 => ?_⟩
    · have hv := hv.1 c6
      refine ⟨hs.1, ?_⟩
      exact hp _ _ hs hv
    · have hv := hv.2 c6
      refine ⟨hs.1, ?_⟩
      refine ⟨fun c9 => ?_, fun c9 => ?_⟩
      · have hv := hv.1 c9
        exact hp _ _ hs hv
      · have hv := hv.2 c9
        intro S10 hS10
        subst hS10
        have hv := hv _ rfl
        rw [← view_setS hb] at hv
        refine ⟨fun c12 => ?_, fun c12 => ?_⟩
        · have hv := hv.1 c12
          refine rv_X5_ends (fun S14 hs hv => ?_)  hs hv
          refine ⟨hs.1, ?_⟩
          refine rv_X5_works (fun S16 hs hv => ?_)  hs hv
          exact ih _ _ _ _ hs hv
        · have hv := hv.2 c12
          exact ih _ _ _ _ hs hv
theorem rv_X5_tick {o : Nat} {b : Nat → Nat} {post : Int32 → pS → Prop} {postV : Int32 → vS → Prop} (hp : ∀ (r : Int32) (S1 : pS), ShM o b S1 → postV r (view o b S1) → post r S1) (a1 : Int32) {S : pS} (hs : ShM o b S) (hv : wv_X5_tick postV a1 (view o b S)) : wp_X5_tick post o a1 S := by
  have hb := hs.2.2
  unfold wp_X5_tick
  unfold wv_X5_tick at hv
  refine rv_X5_in (fun r1 S2 hs hv => ?_) _ _ _  hs hv
  refine ⟨fun c3 => ?_, fun c3 => ?_⟩
  · have hv := hv.1 c3
    exact hp _ _ hs hv
  · have hv := hv.2 c3
    refine ⟨hs.1, ?_⟩
    intro S5 hS5
    subst hS5
    have hv := hv _ rfl
    rw [← view_setS hb] at hv
    obtain ⟨n9, hv⟩ := hv
    exact ⟨n9, rv_X5_tick_L25 hp n9 _ _ _ _ hs hv⟩
def wv_X5_setTimeout (post : Int32 → vS → Prop) (a1 : Int32) (V : vS) : Prop :=
  (wv_X5_in (fun r1 V2 => ((r1 = 0 → post (-1 : Int32) V2) ∧ (¬ (r1 = 0) → (∀ V5, V5 = V2.setS 14 a1 → post (V2.s 14) V5)))) a1 (1 : Int32) (99 : Int32) V)
theorem rv_X5_setTimeout {o : Nat} {b : Nat → Nat} {post : Int32 → pS → Prop} {postV : Int32 → vS → Prop} (hp : ∀ (r : Int32) (S1 : pS), ShM o b S1 → postV r (view o b S1) → post r S1) (a1 : Int32) {S : pS} (hs : ShM o b S) (hv : wv_X5_setTimeout postV a1 (view o b S)) : wp_X5_setTimeout post o a1 S := by
  have hb := hs.2.2
  unfold wp_X5_setTimeout
  unfold wv_X5_setTimeout at hv
  refine rv_X5_in (fun r1 S2 hs hv => ?_) _ _ _  hs hv
  refine ⟨fun c3 => ?_, fun c3 => ?_⟩
  · have hv := hv.1 c3
    exact hp _ _ hs hv
  · have hv := hv.2 c3
    refine ⟨hs.1, ?_⟩
    intro S5 hS5
    subst hS5
    have hv := hv _ rfl
    rw [← view_setS hb] at hv
    exact hp _ _ hs hv
def wv_X5_setFlag (post : Int32 → vS → Prop) (a1 : Int32) (a2 : Int32) (V : vS) : Prop :=
  (wv_X5_in (fun r1 V2 => ((r1 = 0 → post (-1 : Int32) V2) ∧ (¬ (r1 = 0) → (wv_X5_in (fun r4 V5 => ((r4 = 0 → post (-1 : Int32) V5) ∧ (¬ (r4 = 0) → (vp_in a1 6 ∧ vp_in a1 6 ∧ ∀ V13, V13 = V5.setA 0 a1.toNatClampNeg a2 → post (V5.a 0 a1.toNatClampNeg) V13)))) a2 (0 : Int32) (1 : Int32) V2)))) a1 (0 : Int32) (5 : Int32) V)
theorem rv_X5_setFlag {o : Nat} {b : Nat → Nat} {post : Int32 → pS → Prop} {postV : Int32 → vS → Prop} (hp : ∀ (r : Int32) (S1 : pS), ShM o b S1 → postV r (view o b S1) → post r S1) (a1 : Int32) (a2 : Int32) {S : pS} (hs : ShM o b S) (hv : wv_X5_setFlag postV a1 a2 (view o b S)) : wp_X5_setFlag post o a1 a2 S := by
  have hb := hs.2.2
  unfold wp_X5_setFlag
  unfold wv_X5_setFlag at hv
  refine rv_X5_in (fun r1 S2 hs hv => ?_) _ _ _  hs hv
  refine ⟨fun c3 => ?_, fun c3 => ?_⟩
  · have hv := hv.1 c3
    exact hp _ _ hs hv
  · have hv := hv.2 c3
    refine rv_X5_in (fun r4 S5 hs hv => ?_) _ _ _  hs hv
    refine ⟨fun c6 => ?_, fun c6 => ?_⟩
    · have hv := hv.1 c6
      exact hp _ _ hs hv
    · have hv := hv.2 c6
      refine ⟨hs.1, ?_⟩
      refine ⟨_, (hs.2.1 0 rfl).1, ?_⟩
      refine ⟨(hs.2.1 0 rfl).2.1, ?_⟩
      refine ⟨vin_of (hs.2.1 0 rfl).2.2 hv.1, ?_⟩
      have hv := hv.2
      refine ⟨vin_of (hs.2.1 0 rfl).2.2 hv.1, ?_⟩
      have hv := hv.2
      intro S13 hS13
      subst hS13
      have hv := hv _ rfl
      rw [← view_setA hb] at hv
      exact hp _ _ hs hv
def wv_X5_pendingLength (post : Int32 → vS → Prop)  (V : vS) : Prop :=
  post (V.s 12) V
theorem rv_X5_pendingLength {o : Nat} {b : Nat → Nat} {post : Int32 → pS → Prop} {postV : Int32 → vS → Prop} (hp : ∀ (r : Int32) (S1 : pS), ShM o b S1 → postV r (view o b S1) → post r S1)  {S : pS} (hs : ShM o b S) (hv : wv_X5_pendingLength postV (view o b S)) : wp_X5_pendingLength post o S := by
  have hb := hs.2.2
  unfold wp_X5_pendingLength
  unfold wv_X5_pendingLength at hv
  refine ⟨hs.1, ?_⟩
  exact hp _ _ hs hv
def wv_X5_pendingKey (post : Int32 → vS → Prop) (a1 : Int32) (V : vS) : Prop :=
  ((0 ≤ a1 → (((V.s 12) ≤ a1 → post (-4 : Int32) V) ∧ (¬ ((V.s 12) ≤ a1) → (vp_in a1 5 ∧ post (V.a 13 a1.toNatClampNeg) V)))) ∧ (¬ (0 ≤ a1) → post (-1 : Int32) V))
theorem rv_X5_pendingKey {o : Nat} {b : Nat → Nat} {post : Int32 → pS → Prop} {postV : Int32 → vS → Prop} (hp : ∀ (r : Int32) (S1 : pS), ShM o b S1 → postV r (view o b S1) → post r S1) (a1 : Int32) {S : pS} (hs : ShM o b S) (hv : wv_X5_pendingKey postV a1 (view o b S)) : wp_X5_pendingKey post o a1 S := by
  have hb := hs.2.2
  unfold wp_X5_pendingKey
  unfold wv_X5_pendingKey at hv
  refine ⟨fun c1 => ?_, fun c1 => ?_⟩
  · have hv := hv.1 c1
    refine ⟨hs.1, ?_⟩
    refine ⟨fun c3 => ?_, fun c3 => ?_⟩
    · have hv := hv.1 c3
      exact hp _ _ hs hv
    · have hv := hv.2 c3
      refine ⟨_, (hs.2.1 13 rfl).1, ?_⟩
      refine ⟨(hs.2.1 13 rfl).2.1, ?_⟩
      refine ⟨vin_of (hs.2.1 13 rfl).2.2 hv.1, ?_⟩
      have hv := hv.2
      exact hp _ _ hs hv
  · have hv := hv.2 c1
    exact hp _ _ hs hv
def wv_X5_remainingTime (post : Int32 → vS → Prop)  (V : vS) : Prop :=
  (((V.s 12) ≤ 0 → post (0 : Int32) V) ∧ (¬ ((V.s 12) ≤ 0) → post (V.s 15) V))
theorem rv_X5_remainingTime {o : Nat} {b : Nat → Nat} {post : Int32 → pS → Prop} {postV : Int32 → vS → Prop} (hp : ∀ (r : Int32) (S1 : pS), ShM o b S1 → postV r (view o b S1) → post r S1)  {S : pS} (hs : ShM o b S) (hv : wv_X5_remainingTime postV (view o b S)) : wp_X5_remainingTime post o S := by
  have hb := hs.2.2
  unfold wp_X5_remainingTime
  unfold wv_X5_remainingTime at hv
  refine ⟨hs.1, ?_⟩
  refine ⟨fun c2 => ?_, fun c2 => ?_⟩
  · have hv := hv.1 c2
    exact hp _ _ hs hv
  · have hv := hv.2 c2
    exact hp _ _ hs hv
def wv_X5_pendingBinding (post : Int32 → vS → Prop)  (V : vS) : Prop :=
  (((V.s 12) ≤ 0 → post (-4 : Int32) V) ∧ (¬ ((V.s 12) ≤ 0) → (wv_X5_bound (fun r3 V4 => ((0 ≤ r3 → post (((16 : Int32) * (r3 / (10 : Int32))) + (r3 - r3 / (10 : Int32) * (10 : Int32))) V4) ∧ (¬ (0 ≤ r3) → post (-4 : Int32) V4))) (V.s 12) V)))
theorem rv_X5_pendingBinding {o : Nat} {b : Nat → Nat} {post : Int32 → pS → Prop} {postV : Int32 → vS → Prop} (hp : ∀ (r : Int32) (S1 : pS), ShM o b S1 → postV r (view o b S1) → post r S1)  {S : pS} (hs : ShM o b S) (hv : wv_X5_pendingBinding postV (view o b S)) : wp_X5_pendingBinding post o S := by
  have hb := hs.2.2
  unfold wp_X5_pendingBinding
  unfold wv_X5_pendingBinding at hv
  refine ⟨hs.1, ?_⟩
  refine ⟨fun c2 => ?_, fun c2 => ?_⟩
  · have hv := hv.1 c2
    exact hp _ _ hs hv
  · have hv := hv.2 c2
    refine rv_X5_bound (fun r3 S4 hs hv => ?_) _  hs hv
    refine ⟨fun c5 => ?_, fun c5 => ?_⟩
    · have hv := hv.1 c5
      exact hp _ _ hs hv
    · have hv := hv.2 c5
      exact hp _ _ hs hv
def wv_X5_flag (post : Int32 → vS → Prop) (a1 : Int32) (V : vS) : Prop :=
  (wv_X5_in (fun r1 V2 => ((r1 = 0 → post (-1 : Int32) V2) ∧ (¬ (r1 = 0) → (vp_in a1 6 ∧ post (V2.a 0 a1.toNatClampNeg) V2)))) a1 (0 : Int32) (5 : Int32) V)
theorem rv_X5_flag {o : Nat} {b : Nat → Nat} {post : Int32 → pS → Prop} {postV : Int32 → vS → Prop} (hp : ∀ (r : Int32) (S1 : pS), ShM o b S1 → postV r (view o b S1) → post r S1) (a1 : Int32) {S : pS} (hs : ShM o b S) (hv : wv_X5_flag postV a1 (view o b S)) : wp_X5_flag post o a1 S := by
  have hb := hs.2.2
  unfold wp_X5_flag
  unfold wv_X5_flag at hv
  refine rv_X5_in (fun r1 S2 hs hv => ?_) _ _ _  hs hv
  refine ⟨fun c3 => ?_, fun c3 => ?_⟩
  · have hv := hv.1 c3
    exact hp _ _ hs hv
  · have hv := hv.2 c3
    refine ⟨hs.1, ?_⟩
    refine ⟨_, (hs.2.1 0 rfl).1, ?_⟩
    refine ⟨(hs.2.1 0 rfl).2.1, ?_⟩
    refine ⟨vin_of (hs.2.1 0 rfl).2.2 hv.1, ?_⟩
    have hv := hv.2
    exact hp _ _ hs hv
def wv_X5_stackSize (post : Int32 → vS → Prop)  (V : vS) : Prop :=
  post (V.s 1) V
theorem rv_X5_stackSize {o : Nat} {b : Nat → Nat} {post : Int32 → pS → Prop} {postV : Int32 → vS → Prop} (hp : ∀ (r : Int32) (S1 : pS), ShM o b S1 → postV r (view o b S1) → post r S1)  {S : pS} (hs : ShM o b S) (hv : wv_X5_stackSize postV (view o b S)) : wp_X5_stackSize post o S := by
  have hb := hs.2.2
  unfold wp_X5_stackSize
  unfold wv_X5_stackSize at hv
  refine ⟨hs.1, ?_⟩
  exact hp _ _ hs hv
def wv_X5_stackContext (post : Int32 → vS → Prop) (a1 : Int32) (V : vS) : Prop :=
  ((0 ≤ a1 → (((V.s 1) ≤ a1 → post (-4 : Int32) V) ∧ (¬ ((V.s 1) ≤ a1) → (vp_in (((V.s 1) - (1 : Int32)) - a1) 4 ∧ post (V.a 2 (((V.s 1) - (1 : Int32)) - a1).toNatClampNeg) V)))) ∧ (¬ (0 ≤ a1) → post (-1 : Int32) V))
theorem rv_X5_stackContext {o : Nat} {b : Nat → Nat} {post : Int32 → pS → Prop} {postV : Int32 → vS → Prop} (hp : ∀ (r : Int32) (S1 : pS), ShM o b S1 → postV r (view o b S1) → post r S1) (a1 : Int32) {S : pS} (hs : ShM o b S) (hv : wv_X5_stackContext postV a1 (view o b S)) : wp_X5_stackContext post o a1 S := by
  have hb := hs.2.2
  unfold wp_X5_stackContext
  unfold wv_X5_stackContext at hv
  refine ⟨fun c1 => ?_, fun c1 => ?_⟩
  · have hv := hv.1 c1
    refine ⟨hs.1, ?_⟩
    refine ⟨fun c3 => ?_, fun c3 => ?_⟩
    · have hv := hv.1 c3
      exact hp _ _ hs hv
    · have hv := hv.2 c3
      refine ⟨_, (hs.2.1 2 rfl).1, ?_⟩
      refine ⟨(hs.2.1 2 rfl).2.1, ?_⟩
      refine ⟨vin_of (hs.2.1 2 rfl).2.2 hv.1, ?_⟩
      have hv := hv.2
      exact hp _ _ hs hv
  · have hv := hv.2 c1
    exact hp _ _ hs hv
def wv_X5_startRecording (post : Int32 → vS → Prop) (a1 : Int32) (V : vS) : Prop :=
  (wv_X5_in (fun r1 V2 => ((r1 = 0 → post (-1 : Int32) V2) ∧ (¬ (r1 = 0) → (((V2.s 20) < 0 → (∀ V6, V6 = V2.setS 20 a1 → vp_in a1 4 ∧ vp_in a1 4 ∧ ∀ V13, V13 = V6.setA 21 a1.toNatClampNeg (0 : Int32) → post (V6.a 21 a1.toNatClampNeg) V13)) ∧ (¬ ((V2.s 20) < 0) → post (-2 : Int32) V2))))) a1 (0 : Int32) (3 : Int32) V)
theorem rv_X5_startRecording {o : Nat} {b : Nat → Nat} {post : Int32 → pS → Prop} {postV : Int32 → vS → Prop} (hp : ∀ (r : Int32) (S1 : pS), ShM o b S1 → postV r (view o b S1) → post r S1) (a1 : Int32) {S : pS} (hs : ShM o b S) (hv : wv_X5_startRecording postV a1 (view o b S)) : wp_X5_startRecording post o a1 S := by
  have hb := hs.2.2
  unfold wp_X5_startRecording
  unfold wv_X5_startRecording at hv
  refine rv_X5_in (fun r1 S2 hs hv => ?_) _ _ _  hs hv
  refine ⟨fun c3 => ?_, fun c3 => ?_⟩
  · have hv := hv.1 c3
    exact hp _ _ hs hv
  · have hv := hv.2 c3
    refine ⟨hs.1, ?_⟩
    refine ⟨fun c5 => ?_, fun c5 => ?_⟩
    · have hv := hv.1 c5
      intro S6 hS6
      subst hS6
      have hv := hv _ rfl
      rw [← view_setS hb] at hv
      refine ⟨_, (hs.2.1 21 rfl).1, ?_⟩
      refine ⟨(hs.2.1 21 rfl).2.1, ?_⟩
      refine ⟨vin_of (hs.2.1 21 rfl).2.2 hv.1, ?_⟩
      have hv := hv.2
      refine ⟨vin_of (hs.2.1 21 rfl).2.2 hv.1, ?_⟩
      have hv := hv.2
      intro S13 hS13
      subst hS13
      have hv := hv _ rfl
      rw [← view_setA hb] at hv
      exact hp _ _ hs hv
    · have hv := hv.2 c5
      exact hp _ _ hs hv
def wv_X5_stopRecording (post : Int32 → vS → Prop)  (V : vS) : Prop :=
  ((0 ≤ (V.s 20) → (vp_in (V.s 20) 4 ∧ ∀ V7, V7 = V.setS 20 (-4 : Int32) → post (V.a 21 (V.s 20).toNatClampNeg) V7)) ∧ (¬ (0 ≤ (V.s 20)) → post (-2 : Int32) V))
theorem rv_X5_stopRecording {o : Nat} {b : Nat → Nat} {post : Int32 → pS → Prop} {postV : Int32 → vS → Prop} (hp : ∀ (r : Int32) (S1 : pS), ShM o b S1 → postV r (view o b S1) → post r S1)  {S : pS} (hs : ShM o b S) (hv : wv_X5_stopRecording postV (view o b S)) : wp_X5_stopRecording post o S := by
  have hb := hs.2.2
  unfold wp_X5_stopRecording
  unfold wv_X5_stopRecording at hv
  refine ⟨hs.1, ?_⟩
  refine ⟨fun c2 => ?_, fun c2 => ?_⟩
  · have hv := hv.1 c2
    refine ⟨_, (hs.2.1 21 rfl).1, ?_⟩
    refine ⟨(hs.2.1 21 rfl).2.1, ?_⟩
    refine ⟨vin_of (hs.2.1 21 rfl).2.2 hv.1, ?_⟩
    have hv := hv.2
    intro S7 hS7
    subst hS7
    have hv := hv _ rfl
    rw [← view_setS hb] at hv
    exact hp _ _ hs hv
  · have hv := hv.2 c2
    exact hp _ _ hs hv
def wv_X5_macroKey (post : Int32 → vS → Prop) (a1 : Int32) (a2 : Int32) (V : vS) : Prop :=
  (wv_X5_in (fun r1 V2 => ((r1 = 0 → post (-1 : Int32) V2) ∧ (¬ (r1 = 0) → ((0 ≤ a2 → (vp_in a1 4 ∧ (((V2.a 21 a1.toNatClampNeg) ≤ a2 → post (-4 : Int32) V2) ∧ (¬ ((V2.a 21 a1.toNatClampNeg) ≤ a2) → (vp_in (((12 : Int32) * a1) + a2) 48 ∧ post (V2.a 22 (((12 : Int32) * a1) + a2).toNatClampNeg) V2))))) ∧ (¬ (0 ≤ a2) → post (-1 : Int32) V2))))) a1 (0 : Int32) (3 : Int32) V)
theorem rv_X5_macroKey {o : Nat} {b : Nat → Nat} {post : Int32 → pS → Prop} {postV : Int32 → vS → Prop} (hp : ∀ (r : Int32) (S1 : pS), ShM o b S1 → postV r (view o b S1) → post r S1) (a1 : Int32) (a2 : Int32) {S : pS} (hs : ShM o b S) (hv : wv_X5_macroKey postV a1 a2 (view o b S)) : wp_X5_macroKey post o a1 a2 S := by
  have hb := hs.2.2
  unfold wp_X5_macroKey
  unfold wv_X5_macroKey at hv
  refine rv_X5_in (fun r1 S2 hs hv => ?_) _ _ _  hs hv
  refine ⟨fun c3 => ?_, fun c3 => ?_⟩
  · have hv := hv.1 c3
    exact hp _ _ hs hv
  · have hv := hv.2 c3
    refine ⟨fun c4 => ?_, fun c4 => ?_⟩
    · have hv := hv.1 c4
      refine ⟨hs.1, ?_⟩
      refine ⟨_, (hs.2.1 21 rfl).1, ?_⟩
      refine ⟨(hs.2.1 21 rfl).2.1, ?_⟩
      refine ⟨vin_of (hs.2.1 21 rfl).2.2 hv.1, ?_⟩
      have hv := hv.2
      refine ⟨fun c10 => ?_, fun c10 => ?_⟩
      · have hv := hv.1 c10
        exact hp _ _ hs hv
      · have hv := hv.2 c10
        refine ⟨_, (hs.2.1 22 rfl).1, ?_⟩
        refine ⟨(hs.2.1 22 rfl).2.1, ?_⟩
        refine ⟨vin_of (hs.2.1 22 rfl).2.2 hv.1, ?_⟩
        have hv := hv.2
        exact hp _ _ hs hv
    · have hv := hv.2 c4
      exact hp _ _ hs hv
def wv_X5_reportCount (post : Int32 → vS → Prop)  (V : vS) : Prop :=
  post (V.s 23) V
theorem rv_X5_reportCount {o : Nat} {b : Nat → Nat} {post : Int32 → pS → Prop} {postV : Int32 → vS → Prop} (hp : ∀ (r : Int32) (S1 : pS), ShM o b S1 → postV r (view o b S1) → post r S1)  {S : pS} (hs : ShM o b S) (hv : wv_X5_reportCount postV (view o b S)) : wp_X5_reportCount post o S := by
  have hb := hs.2.2
  unfold wp_X5_reportCount
  unfold wv_X5_reportCount at hv
  refine ⟨hs.1, ?_⟩
  exact hp _ _ hs hv
def wv_X5_errorOf (post : Int32 → vS → Prop) (a1 : Int32) (V : vS) : Prop :=
  ((0 ≤ a1 → (((V.s 23) ≤ a1 → post (-4 : Int32) V) ∧ (¬ ((V.s 23) ≤ a1) → ((a1 < ((V.s 23) - (40 : Int32)) → post (-4 : Int32) V) ∧ (¬ (a1 < ((V.s 23) - (40 : Int32))) → post (0 : Int32) V))))) ∧ (¬ (0 ≤ a1) → post (-1 : Int32) V))
theorem rv_X5_errorOf {o : Nat} {b : Nat → Nat} {post : Int32 → pS → Prop} {postV : Int32 → vS → Prop} (hp : ∀ (r : Int32) (S1 : pS), ShM o b S1 → postV r (view o b S1) → post r S1) (a1 : Int32) {S : pS} (hs : ShM o b S) (hv : wv_X5_errorOf postV a1 (view o b S)) : wp_X5_errorOf post o a1 S := by
  have hb := hs.2.2
  unfold wp_X5_errorOf
  unfold wv_X5_errorOf at hv
  refine ⟨fun c1 => ?_, fun c1 => ?_⟩
  · have hv := hv.1 c1
    refine ⟨hs.1, ?_⟩
    refine ⟨fun c3 => ?_, fun c3 => ?_⟩
    · have hv := hv.1 c3
      exact hp _ _ hs hv
    · have hv := hv.2 c3
      refine ⟨fun c4 => ?_, fun c4 => ?_⟩
      · have hv := hv.1 c4
        exact hp _ _ hs hv
      · have hv := hv.2 c4
        exact hp _ _ hs hv
  · have hv := hv.2 c1
    exact hp _ _ hs hv
def wv_X5_reportKind (post : Int32 → vS → Prop) (a1 : Int32) (V : vS) : Prop :=
  (wv_X5_errorOf (fun r1 V2 => ((0 ≤ r1 → (vp_in (a1 - a1 / (40 : Int32) * (40 : Int32)) 40 ∧ post (V2.a 24 (a1 - a1 / (40 : Int32) * (40 : Int32)).toNatClampNeg) V2)) ∧ (¬ (0 ≤ r1) → post r1 V2))) a1 V)
theorem rv_X5_reportKind {o : Nat} {b : Nat → Nat} {post : Int32 → pS → Prop} {postV : Int32 → vS → Prop} (hp : ∀ (r : Int32) (S1 : pS), ShM o b S1 → postV r (view o b S1) → post r S1) (a1 : Int32) {S : pS} (hs : ShM o b S) (hv : wv_X5_reportKind postV a1 (view o b S)) : wp_X5_reportKind post o a1 S := by
  have hb := hs.2.2
  unfold wp_X5_reportKind
  unfold wv_X5_reportKind at hv
  refine ⟨hs.1, ?_⟩
  refine rv_X5_errorOf (fun r1 S2 hs hv => ?_) _  hs hv
  refine ⟨fun c4 => ?_, fun c4 => ?_⟩
  · have hv := hv.1 c4
    refine ⟨hs.1, ?_⟩
    refine ⟨_, (hs.2.1 24 rfl).1, ?_⟩
    refine ⟨(hs.2.1 24 rfl).2.1, ?_⟩
    refine ⟨vin_of (hs.2.1 24 rfl).2.2 hv.1, ?_⟩
    have hv := hv.2
    exact hp _ _ hs hv
  · have hv := hv.2 c4
    exact hp _ _ hs hv
def wv_X5_reportArgument (post : Int32 → vS → Prop) (a1 : Int32) (V : vS) : Prop :=
  (wv_X5_errorOf (fun r1 V2 => ((0 ≤ r1 → (vp_in (a1 - a1 / (40 : Int32) * (40 : Int32)) 40 ∧ post (V2.a 25 (a1 - a1 / (40 : Int32) * (40 : Int32)).toNatClampNeg) V2)) ∧ (¬ (0 ≤ r1) → post r1 V2))) a1 V)
theorem rv_X5_reportArgument {o : Nat} {b : Nat → Nat} {post : Int32 → pS → Prop} {postV : Int32 → vS → Prop} (hp : ∀ (r : Int32) (S1 : pS), ShM o b S1 → postV r (view o b S1) → post r S1) (a1 : Int32) {S : pS} (hs : ShM o b S) (hv : wv_X5_reportArgument postV a1 (view o b S)) : wp_X5_reportArgument post o a1 S := by
  have hb := hs.2.2
  unfold wp_X5_reportArgument
  unfold wv_X5_reportArgument at hv
  refine ⟨hs.1, ?_⟩
  refine rv_X5_errorOf (fun r1 S2 hs hv => ?_) _  hs hv
  refine ⟨fun c4 => ?_, fun c4 => ?_⟩
  · have hv := hv.1 c4
    refine ⟨hs.1, ?_⟩
    refine ⟨_, (hs.2.1 25 rfl).1, ?_⟩
    refine ⟨(hs.2.1 25 rfl).2.1, ?_⟩
    refine ⟨vin_of (hs.2.1 25 rfl).2.2 hv.1, ?_⟩
    have hv := hv.2
    exact hp _ _ hs hv
  · have hv := hv.2 c4
    exact hp _ _ hs hv
