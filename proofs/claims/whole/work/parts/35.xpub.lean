/-! THE CLASS'S public methods at the abstract state -/
section XQ
variable {e0 : Nat} {c la : Nat → Nat} {A : aS} {S : pS}
theorem xq_press {post : Int32 → pS → Prop} {x : Int32} {R : Nat} (h : RepX e0 c la A S) (hA : Inv A R) (hR : R + 1000 < 2147483647) (hp : ∀ S', RepX e0 c la (a_press A x).2 S' → post (a_press A x).1 S') : wp_X4_press post e0 (c 32) x S := by
  unfold wp_X4_press
  refine xx_key (fun hi => ⟨fun z => absurd z (by decide), fun _ => ⟨h.ok 32, c 29, h.P 32 7 29, h.ok 29, ?_⟩⟩) (fun hi => ⟨fun _ => ?_, fun z => absurd rfl z⟩)
  · unfold a_press at hp
    rw [if_pos hi] at hp
    obtain ⟨k, hk, rfl⟩ := x_nat (h := 11) rfl hi
    rw [nI_clamp (by omega)] at hp
    have hpi := pr_inv hA (x := k) (by omega)
    obtain ⟨hb, h16, h18, h19, h12, h13, h15, h10, h11, h23⟩ := hA
    have h20 := hb.2.2.2.2.1
    intro S8 e8
    have h8 := h.setD 0
    rw [show nI 0 = (0 : Int32) from rfl, ← e8] at h8
    have e23 : S.I (c 29) 2 = nI (A.s 23) := h.log.2.2.2.2.2.2.2.2
    rw [e23]
    have hfin : ∀ (S1 : pS), RepX e0 c la (rcd (A.setS 19 0) k) S1 → (S1.ok (c 32) 4 ∧ ∃ q14, S1.P (c 32) 2 = some q14 ∧ S1.ok q14 3 ∧ wp_X3_add (fun S17 => (S17.ok (c 32) 4 ∧ wp_X4_processWaitingKeys (fun S20 => (S20.ok (c 32) 4 ∧ ∃ q23, S20.P (c 32) 7 = some q23 ∧ S20.ok q23 2 ∧ post ((S20.I q23 2) - nI (A.s 23)) S20)) e0 (c 32) S17)) q14 (nI k) S1) := by
      intro S1 h1
      refine ⟨h1.ok 32, c 4, h1.P 32 2 4, h1.ok 4, ?_⟩
      rw [← enc_lt (show k < 12 by omega)]
      refine xp_addW h1 (by rw [rcd_s]; show A.s 16 ≤ 100; omega) (fun S17 h17 => ⟨h17.ok 32, 1001, ?_⟩)
      refine xp_work 1000 (prA A k) S17 0 h17 hpi.2.1 (by decide) hpi.1 (by have := hpi.2.1; have := hpi.2.2.1; omega) (fun S20 h20' => ⟨h20'.ok 32, c 29, h20'.P 32 7 29, h20'.ok 29, ?_⟩)
      rw [show S20.I (c 29) 2 = nI ((wkA 1000 (prA A k)).s 23) from h20'.log.2.2.2.2.2.2.2.2]
      exact hp S20 h20'
    rw [h8.o.2.2.1, show (A.setS 19 0).s 20 = A.s 20 from rfl]
    by_cases hq : A.s 20 < 4
    · have er : recX (A.s 20) = nI (A.s 20) := if_pos hq
      have h21 := hb.2.2.1 _ hq
      rw [er]
      refine xx_mac h8 (fun _ => ⟨fun z => absurd z (by decide), fun _ => ⟨h8.ok 32, c 6, h8.P 32 3 6, h8.ok 6, ?_⟩⟩) (fun z => absurd (inR_iff.mp ((inR_nI (h := 3) rfl (by omega)).mpr (by omega))) z)
      rw [h8.o.2.2.1, show (A.setS 19 0).s 20 = A.s 20 from rfl, er]
      refine xl_get h8.listM (by omega) (h8.getM hq) ⟨h8.okM hq, xr_add (h8.rowM hq h21) (fun e => ?_) (fun hl => ?_)⟩
      · have e : A.w 21 (A.s 20) = 12 := e
        refine hfin S8 ?_
        have hn : ¬ ((A.setS 19 0).s 20 < 4 ∧ (A.setS 19 0).w 21 ((A.setS 19 0).s 20) < 12) := fun q => by
          have : A.w 21 (A.s 20) < 12 := q.2
          omega
        unfold rcd
        rw [if_neg hn]
        exact h8
      · have hl : A.w 21 (A.s 20) < 12 := hl
        refine hfin _ ?_
        unfold rcd
        rw [if_pos ⟨hq, hl⟩]
        exact h8.addM hq k hb.2.2.1 hl
    · have er : recX (A.s 20) = -1 := if_neg hq
      rw [er]
      refine xx_mac h8 (fun z => absurd z.1 (by decide)) (fun _ => ⟨fun _ => hfin S8 ?_, fun z => absurd rfl z⟩)
      have hn : ¬ ((A.setS 19 0).s 20 < 4 ∧ (A.setS 19 0).w 21 ((A.setS 19 0).s 20) < 12) := fun q => hq q.1
      unfold rcd
      rw [if_neg hn]
      exact h8
  · unfold a_press at hp
    rw [if_neg hi] at hp
    exact hp S h
theorem xq_tickL {post : Int32 → pS → Prop} {T : Nat} {r : Int32} (hT : T ≤ 999) : ∀ (t : Nat) (A : aS) (S : pS), RepX e0 c la A S → t ≤ T → PInv A → A.s 16 = 0 → A.s 23 + 1001 * t < 2147483000 → (∀ S', RepX e0 c la (tkA t A) S' → post (nI ((tkA t A).s 23) - r) S') → wp_X4_tick_L28 post e0 (t + 1) (c 32) (nI T) r (nI (T - t)) S := by
  intro t
  induction t with
  | zero =>
    intro A S h _ _ _ _ hp
    unfold wp_X4_tick_L28
    refine ⟨fun _ => ⟨h.ok 32, c 29, h.P 32 7 29, h.ok 29, ?_⟩, fun z => absurd (nI_le (by omega) (by omega)) z⟩
    rw [show S.I (c 29) 2 = nI (A.s 23) from h.log.2.2.2.2.2.2.2.2]
    have := hp S (by rw [tkA]; exact h)
    rw [tkA] at this
    exact this
  | succ t ih =>
    intro A S h htT hpi h16 h23 hp
    rw [tkA] at hp
    have h12 := hpi.2.2.2.1
    have hnx : nI (T - (t + 1)) + 1 = nI (T - t) := by rw [nI_1]; congr 1; omega
    unfold wp_X4_tick_L28
    rw [hnx]
    refine ⟨fun z => absurd z (nI_ge (by omega) (by omega)), fun _ => ⟨h.ok 32, c 2, h.P 32 1 2, h.ok 2, xr_size (h.rowP (by omega)) ?_⟩⟩
    by_cases h0 : A.s 12 = 0
    · rw [if_pos h0] at hp
      rw [h0]
      refine ⟨fun _ => ⟨h.ok 32, c 29, h.P 32 7 29, h.ok 29, ?_⟩, fun z => absurd (by decide) z⟩
      rw [show S.I (c 29) 2 = nI (A.s 23) from h.log.2.2.2.2.2.2.2.2]
      exact hp S h
    · rw [if_neg h0] at hp
      refine ⟨fun z => absurd z (nI_nle (by omega) (by omega)), fun _ => ⟨h.ok 32, ?_⟩⟩
      have h15 := hpi.2.2.2.2.2 (by omega)
      intro S26 e26
      rw [h.o.2.1, show (1 : Int32) = nI 1 from rfl, pk_sub (by omega)] at e26
      have h26 := h.setL (A.s 15 - 1)
      rw [← e26] at h26
      rw [h26.o.2.1, show (A.setS 15 (A.s 15 - 1)).s 15 = A.s 15 - 1 from rfl]
      refine ⟨fun z => ?_, fun z => ?_⟩
      · have hl : ¬ A.s 15 - 1 = 0 := fun q => by rw [q] at z; exact absurd z (by decide)
        rw [if_neg hl] at hp
        obtain ⟨hb, hs, ht, _, h13, _⟩ := hpi
        exact ih (A.setS 15 (A.s 15 - 1)) S26 h26 (by omega) ⟨hb.setS (by decide) (by decide) (by decide), hs.of rfl rfl rfl rfl, ht, h12, h13, fun _ => ⟨by show 1 ≤ A.s 15 - 1; omega, by show A.s 15 - 1 ≤ 99; omega⟩⟩ h16 (show A.s 23 + 1001 * t < 2147483000 by omega) hp
      · have hl : A.s 15 - 1 = 0 := by
          rcases Nat.eq_zero_or_pos (A.s 15 - 1) with q | q
          · exact q
          · exact absurd (nI_lt (a := 0) q (by omega)) z
        rw [if_pos hl] at hp
        obtain ⟨he, hphi⟩ := tk_e hpi h16 h0 (A.s 15 - 1)
        obtain ⟨g1, g2, g3, g4, g5⟩ := ends_inv he
        obtain ⟨w1, w2, w3, w4⟩ := wk_inv 1000 _ g1 hphi
        have g5 : (ends (A.setS 15 (A.s 15 - 1))).s 23 ≤ A.s 23 + 1 := g5
        refine xp_rel h26 he (show A.s 23 < 2147483647 by omega) (fun S30 h30 => ⟨h30.ok 32, 1001, ?_⟩)
        refine xp_work 1000 _ S30 0 h30 hphi (by decide) g1 (by omega) (fun S32 h32 => ?_)
        exact ih _ S32 h32 (by omega) w1 w2 (by omega) hp
theorem xq_tick {post : Int32 → pS → Prop} {x : Int32} {R : Nat} (h : RepX e0 c la A S) (hA : Inv A R) (hR : R + 1000000 < 2147483000) (hp : ∀ S', RepX e0 c la (a_tick A x).2 S' → post (a_tick A x).1 S') : wp_X4_tick post e0 (c 32) x S := by
  unfold wp_X4_tick
  refine xx_btw (fun hi => ⟨fun z => absurd z (by decide), fun _ => ⟨h.ok 32, c 29, h.P 32 7 29, h.ok 29, ?_⟩⟩) (fun hi => ⟨fun _ => ?_, fun z => absurd rfl z⟩)
  · unfold a_tick at hp
    rw [if_pos hi] at hp
    obtain ⟨k, hk, rfl⟩ := x_nat (h := 999) rfl hi
    rw [nI_clamp (by omega)] at hp
    intro S8 e8
    have h8 := h.setD 0
    rw [show nI 0 = (0 : Int32) from rfl, ← e8] at h8
    rw [show S.I (c 29) 2 = nI (A.s 23) from h.log.2.2.2.2.2.2.2.2]
    have h23 := hA.2.2.2.2.2.2.2.2.2
    have := xq_tickL (post := post) (r := nI (A.s 23)) hk k (A.setS 19 0) S8 h8 (Nat.le_refl _) hA.p hA.2.1 (show A.s 23 + 1001 * k < 2147483000 by omega) hp
    rw [Nat.sub_self] at this
    exact ⟨k + 1, this⟩
  · unfold a_tick at hp
    rw [if_neg hi] at hp
    exact hp S h
theorem xq_append {post : Int32 → pS → Prop} {x : Int32} (h : RepX e0 c la A S) (h10 : A.s 10 ≤ 4) (hp : ∀ S', RepX e0 c la (a_append A x).2 S' → post (a_append A x).1 S') : wp_X4_appendKey post (c 32) x S := by
  unfold wp_X4_appendKey
  unfold a_append at hp
  refine xx_key (fun hi => ⟨fun z => absurd z (by decide), fun _ => ⟨h.ok 32, c 0, h.P 32 0 0, h.ok 0, xr_full (h.rowB h10) ?_⟩⟩) (fun hi => ⟨fun _ => ?_, fun z => absurd rfl z⟩)
  · rw [if_pos hi] at hp
    obtain ⟨k, hk, rfl⟩ := x_nat (h := 11) rfl hi
    rw [nI_clamp (by omega)] at hp
    refine ⟨fun z => ⟨h.ok 32, c 0, h.P 32 0 0, h.ok 0, ?_⟩, fun z => ?_⟩
    · have z := of_decide_eq_false (bI_0 z)
      rw [if_neg (by omega)] at hp
      refine xr_add (h.rowB h10) (fun e => by omega) (fun hl => ?_)
      have h1 := h.addB k
      refine ⟨h1.ok 32, c 0, h1.P 32 0 0, h1.ok 0, xr_size (h1.rowB (show A.s 10 + 1 ≤ 4 by omega)) ?_⟩
      exact hp _ h1
    · have z := of_decide_eq_true (bI_1 z)
      rw [if_pos (by omega)] at hp
      exact hp S h
  · rw [if_neg hi] at hp
    exact hp S h
theorem xq_clear {post : Int32 → pS → Prop} (h : RepX e0 c la A S) (h10 : A.s 10 ≤ 4) (hp : ∀ S', RepX e0 c la (a_clear A).2 S' → post (a_clear A).1 S') : wp_X4_clearKeys post (c 32) S := by
  unfold wp_X4_clearKeys
  exact ⟨h.ok 32, c 0, h.P 32 0 0, h.ok 0, xr_size (h.rowB h10) ⟨h.ok 32, c 0, h.P 32 0 0, h.ok 0, xr_clear (h.rowB h10) (hp _ h.clrB)⟩⟩
theorem xq_count {post : Int32 → pS → Prop} {x : Int32} (h : RepX e0 c la A S) (hp : ∀ S', RepX e0 c la (a_count A x).2 S' → post (a_count A x).1 S') : wp_X4_bindingCount post (c 32) x S := by
  unfold wp_X4_bindingCount
  unfold a_count at hp
  refine ⟨h.ok 32, xx_ctx h (fun hi => ⟨fun z => absurd z (by decide), fun _ => ⟨h.ok 32, c 16, h.P 32 4 16, h.ok 16, ?_⟩⟩) (fun hi => ⟨fun _ => ?_, fun z => absurd rfl z⟩)⟩
  · rw [if_pos hi] at hp
    obtain ⟨k, hk, rfl⟩ := x_nat (h := 3) rfl hi
    rw [nI_clamp (by omega)] at hp
    have hC := h.okC (m := k) (by omega)
    exact xl_get h.listC (by omega) (h.getC (by omega)) ⟨hC.1, c (22 + k), hC.2.1, hC.2.2.1, xl_size hC.2.2.1 hC.2.2.2.2 (hp S h)⟩
  · rw [if_neg hi] at hp
    exact hp S h
theorem xq_timeout {post : Int32 → pS → Prop} {x : Int32} (h : RepX e0 c la A S) (hp : ∀ S', RepX e0 c la (a_timeout A x).2 S' → post (a_timeout A x).1 S') : wp_X4_setTimeout post (c 32) x S := by
  unfold wp_X4_setTimeout
  unfold a_timeout at hp
  refine xx_btw (fun hi => ⟨fun z => absurd z (by decide), fun _ => ⟨h.ok 32, ?_⟩⟩) (fun hi => ⟨fun _ => ?_, fun z => absurd rfl z⟩)
  · rw [if_pos hi] at hp
    obtain ⟨k, hk, rfl⟩ := x_nat (x := x) (h := 99) rfl ⟨Int32.le_trans (by decide) hi.1, hi.2⟩
    rw [nI_clamp (by omega)] at hp
    intro S5 e5
    subst e5
    rw [h.o.1]
    exact hp _ (h.setT k)
  · rw [if_neg hi] at hp
    exact hp S h
theorem xq_setFlag {post : Int32 → pS → Prop} {f v : Int32} (h : RepX e0 c la A S) (hp : ∀ S', RepX e0 c la (a_setFlag A f v).2 S' → post (a_setFlag A f v).1 S') : wp_X4_setFlag post (c 32) f v S := by
  unfold a_setFlag at hp
  by_cases hi : 0 ≤ f ∧ f ≤ 5
  · rw [if_pos hi] at hp
    by_cases hj : 0 ≤ v ∧ v ≤ 1
    · rw [if_pos hj] at hp
      obtain ⟨k, hk, rfl⟩ := x_nat (h := 5) rfl hi
      obtain ⟨u, hu, rfl⟩ := x_nat (h := 1) rfl hj
      rw [nI_clamp (by omega), nI_clamp (by omega)] at hp
      exact xp_setFlag h (by omega) hu hp
    · rw [if_neg hj] at hp
      unfold wp_X4_setFlag
      refine ⟨h.ok 32, xx_flg h (fun _ => ⟨fun z => absurd z (by decide), fun _ => ?_⟩) (fun q => absurd hi q)⟩
      exact xx_btw (fun q => absurd q hj) (fun _ => ⟨fun _ => hp S h, fun z => absurd rfl z⟩)
  · rw [if_neg hi] at hp
    unfold wp_X4_setFlag
    exact ⟨h.ok 32, xx_flg h (fun q => absurd q hi) (fun _ => ⟨fun _ => hp S h, fun z => absurd rfl z⟩)⟩
theorem xq_plen {post : Int32 → pS → Prop} (h : RepX e0 c la A S) (h12 : A.s 12 ≤ 3) (hp : ∀ S', RepX e0 c la (a_plen A).2 S' → post (a_plen A).1 S') : wp_X4_pendingLength post (c 32) S := by
  unfold wp_X4_pendingLength
  exact ⟨h.ok 32, c 2, h.P 32 1 2, h.ok 2, xr_size (h.rowP (by omega)) (hp S h)⟩
theorem xq_pkey {post : Int32 → pS → Prop} {x : Int32} (h : RepX e0 c la A S) (h12 : A.s 12 ≤ 3) (hp : ∀ S', RepX e0 c la (a_pkey A x).2 S' → post (a_pkey A x).1 S') : wp_X4_pendingKey post (c 32) x S := by
  unfold wp_X4_pendingKey
  unfold a_pkey at hp
  refine ⟨fun z => ⟨h.ok 32, c 2, h.P 32 1 2, h.ok 2, xr_at (h.rowP (by omega)) (fun w => absurd w (x_ge.mp z)) (fun w w1 => ?_) (fun k hk e => ?_)⟩, fun z => ?_⟩
  · rw [if_neg w, if_pos w1] at hp
    exact hp S h
  · subst e
    rw [if_neg (nI_pos (by omega)), if_neg (nI_ge hk (by omega)), nI_clamp (by omega)] at hp
    rw [show S.I (c 3) k = nI (A.w 13 k) from h.X 3 k (by decide) hk]
    exact hp S h
  · rw [if_pos (by rw [x_ge] at z; exact Classical.not_not.mp z)] at hp
    exact hp S h
theorem xq_rem {post : Int32 → pS → Prop} (h : RepX e0 c la A S) (h12 : A.s 12 ≤ 3) (hp : ∀ S', RepX e0 c la (a_rem A).2 S' → post (a_rem A).1 S') : wp_X4_remainingTime post (c 32) S := by
  unfold wp_X4_remainingTime
  unfold a_rem at hp
  refine ⟨h.ok 32, c 2, h.P 32 1 2, h.ok 2, xr_size (h.rowP (by omega)) ⟨fun z => ?_, fun z => ⟨h.ok 32, ?_⟩⟩⟩
  · rw [if_pos ((nI_eq (b := 0) (by omega) (by decide)).mp z)] at hp
    exact hp S h
  · rw [if_neg (fun q => z (by rw [q]; rfl))] at hp
    rw [h.o.2.1]
    exact hp S h
theorem bound_0 (hb : Base A) : bound A 0 = none := by
  cases ho : bound A 0 with
  | none => rfl
  | some p =>
    obtain ⟨k, b, hk, hb2, rfl, hm⟩ := bnd_some hb.1.1.2 hb.1.2.1 ho
    unfold mt at hm
    rw [Bool.and_eq_true] at hm
    have h0 := of_decide_eq_true hm.1
    have h1 := (hb.2.1 k b hk hb2).2
    omega
theorem xq_pbind {post : Int32 → pS → Prop} (h : RepX e0 c la A S) (hb : Base A) (h12 : A.s 12 ≤ 3) (hp : ∀ S', RepX e0 c la (a_pbind A).2 S' → post (a_pbind A).1 S') : wp_X4_pendingBinding post (c 32) S := by
  unfold wp_X4_pendingBinding
  unfold a_pbind at hp
  refine ⟨h.ok 32, c 2, h.P 32 1 2, h.ok 2, xr_size (h.rowP (by omega)) ⟨h.ok 32, xx_find h hb.1 (by omega) (Nat.le_refl _) ?_⟩⟩
  by_cases q : A.s 12 = 0
  · rw [if_pos q] at hp
    rw [q, bound_0 hb]
    exact hp S h
  · rw [if_neg q] at hp
    cases ho : bound A (A.s 12) with
    | none => rw [ho] at hp; exact hp S h
    | some p => rw [ho] at hp; exact hp S h
theorem xq_flag {post : Int32 → pS → Prop} {x : Int32} (h : RepX e0 c la A S) (hp : ∀ S', RepX e0 c la (a_flag A x).2 S' → post (a_flag A x).1 S') : wp_X4_flag post (c 32) x S := by
  unfold wp_X4_flag
  unfold a_flag at hp
  refine ⟨h.ok 32, xx_flg h (fun hi => ⟨fun z => absurd z (by decide), fun _ => ⟨h.ok 32, c 28, h.P 32 6 28, h.ok 28, ?_⟩⟩) (fun hi => ⟨fun _ => ?_, fun z => absurd rfl z⟩)⟩
  · rw [if_pos hi] at hp
    obtain ⟨k, hk, rfl⟩ := x_nat (h := 5) rfl hi
    rw [nI_clamp (by omega)] at hp
    refine ⟨vin_of (L := 6) (h.1.2.2.2.1 28 (by decide) (by decide)) (vp_in_nI (show k < 6 by omega) (by decide)), ?_⟩
    rw [nI_clamp (by omega), show S.I (c 28) k = nI (A.w 0 k) from h.X 28 k (by decide) (by omega)]
    exact hp S h
  · rw [if_neg hi] at hp
    exact hp S h
theorem xq_ssize {post : Int32 → pS → Prop} (h : RepX e0 c la A S) (h1 : A.s 1 ≤ 4) (hp : ∀ S', RepX e0 c la (a_ssize A).2 S' → post (a_ssize A).1 S') : wp_X4_stackSize post (c 32) S := by
  unfold wp_X4_stackSize
  exact ⟨h.ok 32, c 26, h.P 32 5 26, h.ok 26, xl_size (h.ok 26) (h.listS h1).2.2.2.2.1 (hp S h)⟩
theorem xq_sctx {post : Int32 → pS → Prop} {x : Int32} (h : RepX e0 c la A S) (hr : WFr A) (hp : ∀ S', RepX e0 c la (a_sctx A x).2 S' → post (a_sctx A x).1 S') : wp_X4_stackContext post (c 32) x S := by
  have h1 := hr.1
  unfold wp_X4_stackContext
  unfold a_sctx at hp
  have hS := h.listS h1.2
  refine ⟨fun z => ⟨h.ok 32, c 26, h.P 32 5 26, h.ok 26, xl_size (h.ok 26) hS.2.2.2.2.1 ⟨fun w => ⟨h.ok 32, c 26, h.P 32 5 26, h.ok 26, xl_size (h.ok 26) hS.2.2.2.2.1 ⟨h.ok 26, ?_⟩⟩, fun w => ?_⟩⟩, fun z => ?_⟩
  · rw [if_neg (x_ge.mp z), if_neg (Int32.not_le.mpr w)] at hp
    obtain ⟨k, hk, rfl⟩ := x_lt_n (x_ge.mp z) (Int32.not_le.mpr w) (by omega)
    rw [nI_clamp (by omega)] at hp
    rw [show (1 : Int32) = nI 1 from rfl, pk_sub h1.1, pk_sub (by omega)]
    have hc := hr.2.1 (A.s 1 - 1 - k) (by omega)
    have hC := h.okC hc
    refine xl_get hS (by omega) (h.2.2.1 _ (by omega)) ⟨hC.1, ?_⟩
    rw [hC.2.2.2.1]
    exact hp S h
  · rw [if_neg (x_ge.mp z), if_pos (Int32.not_lt.mp w)] at hp
    exact hp S h
  · rw [if_pos (by rw [x_ge] at z; exact Classical.not_not.mp z)] at hp
    exact hp S h
theorem recX_m1 {r : Nat} : recX r = -1 ↔ ¬ r < 4 := by
  unfold recX
  by_cases h : r < 4
  · rw [if_pos h]
    refine ⟨fun q => ?_, fun q => absurd h q⟩
    have : ¬ nI r < 0 := nI_pos (by omega)
    rw [q] at this
    exact absurd (by decide) this
  · rw [if_neg h]
    exact ⟨fun _ => h, fun _ => rfl⟩
theorem xq_start {post : Int32 → pS → Prop} {x : Int32} (h : RepX e0 c la A S) (h21 : ∀ m, m < 4 → A.w 21 m ≤ 12) (hp : ∀ S', RepX e0 c la (a_start A x).2 S' → post (a_start A x).1 S') : wp_X4_startRecording post (c 32) x S := by
  unfold wp_X4_startRecording
  unfold a_start at hp
  refine ⟨h.ok 32, xx_mac h (fun hi => ⟨fun z => absurd z (by decide), fun _ => ⟨h.ok 32, ?_⟩⟩) (fun hi => ⟨fun _ => ?_, fun z => absurd rfl z⟩)⟩
  · rw [if_pos hi] at hp
    obtain ⟨k, hk, rfl⟩ := x_nat (h := 3) rfl hi
    rw [nI_clamp (by omega)] at hp
    rw [h.o.2.2.1]
    have hrow := h.rowM (m := k) (by omega) (h21 k (by omega))
    refine ⟨fun z => ⟨c 6, h.P 32 3 6, h.ok 6, xl_get h.listM (by omega) (h.getM (by omega)) ⟨h.okM (by omega), xr_size hrow ⟨h.okM (by omega), xr_clear hrow ?_⟩⟩⟩, fun z => ?_⟩
    · rw [if_neg (recX_m1.mp z)] at hp
      have h1 := h.clrM (m := k) (by omega)
      refine ⟨h1.ok 32, ?_⟩
      intro S19 e19
      have h2 := h1.setR k
      rw [show recX k = nI k from if_pos (by omega), ← e19] at h2
      exact hp S19 h2
    · rw [if_pos (Classical.not_not.mp (fun q => z (recX_m1.mpr q)))] at hp
      exact hp S h
  · rw [if_neg hi] at hp
    exact hp S h
theorem xq_stop {post : Int32 → pS → Prop} (h : RepX e0 c la A S) (h21 : ∀ m, m < 4 → A.w 21 m ≤ 12) (hp : ∀ S', RepX e0 c la (a_stop A).2 S' → post (a_stop A).1 S') : wp_X4_stopRecording post (c 32) S := by
  unfold wp_X4_stopRecording
  unfold a_stop at hp
  refine ⟨h.ok 32, ?_⟩
  rw [h.o.2.2.1]
  by_cases hq : A.s 20 < 4
  · have er : recX (A.s 20) = nI (A.s 20) := if_pos hq
    rw [if_pos hq] at hp
    rw [er]
    refine xx_mac h (fun _ => ⟨fun z => absurd z (by decide), fun _ => ⟨h.ok 32, c 6, h.P 32 3 6, h.ok 6, ?_⟩⟩) (fun z => absurd (inR_iff.mp ((inR_nI (h := 3) rfl (by omega)).mpr (by omega))) z)
    rw [h.o.2.2.1, er]
    refine xl_get h.listM (by omega) (h.getM hq) ⟨h.okM hq, xr_size (h.rowM hq (h21 _ hq)) ⟨h.ok 32, ?_⟩⟩
    intro S15 e15
    have h1 := h.setR 4
    rw [show recX 4 = (-1 : Int32) from rfl, ← e15] at h1
    exact hp S15 h1
  · have er : recX (A.s 20) = -1 := if_neg hq
    rw [if_neg hq] at hp
    rw [er]
    exact xx_mac h (fun z => absurd z.1 (by decide)) (fun _ => ⟨fun _ => hp S h, fun z => absurd rfl z⟩)
theorem xq_mkey {post : Int32 → pS → Prop} {x i : Int32} (h : RepX e0 c la A S) (h21 : ∀ m, m < 4 → A.w 21 m ≤ 12) (hp : ∀ S', RepX e0 c la (a_mkey A x i).2 S' → post (a_mkey A x i).1 S') : wp_X4_macroKey post (c 32) x i S := by
  unfold wp_X4_macroKey
  unfold a_mkey at hp
  refine ⟨h.ok 32, xx_mac h (fun hi => ⟨fun z => absurd z (by decide), fun _ => ?_⟩) (fun hi => ⟨fun _ => ?_, fun z => absurd rfl z⟩)⟩
  · rw [if_pos hi] at hp
    obtain ⟨k, hk, rfl⟩ := x_nat (h := 3) rfl hi
    rw [nI_clamp (by omega)] at hp
    have h12 := h21 k (by omega)
    refine ⟨fun z => ⟨h.ok 32, c 6, h.P 32 3 6, h.ok 6, xl_get h.listM (by omega) (h.getM (by omega)) ⟨h.okM (by omega), xr_at (h.rowM (by omega) h12) (fun w => absurd w (x_ge.mp z)) (fun w w1 => ?_) (fun j hj e => ?_)⟩⟩, fun z => ?_⟩
    · rw [if_neg w, if_pos w1] at hp
      exact hp S h
    · subst e
      rw [if_neg (nI_pos (by omega)), if_neg (nI_ge hj (by omega)), nI_clamp (by omega)] at hp
      rw [h.keyM (by omega) hj]
      exact hp S h
    · rw [if_pos (by rw [x_ge] at z; exact Classical.not_not.mp z)] at hp
      exact hp S h
  · rw [if_neg hi] at hp
    exact hp S h
theorem xq_rcount {post : Int32 → pS → Prop} (h : RepX e0 c la A S) (hp : ∀ S', RepX e0 c la (a_rcount A).2 S' → post (a_rcount A).1 S') : wp_X4_reportCount post (c 32) S := by
  unfold wp_X4_reportCount
  refine ⟨h.ok 32, c 29, h.P 32 7 29, h.ok 29, ?_⟩
  rw [show S.I (c 29) 2 = nI (A.s 23) from h.log.2.2.2.2.2.2.2.2]
  exact hp S h
theorem xq_kind {post : Int32 → pS → Prop} {x : Int32} (h : RepX e0 c la A S) (h23 : A.s 23 < 2147483647) (hp : ∀ S', RepX e0 c la (a_rep A 24 x).2 S' → post (a_rep A 24 x).1 S') : wp_X4_reportKind post (c 32) x S := by
  unfold wp_X4_reportKind
  unfold a_rep at hp
  refine ⟨fun z => ⟨h.ok 32, c 29, h.P 32 7 29, h.ok 29, xg_kind h.log h23 (x_ge.mp z) (fun w => ?_) (fun w w1 => ?_)⟩, fun z => ?_⟩
  · rw [if_neg (x_ge.mp z)] at hp
    rcases w with w | w
    · rw [if_pos w] at hp; exact hp S h
    · by_cases q : nI (A.s 23) ≤ x
      · rw [if_pos q] at hp; exact hp S h
      · rw [if_neg q, if_pos w] at hp; exact hp S h
  · rw [if_neg (x_ge.mp z), if_neg w, if_neg w1] at hp
    rw [show S.I (c 30) (x.toNatClampNeg % 40) = nI (A.w 24 (x.toNatClampNeg % 40)) from h.X 30 _ (by decide) (Nat.mod_lt _ (by decide))]
    exact hp S h
  · rw [if_pos (by rw [x_ge] at z; exact Classical.not_not.mp z)] at hp
    exact hp S h
theorem xq_arg {post : Int32 → pS → Prop} {x : Int32} (h : RepX e0 c la A S) (h23 : A.s 23 < 2147483647) (hp : ∀ S', RepX e0 c la (a_rep A 25 x).2 S' → post (a_rep A 25 x).1 S') : wp_X4_reportArgument post (c 32) x S := by
  unfold wp_X4_reportArgument
  unfold a_rep at hp
  refine ⟨fun z => ⟨h.ok 32, c 29, h.P 32 7 29, h.ok 29, xg_arg h.log h23 (x_ge.mp z) (fun w => ?_) (fun w w1 => ?_)⟩, fun z => ?_⟩
  · rw [if_neg (x_ge.mp z)] at hp
    rcases w with w | w
    · rw [if_pos w] at hp; exact hp S h
    · by_cases q : nI (A.s 23) ≤ x
      · rw [if_pos q] at hp; exact hp S h
      · rw [if_neg q, if_pos w] at hp; exact hp S h
  · rw [if_neg (x_ge.mp z), if_neg w, if_neg w1] at hp
    rw [show S.I (c 31) (x.toNatClampNeg % 40) = nI (A.w 25 (x.toNatClampNeg % 40)) from h.X 31 _ (by decide) (Nat.mod_lt _ (by decide))]
    exact hp S h
  · rw [if_pos (by rw [x_ge] at z; exact Classical.not_not.mp z)] at hp
    exact hp S h
end XQ
