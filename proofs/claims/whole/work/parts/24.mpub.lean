/-! THE REFERENCE'S public methods at the abstract state: works, press, tick, and the small ones -/
theorem mv_works {post : vS → Prop} : ∀ (f : Nat) (A : aS), Phi A ≤ f → PInv A → A.s 23 + Phi A < 2147483647 → post (toV (wkA f A)) → wv_X5_works_L0 post (f + 1) (toV A) := by
  intro f
  induction f with
  | zero =>
    intro A hf hp _ h
    have h0 : A.s 16 = 0 := by
      have := hp.2.1.2.2.1
      unfold Phi at hf
      omega
    rw [wkA] at h
    unfold wv_X5_works_L0
    rw [toV_s (by decide), h0]
    exact ⟨fun _ => h, fun c => absurd (by decide) c⟩
  | succ f ih =>
    intro A hf hp h23 h
    rw [wkA] at h
    have hbd := hp.2.1.bd
    have htot := hp.2.2.1
    unfold wv_X5_works_L0
    rw [toV_s (by decide)]
    by_cases h0 : A.s 16 = 0
    · rw [if_pos h0] at h
      rw [h0]
      exact ⟨fun _ => h, fun c => absurd (by decide) c⟩
    · rw [if_neg h0] at h
      refine ⟨fun c => absurd c (nI_nle (by omega) (by omega)), fun _ => ?_⟩
      obtain ⟨s1, s2, s3, s4⟩ := step_inv hp (by omega)
      intro V3 e3
      replace e3 := e3.trans (toV_setS (v := A.s 16 - 1) (by decide) (by rw [show (1 : Int32) = nI 1 from rfl, pk_sub (by omega)]))
      subst e3
      rw [toV_s (by decide), show (A.setS 16 (A.s 16 - 1)).s 16 = A.s 16 - 1 from rfl, nI_clamp (by omega), toV_a (by decide) (by decide), show (A.setS 16 (A.s 16 - 1)).w 17 = A.w 17 from rfl]
      have hx := (hp.2.1.1 (A.s 16 - 1) (by omega)).1
      refine ⟨vp_in_nI (by omega) (by decide), fun c => ?_, fun c => ?_⟩
      · have c := (nI_eq (b := 12) (by omega) (by decide)).mp c
        have e : stepA A = (popA A).setS 18 (A.s 18 - 1) := by unfold stepA; rw [if_pos c]
        have hc : cn (A.w 17) (A.s 16 - 1) + 1 = A.s 18 := by
          have : cn (A.w 17) ((A.s 16 - 1) + 1) = A.s 18 := by rw [show A.s 16 - 1 + 1 = A.s 16 by omega]; exact hp.2.1.2.1
          rw [cn, if_pos c] at this
          exact this
        intro V26 e26
        replace e26 := e26.trans (toV_setS (v := A.s 18 - 1) (by decide) (show nI (A.s 18) - 1 = nI (A.s 18 - 1) by rw [show (1 : Int32) = nI 1 from rfl, pk_sub (by omega)]))
        subst e26
        rw [e] at s1 s2 s3 s4 h
        exact ih ((popA A).setS 18 (A.s 18 - 1)) (by omega) s1 (by omega) h
      · have hk : A.w 17 (A.s 16 - 1) ≠ 12 := fun q => c (by rw [q]; rfl)
        obtain ⟨ke, k12, k16, kj⟩ := key_inv hp (by omega) hk
        have h12 := hp.2.2.2.1
        rw [toV_s (by decide), show (A.setS 16 (A.s 16 - 1)).s 12 = A.s 12 from rfl, nI_clamp (by omega)]
        refine ⟨vp_in_nI (by omega) (by decide), ?_⟩
        intro V14 e14
        replace e14 := e14.trans (toV_setW (v := A.w 17 (A.s 16 - 1)) (by decide) (by decide) rfl)
        subst e14
        intro V16 e16
        replace e16 := e16.trans (toV_setS (v := A.s 12 + 1) (by decide) (nI_1 _))
        replace e16 : V16 = toV (keyA A) := e16
        subst e16
        refine mv_ext ke.1.1 (by omega) ⟨fun c1 => ?_, fun c1 => ?_⟩
        · have hx : ¬ ext (keyA A) = true := fun q => by rw [q] at c1; exact absurd c1 (by decide)
          have e : stepA A = ends (keyA A) := by unfold stepA; rw [if_neg hk, if_neg hx]
          rw [e] at s1 s2 s3 s4 h
          exact mv_ends (ke.en (by rw [kj 23 (by decide) (by decide)]; omega)) (ih _ (by omega) s1 (by omega) h)
        · have hx : ext (keyA A) = true := by
            cases q : ext (keyA A) with
            | true => rfl
            | false => rw [q] at c1; exact absurd rfl c1
          have e : stepA A = (keyA A).setS 15 (A.s 14) := by unfold stepA; rw [if_neg hk, if_pos hx]
          rw [e] at s1 s2 s3 s4 h
          intro V25 e25
          replace e25 := e25.trans (toV_setS (v := A.s 14) (by decide) (show nI ((keyA A).s 14) = nI (A.s 14) by rw [kj 14 (by decide) (by decide)]))
          subst e25
          exact ih _ (by omega) s1 (by omega) h
/-- between calls -/
def Inv (A : aS) (R : Nat) : Prop := Base A ∧ A.s 16 = 0 ∧ A.s 18 = 0 ∧ A.s 19 ≤ 20 ∧ A.s 12 ≤ 3 ∧ (∀ k, k < A.s 12 → A.w 13 k < 12) ∧ (0 < A.s 12 → 1 ≤ A.s 15 ∧ A.s 15 ≤ 99) ∧ A.s 10 ≤ 4 ∧ (∀ k, k < A.s 10 → A.w 11 k < 12) ∧ A.s 23 ≤ R
def rcd (A : aS) (x : Nat) : aS := if A.s 20 < 4 ∧ A.w 21 (A.s 20) < 12 then (A.setW 22 (12 * A.s 20 + A.w 21 (A.s 20)) x).setW 21 (A.s 20) (A.w 21 (A.s 20) + 1) else A
theorem rcd_s {A : aS} {x : Nat} : (rcd A x).s = A.s := by
  unfold rcd
  by_cases h : A.s 20 < 4 ∧ A.w 21 (A.s 20) < 12
  · rw [if_pos h]; rfl
  · rw [if_neg h]
theorem rcd_w {A : aS} {x j : Nat} (h1 : j ≠ 21) (h2 : j ≠ 22) : (rcd A x).w j = A.w j := by
  unfold rcd
  by_cases h : A.s 20 < 4 ∧ A.w 21 (A.s 20) < 12
  · rw [if_pos h, setW_wn h1, setW_wn h2]
  · rw [if_neg h]
theorem rcd_z {A : aS} {x : Nat} : (rcd A x).z = A.z := by
  unfold rcd
  by_cases h : A.s 20 < 4 ∧ A.w 21 (A.s 20) < 12
  · rw [if_pos h]; rfl
  · rw [if_neg h]
theorem Base.rc {A : aS} {x : Nat} (h : Base A) (hx : x < 12) : Base (rcd A x) := by
  have h0 := h
  obtain ⟨⟨a1, a2, a3, a4, a5⟩, b, c1, c2, c3, c4⟩ := h
  unfold rcd
  by_cases hc : A.s 20 < 4 ∧ A.w 21 (A.s 20) < 12
  · rw [if_pos hc]
    have e : ∀ j, j ≠ 21 → j ≠ 22 → ((A.setW 22 (12 * A.s 20 + A.w 21 (A.s 20)) x).setW 21 (A.s 20) (A.w 21 (A.s 20) + 1)).w j = A.w j := fun j h1 h2 => by rw [setW_wn h1, setW_wn h2]
    refine ⟨⟨a1, ?_, ?_, ?_, a5⟩, ?_, ?_, ?_, c3, c4⟩
    · rw [e 2 (by decide) (by decide)]; exact a2
    · rw [e 3 (by decide) (by decide)]; exact a3
    · rw [e 4 (by decide) (by decide)]; exact a4
    · unfold BOK at b ⊢
      rw [e 3 (by decide) (by decide), e 4 (by decide) (by decide), e 8 (by decide) (by decide), e 9 (by decide) (by decide)]; exact b
    · intro m hm
      rw [aS.w_setW]
      by_cases q : m = A.s 20
      · rw [if_pos ⟨rfl, q⟩]; omega
      · rw [if_neg (fun z => q z.2), setW_wn (by decide)]; exact c1 m hm
    · intro m hm
      rw [setW_wn (by decide), aS.w_setW]
      by_cases q : m = 12 * A.s 20 + A.w 21 (A.s 20)
      · rw [if_pos ⟨rfl, q⟩]; exact hx
      · rw [if_neg (fun z => q z.2)]; exact c2 m hm
  · rw [if_neg hc]; exact h0
def prA (A : aS) (x : Nat) : aS := adds (rcd (A.setS 19 0) x) x
theorem pr_inv {A : aS} {x R : Nat} (h : Inv A R) (hx : x < 12) : PInv (prA A x) ∧ Phi (prA A x) ≤ 1000 ∧ (prA A x).s 23 = A.s 23 ∧ (prA A x).s 10 = A.s 10 ∧ (prA A x).w 11 = A.w 11 := by
  obtain ⟨hb, h16, h18, h19, h12, h13, h15, h10, h11, h23⟩ := h
  have es : (rcd (A.setS 19 0) x).s = (A.setS 19 0).s := rcd_s
  have hb1 : Base (rcd (A.setS 19 0) x) := (hb.setS (j := 19) (by decide) (by decide) (by decide)).rc hx
  have hk : Stk (rcd (A.setS 19 0) x) := by
    unfold Stk
    rw [es]
    show (∀ i, i < A.s 16 → _) ∧ cn _ (A.s 16) = A.s 18 ∧ A.s 18 ≤ 3 ∧ A.s 18 ≤ 0 ∧ 0 ≤ 20
    rw [h16, h18]
    exact ⟨fun i hi => absurd hi (by omega), rfl, by decide, by decide, by decide⟩
  have e16 : (prA A x).s 16 = 1 := by
    unfold prA
    rw [adds_s, if_pos rfl, es]
    show A.s 16 + 1 = 1
    omega
  have ej : ∀ j, j ≠ 16 → j ≠ 19 → (prA A x).s j = A.s j := fun j h1 h2 => by
    unfold prA
    rw [adds_s, if_neg h1, es]
    exact if_neg h2
  have e19 : (prA A x).s 19 = 0 := by
    unfold prA
    rw [adds_s, if_neg (by decide), es]
    rfl
  have e13 : (prA A x).w 13 = A.w 13 := by
    unfold prA
    rw [adds_wn (by decide), rcd_w (by decide) (by decide)]
    rfl
  refine ⟨⟨hb1.ad, hk.ad hx, ?_, ?_, ?_, ?_⟩, ?_, ej 23 (by decide) (by decide), ej 10 (by decide) (by decide), ?_⟩
  · unfold Bd
    rw [e16, ej 12 (by decide) (by decide), e19, ej 18 (by decide) (by decide)]; omega
  · rw [ej 12 (by decide) (by decide)]; exact h12
  · rw [ej 12 (by decide) (by decide), e13]; exact h13
  · rw [ej 12 (by decide) (by decide), ej 15 (by decide) (by decide)]; exact h15
  · unfold Phi
    rw [e16, ej 12 (by decide) (by decide), e19, ej 18 (by decide) (by decide)]; omega
  · unfold prA
    rw [adds_wn (by decide), rcd_w (by decide) (by decide)]
    rfl
def a_press (A : aS) (x : Int32) : Int32 × aS := if 0 ≤ x ∧ x ≤ 11 then (nI ((wkA 1000 (prA A x.toNatClampNeg)).s 23) - nI (A.s 23), wkA 1000 (prA A x.toNatClampNeg)) else (-1, A)
theorem inR_iff {x lo hi : Int32} : inR x lo hi ↔ lo ≤ x ∧ x ≤ hi := by
  unfold inR
  rw [Int32.not_lt, Int32.not_lt]
theorem mv_press {post : Int32 → vS → Prop} {A : aS} {x : Int32} {R : Nat} (hA : Inv A R) (hR : R + 1000 < 2147483647) (h : post (a_press A x).1 (toV (a_press A x).2)) : wv_X5_press post x (toV A) := by
  unfold wv_X5_press
  refine mv_in (fun hi => ⟨fun c => absurd c (by decide), fun _ => ?_⟩) (fun hi => ⟨fun _ => ?_, fun c => absurd rfl c⟩)
  · unfold a_press at h
    rw [if_pos (inR_iff.mp hi)] at h
    obtain ⟨k, hk, rfl⟩ := inR_nat (h := 11) rfl hi
    rw [nI_clamp (by omega)] at h
    have hp := pr_inv hA (x := k) (by omega)
    obtain ⟨hb, h16, h18, h19, h12, h13, h15, h10, h11, h23⟩ := hA
    have hfin : wv_X5_adds (fun V9 => (wv_X5_works (fun V11 => post ((V11.s 23) - ((toV A).s 23)) V11) V9)) (nI k) (toV (rcd (A.setS 19 0) k)) := by
      refine mv_adds (by rw [rcd_s]; show A.s 16 < 100; omega) ?_
      exact ⟨1001, mv_works 1000 _ hp.2.1 hp.1 (by have := hp.2.1; have := hp.2.2.1; change (prA A k).s 23 + Phi (prA A k) < 2147483647; omega) h⟩
    intro V5 e5
    replace e5 := e5.trans (toV_setS (v := 0) (by decide) rfl)
    subst e5
    rw [toV_r, show (A.setS 19 0).s 20 = A.s 20 from rfl]
    have h20 := hb.2.2.2.2.1
    by_cases hq : A.s 20 < 4
    · have er : recM (A.s 20) = nI (A.s 20) := if_pos hq
      have h21 := hb.2.2.1 _ hq
      rw [er, nI_clamp (by omega), toV_a (by decide) (by decide), show (A.setS 19 0).w 21 = A.w 21 from rfl]
      refine ⟨fun c => absurd c (nI_pos (by omega)), fun _ => ⟨vp_in_nI hq (by decide), fun c => ?_, fun c => ⟨vp_in_nI hq (by decide), ?_⟩⟩⟩
      · have hn : ¬ ((A.setS 19 0).s 20 < 4 ∧ (A.setS 19 0).w 21 ((A.setS 19 0).s 20) < 12) := by
          intro q
          exact absurd c (nI_ge (b := 12) q.2 (by decide))
        have e : rcd (A.setS 19 0) k = A.setS 19 0 := by unfold rcd; rw [if_neg hn]
        rw [e] at hfin
        exact hfin
      · have hl : A.w 21 (A.s 20) < 12 := by
          rcases Nat.lt_or_ge (A.w 21 (A.s 20)) 12 with q | q
          · exact q
          · exact absurd (nI_le (a := 12) q (by omega)) c
        have e : rcd (A.setS 19 0) k = ((A.setS 19 0).setW 22 (12 * A.s 20 + A.w 21 (A.s 20)) k).setW 21 (A.s 20) (A.w 21 (A.s 20) + 1) := by unfold rcd; rw [if_pos ⟨hq, hl⟩]; rfl
        rw [show (12 : Int32) = nI 12 from rfl, ix, nI_clamp (by omega)]
        refine ⟨vp_in_nI (by omega) (by decide), ?_⟩
        intro V30 e30
        replace e30 := e30.trans (toV_setW (v := k) (by decide) (by decide) rfl)
        subst e30
        rw [toV_r, show ((A.setS 19 0).setW 22 (12 * A.s 20 + A.w 21 (A.s 20)) k).s 20 = A.s 20 from rfl, er, nI_clamp (by omega)]
        refine ⟨vp_in_nI hq (by decide), vp_in_nI hq (by decide), ?_⟩
        intro V36 e36
        rw [toV_a (by decide) (by decide), setW_wn (by decide)] at e36
        replace e36 := e36.trans (toV_setW (v := A.w 21 (A.s 20) + 1) (by decide) (by decide) (nI_1 _))
        rw [← e] at e36
        subst e36
        exact hfin
    · have er : recM (A.s 20) = -4 := if_neg hq
      rw [er]
      refine ⟨fun _ => ?_, fun c => absurd (by decide) c⟩
      have hn : ¬ ((A.setS 19 0).s 20 < 4 ∧ (A.setS 19 0).w 21 ((A.setS 19 0).s 20) < 12) := fun q => hq q.1
      have e : rcd (A.setS 19 0) k = A.setS 19 0 := by unfold rcd; rw [if_neg hn]
      rw [e] at hfin
      exact hfin
  · unfold a_press at h
    rw [if_neg (fun q => hi (inR_iff.mpr q))] at h
    exact h
-- tick
def tkA : Nat → aS → aS
  | 0, A => A
  | t + 1, A => if A.s 12 = 0 then A else if A.s 15 - 1 = 0 then tkA t (wkA 1000 (ends (A.setS 15 (A.s 15 - 1)))) else tkA t (A.setS 15 (A.s 15 - 1))
def a_tick (A : aS) (x : Int32) : Int32 × aS := if 0 ≤ x ∧ x ≤ 999 then (nI ((tkA x.toNatClampNeg (A.setS 19 0)).s 23) - nI (A.s 23), tkA x.toNatClampNeg (A.setS 19 0)) else (-1, A)
theorem tk_e {A : aS} (h : PInv A) (h16 : A.s 16 = 0) (h0 : A.s 12 ≠ 0) (v : Nat) : EInv (A.setS 15 v) ∧ Phi (ends (A.setS 15 v)) ≤ 1000 := by
  obtain ⟨hb, hs, ht, h12, h13, h15⟩ := h
  have he : EInv (A.setS 15 v) := ⟨hb.setS (by decide) (by decide) (by decide), hs.of rfl rfl rfl rfl, ht, ⟨by show 1 ≤ A.s 12; omega, by show A.s 12 ≤ 4; omega⟩, h13⟩
  refine ⟨he, ?_⟩
  have h := (ends_inv he).2.2.1
  have h18 := hs.2.1
  rw [h16] at h18
  have h18 : 0 = A.s 18 := h18
  have h : Phi (ends (A.setS 15 v)) + 4 ≤ 4 * (A.s 16 - A.s 18) + 4 * A.s 12 + A.s 18 + 49 * (20 - A.s 19) := h
  omega
theorem tk_inv : ∀ (t : Nat) (A : aS), PInv A → A.s 16 = 0 → PInv (tkA t A) ∧ (tkA t A).s 16 = 0 ∧ A.s 23 ≤ (tkA t A).s 23 ∧ (tkA t A).s 23 ≤ A.s 23 + 1001 * t := by
  intro t
  induction t with
  | zero => intro A h h16; rw [tkA]; exact ⟨h, h16, Nat.le_refl _, by omega⟩
  | succ t ih =>
    intro A h h16
    rw [tkA]
    by_cases h0 : A.s 12 = 0
    · rw [if_pos h0]; exact ⟨h, h16, Nat.le_refl _, by omega⟩
    · rw [if_neg h0]
      by_cases hl : A.s 15 - 1 = 0
      · rw [if_pos hl]
        obtain ⟨he, hphi⟩ := tk_e h h16 h0 (A.s 15 - 1)
        obtain ⟨g1, g2, g3, g4, g5⟩ := ends_inv he
        obtain ⟨w1, w2, w3, w4⟩ := wk_inv 1000 _ g1 hphi
        obtain ⟨a1, a2, a3, a4⟩ := ih _ w1 w2
        have g4 : A.s 23 ≤ (ends (A.setS 15 (A.s 15 - 1))).s 23 := g4
        have g5 : (ends (A.setS 15 (A.s 15 - 1))).s 23 ≤ A.s 23 + 1 := g5
        exact ⟨a1, a2, by omega, by omega⟩
      · rw [if_neg hl]
        obtain ⟨hb, hs, ht, h12, h13, h15⟩ := h
        have h15' := h15 (by omega)
        obtain ⟨a1, a2, a3, a4⟩ := ih (A.setS 15 (A.s 15 - 1)) ⟨hb.setS (by decide) (by decide) (by decide), hs.of rfl rfl rfl rfl, ht, h12, h13, fun _ => ⟨by show 1 ≤ A.s 15 - 1; omega, by show A.s 15 - 1 ≤ 99; omega⟩⟩ h16
        have a3 : A.s 23 ≤ (tkA t (A.setS 15 (A.s 15 - 1))).s 23 := a3
        have a4 : (tkA t (A.setS 15 (A.s 15 - 1))).s 23 ≤ A.s 23 + 1001 * t := a4
        exact ⟨a1, a2, a3, by omega⟩
theorem mv_tickL {post : Int32 → vS → Prop} {T : Nat} {r : Int32} (hT : T ≤ 999) : ∀ (t : Nat) (A : aS), t ≤ T → PInv A → A.s 16 = 0 → A.s 23 + 1001 * t < 2147483000 → post (nI ((tkA t A).s 23) - r) (toV (tkA t A)) → wv_X5_tick_L25 post (t + 1) (nI T) r (nI (T - t)) (toV A) := by
  intro t
  induction t with
  | zero =>
    intro A _ _ _ _ h
    rw [tkA] at h
    unfold wv_X5_tick_L25
    exact ⟨fun _ => h, fun c => absurd (nI_le (by omega) (by omega)) c⟩
  | succ t ih =>
    intro A htT hp h16 h23 h
    rw [tkA] at h
    unfold wv_X5_tick_L25
    rw [toV_s (by decide), toV_s (by decide)]
    refine ⟨fun c => absurd c (nI_ge (by omega) (by omega)), fun _ => ?_⟩
    have hnx : nI (T - (t + 1)) + 1 = nI (T - t) := by rw [nI_1]; congr 1; omega
    rw [hnx]
    have h12 := hp.2.2.2.1
    by_cases h0 : A.s 12 = 0
    · rw [if_pos h0] at h
      rw [h0]
      exact ⟨fun _ => h, fun c => absurd (by decide) c⟩
    · rw [if_neg h0] at h
      refine ⟨fun c => absurd c (nI_nle (by omega) (by omega)), fun _ => ?_⟩
      have h15 := hp.2.2.2.2.2 (by omega)
      intro V10 e10
      replace e10 := e10.trans (toV_setS (v := A.s 15 - 1) (by decide) (show nI (A.s 15) - 1 = nI (A.s 15 - 1) by rw [show (1 : Int32) = nI 1 from rfl, pk_sub (by omega)]))
      subst e10
      rw [toV_s (by decide), show (A.setS 15 (A.s 15 - 1)).s 15 = A.s 15 - 1 from rfl]
      refine ⟨fun c => ?_, fun c => ?_⟩
      · have c := (nI_eq (b := 0) (by omega) (by decide)).mp c
        rw [if_pos c] at h
        obtain ⟨he, hphi⟩ := tk_e hp h16 h0 (A.s 15 - 1)
        obtain ⟨g1, g2, g3, g4, g5⟩ := ends_inv he
        obtain ⟨w1, w2, w3, w4⟩ := wk_inv 1000 _ g1 hphi
        have g5 : (ends (A.setS 15 (A.s 15 - 1))).s 23 ≤ A.s 23 + 1 := g5
        refine mv_ends (he.en (show A.s 23 < 2147483647 by omega)) ⟨1001, mv_works 1000 _ hphi g1 (by omega) ?_⟩
        exact ih _ (by omega) w1 w2 (by omega) h
      · have c : A.s 15 - 1 ≠ 0 := fun q => c (by rw [q]; rfl)
        rw [if_neg c] at h
        obtain ⟨hb, hs, ht, _, h13, _⟩ := hp
        exact ih (A.setS 15 (A.s 15 - 1)) (by omega) ⟨hb.setS (by decide) (by decide) (by decide), hs.of rfl rfl rfl rfl, ht, h12, h13, fun _ => ⟨by show 1 ≤ A.s 15 - 1; omega, by show A.s 15 - 1 ≤ 99; omega⟩⟩ h16 (show A.s 23 + 1001 * t < 2147483000 by omega) h
theorem Inv.p {A : aS} {R : Nat} (h : Inv A R) : PInv (A.setS 19 0) := by
  obtain ⟨hb, h16, h18, h19, h12, h13, h15, h10, h11, h23⟩ := h
  refine ⟨hb.setS (by decide) (by decide) (by decide), ?_, ?_, h12, h13, h15⟩
  · unfold Stk
    show (∀ i, i < A.s 16 → _) ∧ cn _ (A.s 16) = A.s 18 ∧ A.s 18 ≤ 3 ∧ A.s 18 ≤ 0 ∧ 0 ≤ 20
    rw [h16, h18]
    exact ⟨fun i hi => absurd hi (by omega), rfl, by decide, by decide, by decide⟩
  · show A.s 16 + A.s 12 ≤ 4 + 13 * A.s 18 + 2 * (0 - A.s 18)
    omega
theorem mv_tick {post : Int32 → vS → Prop} {A : aS} {x : Int32} {R : Nat} (hA : Inv A R) (hR : R + 1000000 < 2147483000) (h : post (a_tick A x).1 (toV (a_tick A x).2)) : wv_X5_tick post x (toV A) := by
  unfold wv_X5_tick
  refine mv_in (fun hi => ⟨fun c => absurd c (by decide), fun _ => ?_⟩) (fun hi => ⟨fun _ => ?_, fun c => absurd rfl c⟩)
  · unfold a_tick at h
    rw [if_pos (inR_iff.mp hi)] at h
    obtain ⟨k, hk, rfl⟩ := inR_nat (h := 999) rfl hi
    rw [nI_clamp (by omega)] at h
    intro V5 e5
    replace e5 := e5.trans (toV_setS (v := 0) (by decide) rfl)
    subst e5
    have h23 := hA.2.2.2.2.2.2.2.2.2
    have := mv_tickL (post := post) (r := (toV A).s 23) hk k (A.setS 19 0) (Nat.le_refl _) hA.p hA.2.1 (show A.s 23 + 1001 * k < 2147483000 by omega) h
    rw [Nat.sub_self] at this
    exact ⟨k + 1, this⟩
  · unfold a_tick at h
    rw [if_neg (fun q => hi (inR_iff.mpr q))] at h
    exact h
