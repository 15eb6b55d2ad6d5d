/-! THE CLASS'S processing -/
section XP
variable {e0 : Nat} {c la : Nat → Nat}
theorem enc_lt {x : Nat} (h : x < 12) : enc x = nI x := if_neg (by omega)
theorem xp_addW {post : pS → Prop} {A : aS} {S : pS} {x : Nat} (h : RepX e0 c la A S) (h16 : A.s 16 ≤ 100) (hp : ∀ S', RepX e0 c la (adds A x) S' → post S') : wp_X3_add post (c 4) (enc x) S :=
  xr_add (h.rowW h16) (fun e => by omega) (fun _ => hp _ (h.addW x))
theorem xp_playL {post : pS → Prop} {m : Nat} (hm : m < 4) : ∀ (k : Nat) (A : aS) (S : pS), RepX e0 c la A S → k ≤ A.w 21 m → A.w 21 m ≤ 12 → A.s 16 + k ≤ 100 → (∀ q, q < 48 → A.w 22 q < 12) → (∀ S', RepX e0 c la (plD A m k) S' → post S') → wp_X4_play_L56 post (k + 1) (c 32) (c (8 + 2 * m)) (nI k - 1) S := by
  intro k
  induction k with
  | zero =>
    intro A S h _ _ _ _ hp
    unfold wp_X4_play_L56
    refine ⟨fun _ => hp S (by rw [plD]; exact h), fun z => absurd (by decide) z⟩
  | succ k ih =>
    intro A S h hk h21 h16 h22 hp
    unfold wp_X4_play_L56
    rw [nI_pred]
    refine ⟨fun z => absurd z (nI_pos (by omega)), fun _ => ⟨h.ok 32, c 4, h.P 32 2 4, h.okM hm, xr_at (h.rowM hm h21) (fun z => absurd z (nI_pos (by omega))) (fun _ z => absurd z (nI_ge (by omega) (by omega))) (fun j hj e => ?_)⟩⟩
    have e := (nI_eq (by omega) (by omega)).mp e
    subst e
    rw [h.keyM hm (by omega), ← enc_lt (h22 (12 * m + k) (by omega))]
    refine ⟨h.ok 4, xp_addW h (by omega) (fun S' h' => ?_)⟩
    rw [x_m1]
    refine ih (adds A (A.w 22 (12 * m + k))) S' h' ?_ ?_ ?_ ?_ ?_
    · rw [adds_wn (by decide)]; omega
    · rw [adds_wn (by decide)]; exact h21
    · rw [adds_s, if_pos rfl]; omega
    · rw [adds_wn (by decide)]; exact h22
    · intro S2 h2
      exact hp S2 (by rw [plD]; exact h2)
theorem xp_play {post : pS → Prop} {A : aS} {S : pS} {m : Nat} (h : RepX e0 c la A S) (hm : m < 4) (h21 : A.w 21 m ≤ 12) (h16 : A.s 16 + 13 ≤ 100) (h22 : ∀ q, q < 48 → A.w 22 q < 12) (hp : ∀ S', RepX e0 c la (plD (plB A) m (A.w 21 m)) S' → post S') : wp_X4_play post (c 32) (nI m) S := by
  unfold wp_X4_play
  refine ⟨h.ok 32, xx_mac h (fun q => ⟨fun z => absurd z (by decide), fun _ => ⟨h.ok 32, ?_⟩⟩) (fun q => absurd (inR_iff.mp ((inR_nI (h := 3) rfl (by omega)).mpr (by omega))) q)⟩
  intro S6 e6
  rw [h.o.2.2.2.1, nI_1] at e6
  have h6 := h.setG (A.s 18 + 1)
  rw [← e6] at h6
  intro S8 e8
  rw [h6.o.2.2.2.2, show (A.setS 18 (A.s 18 + 1)).s 19 = A.s 19 from rfl, nI_1] at e8
  have h8 := h6.setD (A.s 19 + 1)
  rw [← e8] at h8
  refine ⟨c 4, h8.P 32 2 4, h8.ok 4, ?_⟩
  refine xp_addW (x := 12) h8 (show A.s 16 ≤ 100 by omega) (fun S13 h13 => ?_)
  have h13 : RepX e0 c la (plB A) S13 := h13
  refine ⟨h13.ok 32, c 6, h13.P 32 3 6, h13.ok 6, xl_get h13.listM (by omega) (h13.getM hm) ⟨h13.okM hm, ?_⟩⟩
  have e21 : (plB A).w 21 = A.w 21 := adds_wn (by decide)
  refine xr_size (h13.rowM hm (by rw [e21]; exact h21)) ⟨(plB A).w 21 m + 1, ?_⟩
  refine xp_playL hm _ _ _ h13 (Nat.le_refl _) (by rw [e21]; exact h21) ?_ (by rw [show (plB A).w 22 = A.w 22 from adds_wn (by decide)]; exact h22) (by rw [e21]; exact hp)
  rw [e21]
  show A.s 16 + 1 + A.w 21 m ≤ 100
  omega
def refd (A : aS) (act arg : Nat) : Bool := if act = 1 then decide (A.s 20 = arg ∨ A.s 18 = 3 ∨ A.s 19 = 20) else if act = 2 then decide (A.s 1 = 4) else if act = 3 then decide (A.s 1 = 1) else false
theorem recX_eq {r m : Nat} (hr : r ≤ 4) (hm : m < 4) : nI m = recX r ↔ r = m := by
  unfold recX
  by_cases h : r < 4
  · rw [if_pos h]
    exact ⟨fun e => ((nI_eq (by omega) (by omega)).mp e).symm, fun e => by rw [e]⟩
  · rw [if_neg h]
    refine ⟨fun e => ?_, fun e => by omega⟩
    have : ¬ nI m < 0 := nI_pos (by omega)
    rw [e] at this
    exact absurd (by decide) this
theorem xp_refd {post : Int32 → pS → Prop} {A : aS} {S : pS} {act arg : Nat} (h : RepX e0 c la A S) (hA : PrOK A) (ho : argOK act arg) (hp : post (bI (refd A act arg)) S) : wp_X4_isRefused post (c 32) (nI act) (nI arg) S := by
  obtain ⟨hd, h21, h16, h18, h19, h20, h23⟩ := hA
  obtain ⟨o5, o0, o1, o2, o3, o4⟩ := ho
  have hneq : ∀ k : Nat, k < 100 → (nI act = nI k ↔ act = k) := fun k hk => nI_eq (by omega) (by omega)
  unfold wp_X4_isRefused
  refine ⟨fun q => ⟨h.ok 32, ?_⟩, fun q => ⟨h.ok 32, c 26, h.P 32 5 26, h.ok 26, xl_size (h.ok 26) (h.listS hd.2).2.2.2.2.1 ?_⟩, fun q => ⟨h.ok 32, c 26, h.P 32 5 26, h.ok 26, xl_size (h.ok 26) (h.listS hd.2).2.2.2.2.1 ?_⟩, fun q => ?_⟩
  · have q := (hneq 1 (by decide)).mp q
    subst q
    have hp : post (bI (decide (A.s 20 = arg ∨ A.s 18 = 3 ∨ A.s 19 = 20))) S := hp
    rw [h.o.2.2.1, h.o.2.2.2.1, h.o.2.2.2.2]
    refine ⟨fun z => ?_, fun z => ⟨fun z1 => ?_, fun z1 => ⟨fun z2 => ?_, fun z2 => ?_⟩⟩⟩
    · rw [decide_eq_true (Or.inl ((recX_eq h20 (o1 rfl)).mp z))] at hp
      exact hp
    · rw [decide_eq_true (Or.inr (Or.inl (by
        rcases Nat.lt_or_ge (A.s 18) 3 with w | w
        · exact absurd z1 (nI_ge (b := 3) w (by decide))
        · omega)))] at hp
      exact hp
    · rw [decide_eq_false (by
        rintro (w | w | w)
        · exact z ((recX_eq h20 (o1 rfl)).mpr w)
        · exact z1 (nI_le (a := 3) (by omega) (by omega))
        · exact absurd z2 (nI_nlt (b := 20) (by omega) (by omega)))] at hp
      exact hp
    · rw [decide_eq_true (Or.inr (Or.inr (by
        rcases Nat.lt_or_ge (A.s 19) 20 with w | w
        · exact absurd (nI_lt (b := 20) w (by decide)) z2
        · omega)))] at hp
      exact hp
  · have q := (hneq 2 (by decide)).mp q
    subst q
    have hp : post (bI (decide (A.s 1 = 4))) S := hp
    refine ⟨fun z => ?_, fun z => ?_⟩
    · rw [decide_eq_false (fun w => nI_nlt (b := 4) (by omega) (by omega) z)] at hp
      exact hp
    · rw [decide_eq_true (by
        rcases Nat.lt_or_ge (A.s 1) 4 with w | w
        · exact absurd (nI_lt (b := 4) w (by decide)) z
        · omega)] at hp
      exact hp
  · have q := (hneq 3 (by decide)).mp q
    subst q
    have hp : post (bI (decide (A.s 1 = 1))) S := hp
    refine ⟨fun z => ?_, fun z => ?_⟩
    · rw [decide_eq_false (fun w => nI_nlt (a := 1) (by omega) (by omega) z)] at hp
      exact hp
    · rw [decide_eq_true (by
        rcases Nat.lt_or_ge 1 (A.s 1) with w | w
        · exact absurd (nI_lt (a := 1) w (by omega)) z
        · omega)] at hp
      exact hp
  · have n1 : act ≠ 1 := fun w => q.1 (by rw [w]; rfl)
    have n2 : act ≠ 2 := fun w => q.2.1 (by rw [w]; rfl)
    have n3 : act ≠ 3 := fun w => q.2.2 (by rw [w]; rfl)
    rw [refd, if_neg n1, if_neg n2, if_neg n3] at hp
    exact hp
theorem xp_say {post : pS → Prop} {A : aS} {S : pS} {kd ar : Nat} (h : RepX e0 c la A S) (h23 : A.s 23 < 2147483647) (hp : ∀ S', RepX e0 c la (says A kd ar) S' → post S') : wp_X2_add post (c 29) (nI kd) (nI ar) S := xg_add h.log h23 (hp _ (h.say kd ar))
theorem xp_setFlag {post : Int32 → pS → Prop} {A : aS} {S : pS} {f v : Nat} (h : RepX e0 c la A S) (hf : f < 6) (hv : v ≤ 1) (hp : ∀ S', RepX e0 c la (A.setW 0 f v) S' → post (nI (A.w 0 f)) S') : wp_X4_setFlag post (c 32) (nI f) (nI v) S := by
  unfold wp_X4_setFlag
  refine ⟨h.ok 32, xx_flg h (fun q => ⟨fun z => absurd z (by decide), fun _ => ?_⟩) (fun q => absurd (inR_iff.mp ((inR_nI (h := 5) rfl (by omega)).mpr (by omega))) q)⟩
  refine xx_btw (fun q => ⟨fun z => absurd z (by decide), fun _ => ⟨h.ok 32, c 28, h.P 32 6 28, h.ok 28, ?_⟩⟩) (fun q => absurd (inR_iff.mp ((inR_nI (h := 1) rfl (by omega)).mpr (by omega))) q)
  have vi : vp_in (nI f) (S.n (c 28)) := vin_of (h.1.2.2.2.1 28 (by decide) (by decide)) (vp_in_nI hf (by decide))
  refine ⟨vi, vi, ?_⟩
  intro S14 e14
  rw [nI_clamp (by omega)] at e14
  subst e14
  rw [nI_clamp (by omega), show S.I (c 28) f = nI (A.w 0 f) from h.X 28 f (by decide) hf]
  exact hp _ (h.flg f v)
/-- perform: context k, binding b -/
theorem xp_perf {post : pS → Prop} {A : aS} {S : pS} {k b : Nat} (h : RepX e0 c la A S) (hA : PrOK A) (hk : k < 4) (hm : A.w 3 k ≤ 10) (hb : b < A.w 3 k) (ho : argOK (A.w 8 (10 * k + b)) (A.w 9 (10 * k + b))) (h22 : ∀ q, q < 48 → A.w 22 q < 12)
    (hp : ∀ S', RepX e0 c la (perf A (A.w 8 (10 * k + b)) (A.w 9 (10 * k + b))) S' → post S') : wp_X4_perform post e0 (c 32) (nI k) (nI b) S := by
  have hA' := hA
  obtain ⟨hd, h21, h16, h18, h19, h20, h23⟩ := hA
  have hC := h.okC hk
  have hisB : isB A (nI k) (nI b) := by
    refine ⟨inR_iff.mp ((inR_nI (h := 3) rfl (by omega)).mpr (by omega)), nI_pos (by omega), ?_⟩
    rw [nI_clamp (by omega)]
    exact nI_ge hb (by omega)
  unfold wp_X4_perform
  refine ⟨h.ok 32, xx_isB h (fun _ => ⟨fun z => absurd z (by decide), fun _ => ⟨h.ok 32, c 16, h.P 32 4 16, h.ok 16, ?_⟩⟩) (fun q => absurd hisB q)⟩
  refine xl_get h.listC (by omega) (h.getC hk) ⟨hC.1, c (22 + k), hC.2.1, hC.2.2.1, ?_⟩
  obtain ⟨q, q1, r, t, hb1, ht, e1, e2, e3, e4, -⟩ := h.bind hk hb
  refine xl_get (h.listB hk hm (by omega)) hb q1 ⟨hb1.1, h.ok 32, ?_⟩
  rw [e3, e4]
  generalize hact : A.w 8 (10 * k + b) = act at ho hp ⊢
  generalize harg : A.w 9 (10 * k + b) = arg at ho hp ⊢
  have hneq : ∀ j : Nat, j < 100 → (nI act = nI j ↔ act = j) := fun j hj => nI_eq (by have := ho.1; omega) (by omega)
  refine xp_refd h hA' ho ⟨fun z => ⟨hb1.1, ?_⟩, fun z => ⟨h.ok 32, c 29, h.P 32 7 29, h.ok 29, ?_⟩⟩
  · have z := bI_0 z
    rw [hact] at e3
    rw [e3]
    obtain ⟨o5, o0, o1, o2, o3, o4⟩ := ho
    refine ⟨fun w => ⟨h.ok 32, c 29, h.P 32 7 29, h.ok 29, ?_⟩, fun w => ⟨h.ok 32, ?_⟩, fun w => ⟨h.ok 32, ?_⟩, fun w => ⟨h.ok 32, ?_⟩, fun w => ⟨h.ok 32, ?_⟩, fun w => ⟨h.ok 32, ?_⟩, fun w => ?_⟩
    · have w := (hneq 0 (by decide)).mp w
      subst w
      exact xp_say (kd := 0) h h23 hp
    · have w := (hneq 1 (by decide)).mp w
      subst w
      have hn : ¬ (A.s 20 = arg ∨ A.s 18 = 3 ∨ A.s 19 = 20) := by
        intro u
        have z : decide (A.s 20 = arg ∨ A.s 18 = 3 ∨ A.s 19 = 20) = false := z
        rw [decide_eq_true u] at z
        exact absurd z (by decide)
      refine xp_play h (o1 rfl) (h21 _ (o1 rfl)) h16 h22 (fun S' h' => hp S' ?_)
      show RepX e0 c la (plays A arg) S'
      rw [plays, if_neg hn]
      exact h'
    · have w := (hneq 2 (by decide)).mp w
      subst w
      have hn : A.s 1 ≠ 4 := by
        intro u
        have z : decide (A.s 1 = 4) = false := z
        rw [decide_eq_true u] at z
        exact absurd z (by decide)
      have ha := o2 rfl
      have hCa := h.okC ha
      unfold wp_X4_pushContext_ng
      refine ⟨h.ok 32, xx_ctx h (fun _ => ⟨fun z => absurd z (by decide), fun _ => ⟨h.ok 32, c 26, h.P 32 5 26, c 16, h.P 32 4 16, h.ok 16, ?_⟩⟩) (fun q => absurd (inR_iff.mp ((inR_nI (h := 3) rfl (by omega)).mpr (by omega))) q)⟩
      refine xl_get h.listC (by omega) (h.getC ha) ⟨hCa.1, h.ok 26, xl_addng (h.listS hd.2) (by omega) h.1.2.2.2.2.2.2 (Or.inr (Or.inl hCa.1)) (hp _ ?_)⟩
      show RepX e0 c la (if A.s 1 = 4 then says A 2 arg else (A.setW 2 (A.s 1) arg).setS 1 (A.s 1 + 1)) _
      rw [if_neg hn]
      exact h.push ha (by omega) _
    · have w := (hneq 3 (by decide)).mp w
      subst w
      have hn : A.s 1 ≠ 1 := by
        intro u
        have z : decide (A.s 1 = 1) = false := z
        rw [decide_eq_true u] at z
        exact absurd z (by decide)
      have hS := h.listS hd.2
      unfold wp_X4_popContext
      refine ⟨h.ok 32, c 26, h.P 32 5 26, h.ok 26, xl_size (h.ok 26) hS.2.2.2.2.1 ⟨fun u => absurd u (nI_ge (a := 1) (by omega) (by omega)), fun _ => ⟨h.ok 32, c 26, h.P 32 5 26, h.ok 26, xl_size (h.ok 26) hS.2.2.2.2.1 ⟨h.ok 26, ?_⟩⟩⟩⟩
      rw [show (1 : Int32) = nI 1 from rfl, pk_sub (by omega)]
      refine xl_remL hS (by omega) (h.2.2.1 (A.s 1 - 1) (by omega)) (hp _ ?_)
      show RepX e0 c la (if A.s 1 = 1 then says A 2 0 else A.setS 1 (A.s 1 - 1)) _
      rw [if_neg hn]
      exact h.pop _
    · have w := (hneq 4 (by decide)).mp w
      subst w
      exact xp_setFlag (v := 1) h (o4 (by decide)) (by decide) hp
    · have w := (hneq 5 (by decide)).mp w
      subst w
      exact xp_setFlag (v := 0) h (o4 (by decide)) (by decide) hp
    · exfalso
      obtain ⟨w0, w1, w2, w3, w4, w5⟩ := w
      have : act ≠ 0 := fun u => w0 (by rw [u]; rfl)
      have : act ≠ 1 := fun u => w1 (by rw [u]; rfl)
      have : act ≠ 2 := fun u => w2 (by rw [u]; rfl)
      have : act ≠ 3 := fun u => w3 (by rw [u]; rfl)
      have : act ≠ 4 := fun u => w4 (by rw [u]; rfl)
      have : act ≠ 5 := fun u => w5 (by rw [u]; rfl)
      omega
  · have z := bI_1 z
    refine xp_say (kd := 2) h h23 (fun S' h' => hp S' ?_)
    obtain ⟨o5, o0, o1, o2, o3, o4⟩ := ho
    unfold refd at z
    unfold perf
    by_cases w1 : act = 1
    · rw [if_pos w1] at z
      rw [if_neg (by omega), if_pos w1, plays, if_pos (of_decide_eq_true z)]
      exact h'
    · rw [if_neg w1] at z
      by_cases w2 : act = 2
      · rw [if_pos w2] at z
        rw [if_neg (by omega), if_neg w1, if_pos w2, if_pos (of_decide_eq_true z)]
        exact h'
      · rw [if_neg w2] at z
        by_cases w3 : act = 3
        · rw [if_pos w3] at z
          rw [if_neg (by omega), if_neg w1, if_neg w2, if_pos w3, if_pos (of_decide_eq_true z)]
          rw [o3 w3] at h'
          exact h'
        · rw [if_neg w3] at z
          exact absurd z (by decide)
-- releasePending
theorem xp_relT {post : pS → Prop} {A : aS} {used : Nat} {o : Option Nat} (hu : 1 ≤ used) (hu4 : used ≤ 4)
    (hfin : ∀ (B : aS) (S : pS), RepX e0 c la (B.setS 12 0) S → B = frD A used (A.s 12) → ((oX o = (-4 : Int32) → (S.ok (c 32) 4 ∧ ∃ q35, S.P (c 32) 7 = some q35 ∧ S.ok q35 2 ∧ wp_X2_add (fun S38 => post S38) q35 (1 : Int32) (nI (A.w 13 0)) S)) ∧ (¬ (oX o = (-4 : Int32)) → (S.ok (c 32) 4 ∧ wp_X4_perform (fun S32 => post S32) e0 (c 32) (oX o / (16 : Int32)) (oX o - oX o / (16 : Int32) * (16 : Int32)) S)))) :
    ∀ (k : Nat) (B : aS) (S : pS), RepX e0 c la B S → k ≤ B.s 12 → B.s 12 ≤ 4 → B.s 16 + k ≤ 100 → (∀ i, i < B.s 12 → B.w 13 i < 12) → frD B used k = frD A used (A.s 12) → wp_X4_releasePending_L57 post e0 (k + 1) (c 32) (nI used) (oX o) (nI (A.w 13 0)) (nI k - 1) S := by
  intro k
  induction k with
  | zero =>
    intro B S h _ h12 _ _ e
    rw [frD] at e
    unfold wp_X4_releasePending_L57
    refine ⟨fun _ => ⟨h.ok 32, c 2, h.P 32 1 2, h.ok 2, xr_clear (h.rowP h12) (hfin B _ h.clrP e)⟩, fun z => absurd ?_ z⟩
    rw [Int32.lt_iff_toInt_lt, nI_toInt (by omega)]
    have : (nI 0 - 1 : Int32).toInt = -1 := by decide
    omega
  | succ k ih =>
    intro B S h hk h12 h16 h13 e
    rw [frD] at e
    unfold wp_X4_releasePending_L57
    rw [nI_pred]
    refine ⟨fun z => ?_, fun z => ⟨h.ok 32, c 4, h.P 32 2 4, c 2, h.P 32 1 2, h.ok 2, ?_⟩⟩
    · rw [if_neg (fun q => nI_nlt q (by omega) z)] at e
      exact ⟨h.ok 32, c 2, h.P 32 1 2, h.ok 2, xr_clear (h.rowP h12) (hfin B _ h.clrP e)⟩
    · have hle : used ≤ k := by
        rcases Nat.lt_or_ge k used with q | q
        · exact absurd (nI_lt q (by omega)) z
        · exact q
      rw [if_pos hle] at e
      refine xr_at (h.rowP h12) (fun w => absurd w (nI_pos (by omega))) (fun _ w => absurd w (nI_ge (by omega) (by omega))) (fun j hj ej => ?_)
      have ej := (nI_eq (by omega) (by omega)).mp ej
      subst ej
      rw [show S.I (c 3) k = nI (B.w 13 k) from h.X 3 k (by decide) hj, ← enc_lt (h13 k hj)]
      refine ⟨h.ok 4, xp_addW h (by omega) (fun S' h' => ?_)⟩
      rw [x_m1]
      refine ih (adds B (B.w 13 k)) S' h' ?_ ?_ ?_ ?_ e
      · rw [adds_s, if_neg (by decide)]; omega
      · rw [adds_s, if_neg (by decide)]; exact h12
      · rw [adds_s, if_pos rfl]; omega
      · rw [adds_s, if_neg (by decide), adds_wn (by decide)]; exact h13
theorem xp_relF {post : pS → Prop} {A : aS} {S : pS} (hA : EnOK A) (h22 : ∀ q, q < 48 → A.w 22 q < 12) {used : Nat} (hu : 1 ≤ used) (hu4 : used ≤ 4) {o : Option Nat} (ho : bound A used = o) (h1 : o = none → used = 1) (hS : RepX e0 c la (frees A used) S) (hp : ∀ S', RepX e0 c la (endR A (used, o)) S' → post S') :
    ((oX o = (-4 : Int32) → (S.ok (c 32) 4 ∧ ∃ q35, S.P (c 32) 7 = some q35 ∧ S.ok q35 2 ∧ wp_X2_add (fun S38 => post S38) q35 (1 : Int32) (nI (A.w 13 0)) S)) ∧ (¬ (oX o = (-4 : Int32)) → (S.ok (c 32) 4 ∧ wp_X4_perform (fun S32 => post S32) e0 (c 32) (oX o / (16 : Int32)) (oX o - oX o / (16 : Int32) * (16 : Int32)) S))) := by
  have hpr := hA.pr hu
  obtain ⟨hr, hb, h12, h21, h16, h18, h19, h20, h23⟩ := hA
  cases o with
  | none =>
    have e := h1 rfl
    subst e
    exact ⟨fun _ => ⟨hS.ok 32, c 29, hS.P 32 7 29, hS.ok 29, xp_say (kd := 1) hS (by rw [frees_s (by decide) (by decide)]; exact h23) hp⟩, fun z => absurd rfl z⟩
  | some p =>
    obtain ⟨k, b, hk, hb2, rfl, -⟩ := bnd_some hr.1.2 hr.2.1 ho
    have hm := hr.2.2.1 k hk
    have e : oX (some (10 * k + b)) = nI (16 * k + b) := by
      show nI (16 * ((10 * k + b) / 10) + (10 * k + b) % 10) = _
      congr 1; omega
    rw [e]
    refine ⟨fun z => ?_, fun _ => ⟨hS.ok 32, ?_⟩⟩
    · have q : ¬ nI (16 * k + b) < 0 := nI_pos (by omega)
      rw [z] at q
      exact absurd (by decide) q
    · rw [show (16 : Int32) = nI 16 from rfl, pk_rem (by omega) (by decide) (by decide), pk_div (by omega) (by decide) (by decide), show (16 * k + b) / 16 = k by omega, show (16 * k + b) % 16 = b by omega]
      have e3 : (frees A used).w 3 = A.w 3 := frees_w (by decide)
      have e8 : (frees A used).w 8 = A.w 8 := frees_w (by decide)
      have e9 : (frees A used).w 9 = A.w 9 := frees_w (by decide)
      have e22 : (frees A used).w 22 = A.w 22 := frees_w (by decide)
      refine xp_perf hS hpr hk (by rw [e3]; exact hm) (by rw [e3]; exact hb2) (by rw [e8, e9]; exact (hb k b hk hb2).1) (by rw [e22]; exact h22) ?_
      rw [e8, e9]
      exact hp
theorem xp_relL {post : pS → Prop} {A : aS} {S : pS} (h : RepX e0 c la A S) (hA : EnOK A) (h22 : ∀ q, q < 48 → A.w 22 q < 12) (h13 : ∀ i, i < A.s 12 → A.w 13 i < 12) : ∀ n, 1 ≤ n → n ≤ A.s 12 → (∀ S', RepX e0 c la (endR A (srch A n)) S' → post S') → wp_X4_releasePending_L14 post e0 n (c 32) (nI n) (oX (bound A n)) S := by
  have h12 := hA.2.2.1
  have hgo : ∀ n, 1 ≤ n → n ≤ A.s 12 → (bound A n = none → n = 1) → (∀ S', RepX e0 c la (endR A (n, bound A n)) S' → post S') → (S.ok (c 32) 4 ∧ ∃ q53, S.P (c 32) 1 = some q53 ∧ S.ok q53 3 ∧ wp_X3_at (fun r55 S56 => (S56.ok (c 32) 4 ∧ ∃ q59, S56.P (c 32) 1 = some q59 ∧ S56.ok q59 3 ∧ wp_X3_size (fun r61 S62 => (∃ n57, wp_X4_releasePending_L57 post e0 n57 (c 32) (nI n) (oX (bound A n)) r55 (r61 - (1 : Int32)) S62)) q59 S56)) q53 (0 : Int32) S) := by
    intro n hn hn2 hnone hp
    refine ⟨h.ok 32, c 2, h.P 32 1 2, h.ok 2, xr_at (h.rowP h12.2) (fun z => absurd z (by decide)) (fun _ z => absurd z (nI_ge (a := 0) (by omega) (by omega))) (fun j hj ej => ?_)⟩
    have ej : 0 = j := (nI_eq (a := 0) (by decide) (by omega)).mp ej
    subst ej
    rw [show S.I (c 3) 0 = nI (A.w 13 0) from h.X 3 0 (by decide) hj]
    refine ⟨h.ok 32, c 2, h.P 32 1 2, h.ok 2, xr_size (h.rowP h12.2) ⟨A.s 12 + 1, ?_⟩⟩
    refine xp_relT (A := A) hn (by omega) (fun B S2 h2 eB => ?_) (A.s 12) A S h (Nat.le_refl _) h12.2 (by have := hA.2.2.2.2.1; omega) h13 rfl
    refine xp_relF hA h22 hn (by omega) rfl hnone ?_ hp
    rw [eB] at h2
    exact h2
  intro n
  induction n with
  | zero => intro h0; exact absurd h0 (by decide)
  | succ n ih =>
    intro _ hn hp
    unfold wp_X4_releasePending_L14
    cases ho : bound A (n + 1) with
    | some p =>
      have hg := hgo (n + 1) (by omega) hn (fun z => by rw [ho] at z; cases z) (by rw [srch, ho] at hp; rw [ho]; exact hp)
      rw [ho] at hg
      refine ⟨fun z => ?_, fun _ => hg⟩
      have hpp := (bound_ok hA.1 hA.2.1 ho).1
      have z : nI (16 * (p / 10) + p % 10) = -4 := z
      have q : ¬ nI (16 * (p / 10) + p % 10) < 0 := nI_pos (by omega)
      rw [z] at q
      exact absurd (by decide) q
    | none =>
      refine ⟨fun _ => ⟨fun z => ?_, fun z => ⟨h.ok 32, ?_⟩⟩, fun z => absurd rfl z⟩
      · have hn0 : n = 0 := by
          rcases Nat.eq_zero_or_pos n with q | q
          · exact q
          · exact absurd z (nI_ge (a := 1) (b := n + 1) (by omega) (by omega))
        subst hn0
        have hg := hgo 1 (by decide) hn (fun _ => rfl) (by rw [srch, ho] at hp; rw [ho]; exact hp)
        rw [ho] at hg
        exact hg
      · have hn0 : n ≠ 0 := by
          intro q
          subst q
          exact z (nI_le (a := 1) (b := 1) (by decide) (by decide))
        rw [x_m1, nI_pred]
        refine xx_find h hA.1 h12.2 (by omega) (ih (by omega) (by omega) (fun S' h' => hp S' ?_))
        rw [srch, ho]
        show RepX e0 c la (endR A (if n = 0 then (1, none) else srch A n)) S'
        rw [if_neg hn0]
        exact h'
theorem xp_rel {post : pS → Prop} {A : aS} {S : pS} (h : RepX e0 c la A S) (hA : EInv A) (h23 : A.s 23 < 2147483647) (hp : ∀ S', RepX e0 c la (ends A) S' → post S') : wp_X4_releasePending post e0 (c 32) S := by
  have hE := hA.en h23
  have h12 := hE.2.2.1
  unfold wp_X4_releasePending
  refine ⟨h.ok 32, c 2, h.P 32 1 2, h.ok 2, xr_size (h.rowP h12.2) ⟨h.ok 32, xx_find h hE.1 h12.2 (Nat.le_refl _) ⟨A.s 12, ?_⟩⟩⟩
  exact xp_relL h hE hA.1.2.2.2.1 hA.2.2.2.2 (A.s 12) h12.1 (Nat.le_refl _) hp
-- processWaitingKeys
theorem xp_work {post : pS → Prop} : ∀ (f : Nat) (A : aS) (S : pS) (st : Nat), RepX e0 c la A S → Phi A ≤ f → st + f < 100000 → PInv A → A.s 23 + Phi A < 2147483647 → (∀ S', RepX e0 c la (wkA f A) S' → post S') → wp_X4_processWaitingKeys_L2 post e0 (f + 1) (c 32) (nI st) S := by
  intro f
  induction f with
  | zero =>
    intro A S st h hf hst hp _ hpost
    have h0 : A.s 16 = 0 := by
      have := hp.2.1.2.2.1
      unfold Phi at hf
      omega
    unfold wp_X4_processWaitingKeys_L2
    refine ⟨fun z => absurd z (nI_ge (b := 100000) (by omega) (by decide)), fun _ => ⟨h.ok 32, c 4, h.P 32 2 4, h.ok 4, xr_size (h.rowW (by omega)) ?_⟩⟩
    rw [h0]
    exact ⟨fun _ => hpost S (by rw [wkA]; exact h), fun z => absurd (by decide) z⟩
  | succ f ih =>
    intro A S st h hf hst hp h23 hpost
    rw [wkA] at hpost
    have hbd := hp.2.1.bd
    have htot := hp.2.2.1
    have hw := h.rowW (by omega)
    unfold wp_X4_processWaitingKeys_L2
    refine ⟨fun z => absurd z (nI_ge (b := 100000) (by omega) (by decide)), fun _ => ⟨h.ok 32, c 4, h.P 32 2 4, h.ok 4, xr_size hw ?_⟩⟩
    by_cases h0 : A.s 16 = 0
    · rw [if_pos h0] at hpost
      rw [h0]
      exact ⟨fun _ => hpost S h, fun z => absurd (by decide) z⟩
    rw [if_neg h0] at hpost
    refine ⟨fun z => absurd z (nI_nle (by omega) (by omega)), fun _ => ⟨h.ok 32, c 4, h.P 32 2 4, h.ok 4, xr_rem hw (by omega) ?_⟩⟩
    obtain ⟨s1, s2, s3, s4⟩ := step_inv hp (by omega)
    have hpop : RepX e0 c la (popA A) (S.setI (c 4) 1 (nI (A.s 16 - 1))) := h.popW
    have ex : S.I (c 5) (A.s 16 - 1) = enc (A.w 17 (A.s 16 - 1)) := h.X 5 _ (by decide) (by omega)
    have hx := (hp.2.1.1 (A.s 16 - 1) (by omega)).1
    rw [ex, nI_1]
    refine ⟨fun z => ?_, fun z => ?_⟩
    · have hk : A.w 17 (A.s 16 - 1) = 12 := by
        by_cases q : A.w 17 (A.s 16 - 1) = 12
        · exact q
        · rw [enc, if_neg q] at z
          have w : ¬ nI (A.w 17 (A.s 16 - 1)) < 0 := nI_pos (by omega)
          rw [z] at w
          exact absurd (by decide) w
      have e : stepA A = (popA A).setS 18 (A.s 18 - 1) := by unfold stepA; rw [if_pos hk]
      have hc : cn (A.w 17) (A.s 16 - 1) + 1 = A.s 18 := by
        have : cn (A.w 17) ((A.s 16 - 1) + 1) = A.s 18 := by rw [show A.s 16 - 1 + 1 = A.s 16 by omega]; exact hp.2.1.2.1
        rw [cn, if_pos hk] at this
        exact this
      refine ⟨hpop.ok 32, ?_⟩
      intro S32 e32
      rw [hpop.o.2.2.2.1, show (popA A).s 18 = A.s 18 from rfl, show (1 : Int32) = nI 1 from rfl, pk_sub (by omega)] at e32
      have h32 := hpop.setG (A.s 18 - 1)
      rw [← e32] at h32
      rw [e] at s1 s2 s3 s4 hpost
      exact ih _ _ (st + 1) h32 (by omega) (by omega) s1 (by omega) hpost
    · have hk : A.w 17 (A.s 16 - 1) ≠ 12 := fun q => z (by rw [enc, if_pos q])
      rw [enc, if_neg hk]
      obtain ⟨ke, k12, k16, kj⟩ := key_inv hp (by omega) hk
      have h12 := hp.2.2.2.1
      refine ⟨hpop.ok 32, c 2, hpop.P 32 1 2, hpop.ok 2, xr_add (hpop.rowP (show A.s 12 ≤ 4 by omega)) (fun q => absurd (show A.s 12 = 4 from q) (by omega)) (fun _ => ?_)⟩
      have hkey : RepX e0 c la (keyA A) _ := hpop.addP (A.w 17 (A.s 16 - 1))
      refine ⟨hkey.ok 32, xx_ext hkey ke.1.1 (by omega) ⟨fun w => ⟨hkey.ok 32, ?_⟩, fun w => ⟨hkey.ok 32, ?_⟩⟩⟩
      · have w := bI_0 w
        have e : stepA A = ends (keyA A) := by unfold stepA; rw [if_neg hk, if_neg (by rw [w]; decide)]
        rw [e] at s1 s2 s3 s4 hpost
        exact xp_rel hkey ke (by rw [kj 23 (by decide) (by decide)]; omega) (fun S' h' => ih _ _ (st + 1) h' (by omega) (by omega) s1 (by omega) hpost)
      · have w := bI_1 w
        have e : stepA A = (keyA A).setS 15 (A.s 14) := by unfold stepA; rw [if_neg hk, if_pos w]
        intro S30 e30
        rw [hkey.o.1, kj 14 (by decide) (by decide)] at e30
        have h30 := hkey.setL (A.s 14)
        rw [← e30] at h30
        rw [e] at s1 s2 s3 s4 hpost
        exact ih _ _ (st + 1) h30 (by omega) (by omega) s1 (by omega) hpost
end XP
