/-! THE CLASS'S searches -/
section XF
variable {e0 : Nat} {c la : Nat → Nat} {A : aS} {S : pS}
theorem x12 {x : Int32} {m : Nat} (hm : m < 1000) : ¬ nI (m + 1) ≤ x ↔ x ≤ nI m := by
  rw [Int32.le_iff_toInt_le, Int32.le_iff_toInt_le, nI_toInt (by omega), nI_toInt (by omega)]
  omega
theorem xx_key {post : Int32 → pS → Prop} {x : Int32} (h1 : 0 ≤ x ∧ x ≤ 11 → post 1 S) (h0 : ¬ (0 ≤ x ∧ x ≤ 11) → post 0 S) : wp_X4_isKey post x S := by
  unfold wp_X4_isKey
  refine ⟨fun q => h0 (fun z => x_ge.mp z.1 q), fun q => ⟨fun q1 => h0 (fun z => ?_), fun q1 => h1 ⟨x_ge.mpr q, (x12 (m := 11) (by decide)).mp q1⟩⟩⟩
  exact (x12 (m := 11) (by decide)).mpr z.2 q1
theorem xx_btw {post : Int32 → pS → Prop} {x lo hi : Int32} (h1 : lo ≤ x ∧ x ≤ hi → post 1 S) (h0 : ¬ (lo ≤ x ∧ x ≤ hi) → post 0 S) : wp_X4_isBetween post x lo hi S := by
  unfold wp_X4_isBetween
  refine ⟨fun q => h0 (fun z => Int32.not_lt.mpr z.1 q), fun q => ⟨fun q1 => h0 (fun z => Int32.not_lt.mpr z.2 q1), fun q1 => h1 ⟨Int32.not_lt.mp q, Int32.not_lt.mp q1⟩⟩⟩
theorem xx_ctx {post : Int32 → pS → Prop} {x : Int32} (h : RepX e0 c la A S) (h1 : 0 ≤ x ∧ x ≤ 3 → post 1 S) (h0 : ¬ (0 ≤ x ∧ x ≤ 3) → post 0 S) : wp_X4_isContext post (c 32) x S := by
  unfold wp_X4_isContext
  refine ⟨fun q => h0 (fun z => x_ge.mp z.1 q), fun q => ⟨h.ok 32, c 16, h.P 32 4 16, h.ok 16, xl_size (h.ok 16) h.listC.2.2.2.2.1 ⟨fun q1 => h0 (fun z => ?_), fun q1 => h1 ⟨x_ge.mpr q, (x12 (m := 3) (by decide)).mp q1⟩⟩⟩⟩
  exact (x12 (m := 3) (by decide)).mpr z.2 q1
theorem xx_mac {post : Int32 → pS → Prop} {x : Int32} (h : RepX e0 c la A S) (h1 : 0 ≤ x ∧ x ≤ 3 → post 1 S) (h0 : ¬ (0 ≤ x ∧ x ≤ 3) → post 0 S) : wp_X4_isMacro post (c 32) x S := by
  unfold wp_X4_isMacro
  refine ⟨fun q => h0 (fun z => x_ge.mp z.1 q), fun q => ⟨h.ok 32, c 6, h.P 32 3 6, h.ok 6, xl_size (h.ok 6) h.listM.2.2.2.2.1 ⟨fun q1 => h0 (fun z => ?_), fun q1 => h1 ⟨x_ge.mpr q, (x12 (m := 3) (by decide)).mp q1⟩⟩⟩⟩
  exact (x12 (m := 3) (by decide)).mpr z.2 q1
theorem xx_flg {post : Int32 → pS → Prop} {x : Int32} (h : RepX e0 c la A S) (h1 : 0 ≤ x ∧ x ≤ 5 → post 1 S) (h0 : ¬ (0 ≤ x ∧ x ≤ 5) → post 0 S) : wp_X4_isFlag post (c 32) x S := by
  unfold wp_X4_isFlag
  refine ⟨fun q => h0 (fun z => x_ge.mp z.1 q), fun q => ⟨h.ok 32, c 28, h.P 32 6 28, h.ok 28, ?_⟩⟩
  rw [h.1.2.2.2.1 28 (by decide) (by decide)]
  refine ⟨fun q1 => h0 (fun z => ?_), fun q1 => h1 ⟨x_ge.mpr q, (x12 (m := 5) (by decide)).mp q1⟩⟩
  exact (x12 (m := 5) (by decide)).mpr z.2 q1
theorem xx_isB {post : Int32 → pS → Prop} {x y : Int32} (h : RepX e0 c la A S) (h1 : isB A x y → post 1 S) (h0 : ¬ isB A x y → post 0 S) : wp_X4_isBinding post (c 32) x y S := by
  unfold wp_X4_isBinding
  refine ⟨h.ok 32, xx_ctx h (fun q => ⟨fun z => absurd z (by decide), fun _ => ⟨fun z => h0 (fun w => w.2.1 z), fun z => ?_⟩⟩) (fun q => ⟨fun _ => h0 (fun w => q w.1), fun z => absurd rfl z⟩)⟩
  have q0 := q
  obtain ⟨k, hk, rfl⟩ := x_nat (h := 3) rfl q
  have hC := h.okC (m := k) (by omega)
  refine ⟨h.ok 32, c 16, h.P 32 4 16, h.ok 16, xl_get h.listC (by omega) (h.getC (by omega)) ⟨hC.1, c (22 + k), hC.2.1, hC.2.2.1, xl_size hC.2.2.1 hC.2.2.2.2 ⟨fun w => h0 (fun u => ?_), fun w => h1 ⟨q0, z, ?_⟩⟩⟩⟩
  · have := u.2.2
    rw [nI_clamp (by omega)] at this
    exact this w
  · rw [nI_clamp (by omega)]
    exact w
-- a binding against what is pending
theorem keq_eq (h : RepX e0 c la A S) {p t : Nat} (ht : ∀ i, i < A.w 4 p → S.I t i = nI (A.w 5 (4 * p + i))) : ∀ L, L ≤ A.w 4 p → L ≤ A.s 12 → keqS S t (c 3) L = keq A p L := by
  intro L
  induction L with
  | zero => intro _ _; rfl
  | succ L ih =>
    intro h1 h2
    have e3 : S.I (c 3) L = nI (A.w 13 L) := h.X 3 L (by decide) (by omega)
    rw [keqS, keq, ih (by omega) (by omega), ht L (by omega), e3]
theorem hold_eq (h : RepX e0 c la A S) (hr : WFr A) {p q : Nat} (hp : p < 40) (e1 : S.I q 1 = A.z 6 p) (e2 : S.I q 2 = A.z 7 p) : (decide (S.I q 1 < 0) || decide (S.I (c 28) (S.I q 1).toNatClampNeg = S.I q 2)) = hold A p := by
  unfold hold
  rw [e1, e2]
  rcases hr.2.2.2.2 p hp with z | ⟨f, hf, ef⟩
  · rw [decide_eq_true z]; rfl
  · have e28 : S.I (c 28) f = nI (A.w 0 f) := h.X 28 f (by decide) hf
    rw [ef, nI_clamp (by omega), e28]
theorem xb_holdsA {post : Int32 → pS → Prop} (h : RepX e0 c la A S) (hr : WFr A) {p q : Nat} (hp : p < 40) (hq : S.ok q 0) (e1 : S.I q 1 = A.z 6 p) (e2 : S.I q 2 = A.z 7 p) (hp9 : post (bI (hold A p)) S) : wp_X0_holds post q (c 28) S := by
  refine xb_holds hq (h.ok 28) (h.1.2.2.2.1 28 (by decide) (by decide)) ?_ ?_
  · rw [e1]; exact hr.2.2.2.2 p hp
  · rw [hold_eq h hr hp e1 e2]; exact hp9
def oX : Option Nat → Int32
  | none => -4
  | some p => nI (16 * (p / 10) + p % 10)
theorem xf29 {post : Int32 → pS → Prop} {k10 : Nat → Int32 → Int32 → pS → Prop} (h : RepX e0 c la A S) (hr : WFr A) {L d : Nat} (h12 : A.s 12 ≤ 4) (hL : L ≤ A.s 12) (hd : d < 4)
    (hs : ∀ b, fs (fun b => mt A L (10 * A.w 2 d + b)) 0 (A.w 3 (A.w 2 d)) = some b → post (nI (16 * A.w 2 d + b)) S)
    (hk : fs (fun b => mt A L (10 * A.w 2 d + b)) 0 (A.w 3 (A.w 2 d)) = none → k10 (c 32) (nI L) (nI d + (-1)) S) :
    ∀ m b, b + m = A.w 3 (A.w 2 d) → fs (fun b => mt A L (10 * A.w 2 d + b)) 0 (A.w 3 (A.w 2 d)) = fs (fun b => mt A L (10 * A.w 2 d + b)) b m → wp_X4_findBinding_L29 post k10 (m + 1) (c 32) (nI L) (nI d) (c (18 + A.w 2 d)) (nI b) S := by
  have hc := hr.2.1 d hd
  have hm := hr.2.2.1 _ hc
  have hC := h.okC hc
  intro m
  induction m with
  | zero =>
    intro b hb e
    unfold wp_X4_findBinding_L29
    exact ⟨hC.1, _, hC.2.1, hC.2.2.1, xl_size hC.2.2.1 hC.2.2.2.2 ⟨fun _ => hk e, fun z => absurd (nI_le (by omega) (by omega)) z⟩⟩
  | succ m ih =>
    intro b hb e
    unfold wp_X4_findBinding_L29
    refine ⟨hC.1, _, hC.2.1, hC.2.2.1, xl_size hC.2.2.1 hC.2.2.2.2 ⟨fun z => absurd z (nI_ge (by omega) (by omega)), fun _ => ⟨hC.1, _, hC.2.1, hC.2.2.1, ?_⟩⟩⟩
    obtain ⟨q, q1, r, t, hb1, ht, e1, e2, e3, e4, -⟩ := h.bind hc (b := b) (by omega)
    refine xl_get (h.listB hc hm (by omega)) (by omega) q1 ⟨hb1.1, h.ok 32, c 2, h.P 32 1 2, ?_⟩
    have hp : 10 * A.w 2 d + b < 40 := by omega
    rw [fs] at e
    have hnx : ¬ mt A L (10 * A.w 2 d + b) = true → wp_X4_findBinding_L29 post k10 (m + 1) (c 32) (nI L) (nI d) (c (18 + A.w 2 d)) (nI b + 1) S := fun z => by
      rw [nI_1]
      exact ih (b + 1) (by omega) (e.trans (if_neg z))
    refine xb_isFor hb1 (h.rowP h12) (by omega) ⟨fun z => hnx ?_, fun z => ?_⟩
    · have z := bI_0 z
      intro w
      unfold mt fit at w
      rw [Bool.and_eq_true, Bool.and_eq_true, Bool.and_eq_true] at w
      have w1 := of_decide_eq_true w.1
      rw [decide_eq_true w1, decide_eq_true hL, keq_eq h ht L (by omega) hL, w.2.2.2] at z
      exact absurd z (by decide)
    · have z := bI_1 z
      rw [Bool.and_eq_true, Bool.and_eq_true] at z
      have z1 := of_decide_eq_true z.1
      have z3 : keq A (10 * A.w 2 d + b) L = true := by rw [← keq_eq h ht L (by omega) hL]; exact z.2.2
      refine ⟨h.ok 32, c 28, h.P 32 6 28, hb1.1, xb_holdsA h hr hp hb1.1 e1 e2 ⟨fun w => hnx ?_, fun w => ⟨hC.1, ?_⟩⟩⟩
      · have w := bI_0 w
        intro u
        unfold mt fit at u
        rw [w, Bool.false_and, Bool.and_false, Bool.and_false] at u
        exact absurd u (by decide)
      · have w := bI_1 w
        rw [hC.2.2.2.1, show (16 : Int32) = nI 16 from rfl, ix]
        refine hs b (e.trans (if_pos ?_))
        show mt A L (10 * A.w 2 d + b) = true
        unfold mt fit
        rw [w, z3, decide_eq_true z1, decide_eq_true (by omega : L ≤ A.w 4 (10 * A.w 2 d + b))]; rfl
theorem xf10 {post : Int32 → pS → Prop} (h : RepX e0 c la A S) (hr : WFr A) {L : Nat} (h12 : A.s 12 ≤ 4) (hL : L ≤ A.s 12) (hp : post (oX (bound A L)) S) : ∀ d, d ≤ 4 → d ≤ A.s 1 → bound A L = bnd A L d → wp_X4_findBinding_L10 post (d + 1) (c 32) (nI L) (nI d - 1) S := by
  intro d
  induction d with
  | zero =>
    intro _ _ e
    unfold wp_X4_findBinding_L10
    rw [e] at hp
    exact ⟨fun _ => hp, fun z => absurd (by decide) z⟩
  | succ d ih =>
    intro hd hd1 e
    have hc := hr.2.1 d (by omega)
    have hm := hr.2.2.1 _ hc
    unfold wp_X4_findBinding_L10
    rw [nI_pred]
    refine ⟨fun z => absurd z (nI_pos (by omega)), fun _ => ⟨h.ok 32, c 26, h.P 32 5 26, h.ok 26, ?_⟩⟩
    refine xl_get (h.listS hr.1.2) (by omega) (h.2.2.1 d (by omega)) ⟨(h.okC hc).1, A.w 3 (A.w 2 d) + 1, ?_⟩
    refine xf29 h hr h12 hL (by omega) (fun b hb => ?_) (fun hb => ?_) (A.w 3 (A.w 2 d)) 0 (Nat.zero_add _) rfl
    · have hb2 := fs_some hb
      rw [e, bnd, hb] at hp
      have hp : post (nI (16 * ((10 * A.w 2 d + b) / 10) + (10 * A.w 2 d + b) % 10)) S := hp
      rw [show 16 * ((10 * A.w 2 d + b) / 10) + (10 * A.w 2 d + b) % 10 = 16 * A.w 2 d + b by omega] at hp
      exact hp
    · rw [x_m1]
      exact ih (by omega) (by omega) (by rw [e, bnd, hb])
theorem xx_find {post : Int32 → pS → Prop} (h : RepX e0 c la A S) (hr : WFr A) {L : Nat} (h12 : A.s 12 ≤ 4) (hL : L ≤ A.s 12) (hp : post (oX (bound A L)) S) : wp_X4_findBinding post (c 32) (nI L) S := by
  unfold wp_X4_findBinding
  exact ⟨h.ok 32, c 26, h.P 32 5 26, h.ok 26, xl_size (h.ok 26) (h.listS hr.1.2).2.2.2.2.1 ⟨A.s 1 + 1, xf10 h hr h12 hL hp (A.s 1) hr.1.2 (Nat.le_refl _) rfl⟩⟩
-- isExtensible
theorem xe31 {post : Int32 → pS → Prop} {k10 : Nat → Int32 → pS → Prop} (h : RepX e0 c la A S) (hr : WFr A) {d : Nat} (h12 : A.s 12 ≤ 4) (hd : d < 4)
    (hs : exc A (A.w 2 d) = true → post 1 S) (hk : exc A (A.w 2 d) = false → k10 (c 32) (nI d + (-1)) S) :
    ∀ m b, b + m = A.w 3 (A.w 2 d) → (∀ i, i < b → exb A (10 * A.w 2 d + i) = false) → wp_X4_isExtensible_L31 post k10 (m + 1) (c 32) (nI d) (c (22 + A.w 2 d)) (nI b) S := by
  have hc := hr.2.1 d hd
  have hm := hr.2.2.1 _ hc
  have hC := h.okC hc
  intro m
  induction m with
  | zero =>
    intro b hb e
    unfold wp_X4_isExtensible_L31
    refine ⟨hC.2.2.1, xl_size hC.2.2.1 hC.2.2.2.2 ⟨fun _ => hk ?_, fun z => absurd (nI_le (by omega) (by omega)) z⟩⟩
    rw [exc, List.any_eq_false]
    intro i hi
    rw [e i (by rw [List.mem_range] at hi; omega)]; decide
  | succ m ih =>
    intro b hb e
    unfold wp_X4_isExtensible_L31
    refine ⟨hC.2.2.1, xl_size hC.2.2.1 hC.2.2.2.2 ⟨fun z => absurd z (nI_ge (by omega) (by omega)), fun _ => ⟨hC.2.2.1, ?_⟩⟩⟩
    obtain ⟨q, q1, r, t, hb1, ht, e1, e2, e3, e4, -⟩ := h.bind hc (b := b) (by omega)
    refine xl_get (h.listB hc hm (by omega)) (by omega) q1 ⟨hb1.1, h.ok 32, c 2, h.P 32 1 2, ?_⟩
    have hp : 10 * A.w 2 d + b < 40 := by omega
    have hnx : exb A (10 * A.w 2 d + b) = false → wp_X4_isExtensible_L31 post k10 (m + 1) (c 32) (nI d) (c (22 + A.w 2 d)) (nI b + 1) S := fun z => by
      rw [nI_1]
      refine ih (b + 1) (by omega) (fun i hi => ?_)
      rcases Nat.lt_or_ge i b with w | w
      · exact e i w
      · rw [show i = b by omega]; exact z
    refine xb_longer hb1 (h.rowP h12) ⟨fun z => hnx ?_, fun z => ?_⟩
    · have z := bI_0 z
      by_cases w : A.s 12 < A.w 4 (10 * A.w 2 d + b)
      · rw [decide_eq_true w, Bool.true_and, keq_eq h ht _ (by omega) (Nat.le_refl _)] at z
        unfold exb fit
        rw [z, Bool.and_false, Bool.and_false, Bool.and_false]
      · unfold exb
        rw [decide_eq_false w]; rfl
    · have z := bI_1 z
      rw [Bool.and_eq_true] at z
      have z1 := of_decide_eq_true z.1
      have z2 : keq A (10 * A.w 2 d + b) (A.s 12) = true := by rw [← keq_eq h ht _ (by omega) (Nat.le_refl _)]; exact z.2
      refine ⟨h.ok 32, c 28, h.P 32 6 28, hb1.1, xb_holdsA h hr hp hb1.1 e1 e2 ⟨fun w => hnx ?_, fun w => hs ?_⟩⟩
      · have w := bI_0 w
        unfold exb fit
        rw [w, Bool.false_and, Bool.and_false, Bool.and_false]
      · have w := bI_1 w
        rw [exc, List.any_eq_true]
        refine ⟨b, List.mem_range.mpr (by omega), ?_⟩
        unfold exb fit
        rw [w, z2, decide_eq_true z1, decide_eq_true (by omega : A.s 12 ≤ A.w 4 (10 * A.w 2 d + b))]; rfl
theorem xe10 {post : Int32 → pS → Prop} (h : RepX e0 c la A S) (hr : WFr A) (h12 : A.s 12 ≤ 4) (hp : post (bI (ext A)) S) : ∀ d, d ≤ A.s 1 → (∀ i, d ≤ i → i < A.s 1 → exc A (A.w 2 i) = false) → wp_X4_isExtensible_L10 post (d + 1) (c 32) (nI d - 1) S := by
  have h1 := hr.1
  intro d
  induction d with
  | zero =>
    intro _ e
    unfold wp_X4_isExtensible_L10
    have : ext A = false := by
      rw [ext, List.any_eq_false]
      intro i hi
      rw [e i (Nat.zero_le _) (by rw [List.mem_range] at hi; omega)]; decide
    rw [this] at hp
    exact ⟨fun _ => hp, fun z => absurd (by decide) z⟩
  | succ d ih =>
    intro hd e
    have hc := hr.2.1 d (by omega)
    have hC := h.okC hc
    unfold wp_X4_isExtensible_L10
    rw [nI_pred]
    refine ⟨fun z => absurd z (nI_pos (by omega)), fun _ => ⟨h.ok 32, c 26, h.P 32 5 26, h.ok 26, ?_⟩⟩
    refine xl_get (h.listS hr.1.2) (by omega) (h.2.2.1 d (by omega)) ⟨hC.1, c (22 + A.w 2 d), hC.2.1, A.w 3 (A.w 2 d) + 1, ?_⟩
    refine xe31 h hr h12 (by omega) (fun q => ?_) (fun q => ?_) (A.w 3 (A.w 2 d)) 0 (Nat.zero_add _) (fun i hi => absurd hi (by omega))
    · have : ext A = true := by
        rw [ext, List.any_eq_true]
        exact ⟨d, List.mem_range.mpr (by omega), q⟩
      rw [this] at hp
      exact hp
    · rw [x_m1]
      refine ih (by omega) (fun i hi hi2 => ?_)
      rcases Nat.lt_or_ge d i with w | w
      · exact e i (by omega) hi2
      · rw [show i = d by omega]; exact q
theorem xx_ext {post : Int32 → pS → Prop} (h : RepX e0 c la A S) (hr : WFr A) (h12 : A.s 12 ≤ 4) (hp : post (bI (ext A)) S) : wp_X4_isExtensible post (c 32) S := by
  unfold wp_X4_isExtensible
  exact ⟨h.ok 32, c 26, h.P 32 5 26, h.ok 26, xl_size (h.ok 26) (h.listS hr.1.2).2.2.2.2.1 ⟨A.s 1 + 1, xe10 h hr h12 hp (A.s 1) (Nat.le_refl _) (fun i h1 h2 => by omega)⟩⟩
end XF
