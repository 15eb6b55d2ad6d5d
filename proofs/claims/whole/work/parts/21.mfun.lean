/-! THE PURE FUNCTIONS of processing, and that the reference computes them -/
def keq (A : aS) (p : Nat) : Nat → Bool
  | 0 => true
  | n + 1 => keq A p n && decide (nI (A.w 5 (4 * p + n)) = nI (A.w 13 n))
def hold (A : aS) (p : Nat) : Bool := decide (A.z 6 p < 0) || decide (nI (A.w 0 (A.z 6 p).toNatClampNeg) = A.z 7 p)
def fit (A : aS) (p n : Nat) : Bool := decide (n ≤ A.w 4 p) && (hold A p && keq A p n)
def mt (A : aS) (n p : Nat) : Bool := decide (A.w 4 p = n) && fit A p n
def fs (f : Nat → Bool) : Nat → Nat → Option Nat
  | _, 0 => none
  | lo, c + 1 => if f lo then some lo else fs f (lo + 1) c
def bnd (A : aS) (n : Nat) : Nat → Option Nat
  | 0 => none
  | d + 1 => match fs (fun b => mt A n (10 * A.w 2 d + b)) 0 (A.w 3 (A.w 2 d)) with
    | some b => some (10 * A.w 2 d + b)
    | none => bnd A n d
def bound (A : aS) (n : Nat) : Option Nat := bnd A n (A.s 1)
def exb (A : aS) (p : Nat) : Bool := decide (A.s 12 < A.w 4 p) && fit A p (A.s 12)
def exc (A : aS) (c : Nat) : Bool := (List.range (A.w 3 c)).any (fun b => exb A (10 * c + b))
def ext (A : aS) : Bool := (List.range (A.s 1)).any (fun d => exc A (A.w 2 d))
def oI : Option Nat → Int32
  | none => -4
  | some p => nI p
def bI (b : Bool) : Int32 := if b then 1 else 0
/-- what the reading of bindings needs -/
def WFr (A : aS) : Prop := (1 ≤ A.s 1 ∧ A.s 1 ≤ 4) ∧ (∀ d, d < 4 → A.w 2 d < 4) ∧ (∀ c, c < 4 → A.w 3 c ≤ 10) ∧ (∀ p, p < 40 → A.w 4 p ≤ 4) ∧ (∀ p, p < 40 → A.z 6 p < 0 ∨ ∃ f, f < 6 ∧ A.z 6 p = nI f)
theorem ix (c a b : Nat) : nI c * nI a + nI b = nI (c * a + b) := by rw [pk_mul, nI_add]
theorem x_m1 (x : Int32) : x + (-1) = x - 1 := (Int32.sub_eq_add_neg x 1).symm
theorem mv_fitsL {post : Int32 → vS → Prop} {A : aS} {p n : Nat} (hp : p < 40) (hn : n ≤ 4) (h : post (bI (keq A p n)) (toV A)) : ∀ m k, k + m = n → keq A p k = true → wv_X5_fits_L48 post (m + 2) (nI p) (nI n) 1 (nI k) (toV A) := by
  intro m
  induction m with
  | zero =>
    intro k hk hq
    have e : k = n := by omega
    subst e
    unfold wv_X5_fits_L48
    refine ⟨fun _ => ⟨Or.inr rfl, ?_⟩, fun c => absurd (nI_le (Nat.le_refl k) (by omega)) c⟩
    rw [hq] at h
    exact h
  | succ m ih =>
    intro k hk hq
    unfold wv_X5_fits_L48
    refine ⟨fun c => absurd c (nI_ge (by omega) (by omega)), fun _ => ⟨fun c => absurd c (by decide), fun _ => ?_⟩⟩
    rw [show (4 : Int32) = nI 4 from rfl, ix, nI_clamp (by omega), nI_clamp (by omega), toV_a (by decide) (by decide), toV_a (by decide) (by decide)]
    refine ⟨vp_in_nI (by omega) (by decide), vp_in_nI (by omega) (by decide), fun c => ?_, fun c => ?_⟩
    · rw [nI_1]
      exact ih (k + 1) (by omega) (by rw [keq, hq, decide_eq_true c]; rfl)
    · rw [nI_1]
      have hf : ∀ j, keq A p (k + 1 + j) = false := by
        intro j
        induction j with
        | zero => rw [Nat.add_zero, keq, hq, decide_eq_false c]; rfl
        | succ j jh => rw [show k + 1 + (j + 1) = (k + 1 + j) + 1 by omega, keq, jh]; rfl
      have h0 : keq A p n = false := by rw [show n = k + 1 + m by omega]; exact hf m
      rw [h0] at h
      have h : post 0 (toV A) := h
      unfold wv_X5_fits_L48
      exact ⟨fun _ => ⟨Or.inl rfl, h⟩, fun _ => ⟨fun _ => ⟨Or.inl rfl, h⟩, fun c => absurd rfl c⟩⟩
theorem mv_fits0 {post : Int32 → vS → Prop} {A : aS} {x y z : Int32} (h : post 0 (toV A)) : wv_X5_fits_L48 post 1 x y 0 z (toV A) := by
  unfold wv_X5_fits_L48
  exact ⟨fun _ => ⟨Or.inl rfl, h⟩, fun _ => ⟨fun _ => ⟨Or.inl rfl, h⟩, fun c => absurd rfl c⟩⟩
theorem mv_fits {post : Int32 → vS → Prop} {A : aS} {p n : Nat} (hr : WFr A) (hp : p < 40) (hn : n ≤ 4) (h : post (bI (fit A p n)) (toV A)) : wv_X5_fits post (nI p) (nI n) (toV A) := by
  have h4 := hr.2.2.2.1 p hp
  have hz := hr.2.2.2.2 p hp
  unfold wv_X5_fits
  rw [nI_clamp (by omega), toV_a (by decide) (by decide)]
  refine ⟨vp_in_nI hp (by decide), fun c => ⟨1, mv_fits0 ?_⟩, fun c => ⟨vp_in_nI hp (by decide), ?_⟩⟩
  · have e : fit A p n = false := by
      have : ¬ n ≤ A.w 4 p := fun q => nI_nlt q (by omega) c
      rw [fit, decide_eq_false this]; rfl
    rw [e] at h
    exact h
  · have hle : n ≤ A.w 4 p := by
      rcases Nat.lt_or_ge (A.w 4 p) n with q | q
      · exact absurd (nI_lt q (by omega)) c
      · exact q
    show ((A.z 6 p < 0 → _) ∧ (¬ A.z 6 p < 0 → _))
    refine ⟨fun c1 => ⟨n + 2, mv_fitsL hp hn ?_ n 0 (by omega) rfl⟩, fun c1 => ?_⟩
    · rw [fit, decide_eq_true hle, hold, decide_eq_true c1] at h
      exact h
    · obtain ⟨f, hf, ef⟩ : ∃ f, f < 6 ∧ A.z 6 p = nI f := by
        rcases hz with q | q
        · exact absurd q c1
        · exact q
      refine ⟨vp_in_nI hp (by decide), by rw [show (toV A).a 6 p = A.z 6 p from rfl, ef]; exact vp_in_nI hf (by decide), vp_in_nI hp (by decide), ?_⟩
      rw [show (toV A).a 6 p = A.z 6 p from rfl, toV_a (by decide) (by decide), show (toV A).a 7 p = A.z 7 p from rfl]
      refine ⟨fun c2 => ⟨n + 2, mv_fitsL hp hn ?_ n 0 (by omega) rfl⟩, fun c2 => ⟨1, mv_fits0 ?_⟩⟩
      · rw [fit, decide_eq_true hle, hold, decide_eq_false c1, decide_eq_true c2] at h
        exact h
      · rw [fit, decide_eq_true hle, hold, decide_eq_false c1, decide_eq_false c2] at h
        exact h
-- bound
theorem mv_bound13 {post : Int32 → vS → Prop} {k7 : Int32 → Int32 → vS → Prop} {A : aS} {n d : Nat} (hr : WFr A) (hn : n ≤ 4) (hd : d < 4)
    (hs : ∀ b, fs (fun b => mt A n (10 * A.w 2 d + b)) 0 (A.w 3 (A.w 2 d)) = some b → post (nI (10 * A.w 2 d + b)) (toV A))
    (hk : fs (fun b => mt A n (10 * A.w 2 d + b)) 0 (A.w 3 (A.w 2 d)) = none → k7 (nI n) (nI d + (-1)) (toV A)) :
    ∀ m b, b + m = A.w 3 (A.w 2 d) → fs (fun b => mt A n (10 * A.w 2 d + b)) 0 (A.w 3 (A.w 2 d)) = fs (fun b => mt A n (10 * A.w 2 d + b)) b m → wv_X5_bound_L13 post k7 (m + 1) (nI n) (nI d) (nI b) (toV A) := by
  have hc := hr.2.1 d hd
  have hm := hr.2.2.1 _ hc
  intro m
  induction m with
  | zero =>
    intro b hb e
    unfold wv_X5_bound_L13
    rw [nI_clamp (by omega), toV_a (by decide) (by decide), nI_clamp (by omega), toV_a (by decide) (by decide)]
    refine ⟨vp_in_nI hd (by decide), vp_in_nI hc (by decide), fun _ => hk e, fun c => absurd (nI_le (by omega) (by omega)) c⟩
  | succ m ih =>
    intro b hb e
    unfold wv_X5_bound_L13
    rw [nI_clamp (by omega), toV_a (by decide) (by decide), nI_clamp (by omega), toV_a (by decide) (by decide)]
    refine ⟨vp_in_nI hd (by decide), vp_in_nI hc (by decide), fun c => absurd c (nI_ge (by omega) (by omega)), fun _ => ⟨vp_in_nI hd (by decide), ?_⟩⟩
    have hp : 10 * A.w 2 d + b < 40 := by omega
    have h4 := hr.2.2.2.1 _ hp
    rw [show (10 : Int32) = nI 10 from rfl, ix, nI_clamp (by omega), toV_a (by decide) (by decide), nI_1]
    rw [fs] at e
    refine ⟨vp_in_nI hp (by decide), fun c => ?_, fun c => ?_⟩
    · have c := (nI_eq (by omega) (by omega)).mp c
      refine mv_fits hr hp hn ⟨fun c1 => ?_, fun c1 => ?_⟩
      · refine ih (b + 1) (by omega) (e.trans (if_neg ?_))
        intro q
        have q : mt A n (10 * A.w 2 d + b) = true := q
        rw [mt, decide_eq_true c, Bool.true_and] at q
        rw [q] at c1
        exact absurd c1 (by decide)
      · refine hs b (e.trans (if_pos ?_))
        show mt A n (10 * A.w 2 d + b) = true
        rw [mt, decide_eq_true c, Bool.true_and]
        cases hq : fit A (10 * A.w 2 d + b) n with
        | true => rfl
        | false => rw [hq] at c1; exact absurd rfl c1
    · refine ih (b + 1) (by omega) (e.trans (if_neg ?_))
      intro q
      have q : mt A n (10 * A.w 2 d + b) = true := q
      rw [mt, decide_eq_false (fun z => c ((congrArg nI z))), Bool.false_and] at q
      exact absurd q (by decide)
theorem mv_bound7 {post : Int32 → vS → Prop} {A : aS} {n : Nat} (hr : WFr A) (hn : n ≤ 4) (h : post (oI (bound A n)) (toV A)) : ∀ d, d ≤ 4 → bound A n = bnd A n d → wv_X5_bound_L7 post (d + 1) (nI n) (nI d - 1) (toV A) := by
  intro d
  induction d with
  | zero =>
    intro _ e
    unfold wv_X5_bound_L7
    refine ⟨fun _ => ?_, fun c => absurd (by decide) c⟩
    rw [e] at h
    exact h
  | succ d ih =>
    intro hd e
    unfold wv_X5_bound_L7
    rw [nI_pred]
    refine ⟨fun c => absurd c (nI_pos (by omega)), fun _ => ⟨A.w 3 (A.w 2 d) + 1, ?_⟩⟩
    refine mv_bound13 hr hn (by omega) (fun b hb => ?_) (fun hb => ?_) (A.w 3 (A.w 2 d)) 0 (by omega) rfl
    · rw [e, bnd, hb] at h
      exact h
    · rw [x_m1]
      exact ih (by omega) (by rw [e, bnd, hb])
theorem mv_bound {post : Int32 → vS → Prop} {A : aS} {n : Nat} (hr : WFr A) (hn : n ≤ 4) (h : post (oI (bound A n)) (toV A)) : wv_X5_bound post (nI n) (toV A) := by
  unfold wv_X5_bound
  exact ⟨A.s 1 + 1, mv_bound7 hr hn h (A.s 1) hr.1.2 rfl⟩
-- isExtensible
theorem mv_ext12 {post : Int32 → vS → Prop} {k2 : Int32 → vS → Prop} {A : aS} {d : Nat} (hr : WFr A) (hn : A.s 12 ≤ 4) (hd : d < 4)
    (hs : exc A (A.w 2 d) = true → post 1 (toV A)) (hk : exc A (A.w 2 d) = false → k2 (nI d + 1) (toV A)) :
    ∀ m b, b + m = A.w 3 (A.w 2 d) → (∀ i, i < b → exb A (10 * A.w 2 d + i) = false) → wv_X5_isExtensible_L12 post k2 (m + 1) (nI d) (nI b) (toV A) := by
  have hc := hr.2.1 d hd
  have hm := hr.2.2.1 _ hc
  intro m
  induction m with
  | zero =>
    intro b hb e
    unfold wv_X5_isExtensible_L12
    rw [nI_clamp (by omega), toV_a (by decide) (by decide), nI_clamp (by omega), toV_a (by decide) (by decide)]
    refine ⟨vp_in_nI hd (by decide), vp_in_nI hc (by decide), fun _ => hk ?_, fun c => absurd (nI_le (by omega) (by omega)) c⟩
    rw [exc, List.any_eq_false]
    intro i hi
    have := e i (by rw [List.mem_range] at hi; omega)
    rw [this]; decide
  | succ m ih =>
    intro b hb e
    unfold wv_X5_isExtensible_L12
    rw [nI_clamp (by omega), toV_a (by decide) (by decide), nI_clamp (by omega), toV_a (by decide) (by decide)]
    refine ⟨vp_in_nI hd (by decide), vp_in_nI hc (by decide), fun c => absurd c (nI_ge (by omega) (by omega)), fun _ => ⟨vp_in_nI hd (by decide), ?_⟩⟩
    have hp : 10 * A.w 2 d + b < 40 := by omega
    have h4 := hr.2.2.2.1 _ hp
    rw [show (10 : Int32) = nI 10 from rfl, ix, nI_clamp (by omega), toV_a (by decide) (by decide), nI_1, toV_s (by decide)]
    have hnx : exb A (10 * A.w 2 d + b) = false → wv_X5_isExtensible_L12 post k2 (m + 1) (nI d) (nI (b + 1)) (toV A) := fun q => ih (b + 1) (by omega) (fun i hi => by
      rcases Nat.lt_or_ge i b with z | z
      · exact e i z
      · rw [show i = b by omega]; exact q)
    refine ⟨vp_in_nI hp (by decide), fun c => hnx ?_, fun c => ?_⟩
    · have : ¬ A.s 12 < A.w 4 (10 * A.w 2 d + b) := fun q => nI_ge q (by omega) c
      rw [exb, decide_eq_false this]; rfl
    · have hlt : A.s 12 < A.w 4 (10 * A.w 2 d + b) := by
        rcases Nat.lt_or_ge (A.s 12) (A.w 4 (10 * A.w 2 d + b)) with q | q
        · exact q
        · exact absurd (nI_le q (by omega)) c
      refine mv_fits hr hp hn ⟨fun c1 => hnx ?_, fun c1 => hs ?_⟩
      · rw [exb, decide_eq_true hlt, Bool.true_and]
        cases hq : fit A (10 * A.w 2 d + b) (A.s 12) with
        | false => rfl
        | true => rw [hq] at c1; exact absurd c1 (by decide)
      · rw [exc, List.any_eq_true]
        refine ⟨b, List.mem_range.mpr (by omega), ?_⟩
        rw [exb, decide_eq_true hlt, Bool.true_and]
        cases hq : fit A (10 * A.w 2 d + b) (A.s 12) with
        | true => rfl
        | false => rw [hq] at c1; exact absurd rfl c1
theorem mv_ext2 {post : Int32 → vS → Prop} {A : aS} (hr : WFr A) (hn : A.s 12 ≤ 4) (h : post (bI (ext A)) (toV A)) : ∀ m d, d + m = A.s 1 → (∀ i, i < d → exc A (A.w 2 i) = false) → wv_X5_isExtensible_L2 post (m + 1) (nI d) (toV A) := by
  have h1 := hr.1
  intro m
  induction m with
  | zero =>
    intro d hd e
    unfold wv_X5_isExtensible_L2
    rw [toV_s (by decide)]
    refine ⟨fun _ => ?_, fun c => absurd (nI_le (by omega) (by omega)) c⟩
    have : ext A = false := by
      rw [ext, List.any_eq_false]
      intro i hi
      rw [e i (by rw [List.mem_range] at hi; omega)]; decide
    rw [this] at h
    exact h
  | succ m ih =>
    intro d hd e
    unfold wv_X5_isExtensible_L2
    rw [toV_s (by decide)]
    refine ⟨fun c => absurd c (nI_ge (by omega) (by omega)), fun _ => ⟨A.w 3 (A.w 2 d) + 1, ?_⟩⟩
    refine mv_ext12 hr hn (by omega) (fun q => ?_) (fun q => ?_) (A.w 3 (A.w 2 d)) 0 (by omega) (fun i hi => absurd hi (by omega))
    · have : ext A = true := by
        rw [ext, List.any_eq_true]
        exact ⟨d, List.mem_range.mpr (by omega), q⟩
      rw [this] at h
      exact h
    · rw [nI_1]
      refine ih (d + 1) (by omega) (fun i hi => ?_)
      rcases Nat.lt_or_ge i d with z | z
      · exact e i z
      · rw [show i = d by omega]; exact q
theorem mv_ext {post : Int32 → vS → Prop} {A : aS} (hr : WFr A) (hn : A.s 12 ≤ 4) (h : post (bI (ext A)) (toV A)) : wv_X5_isExtensible post (toV A) := by
  unfold wv_X5_isExtensible
  exact ⟨A.s 1 + 1, mv_ext2 hr hn h (A.s 1) 0 (by omega) (fun i hi => absurd hi (by omega))⟩
