/-! the small methods of the reference -/
theorem inR_lo {x lo hi : Int32} (h : inR x lo hi) : lo ≤ x ∧ x ≤ hi := inR_iff.mp h
theorem mv_if {post : Int32 → vS → Prop} {x lo hi : Int32} {V : vS} {P : Int32 → vS → Prop} (h1 : lo ≤ x ∧ x ≤ hi → P 1 V) (h0 : ¬ (lo ≤ x ∧ x ≤ hi) → P 0 V) : wv_X5_in P x lo hi V := mv_in (fun q => h1 (inR_iff.mp q)) (fun q => h0 (fun z => q (inR_iff.mpr z)))
theorem x_nat {x hi : Int32} {h : Nat} (hh : hi.toInt = h) (hx : 0 ≤ x ∧ x ≤ hi) : ∃ n : Nat, n ≤ h ∧ x = nI n := inR_nat hh (inR_iff.mpr hx)
def a_append (A : aS) (x : Int32) : Int32 × aS := if 0 ≤ x ∧ x ≤ 11 then (if A.s 10 = 4 then (-3, A) else (nI (A.s 10 + 1), (A.setW 11 (A.s 10) x.toNatClampNeg).setS 10 (A.s 10 + 1))) else (-1, A)
theorem mv_append {post : Int32 → vS → Prop} {A : aS} {x : Int32} (h10 : A.s 10 ≤ 4) (h : post (a_append A x).1 (toV (a_append A x).2)) : wv_X5_appendKey post x (toV A) := by
  unfold wv_X5_appendKey
  unfold a_append at h
  refine mv_if (post := post) (fun hi => ⟨fun c => absurd c (by decide), fun _ => ?_⟩) (fun hi => ⟨fun _ => ?_, fun c => absurd rfl c⟩)
  · rw [if_pos hi] at h
    obtain ⟨k, hk, rfl⟩ := x_nat (h := 11) rfl hi
    rw [nI_clamp (by omega)] at h
    rw [toV_s (by decide)]
    refine ⟨fun c => ?_, fun c => ?_⟩
    · rw [if_pos ((nI_eq (b := 4) (by omega) (by decide)).mp c)] at h
      exact h
    · have hn : A.s 10 ≠ 4 := fun q => c (by rw [q]; rfl)
      rw [if_neg hn] at h
      rw [nI_clamp (by omega)]
      refine ⟨vp_in_nI (by omega) (by decide), ?_⟩
      intro V10 e10
      replace e10 := e10.trans (toV_setW (v := k) (by decide) (by decide) rfl)
      subst e10
      intro V12 e12
      replace e12 := e12.trans (toV_setS (v := A.s 10 + 1) (by decide) (nI_1 _))
      subst e12
      exact h
  · rw [if_neg hi] at h
    exact h
def a_clear (A : aS) : Int32 × aS := (nI (A.s 10), A.setS 10 0)
theorem mv_clear {post : Int32 → vS → Prop} {A : aS} (h : post (a_clear A).1 (toV (a_clear A).2)) : wv_X5_clearKeys post (toV A) := by
  unfold wv_X5_clearKeys
  intro V2 e2
  replace e2 := e2.trans (toV_setS (v := 0) (by decide) rfl)
  subst e2
  exact h
def a_count (A : aS) (c : Int32) : Int32 × aS := if 0 ≤ c ∧ c ≤ 3 then (nI (A.w 3 c.toNatClampNeg), A) else (-1, A)
theorem mv_count {post : Int32 → vS → Prop} {A : aS} {x : Int32} (h : post (a_count A x).1 (toV (a_count A x).2)) : wv_X5_bindingCount post x (toV A) := by
  unfold wv_X5_bindingCount
  unfold a_count at h
  refine mv_if (post := post) (fun hi => ⟨fun c => absurd c (by decide), fun _ => ?_⟩) (fun hi => ⟨fun _ => ?_, fun c => absurd rfl c⟩)
  · rw [if_pos hi] at h
    obtain ⟨k, hk, rfl⟩ := x_nat (h := 3) rfl hi
    exact ⟨vp_in_nI (by omega) (by decide), by rw [toV_a (by decide) (by decide)]; exact h⟩
  · rw [if_neg hi] at h
    exact h
def a_timeout (A : aS) (x : Int32) : Int32 × aS := if 1 ≤ x ∧ x ≤ 99 then (nI (A.s 14), A.setS 14 x.toNatClampNeg) else (-1, A)
theorem mv_timeout {post : Int32 → vS → Prop} {A : aS} {x : Int32} (h : post (a_timeout A x).1 (toV (a_timeout A x).2)) : wv_X5_setTimeout post x (toV A) := by
  unfold wv_X5_setTimeout
  unfold a_timeout at h
  refine mv_if (post := post) (fun hi => ⟨fun c => absurd c (by decide), fun _ => ?_⟩) (fun hi => ⟨fun _ => ?_, fun c => absurd rfl c⟩)
  · rw [if_pos hi] at h
    obtain ⟨k, hk, rfl⟩ := x_nat (x := x) (h := 99) rfl ⟨Int32.le_trans (by decide) hi.1, hi.2⟩
    intro V5 e5
    replace e5 := e5.trans (toV_setS (v := k) (by decide) rfl)
    subst e5
    rw [nI_clamp (by omega)] at h
    exact h
  · rw [if_neg hi] at h
    exact h
def a_setFlag (A : aS) (f v : Int32) : Int32 × aS := if 0 ≤ f ∧ f ≤ 5 then (if 0 ≤ v ∧ v ≤ 1 then (nI (A.w 0 f.toNatClampNeg), A.setW 0 f.toNatClampNeg v.toNatClampNeg) else (-1, A)) else (-1, A)
theorem mv_setFlag {post : Int32 → vS → Prop} {A : aS} {f v : Int32} (h : post (a_setFlag A f v).1 (toV (a_setFlag A f v).2)) : wv_X5_setFlag post f v (toV A) := by
  unfold wv_X5_setFlag
  unfold a_setFlag at h
  refine mv_if (post := post) (fun hi => ⟨fun c => absurd c (by decide), fun _ => ?_⟩) (fun hi => ⟨fun _ => ?_, fun c => absurd rfl c⟩)
  · rw [if_pos hi] at h
    refine mv_if (post := post) (fun hj => ⟨fun c => absurd c (by decide), fun _ => ?_⟩) (fun hj => ⟨fun _ => ?_, fun c => absurd rfl c⟩)
    · rw [if_pos hj] at h
      obtain ⟨k, hk, rfl⟩ := x_nat (h := 5) rfl hi
      obtain ⟨u, hu, rfl⟩ := x_nat (h := 1) rfl hj
      refine ⟨vp_in_nI (by omega) (by decide), vp_in_nI (by omega) (by decide), ?_⟩
      intro V13 e13
      replace e13 := e13.trans (toV_setW (v := u) (by decide) (by decide) rfl)
      subst e13
      rw [toV_a (by decide) (by decide)]
      rw [nI_clamp (n := u) (by omega)] at h
      exact h
    · rw [if_neg hj] at h
      exact h
  · rw [if_neg hi] at h
    exact h
def a_plen (A : aS) : Int32 × aS := (nI (A.s 12), A)
def a_pkey (A : aS) (x : Int32) : Int32 × aS := if x < 0 then (-1, A) else if nI (A.s 12) ≤ x then (-4, A) else (nI (A.w 13 x.toNatClampNeg), A)
theorem x_ge {x : Int32} : 0 ≤ x ↔ ¬ x < 0 := Int32.not_lt.symm
theorem x_lt_n {x : Int32} {n : Nat} (h0 : ¬ x < 0) (h : ¬ nI n ≤ x) (hn : n < 2 ^ 31) : ∃ k : Nat, k < n ∧ x = nI k := by
  obtain ⟨j, hj, rfl⟩ := nI_of h0
  refine ⟨j, ?_, rfl⟩
  rcases Nat.lt_or_ge j n with q | q
  · exact q
  · exact absurd (nI_le q hj) h
theorem mv_pkey {post : Int32 → vS → Prop} {A : aS} {x : Int32} (h12 : A.s 12 ≤ 3) (h : post (a_pkey A x).1 (toV (a_pkey A x).2)) : wv_X5_pendingKey post x (toV A) := by
  unfold wv_X5_pendingKey
  unfold a_pkey at h
  rw [toV_s (by decide)]
  refine ⟨fun c => ⟨fun c1 => ?_, fun c1 => ?_⟩, fun c => ?_⟩
  · rw [if_neg (x_ge.mp c), if_pos c1] at h
    exact h
  · rw [if_neg (x_ge.mp c), if_neg c1] at h
    obtain ⟨k, hk, rfl⟩ := x_lt_n (x_ge.mp c) c1 (by omega)
    exact ⟨vp_in_nI (by omega) (by decide), by rw [toV_a (by decide) (by decide)]; exact h⟩
  · rw [if_pos (by rw [x_ge] at c; exact Classical.not_not.mp c)] at h
    exact h
def a_rem (A : aS) : Int32 × aS := (if A.s 12 = 0 then 0 else nI (A.s 15), A)
theorem mv_rem {post : Int32 → vS → Prop} {A : aS} (h12 : A.s 12 ≤ 3) (h : post (a_rem A).1 (toV (a_rem A).2)) : wv_X5_remainingTime post (toV A) := by
  unfold wv_X5_remainingTime
  unfold a_rem at h
  rw [toV_s (by decide), toV_s (by decide)]
  by_cases q : A.s 12 = 0
  · rw [if_pos q] at h
    rw [q]
    exact ⟨fun _ => h, fun c => absurd (by decide) c⟩
  · rw [if_neg q] at h
    exact ⟨fun c => absurd c (nI_nle (by omega) (by omega)), fun _ => h⟩
def a_pbind (A : aS) : Int32 × aS := (if A.s 12 = 0 then -4 else match bound A (A.s 12) with
  | none => -4
  | some p => nI (16 * (p / 10) + p % 10), A)
theorem mv_pbind {post : Int32 → vS → Prop} {A : aS} (hb : Base A) (h12 : A.s 12 ≤ 3) (h : post (a_pbind A).1 (toV (a_pbind A).2)) : wv_X5_pendingBinding post (toV A) := by
  unfold wv_X5_pendingBinding
  unfold a_pbind at h
  rw [toV_s (by decide)]
  by_cases q : A.s 12 = 0
  · rw [if_pos q] at h
    rw [q]
    exact ⟨fun _ => h, fun c => absurd (by decide) c⟩
  · rw [if_neg q] at h
    refine ⟨fun c => absurd c (nI_nle (by omega) (by omega)), fun _ => mv_bound hb.1 (by omega) ?_⟩
    cases ho : bound A (A.s 12) with
    | none =>
      rw [ho] at h
      exact ⟨fun c => absurd c (by decide), fun _ => h⟩
    | some p =>
      rw [ho] at h
      have hp := (bound_ok hb.1 hb.2.1 ho).1
      show ((0 ≤ nI p → post (((16 : Int32) * (nI p / (10 : Int32))) + (nI p - nI p / (10 : Int32) * (10 : Int32))) (toV A)) ∧ (¬ (0 ≤ nI p) → post (-4 : Int32) (toV A)))
      refine ⟨fun _ => ?_, fun c => absurd (nI_pos' (by omega)) c⟩
      rw [show (10 : Int32) = nI 10 from rfl, pk_rem (by omega) (by decide) (by decide), pk_div (by omega) (by decide) (by decide), show (16 : Int32) = nI 16 from rfl, ix]
      exact h
def a_flag (A : aS) (f : Int32) : Int32 × aS := if 0 ≤ f ∧ f ≤ 5 then (nI (A.w 0 f.toNatClampNeg), A) else (-1, A)
theorem mv_flag {post : Int32 → vS → Prop} {A : aS} {x : Int32} (h : post (a_flag A x).1 (toV (a_flag A x).2)) : wv_X5_flag post x (toV A) := by
  unfold wv_X5_flag
  unfold a_flag at h
  refine mv_if (post := post) (fun hi => ⟨fun c => absurd c (by decide), fun _ => ?_⟩) (fun hi => ⟨fun _ => ?_, fun c => absurd rfl c⟩)
  · rw [if_pos hi] at h
    obtain ⟨k, hk, rfl⟩ := x_nat (h := 5) rfl hi
    exact ⟨vp_in_nI (by omega) (by decide), by rw [toV_a (by decide) (by decide)]; exact h⟩
  · rw [if_neg hi] at h
    exact h
def a_ssize (A : aS) : Int32 × aS := (nI (A.s 1), A)
def a_sctx (A : aS) (x : Int32) : Int32 × aS := if x < 0 then (-1, A) else if nI (A.s 1) ≤ x then (-4, A) else (nI (A.w 2 (A.s 1 - 1 - x.toNatClampNeg)), A)
theorem mv_sctx {post : Int32 → vS → Prop} {A : aS} {x : Int32} (h1 : 1 ≤ A.s 1 ∧ A.s 1 ≤ 4) (h : post (a_sctx A x).1 (toV (a_sctx A x).2)) : wv_X5_stackContext post x (toV A) := by
  unfold wv_X5_stackContext
  unfold a_sctx at h
  rw [toV_s (by decide)]
  refine ⟨fun c => ⟨fun c1 => ?_, fun c1 => ?_⟩, fun c => ?_⟩
  · rw [if_neg (x_ge.mp c), if_pos c1] at h
    exact h
  · rw [if_neg (x_ge.mp c), if_neg c1] at h
    obtain ⟨k, hk, rfl⟩ := x_lt_n (x_ge.mp c) c1 (by omega)
    rw [nI_clamp (by omega)] at h
    rw [show (1 : Int32) = nI 1 from rfl, pk_sub h1.1, pk_sub (by omega), nI_clamp (by omega), toV_a (by decide) (by decide)]
    exact ⟨vp_in_nI (by omega) (by decide), h⟩
  · rw [if_pos (by rw [x_ge] at c; exact Classical.not_not.mp c)] at h
    exact h
def a_start (A : aS) (x : Int32) : Int32 × aS := if 0 ≤ x ∧ x ≤ 3 then (if A.s 20 < 4 then (-2, A) else (nI (A.w 21 x.toNatClampNeg), (A.setS 20 x.toNatClampNeg).setW 21 x.toNatClampNeg 0)) else (-1, A)
theorem recM_neg {r : Nat} : recM r < 0 ↔ ¬ r < 4 := by
  unfold recM
  by_cases h : r < 4
  · rw [if_pos h]
    exact ⟨fun q => absurd q (nI_pos (by omega)), fun q => absurd h q⟩
  · rw [if_neg h]
    exact ⟨fun _ => h, fun _ => by decide⟩
theorem mv_start {post : Int32 → vS → Prop} {A : aS} {x : Int32} (h : post (a_start A x).1 (toV (a_start A x).2)) : wv_X5_startRecording post x (toV A) := by
  unfold wv_X5_startRecording
  unfold a_start at h
  refine mv_if (post := post) (fun hi => ⟨fun c => absurd c (by decide), fun _ => ?_⟩) (fun hi => ⟨fun _ => ?_, fun c => absurd rfl c⟩)
  · rw [if_pos hi] at h
    obtain ⟨k, hk, rfl⟩ := x_nat (h := 3) rfl hi
    rw [nI_clamp (by omega)] at h
    rw [toV_r]
    refine ⟨fun c => ?_, fun c => ?_⟩
    · rw [if_neg (recM_neg.mp c)] at h
      intro V6 e6
      replace e6 := e6.trans (toV_setR (v := k) (show nI k = recM k from (if_pos (by omega)).symm))
      subst e6
      rw [nI_clamp (by omega)]
      refine ⟨vp_in_nI (by omega) (by decide), vp_in_nI (by omega) (by decide), ?_⟩
      intro V13 e13
      replace e13 := e13.trans (toV_setW (v := 0) (by decide) (by decide) rfl)
      subst e13
      exact h
    · rw [if_pos (Classical.not_not.mp (fun q => c (recM_neg.mpr q)))] at h
      exact h
  · rw [if_neg hi] at h
    exact h
def a_stop (A : aS) : Int32 × aS := if A.s 20 < 4 then (nI (A.w 21 (A.s 20)), A.setS 20 4) else (-2, A)
theorem mv_stop {post : Int32 → vS → Prop} {A : aS} (h : post (a_stop A).1 (toV (a_stop A).2)) : wv_X5_stopRecording post (toV A) := by
  unfold wv_X5_stopRecording
  unfold a_stop at h
  rw [toV_r]
  refine ⟨fun c => ?_, fun c => ?_⟩
  · have hq : A.s 20 < 4 := Classical.not_not.mp (fun q => x_ge.mp c (recM_neg.mpr q))
    have er : recM (A.s 20) = nI (A.s 20) := if_pos hq
    rw [if_pos hq] at h
    rw [er, nI_clamp (by omega)]
    refine ⟨vp_in_nI hq (by decide), ?_⟩
    intro V7 e7
    replace e7 := e7.trans (toV_setR (v := 4) rfl)
    subst e7
    rw [toV_a (by decide) (by decide)]
    exact h
  · rw [if_neg (fun q => c (by rw [show recM (A.s 20) = nI (A.s 20) from if_pos q]; exact nI_pos' (by omega)))] at h
    exact h
def a_mkey (A : aS) (m i : Int32) : Int32 × aS := if 0 ≤ m ∧ m ≤ 3 then (if i < 0 then (-1, A) else if nI (A.w 21 m.toNatClampNeg) ≤ i then (-4, A) else (nI (A.w 22 (12 * m.toNatClampNeg + i.toNatClampNeg)), A)) else (-1, A)
theorem mv_mkey {post : Int32 → vS → Prop} {A : aS} {x i : Int32} (h21 : ∀ m, m < 4 → A.w 21 m ≤ 12) (h : post (a_mkey A x i).1 (toV (a_mkey A x i).2)) : wv_X5_macroKey post x i (toV A) := by
  unfold wv_X5_macroKey
  unfold a_mkey at h
  refine mv_if (post := post) (fun hi => ⟨fun c => absurd c (by decide), fun _ => ?_⟩) (fun hi => ⟨fun _ => ?_, fun c => absurd rfl c⟩)
  · rw [if_pos hi] at h
    obtain ⟨k, hk, rfl⟩ := x_nat (h := 3) rfl hi
    have h12 := h21 k (by omega)
    rw [nI_clamp (by omega)] at h
    rw [nI_clamp (by omega), toV_a (by decide) (by decide)]
    refine ⟨fun c => ⟨vp_in_nI (by omega) (by decide), fun c1 => ?_, fun c1 => ?_⟩, fun c => ?_⟩
    · rw [if_neg (x_ge.mp c), if_pos c1] at h
      exact h
    · rw [if_neg (x_ge.mp c), if_neg c1] at h
      obtain ⟨u, hu, rfl⟩ := x_lt_n (x_ge.mp c) c1 (by omega)
      rw [nI_clamp (by omega)] at h
      rw [show (12 : Int32) = nI 12 from rfl, ix, nI_clamp (by omega), toV_a (by decide) (by decide)]
      exact ⟨vp_in_nI (by omega) (by decide), h⟩
    · rw [if_pos (by rw [x_ge] at c; exact Classical.not_not.mp c)] at h
      exact h
  · rw [if_neg hi] at h
    exact h
def a_rcount (A : aS) : Int32 × aS := (nI (A.s 23), A)
def a_rep (A : aS) (j : Nat) (x : Int32) : Int32 × aS := if x < 0 then (-1, A) else if nI (A.s 23) ≤ x then (-4, A) else if x.toNatClampNeg + 40 < A.s 23 then (-4, A) else (nI (A.w j (x.toNatClampNeg % 40)), A)
theorem mv_err {post : Int32 → vS → Prop} {A : aS} {x : Int32} (h23 : A.s 23 < 2147483647) (hm1 : x < 0 → post (-1) (toV A)) (h4 : ¬ x < 0 → (nI (A.s 23) ≤ x ∨ x.toNatClampNeg + 40 < A.s 23) → post (-4) (toV A)) (hok : ¬ x < 0 → ¬ nI (A.s 23) ≤ x → ¬ x.toNatClampNeg + 40 < A.s 23 → post 0 (toV A)) : wv_X5_errorOf post x (toV A) := by
  unfold wv_X5_errorOf
  rw [toV_s (by decide)]
  refine ⟨fun c => ⟨fun c1 => h4 (x_ge.mp c) (Or.inl c1), fun c1 => ?_⟩, fun c => hm1 (by rw [x_ge] at c; exact Classical.not_not.mp c)⟩
  obtain ⟨k, hk, rfl⟩ := x_lt_n (x_ge.mp c) c1 (by omega)
  have e : (nI (A.s 23) - 40 : Int32).toInt = (A.s 23 : Int) - 40 := by
    rw [show (40 : Int32) = nI 40 from rfl, Int32.toInt_sub, nI_toInt (by omega), nI_toInt (by omega)]
    exact Int.bmod_eq_of_le (by omega) (by omega)
  have ek : (nI k).toInt = (k : Int) := nI_toInt (by omega)
  have eck : (nI k).toNatClampNeg = k := nI_clamp (by omega)
  refine ⟨fun c2 => h4 (x_ge.mp c) (Or.inr ?_), fun c2 => hok (x_ge.mp c) c1 ?_⟩
  · rw [Int32.lt_iff_toInt_lt, e, ek] at c2
    rw [eck]; omega
  · rw [Int32.lt_iff_toInt_lt, e, ek] at c2
    rw [eck]; omega
theorem mv_rep {post : Int32 → vS → Prop} {A : aS} {x : Int32} {j : Nat} (hj6 : j ≠ 6) (hj7 : j ≠ 7) (h23 : A.s 23 < 2147483647) (h : post (a_rep A j x).1 (toV (a_rep A j x).2)) : wv_X5_errorOf (fun r1 V2 => ((0 ≤ r1 → (vp_in (x - x / (40 : Int32) * (40 : Int32)) 40 ∧ post (V2.a j (x - x / (40 : Int32) * (40 : Int32)).toNatClampNeg) V2)) ∧ (¬ (0 ≤ r1) → post r1 V2))) x (toV A) := by
  unfold a_rep at h
  refine mv_err h23 (fun c => ⟨fun q => absurd q (by decide), fun _ => ?_⟩) (fun c c1 => ⟨fun q => absurd q (by decide), fun _ => ?_⟩) (fun c c1 c2 => ⟨fun _ => ?_, fun q => absurd (by decide) q⟩)
  · rw [if_pos c] at h
    exact h
  · rw [if_neg c] at h
    rcases c1 with c1 | c1
    · rw [if_pos c1] at h
      exact h
    · by_cases q : nI (A.s 23) ≤ x
      · rw [if_pos q] at h; exact h
      · rw [if_neg q, if_pos c1] at h; exact h
  · rw [if_neg c, if_neg c1, if_neg c2] at h
    obtain ⟨k, hk, rfl⟩ := x_lt_n c c1 (by omega)
    have hm : k % 40 < 40 := Nat.mod_lt _ (by decide)
    rw [nI_clamp (by omega)] at h
    rw [show (40 : Int32) = nI 40 from rfl, pk_rem (by omega) (by decide) (by decide), nI_clamp (by omega), toV_a hj6 hj7]
    exact ⟨vp_in_nI hm (by decide), h⟩
