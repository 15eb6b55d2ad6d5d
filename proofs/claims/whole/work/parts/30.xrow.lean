/-! ROWS, LISTS, BINDINGS, REPORTS of the class, over the pool -/
theorem I_setI (S : pS) (a j : Nat) (v : Int32) (b k : Nat) : (S.setI a j v).I b k = if b = a ∧ k = j then v else S.I b k := by
  show va_up S.I a (va_up (S.I a) j v) b k = _
  unfold va_up
  by_cases h : b = a
  · subst h; simp
  · simp [h]
theorem I_ne {S : pS} {a j : Nat} {v : Int32} {b k : Nat} (h : b ≠ a) : (S.setI a j v).I b k = S.I b k := by rw [I_setI, if_neg (fun q => h q.1)]
theorem I_ne2 {S : pS} {a j : Nat} {v : Int32} {b k : Nat} (h : k ≠ j) : (S.setI a j v).I b k = S.I b k := by rw [I_setI, if_neg (fun q => h q.2)]
theorem I_eq {S : pS} {a j : Nat} {v : Int32} : (S.setI a j v).I a j = v := by rw [I_setI, if_pos ⟨rfl, rfl⟩]
theorem P_setP (S : pS) (a j : Nat) (v : Option Nat) (b k : Nat) : (S.setP a j v).P b k = if b = a ∧ k = j then v else S.P b k := by
  show va_up S.P a (va_up (S.P a) j v) b k = _
  unfold va_up
  by_cases h : b = a
  · subst h; simp
  · simp [h]
theorem P_ne {S : pS} {a j : Nat} {v : Option Nat} {b k : Nat} (h : b ≠ a) : (S.setP a j v).P b k = S.P b k := by rw [P_setP, if_neg (fun q => h q.1)]
theorem P_ne2 {S : pS} {a j : Nat} {v : Option Nat} {b k : Nat} (h : k ≠ j) : (S.setP a j v).P b k = S.P b k := by rw [P_setP, if_neg (fun q => h q.2)]
theorem P_eq {S : pS} {a j : Nat} {v : Option Nat} : (S.setP a j v).P a j = v := by rw [P_setP, if_pos ⟨rfl, rfl⟩]
theorem ok_ne {S : pS} {a b k l : Nat} (ha : S.ok a k) (hb : S.ok b l) (h : k ≠ l) : a ≠ b := fun e => h (by rw [← ha.2, ← hb.2, e])
theorem bI_0 {b : Bool} (h : bI b = 0) : b = false := by cases b; rfl; exact absurd h (by decide)
theorem bI_1 {b : Bool} (h : ¬ bI b = 0) : b = true := by cases b; exact absurd rfl h; rfl
theorem bI_01 (b : Bool) : bI b = 0 ∨ bI b = 1 := by cases b; exact Or.inl rfl; exact Or.inr rfl
-- a row r with its array t
def RR (S : pS) (r t cap n : Nat) : Prop := S.ok r 3 ∧ S.P r 0 = some t ∧ S.ok t 7 ∧ S.n t = cap ∧ S.I r 1 = nI n ∧ n ≤ cap ∧ cap ≤ 1000
theorem xr_size {post : Int32 → pS → Prop} {S : pS} {r t cap n : Nat} (h : RR S r t cap n) (hp : post (nI n) S) : wp_X3_size post r S := by
  unfold wp_X3_size
  rw [h.2.2.2.2.1]
  exact ⟨h.1, hp⟩
theorem xr_full {post : Int32 → pS → Prop} {S : pS} {r t cap n : Nat} (h : RR S r t cap n) (hp : post (bI (decide (cap ≤ n))) S) : wp_X3_isFull post r S := by
  obtain ⟨h1, h2, h3, h4, h5, h6, h7⟩ := h
  unfold wp_X3_isFull
  refine ⟨h1, t, h2, h3, ?_⟩
  rw [h4, h5]
  refine ⟨fun c => ?_, fun c => ?_⟩
  · rw [decide_eq_false (fun q => nI_nlt q (by omega) c)] at hp
    exact hp
  · rw [decide_eq_true (by
      rcases Nat.lt_or_ge n cap with q | q
      · exact absurd (nI_lt q (by omega)) c
      · exact q)] at hp
    exact hp
theorem xr_add {post : pS → Prop} {S : pS} {r t cap n : Nat} {x : Int32} (h : RR S r t cap n) (hf : n = cap → post S) (hp : n < cap → post ((S.setI t n x).setI r 1 (nI (n + 1)))) : wp_X3_add post r x S := by
  obtain ⟨h1, h2, h3, h4, h5, h6, h7⟩ := h
  have hne : r ≠ t := ok_ne h1 h3 (by decide)
  unfold wp_X3_add
  refine ⟨h1, t, h2, h3, ?_⟩
  rw [h4, h5]
  refine ⟨fun c => hf ?_, fun c => ?_⟩
  · rcases Nat.lt_or_ge n cap with q | q
    · exact absurd c (nI_ge q (by omega))
    · omega
  · have hlt : n < cap := by
      rcases Nat.lt_or_ge n cap with q | q
      · exact q
      · exact absurd (nI_le q (by omega)) c
    refine ⟨vp_in_nI hlt (by omega), ?_⟩
    intro S7 e7
    subst e7
    intro S9 e9
    rw [nI_clamp (by omega), I_ne hne, h5, nI_1] at e9
    subst e9
    exact hp hlt
theorem xr_at {post : Int32 → pS → Prop} {S : pS} {r t cap n : Nat} {x : Int32} (h : RR S r t cap n) (h0 : x < 0 → post (-4) S) (h1 : ¬ x < 0 → nI n ≤ x → post (-4) S) (h2 : ∀ k, k < n → x = nI k → post (S.I t k) S) : wp_X3_at post r x S := by
  obtain ⟨g1, g2, g3, g4, g5, g6, g7⟩ := h
  unfold wp_X3_at
  rw [g5]
  refine ⟨h0, fun c => ⟨g1, fun c1 => h1 c c1, fun c1 => ?_⟩⟩
  obtain ⟨k, hk, rfl⟩ := x_lt_n c c1 (by omega)
  refine ⟨t, g2, g3, ?_⟩
  rw [g4, nI_clamp (by omega)]
  exact ⟨vp_in_nI (by omega) (by omega), h2 k hk rfl⟩
theorem xr_rem {post : Int32 → pS → Prop} {S : pS} {r t cap n : Nat} (h : RR S r t cap n) (h0 : 0 < n) (hp : post (S.I t (n - 1)) (S.setI r 1 (nI (n - 1)))) : wp_X3_removeLast post r S := by
  obtain ⟨h1, h2, h3, h4, h5, h6, h7⟩ := h
  have hne : t ≠ r := Ne.symm (ok_ne h1 h3 (by decide))
  unfold wp_X3_removeLast
  rw [h5]
  refine ⟨h1, fun _ => ?_, fun c => absurd (nI_lt (a := 0) h0 (by omega)) c⟩
  intro S3 e3
  rw [show (1 : Int32) = nI 1 from rfl, pk_sub h0] at e3
  subst e3
  refine ⟨t, h2, h3, ?_⟩
  rw [I_eq, nI_clamp (by omega), I_ne hne]
  exact ⟨vin_of h4 (vp_in_nI (by omega) (by omega)), hp⟩
theorem xr_clear {post : pS → Prop} {S : pS} {r t cap n : Nat} (h : RR S r t cap n) (hp : post (S.setI r 1 0)) : wp_X3_clear post r S := by
  unfold wp_X3_clear
  exact ⟨h.1, fun S2 e2 => e2 ▸ hp⟩
def keqS (S : pS) (t u : Nat) : Nat → Bool
  | 0 => true
  | n + 1 => keqS S t u n && decide (S.I t n = S.I u n)
theorem xr_shareL {post : Int32 → pS → Prop} {S : pS} {r t cap n r2 t2 cap2 n2 L : Nat} (h : RR S r t cap n) (h2 : RR S r2 t2 cap2 n2) (hn : L ≤ n) (hn2 : L ≤ n2) (hp : post (bI (keqS S t t2 L)) S) : ∀ m k, k + m = L → keqS S t t2 k = true → wp_X3_sharesBeginning_L20 post (m + 1) r r2 (nI L) (nI k) S := by
  obtain ⟨g1, g2, g3, g4, g5, g6, g7⟩ := h
  obtain ⟨i1, i2, i3, i4, i5, i6, i7⟩ := h2
  intro m
  induction m with
  | zero =>
    intro k hk hq
    have hk : k = L := by omega
    subst hk
    unfold wp_X3_sharesBeginning_L20
    rw [hq] at hp
    exact ⟨fun _ => hp, fun c => absurd (nI_le (Nat.le_refl _) (by omega)) c⟩
  | succ m ih =>
    intro k hk hq
    unfold wp_X3_sharesBeginning_L20
    refine ⟨fun c => absurd c (nI_ge (by omega) (by omega)), fun _ => ⟨g1, t, g2, g3, vin_of g4 (vp_in_nI (by omega) (by omega)), i1, t2, i2, i3, vin_of i4 (vp_in_nI (by omega) (by omega)), ?_⟩⟩
    rw [nI_clamp (by omega), nI_1]
    refine ⟨fun c => ih (k + 1) (by omega) (by rw [keqS, hq, decide_eq_true c]; rfl), fun c => ?_⟩
    have hf : ∀ j, keqS S t t2 (k + 1 + j) = false := by
      intro j
      induction j with
      | zero => rw [Nat.add_zero, keqS, hq, decide_eq_false c]; rfl
      | succ j jh => rw [show k + 1 + (j + 1) = (k + 1 + j) + 1 by omega, keqS, jh]; rfl
    have e : keqS S t t2 L = false := by rw [show L = k + 1 + m by omega]; exact hf m
    rw [e] at hp
    exact hp
theorem xr_share {post : Int32 → pS → Prop} {S : pS} {r t cap n r2 t2 cap2 n2 L : Nat} (h : RR S r t cap n) (h2 : RR S r2 t2 cap2 n2) (hL : L ≤ 1000) (hp : post (bI (decide (L ≤ n) && (decide (L ≤ n2) && keqS S t t2 L))) S) : wp_X3_sharesBeginning post r r2 (nI L) S := by
  have h' := h
  have h2' := h2
  obtain ⟨g1, g2, g3, g4, g5, g6, g7⟩ := h
  obtain ⟨i1, i2, i3, i4, i5, i6, i7⟩ := h2
  unfold wp_X3_sharesBeginning
  rw [g5, i5]
  refine ⟨g1, fun c => ?_, fun c => ⟨i1, fun c1 => ?_, fun c1 => ?_⟩⟩
  · rw [decide_eq_false (fun q => nI_nlt q (by omega) c)] at hp
    exact hp
  · have hn : L ≤ n := by
      rcases Nat.lt_or_ge n L with q | q
      · exact absurd (nI_lt q (by omega)) c
      · exact q
    have hn2 : L ≤ n2 := by
      rcases Nat.lt_or_ge n2 L with q | q
      · exact absurd c1 (nI_ge q (by omega))
      · exact q
    rw [decide_eq_true hn, decide_eq_true hn2] at hp
    exact ⟨L + 1, xr_shareL h' h2' hn hn2 hp L 0 (Nat.zero_add _) rfl⟩
  · have hn : L ≤ n := by
      rcases Nat.lt_or_ge n L with q | q
      · exact absurd (nI_lt q (by omega)) c
      · exact q
    rw [decide_eq_true hn, decide_eq_false (fun q => c1 (nI_le q (by omega)))] at hp
    exact hp
-- a binding q, its row r and array t
def BR (S : pS) (q r t n : Nat) : Prop := S.ok q 0 ∧ S.P q 0 = some r ∧ RR S r t n n
theorem xb_isFor {post : Int32 → pS → Prop} {S : pS} {q r t n r2 t2 cap2 n2 L : Nat} (h : BR S q r t n) (h2 : RR S r2 t2 cap2 n2) (hL : L ≤ 1000) (hp : post (bI (decide (n = L) && (decide (L ≤ n2) && keqS S t t2 L))) S) : wp_X0_isFor post q r2 (nI L) S := by
  obtain ⟨h0, h1, hr⟩ := h
  have hn := hr.2.2.2.2.2.2
  unfold wp_X0_isFor
  refine ⟨h0, r, h1, hr.1, xr_size hr ⟨fun c => ?_, fun c => ?_⟩⟩
  · have c := (nI_eq (by omega) (by omega)).mp c
    subst c
    refine ⟨h0, r, h1, hr.1, xr_share hr h2 hL ⟨fun z => ?_, fun z => ?_⟩⟩
    · rw [decide_eq_true (Nat.le_refl n)] at z
      have z := bI_0 z
      rw [decide_eq_true rfl, Bool.true_and] at hp
      rw [Bool.true_and] at z
      rw [z] at hp
      exact hp
    · rw [decide_eq_true (Nat.le_refl n)] at z
      have z := bI_1 z
      rw [decide_eq_true rfl, Bool.true_and] at hp
      rw [Bool.true_and] at z
      rw [z] at hp
      exact hp
  · rw [decide_eq_false (fun z => c (by rw [z]))] at hp
    exact hp
theorem xb_longer {post : Int32 → pS → Prop} {S : pS} {q r t n r2 t2 cap2 n2 : Nat} (h : BR S q r t n) (h2 : RR S r2 t2 cap2 n2) (hp : post (bI (decide (n2 < n) && keqS S t t2 n2)) S) : wp_X0_isLongerThan post q r2 S := by
  obtain ⟨h0, h1, hr⟩ := h
  have hn := hr.2.2.2.2.2.2
  have hn2 := h2.2.2.2.2.2
  unfold wp_X0_isLongerThan
  refine ⟨h0, r, h1, hr.1, xr_size hr ⟨h2.1, xr_size h2 ⟨fun c => ?_, fun c => ?_⟩⟩⟩
  · rw [decide_eq_false (fun z => nI_ge z (by omega) c)] at hp
    exact hp
  · have hlt : n2 < n := by
      rcases Nat.lt_or_ge n2 n with q | q
      · exact q
      · exact absurd (nI_le q (by omega)) c
    rw [decide_eq_true hlt, Bool.true_and] at hp
    refine ⟨h0, r, h1, h2.1, xr_size h2 ⟨hr.1, xr_share hr h2 (by omega) ⟨fun z => ?_, fun z => ?_⟩⟩⟩
    · rw [decide_eq_true (by omega : n2 ≤ n), decide_eq_true (Nat.le_refl n2)] at z
      have z := bI_0 z
      rw [Bool.true_and, Bool.true_and] at z
      rw [z] at hp
      exact hp
    · rw [decide_eq_true (by omega : n2 ≤ n), decide_eq_true (Nat.le_refl n2)] at z
      have z := bI_1 z
      rw [Bool.true_and, Bool.true_and] at z
      rw [z] at hp
      exact hp
theorem xb_holds {post : Int32 → pS → Prop} {S : pS} {q f : Nat} (h : S.ok q 0) (hf : S.ok f 7) (hn : S.n f = 6) (hz : S.I q 1 < 0 ∨ ∃ k, k < 6 ∧ S.I q 1 = nI k) (hp : post (bI (decide (S.I q 1 < 0) || decide (S.I f (S.I q 1).toNatClampNeg = S.I q 2))) S) : wp_X0_holds post q f S := by
  unfold wp_X0_holds
  refine ⟨h, fun c => ?_, fun c => ⟨hf, fun c1 => ?_, fun c1 => ?_⟩⟩
  · rw [decide_eq_true c] at hp
    exact hp
  · obtain ⟨k, hk, e⟩ : ∃ k, k < 6 ∧ S.I q 1 = nI k := by
      rcases hz with z | z
      · exact absurd z c
      · exact z
    refine ⟨vin_of hn (by rw [e]; exact vp_in_nI hk (by decide)), fun c2 => ?_, fun c2 => ?_⟩
    · rw [decide_eq_false c, decide_eq_true c2] at hp
      exact hp
    · rw [decide_eq_false c, decide_eq_false c2] at hp
      exact hp
  · obtain ⟨k, hk, e⟩ : ∃ k, k < 6 ∧ S.I q 1 = nI k := by
      rcases hz with z | z
      · exact absurd z c
      · exact z
    rw [hn, e] at c1
    exact absurd (nI_lt hk (by decide)) c1
theorem xb_shadows {post : Int32 → pS → Prop} {S : pS} {q r t n q2 r2 t2 n2 : Nat} (h : BR S q r t n) (h2 : BR S q2 r2 t2 n2) (hp : post (bI ((decide (n = n2) && keqS S t t2 n2) && (decide (S.I q 1 = -1) || (decide (S.I q 1 = S.I q2 1) && decide (S.I q 2 = S.I q2 2))))) S) : wp_X0_shadows post q q2 S := by
  have h' := h
  obtain ⟨h0, h1, hr⟩ := h
  obtain ⟨g0, g1, gr⟩ := h2
  have hn2 := gr.2.2.2.2.2.2
  unfold wp_X0_shadows
  refine ⟨g0, r2, g1, gr.1, xr_size gr ⟨h0, xb_isFor h' gr (by omega) ⟨fun z => ?_, fun z => ?_⟩⟩⟩
  · have z := bI_0 z
    rw [decide_eq_true (Nat.le_refl n2), Bool.true_and] at z
    rw [z] at hp
    exact hp
  · have z := bI_1 z
    rw [decide_eq_true (Nat.le_refl n2), Bool.true_and] at z
    rw [z, Bool.true_and] at hp
    refine ⟨h0, fun c => ?_, fun c => ⟨g0, fun c1 => ⟨fun c2 => ?_, fun c2 => ?_⟩, fun c1 => ?_⟩⟩
    · rw [decide_eq_true c] at hp
      exact hp
    · rw [decide_eq_false c, decide_eq_true c1, decide_eq_true c2] at hp
      exact hp
    · rw [decide_eq_false c, decide_eq_true c1, decide_eq_false c2] at hp
      exact hp
    · rw [decide_eq_false c, decide_eq_false c1] at hp
      exact hp
-- lists
def LR (S : pS) (a arr n : Nat) : Prop := S.ok a 6 ∧ S.P a 1 = some arr ∧ S.ok arr 8 ∧ S.n arr = 10 ∧ S.I a 2 = nI n ∧ n ≤ 10
theorem xl_size {post : Int32 → pS → Prop} {S : pS} {a n : Nat} (h : S.ok a 6) (hn : S.I a 2 = nI n) (hp : post (nI n) S) : wp_Jx4a65c_size_8abf5 post a S := by
  unfold wp_Jx4a65c_size_8abf5
  rw [hn]
  exact ⟨h, hp⟩
theorem xl_check {post : Int32 → pS → Prop} {S : pS} {i n : Nat} (h : i < n) (hn : n ≤ 1000) (hp : post (nI i) S) : wp_J15_checkIndex_7cf53 post (nI i) (nI n) S := by
  unfold wp_J15_checkIndex_7cf53 wp_J3_checkIndex_8e157
  exact ⟨fun c => absurd c (nI_pos (by omega)), fun _ => ⟨fun _ => hp, fun c => absurd (nI_lt h (by omega)) c⟩⟩
theorem xl_get {post : Nat → pS → Prop} {S : pS} {a arr n i q : Nat} (h : LR S a arr n) (hi : i < n) (hq : S.P arr i = some q) (hp : post q S) : wp_Jx4a65c_get_915e3 post a (nI i) S := by
  obtain ⟨h1, h2, h3, h4, h5, h6⟩ := h
  unfold wp_Jx4a65c_get_915e3
  rw [h5]
  refine ⟨h1, xl_check hi (by omega) ⟨h1, ?_⟩⟩
  unfold wp_Jx4a65c_elementData_915e3
  refine ⟨h1, arr, h2, h3, vin_of h4 (vp_in_nI (by omega) (by decide)), q, ?_, hp⟩
  rw [nI_clamp (by omega)]
  exact hq
theorem xl_addng {post : Int32 → pS → Prop} {S : pS} {e0 a arr n x : Nat} (h : LR S a arr n) (hn : n < 10) (hne : arr ≠ e0) (hx : S.ok x 0 ∨ S.ok x 1 ∨ S.ok x 3) (hp : post 1 (((S.setI a 0 (S.I a 0 + 1)).setP arr n (some x)).setI a 2 (nI (n + 1)))) : wp_Jx4a65c_add_9ea2d_ng post e0 a x S := by
  obtain ⟨h1, h2, h3, h4, h5, h6⟩ := h
  unfold wp_Jx4a65c_add_9ea2d_ng
  refine ⟨h1, ?_⟩
  intro S2 e2
  subst e2
  refine ⟨arr, h2, ?_⟩
  rw [I_ne2 (by decide), h5]
  unfold wp_Jx4a65c_add_72be8_ng
  refine ⟨fun c => absurd c hne, fun _ => ⟨h3, fun c => ?_, fun c => ⟨vin_of h4 (vp_in_nI hn (by decide)), hx, ?_⟩⟩⟩
  · rw [show (S.setI a 0 (S.I a 0 + 1)).n arr = 10 from h4] at c
    exact absurd ((nI_eq (by omega) (by decide)).mp c) (by omega)
  · intro S12 e12
    subst e12
    refine ⟨h1, ?_⟩
    intro S14 e14
    rw [nI_clamp (by omega), nI_1] at e14
    subst e14
    exact hp
theorem xl_add {post : Int32 → pS → Prop} {S : pS} {e0 a arr n x : Nat} (h : LR S a arr n) (hn : n < 10) (hne : arr ≠ e0) (hx : S.ok x 0 ∨ S.ok x 1 ∨ S.ok x 3) (hp : post 1 (((S.setI a 0 (S.I a 0 + 1)).setP arr n (some x)).setI a 2 (nI (n + 1)))) : wp_Jx4a65c_add_9ea2d post e0 a x S := by
  obtain ⟨h1, h2, h3, h4, h5, h6⟩ := h
  unfold wp_Jx4a65c_add_9ea2d
  refine ⟨h1, ?_⟩
  intro S2 e2
  subst e2
  refine ⟨arr, h2, ?_⟩
  rw [I_ne2 (by decide), h5]
  unfold wp_Jx4a65c_add_72be8
  refine ⟨fun c => absurd c hne, fun _ => ⟨h3, fun c => ?_, fun c => ⟨vin_of h4 (vp_in_nI hn (by decide)), hx, ?_⟩⟩⟩
  · rw [show (S.setI a 0 (S.I a 0 + 1)).n arr = 10 from h4] at c
    exact absurd ((nI_eq (by omega) (by decide)).mp c) (by omega)
  · intro S12 e12
    subst e12
    refine ⟨h1, ?_⟩
    intro S14 e14
    rw [nI_clamp (by omega), nI_1] at e14
    subst e14
    exact hp
/-- the first element of all: ten places are made -/
theorem xl_add0 {post : Int32 → pS → Prop} {S : pS} {e0 a x : Nat} (h1 : S.ok a 6) (h2 : S.P a 1 = some e0) (h5 : S.I a 2 = 0) (hx : S.ok x 0 ∨ S.ok x 1 ∨ S.ok x 3) (hp : ∀ q, q ∉ S.L → q ≠ e0 → post 1 (((((S.setI a 0 (S.I a 0 + 1)).new q 8 10).setP a 1 (some q)).setP q 0 (some x)).setI a 2 1)) : wp_Jx4a65c_add_9ea2d post e0 a x S := by
  unfold wp_Jx4a65c_add_9ea2d
  refine ⟨h1, ?_⟩
  intro S2 e2
  subst e2
  refine ⟨e0, h2, ?_⟩
  rw [I_ne2 (by decide), h5]
  unfold wp_Jx4a65c_add_72be8
  refine ⟨fun _ => ⟨fun _ => ⟨h1, ?_⟩, fun c => absurd rfl c⟩, fun c => absurd rfl c⟩
  unfold wp_Jx4a65c_grow_d5877
  refine ⟨h1, ?_⟩
  unfold wp_Jx4a65c_grow_92f84
  refine ⟨h1, e0, h2, fun _ => ⟨fun c => absurd c (by decide), fun _ => ⟨fun _ => ?_, fun c => absurd rfl c⟩⟩, fun c => absurd rfl c⟩
  rw [I_ne2 (by decide), h5]
  unfold wp_J9_max_7cf53
  refine ⟨fun c => absurd c (by decide), fun _ => ⟨by decide, by decide, ?_⟩⟩
  intro q hq hqe S12 e12
  subst e12
  refine ⟨ok_old hq h1, ?_⟩
  intro S15 e15
  subst e15
  have hok : ∀ k, S.ok x k → ((((S.setI a 0 (S.I a 0 + 1)).new q 8 (10 : Int32).toNatClampNeg).setP a 1 (some q))).ok x k := fun k hk => ok_old (S := S.setI a 0 (S.I a 0 + 1)) (k := 8) (n := (10 : Int32).toNatClampNeg) hq hk
  have hnw : ((((S.setI a 0 (S.I a 0 + 1)).new q 8 (10 : Int32).toNatClampNeg).setP a 1 (some q))).ok q 8 := ok_new (S := S.setI a 0 (S.I a 0 + 1)) (q := q) (k := 8) (n := (10 : Int32).toNatClampNeg)
  refine ⟨hnw, ?_, ?_, ?_⟩
  · refine vin_of (L := 10) ?_ (vp_in_nI (n := 0) (by decide) (by decide))
    show va_up S.n q (10 : Int32).toNatClampNeg q = 10
    rw [va_up_self]; rfl
  · rcases hx with z | z | z
    · exact Or.inl (hok 0 z)
    · exact Or.inr (Or.inl (hok 1 z))
    · exact Or.inr (Or.inr (hok 3 z))
  · intro S14 e14
    subst e14
    refine ⟨ok_old (S := S.setI a 0 (S.I a 0 + 1)) (k := 8) (n := (10 : Int32).toNatClampNeg) hq h1, ?_⟩
    intro S16 e16
    subst e16
    exact hp q hq hqe
theorem xl_remL {post : Nat → pS → Prop} {S : pS} {a arr n q : Nat} (h : LR S a arr n) (h0 : 0 < n) (hq : S.P arr (n - 1) = some q) (hp : post q (((S.setI a 0 (S.I a 0 + 1)).setI a 2 (nI (n - 1))).setP arr (n - 1) none)) : wp_Jx4a65c_remove_915e3 post a (nI (n - 1)) S := by
  obtain ⟨h1, h2, h3, h4, h5, h6⟩ := h
  unfold wp_Jx4a65c_remove_915e3
  rw [h5]
  refine ⟨h1, xl_check (by omega) (by omega) ⟨h1, arr, h2, h3, vin_of h4 (vp_in_nI (by omega) (by decide)), q, by rw [nI_clamp (by omega)]; exact hq, ?_⟩⟩
  unfold wp_Jx4a65c_fastRemove_b59b0
  refine ⟨h1, ?_⟩
  intro S2 e2
  subst e2
  rw [I_ne2 (by decide), h5, show (1 : Int32) = nI 1 from rfl, pk_sub h0]
  refine ⟨fun _ => ?_, fun c => absurd (nI_le (Nat.le_refl _) (by omega)) c⟩
  intro S5 e5
  subst e5
  refine ⟨h3, vin_of h4 (vp_in_nI (by omega) (by decide)), ?_⟩
  intro S8 e8
  rw [nI_clamp (by omega)] at e8
  subst e8
  exact hp
theorem xl_rem {post : Nat → pS → Prop} {S : pS} {a arr n i q : Nat} (h : LR S a arr n) (hi : i + 1 < n) (hq : S.P arr i = some q) (hel : ∀ k y, S.P arr k = some y → k < n → S.ok y 0) (hp : post q ((((S.setI a 0 (S.I a 0 + 1)).rowP arr (va_cpy (S.P arr) (S.P arr) (i + 1) i (n - 1 - i))).setI a 2 (nI (n - 1))).setP arr (n - 1) none)) : wp_Jx4a65c_remove_915e3 post a (nI i) S := by
  obtain ⟨h1, h2, h3, h4, h5, h6⟩ := h
  unfold wp_Jx4a65c_remove_915e3
  rw [h5]
  refine ⟨h1, xl_check (by omega) (by omega) ⟨h1, arr, h2, h3, vin_of h4 (vp_in_nI (by omega) (by decide)), q, by rw [nI_clamp (by omega)]; exact hq, ?_⟩⟩
  unfold wp_Jx4a65c_fastRemove_b59b0
  refine ⟨h1, ?_⟩
  intro S2 e2
  subst e2
  rw [I_ne2 (by decide), h5, show (1 : Int32) = nI 1 from rfl, pk_sub (by omega), nI_add, pk_sub (by omega), nI_clamp (n := i + 1) (by omega), nI_clamp (n := i) (by omega), nI_clamp (n := n - 1 - i) (by omega), nI_clamp (n := n - 1) (by omega)]
  refine ⟨fun c => absurd c (nI_ge (by omega) (by omega)), fun _ => ⟨h3, nI_pos (by omega), nI_pos (by omega), nI_pos (by omega), ?_, ?_, ?_, ?_⟩⟩
  · show i + 1 + (n - 1 - i) ≤ S.n arr
    omega
  · show i + (n - 1 - i) ≤ S.n arr
    omega
  · intro j hj y hy
    exact hel (i + 1 + j) y hy (by omega)
  · intro S16 e16
    subst e16
    intro S18 e18
    subst e18
    refine ⟨vin_of h4 (vp_in_nI (by omega) (by decide)), ?_⟩
    intro S22 e22
    subst e22
    exact hp
-- reports
theorem x_xorI (a b : Nat) : nI a ^^^ nI b = nI (a ^^^ b) := by
  apply Int32.toBitVec_inj.1
  show BitVec.ofNat 32 a ^^^ BitVec.ofNat 32 b = BitVec.ofNat 32 (a ^^^ b)
  apply BitVec.eq_of_getLsbD_eq
  intro i hi
  simp [hi]
theorem x_fmod {post : Int32 → pS → Prop} {S : pS} {n : Nat} (hn : n < 2147483648) (hp : post (nI (n % 40)) S) : wp_J9_floorMod_7cf53 post (nI n) 40 S := by
  unfold wp_J9_floorMod_7cf53
  rw [show (40 : Int32) = nI 40 from rfl, pk_rem (by omega) (by decide) (by decide), x_xorI]
  have h : n ^^^ 40 < 2 ^ 31 := Nat.xor_lt_two_pow (by omega) (by decide)
  exact ⟨by decide, fun _ => hp, fun c => absurd (nI_pos' h) c⟩
/-- the log g with its arrays k, a and n reports -/
def GR (S : pS) (g k a n : Nat) : Prop := S.ok g 2 ∧ S.P g 0 = some k ∧ S.P g 1 = some a ∧ S.ok k 7 ∧ S.ok a 7 ∧ S.n k = 40 ∧ S.n a = 40 ∧ k ≠ a ∧ S.I g 2 = nI n
theorem xg_add {post : pS → Prop} {S : pS} {g k a n : Nat} {x y : Int32} (h : GR S g k a n) (hn : n < 2147483647) (hp : post (((S.setI k (n % 40) x).setI a (n % 40) y).setI g 2 (nI (n + 1)))) : wp_X2_add post g x y S := by
  obtain ⟨h1, h2, h3, h4, h5, h6, h7, h8, h9⟩ := h
  have hm : n % 40 < 40 := Nat.mod_lt _ (by decide)
  have e1 : g ≠ k := ok_ne h1 h4 (by decide)
  have e2 : g ≠ a := ok_ne h1 h5 (by decide)
  unfold wp_X2_add
  rw [h9]
  refine ⟨h1, x_fmod (by omega) ⟨h1, k, h2, h4, vin_of h6 (vp_in_nI hm (by decide)), ?_⟩⟩
  intro S9 e9
  subst e9
  refine ⟨a, h3, h5, vin_of h7 (vp_in_nI hm (by decide)), ?_⟩
  intro S15 e15
  subst e15
  intro S17 e17
  rw [nI_clamp (by omega), I_ne e2, I_ne e1, h9, nI_1] at e17
  subst e17
  exact hp
theorem xg_read {post : Int32 → pS → Prop} {S : pS} {g n : Nat} {x : Int32} (h1 : S.ok g 2) (h9 : S.I g 2 = nI n) (hn : n < 2147483647) (h0 : ¬ x < 0) (ha : (nI n ≤ x ∨ x.toNatClampNeg + 40 < n) → post 0 S) (hb : ¬ nI n ≤ x → ¬ x.toNatClampNeg + 40 < n → post 1 S) : wp_X2_isReadable post g x S := by
  unfold wp_X2_isReadable
  rw [h9]
  refine ⟨fun c => absurd c h0, fun _ => ⟨h1, fun c => ha (Or.inl c), fun c => ?_⟩⟩
  obtain ⟨k, hk, rfl⟩ := x_lt_n h0 c (by omega)
  have e : (nI n - 40 : Int32).toInt = (n : Int) - 40 := by
    rw [show (40 : Int32) = nI 40 from rfl, Int32.toInt_sub, nI_toInt (by omega), nI_toInt (by omega)]
    exact Int.bmod_eq_of_le (by omega) (by omega)
  have ek : (nI k).toInt = (k : Int) := nI_toInt (by omega)
  have eck : (nI k).toNatClampNeg = k := nI_clamp (by omega)
  refine ⟨fun c2 => ha (Or.inr ?_), fun c2 => hb c ?_⟩
  · rw [Int32.lt_iff_toInt_lt, e, ek] at c2
    rw [eck]; omega
  · rw [Int32.lt_iff_toInt_lt, e, ek] at c2
    rw [eck]; omega
theorem xg_kind {post : Int32 → pS → Prop} {S : pS} {g k a n : Nat} {x : Int32} (h : GR S g k a n) (hn : n < 2147483647) (h0 : ¬ x < 0) (ha : (nI n ≤ x ∨ x.toNatClampNeg + 40 < n) → post (-4) S) (hb : ¬ nI n ≤ x → ¬ x.toNatClampNeg + 40 < n → post (S.I k (x.toNatClampNeg % 40)) S) : wp_X2_kindOf post g x S := by
  obtain ⟨h1, h2, h3, h4, h5, h6, h7, h8, h9⟩ := h
  unfold wp_X2_kindOf
  refine ⟨h1, xg_read h1 h9 hn h0 (fun c => ⟨fun _ => ha c, fun z => absurd rfl z⟩) (fun c c1 => ⟨fun z => absurd z (by decide), fun _ => ⟨h1, k, h2, ?_⟩⟩)⟩
  have hb := hb c c1
  obtain ⟨j, hj, rfl⟩ := x_lt_n h0 c (by omega)
  have hm : j % 40 < 40 := Nat.mod_lt _ (by decide)
  rw [nI_clamp (by omega)] at hb
  refine x_fmod (by omega) ⟨h4, vin_of h6 (vp_in_nI hm (by decide)), ?_⟩
  rw [nI_clamp (by omega)]
  exact hb
theorem xg_arg {post : Int32 → pS → Prop} {S : pS} {g k a n : Nat} {x : Int32} (h : GR S g k a n) (hn : n < 2147483647) (h0 : ¬ x < 0) (ha : (nI n ≤ x ∨ x.toNatClampNeg + 40 < n) → post (-4) S) (hb : ¬ nI n ≤ x → ¬ x.toNatClampNeg + 40 < n → post (S.I a (x.toNatClampNeg % 40)) S) : wp_X2_argumentOf post g x S := by
  obtain ⟨h1, h2, h3, h4, h5, h6, h7, h8, h9⟩ := h
  unfold wp_X2_argumentOf
  refine ⟨h1, xg_read h1 h9 hn h0 (fun c => ⟨fun _ => ha c, fun z => absurd rfl z⟩) (fun c c1 => ⟨fun z => absurd z (by decide), fun _ => ⟨h1, a, h3, ?_⟩⟩)⟩
  have hb := hb c c1
  obtain ⟨j, hj, rfl⟩ := x_lt_n h0 c (by omega)
  have hm : j % 40 < 40 := Nat.mod_lt _ (by decide)
  rw [nI_clamp (by omega)] at hb
  refine x_fmod (by omega) ⟨h5, vin_of h7 (vp_in_nI hm (by decide)), ?_⟩
  rw [nI_clamp (by omega)]
  exact hb
