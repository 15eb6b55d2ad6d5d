/-! PROCESSING: the pure functions, and that the reference computes them -/
def says (A : aS) (kd ar : Nat) : aS := ((A.setW 24 (A.s 23 % 40) kd).setW 25 (A.s 23 % 40) ar).setS 23 (A.s 23 + 1)
def adds (A : aS) (x : Nat) : aS := (A.setW 17 (A.s 16) x).setS 16 (A.s 16 + 1)
def plD (A : aS) (m : Nat) : Nat → aS
  | 0 => A
  | k + 1 => plD (adds A (A.w 22 (12 * m + k))) m k
termination_by k => k
def plB (A : aS) : aS := adds ((A.setS 18 (A.s 18 + 1)).setS 19 (A.s 19 + 1)) 12
def plays (A : aS) (m : Nat) : aS := if A.s 20 = m ∨ A.s 18 = 3 ∨ A.s 19 = 20 then says A 2 m else plD (plB A) m (A.w 21 m)
def perf (A : aS) (act arg : Nat) : aS := if act = 0 then says A 0 arg else if act = 1 then plays A arg else if act = 2 then (if A.s 1 = 4 then says A 2 arg else (A.setW 2 (A.s 1) arg).setS 1 (A.s 1 + 1)) else if act = 3 then (if A.s 1 = 1 then says A 2 0 else A.setS 1 (A.s 1 - 1)) else if act = 4 then A.setW 0 arg 1 else A.setW 0 arg 0
def frD (A : aS) (first : Nat) : Nat → aS
  | 0 => A
  | k + 1 => if first ≤ k then frD (adds A (A.w 13 k)) first k else A
termination_by k => k
def frees (A : aS) (first : Nat) : aS := (frD A first (A.s 12)).setS 12 0
def srch (A : aS) : Nat → Nat × Option Nat
  | 0 => (0, none)
  | n + 1 => match bound A (n + 1) with
    | some p => (n + 1, some p)
    | none => if n = 0 then (1, none) else srch A n
def endR (A : aS) (r : Nat × Option Nat) : aS := match r.2 with
  | none => says (frees A 1) 1 (A.w 13 0)
  | some p => perf (frees A r.1) (A.w 8 p) (A.w 9 p)
def ends (A : aS) : aS := endR A (srch A (A.s 12))
def popA (A : aS) : aS := A.setS 16 (A.s 16 - 1)
def keyA (A : aS) : aS := ((popA A).setW 13 (A.s 12) (A.w 17 (A.s 16 - 1))).setS 12 (A.s 12 + 1)
def stepA (A : aS) : aS := if A.w 17 (A.s 16 - 1) = 12 then (popA A).setS 18 (A.s 18 - 1) else if ext (keyA A) then (keyA A).setS 15 (A.s 14) else ends (keyA A)
def wkA : Nat → aS → aS
  | 0, A => A
  | f + 1, A => if A.s 16 = 0 then A else wkA f (stepA A)
theorem mv_says {post : vS → Prop} {A : aS} {kd ar : Nat} (h23 : A.s 23 < 2147483647) (h : post (toV (says A kd ar))) : wv_X5_says post (nI kd) (nI ar) (toV A) := by
  have hm : A.s 23 % 40 < 40 := Nat.mod_lt _ (by decide)
  unfold wv_X5_says
  rw [toV_s (by decide), show (40 : Int32) = nI 40 from rfl, pk_rem (by omega) (by decide) (by decide), nI_clamp (by omega)]
  refine ⟨vp_in_nI hm (by decide), ?_⟩
  intro V6 e6
  replace e6 := e6.trans (toV_setW (v := kd) (by decide) (by decide) rfl)
  subst e6
  rw [toV_s (by decide), aS.s_setW, pk_rem (by omega) (by decide) (by decide), nI_clamp (by omega)]
  refine ⟨vp_in_nI hm (by decide), ?_⟩
  intro V12 e12
  replace e12 := e12.trans (toV_setW (v := ar) (by decide) (by decide) rfl)
  subst e12
  intro V14 e14
  replace e14 := e14.trans (toV_setS (v := A.s 23 + 1) (by decide) (nI_1 _))
  subst e14
  exact h
theorem mv_adds {post : vS → Prop} {A : aS} {x : Nat} (h16 : A.s 16 < 100) (h : post (toV (adds A x))) : wv_X5_adds post (nI x) (toV A) := by
  unfold wv_X5_adds
  rw [toV_s (by decide), nI_clamp (by omega)]
  refine ⟨vp_in_nI h16 (by decide), ?_⟩
  intro V6 e6
  replace e6 := e6.trans (toV_setW (v := x) (by decide) (by decide) rfl)
  subst e6
  intro V8 e8
  replace e8 := e8.trans (toV_setS (v := A.s 16 + 1) (by decide) (nI_1 _))
  subst e8
  exact h
theorem adds_s (A : aS) (x j : Nat) : (adds A x).s j = if j = 16 then A.s 16 + 1 else A.s j := rfl
theorem adds_w (A : aS) (x j k : Nat) : (adds A x).w j k = if j = 17 ∧ k = A.s 16 then x else A.w j k := aS.w_setW _ _ _ _ _ _
theorem adds_wn {A : aS} {x j : Nat} (h : j ≠ 17) : (adds A x).w j = A.w j := by
  funext k
  rw [adds_w, if_neg (fun q => h q.1)]
theorem adds_z (A : aS) (x : Nat) : (adds A x).z = A.z := rfl
theorem mv_plL {post : vS → Prop} {m : Nat} (hm : m < 4) : ∀ (k : Nat) (A : aS), k ≤ 12 → A.s 16 + k ≤ 100 → post (toV (plD A m k)) → wv_X5_plays_L67 post (k + 1) (nI m) (nI k - 1) (toV A) := by
  intro k
  induction k with
  | zero =>
    intro A _ _ h
    unfold wv_X5_plays_L67
    rw [plD] at h
    exact ⟨fun _ => h, fun c => absurd (by decide) c⟩
  | succ k ih =>
    intro A hk h16 h
    unfold wv_X5_plays_L67
    rw [nI_pred, show (12 : Int32) = nI 12 from rfl, ix, nI_clamp (by omega), toV_a (by decide) (by decide)]
    refine ⟨fun c => absurd c (nI_pos (by omega)), fun _ => ⟨vp_in_nI (by omega) (by decide), mv_adds (by omega) ?_⟩⟩
    rw [x_m1]
    rw [plD] at h
    exact ih _ (by omega) (by rw [adds_s, if_pos rfl]; omega) h
theorem recM_eq {r m : Nat} (hr : r ≤ 4) (hm : m < 4) : recM r = nI m ↔ r = m := by
  unfold recM
  by_cases h : r < 4
  · rw [if_pos h]; exact nI_eq (by omega) (by omega)
  · rw [if_neg h]
    refine ⟨fun e => ?_, fun e => by omega⟩
    have : ¬ nI m < 0 := nI_pos (by omega)
    rw [← e] at this
    exact absurd (by decide) this
theorem mv_plays {post : vS → Prop} {A : aS} {m : Nat} (hm : m < 4) (h21 : A.w 21 m ≤ 12) (h16 : A.s 16 + 13 ≤ 100) (h18 : A.s 18 ≤ 3) (h19 : A.s 19 ≤ 20) (h20 : A.s 20 ≤ 4) (h23 : A.s 23 < 2147483647) (h : post (toV (plays A m))) : wv_X5_plays post (nI m) (toV A) := by
  unfold wv_X5_plays
  rw [toV_r, toV_s (by decide), toV_s (by decide)]
  have hsay : (A.s 20 = m ∨ A.s 18 = 3 ∨ A.s 19 = 20) → wv_X5_says (fun V4 => post V4) 2 (nI m) (toV A) := by
    intro q
    rw [plays, if_pos q] at h
    exact mv_says (kd := 2) h23 h
  refine ⟨fun c => hsay (Or.inl ((recM_eq h20 hm).mp c)), fun c => ⟨fun c1 => hsay (Or.inr (Or.inl ((nI_eq (b := 3) (by omega) (by decide)).mp c1))), fun c1 => ⟨fun c2 => hsay (Or.inr (Or.inr ((nI_eq (b := 20) (by omega) (by decide)).mp c2))), fun c2 => ?_⟩⟩⟩
  have hn : ¬ (A.s 20 = m ∨ A.s 18 = 3 ∨ A.s 19 = 20) := by
    rintro (q | q | q)
    · exact c ((recM_eq h20 hm).mpr q)
    · exact c1 (by rw [q]; rfl)
    · exact c2 (by rw [q]; rfl)
  rw [plays, if_neg hn] at h
  intro V9 e9
  replace e9 := e9.trans (toV_setS (v := A.s 18 + 1) (by decide) (nI_1 _))
  subst e9
  intro V11 e11
  replace e11 := e11.trans (toV_setS (v := A.s 19 + 1) (by decide) (nI_1 _))
  subst e11
  refine mv_adds (x := 12) (show A.s 16 < 100 by omega) ?_
  rw [nI_clamp (by omega), toV_a (by decide) (by decide)]
  refine ⟨vp_in_nI hm (by decide), A.w 21 m + 1, ?_⟩
  rw [adds_wn (by decide)]
  exact mv_plL hm (A.w 21 m) _ h21 (by rw [adds_s, if_pos rfl]; show A.s 16 + 1 + A.w 21 m ≤ 100; omega) h
def argOK (act arg : Nat) : Prop := act ≤ 5 ∧ (act = 0 → arg < 100) ∧ (act = 1 → arg < 4) ∧ (act = 2 → arg < 4) ∧ (act = 3 → arg = 0) ∧ (4 ≤ act → arg < 6)
/-- what performing needs -/
def PrOK (A : aS) : Prop := (1 ≤ A.s 1 ∧ A.s 1 ≤ 4) ∧ (∀ m, m < 4 → A.w 21 m ≤ 12) ∧ A.s 16 + 13 ≤ 100 ∧ A.s 18 ≤ 3 ∧ A.s 19 ≤ 20 ∧ A.s 20 ≤ 4 ∧ A.s 23 < 2147483647
theorem mv_perf {post : vS → Prop} {A : aS} {act arg : Nat} (hA : PrOK A) (ho : argOK act arg) (h : post (toV (perf A act arg))) : wv_X5_performs post (nI act) (nI arg) (toV A) := by
  obtain ⟨hd, h21, h16, h18, h19, h20, h23⟩ := hA
  obtain ⟨o5, o0, o1, o2, o3, o4⟩ := ho
  have hneq : ∀ k : Nat, k < 100 → (nI act = nI k ↔ act = k) := fun k hk => nI_eq (by omega) (by omega)
  unfold wv_X5_performs
  rw [toV_s (by decide)]
  refine ⟨fun c => ?_, fun c => ?_, fun c => ?_, fun c => ?_, fun c => ?_⟩
  · have c := (hneq 0 (by decide)).mp c
    subst c
    exact mv_says (kd := 0) h23 h
  · have c := (hneq 1 (by decide)).mp c
    subst c
    exact mv_plays (o1 rfl) (h21 _ (o1 rfl)) h16 h18 h19 h20 h23 h
  · have c := (hneq 2 (by decide)).mp c
    subst c
    have h : post (toV (if A.s 1 = 4 then says A 2 arg else (A.setW 2 (A.s 1) arg).setS 1 (A.s 1 + 1))) := h
    refine ⟨fun c1 => ?_, fun c1 => ?_⟩
    · rw [if_pos ((nI_eq (b := 4) (by omega) (by decide)).mp c1)] at h
      exact mv_says (kd := 2) h23 h
    · rw [if_neg (fun q => c1 (by rw [q]; rfl))] at h
      have hne : A.s 1 ≠ 4 := fun q => c1 (by rw [q]; rfl)
      rw [nI_clamp (by omega)]
      refine ⟨vp_in_nI (by omega) (by decide), ?_⟩
      intro V16 e16
      replace e16 := e16.trans (toV_setW (v := arg) (by decide) (by decide) rfl)
      subst e16
      intro V18 e18
      replace e18 := e18.trans (toV_setS (v := A.s 1 + 1) (by decide) (nI_1 _))
      subst e18
      exact h
  · have c := (hneq 3 (by decide)).mp c
    subst c
    have h : post (toV (if A.s 1 = 1 then says A 2 0 else A.setS 1 (A.s 1 - 1))) := h
    refine ⟨fun c1 => ?_, fun c1 => ?_⟩
    · rw [if_pos ((nI_eq (b := 1) (by omega) (by decide)).mp c1)] at h
      exact mv_says (kd := 2) (ar := 0) h23 h
    · rw [if_neg (fun q => c1 (by rw [q]; rfl))] at h
      intro V24 e24
      replace e24 := e24.trans (toV_setS (v := A.s 1 - 1) (by decide) (by rw [show (1 : Int32) = nI 1 from rfl, pk_sub hd.1]))
      subst e24
      exact h
  · have n0 : act ≠ 0 := fun q => c.1 (by rw [q]; rfl)
    have n1 : act ≠ 1 := fun q => c.2.1 (by rw [q]; rfl)
    have n2 : act ≠ 2 := fun q => c.2.2.1 (by rw [q]; rfl)
    have n3 : act ≠ 3 := fun q => c.2.2.2 (by rw [q]; rfl)
    have ha := o4 (by omega)
    rw [perf, if_neg n0, if_neg n1, if_neg n2, if_neg n3] at h
    rw [nI_clamp (by omega)]
    refine ⟨fun c1 => ⟨vp_in_nI ha (by decide), ?_⟩, fun c1 => ⟨vp_in_nI ha (by decide), ?_⟩⟩
    · rw [if_pos ((hneq 4 (by decide)).mp c1)] at h
      intro V36 e36
      replace e36 := e36.trans (toV_setW (v := 1) (by decide) (by decide) rfl)
      subst e36
      exact h
    · rw [if_neg (fun q => c1 (by rw [q]; rfl))] at h
      intro V33 e33
      replace e33 := e33.trans (toV_setW (v := 0) (by decide) (by decide) rfl)
      subst e33
      exact h
theorem mv_frL {post : vS → Prop} {first : Nat} (hf : first ≤ 4) : ∀ (k : Nat) (A : aS), k ≤ 4 → A.s 16 + k ≤ 100 → post (toV ((frD A first k).setS 12 0)) → wv_X5_frees_L7 post (k + 1) (nI first) (nI k - 1) (toV A) := by
  intro k
  induction k with
  | zero =>
    intro A _ _ h
    unfold wv_X5_frees_L7
    rw [frD] at h
    refine ⟨fun _ => ?_, fun c => absurd ?_ c⟩
    · intro V4 e4
      replace e4 := e4.trans (toV_setS (v := 0) (by decide) rfl)
      subst e4
      exact h
    · rw [Int32.lt_iff_toInt_lt, nI_toInt (by omega)]
      have : (nI 0 - 1 : Int32).toInt = -1 := by decide
      omega
  | succ k ih =>
    intro A hk h16 h
    unfold wv_X5_frees_L7
    rw [nI_pred, nI_clamp (by omega), toV_a (by decide) (by decide)]
    rw [frD] at h
    refine ⟨fun c => ?_, fun c => ⟨vp_in_nI (by omega) (by decide), ?_⟩⟩
    · rw [if_neg (fun q => nI_nlt q (by omega) c)] at h
      intro V4 e4
      replace e4 := e4.trans (toV_setS (v := 0) (by decide) rfl)
      subst e4
      exact h
    · have hle : first ≤ k := by
        rcases Nat.lt_or_ge k first with q | q
        · exact absurd (nI_lt q (by omega)) c
        · exact q
      rw [if_pos hle] at h
      refine mv_adds (by omega) ?_
      rw [x_m1]
      exact ih _ (by omega) (by rw [adds_s, if_pos rfl]; omega) h
theorem mv_frees {post : vS → Prop} {A : aS} {first : Nat} (hf : first ≤ 4) (h12 : A.s 12 ≤ 4) (h16 : A.s 16 + 4 ≤ 100) (h : post (toV (frees A first))) : wv_X5_frees post (nI first) (toV A) := by
  unfold wv_X5_frees
  rw [toV_s (by decide)]
  exact ⟨A.s 12 + 1, mv_frL hf _ A h12 (by omega) h⟩
-- what frees leaves
theorem frD_w {first j : Nat} (hj : j ≠ 17) : ∀ (k : Nat) (A : aS), (frD A first k).w j = A.w j := by
  intro k
  induction k with
  | zero => intro A; rw [frD]
  | succ k ih =>
    intro A
    rw [frD]
    by_cases h : first ≤ k
    · rw [if_pos h, ih, adds_wn hj]
    · rw [if_neg h]
theorem frD_z {first : Nat} : ∀ (k : Nat) (A : aS), (frD A first k).z = A.z := by
  intro k
  induction k with
  | zero => intro A; rw [frD]
  | succ k ih =>
    intro A
    rw [frD]
    by_cases h : first ≤ k
    · rw [if_pos h, ih, adds_z]
    · rw [if_neg h]
theorem frD_s {first j : Nat} (hj : j ≠ 16) : ∀ (k : Nat) (A : aS), (frD A first k).s j = A.s j := by
  intro k
  induction k with
  | zero => intro A; rw [frD]
  | succ k ih =>
    intro A
    rw [frD]
    by_cases h : first ≤ k
    · rw [if_pos h, ih, adds_s, if_neg hj]
    · rw [if_neg h]
theorem frD_16 {first : Nat} : ∀ (k : Nat) (A : aS), (frD A first k).s 16 = A.s 16 + (k - first) := by
  intro k
  induction k with
  | zero => intro A; rw [frD]; omega
  | succ k ih =>
    intro A
    rw [frD]
    by_cases h : first ≤ k
    · rw [if_pos h, ih, adds_s, if_pos rfl]; omega
    · rw [if_neg h]; omega
theorem frees_s {A : aS} {first j : Nat} (h1 : j ≠ 16) (h2 : j ≠ 12) : (frees A first).s j = A.s j := by
  unfold frees
  rw [aS.s_setS, if_neg h2, frD_s h1]
theorem frees_16 {A : aS} {first : Nat} : (frees A first).s 16 = A.s 16 + (A.s 12 - first) := by
  unfold frees
  rw [aS.s_setS, if_neg (by decide), frD_16]
theorem frees_12 {A : aS} {first : Nat} : (frees A first).s 12 = 0 := by
  unfold frees
  rw [aS.s_setS, if_pos rfl]
theorem frees_w {A : aS} {first j : Nat} (h : j ≠ 17) : (frees A first).w j = A.w j := by
  unfold frees
  rw [aS.w_setS, frD_w h]
theorem frees_z {A : aS} {first : Nat} : (frees A first).z = A.z := by
  unfold frees
  rw [aS.z_setS, frD_z]
-- a binding that is found is one
theorem fs_some {f : Nat → Bool} : ∀ {c lo b : Nat}, fs f lo c = some b → lo ≤ b ∧ b < lo + c ∧ f b = true
  | 0, lo, b, h => by rw [fs] at h; cases h
  | c + 1, lo, b, h => by
    rw [fs] at h
    by_cases q : f lo = true
    · rw [if_pos q] at h
      cases h
      exact ⟨by omega, by omega, q⟩
    · rw [if_neg q] at h
      have := fs_some h
      exact ⟨by omega, by omega, this.2.2⟩
theorem bnd_some {A : aS} {n : Nat} : ∀ {d p : Nat}, d ≤ 4 → (∀ d, d < 4 → A.w 2 d < 4) → bnd A n d = some p → ∃ c b, c < 4 ∧ b < A.w 3 c ∧ p = 10 * c + b ∧ mt A n p = true
  | 0, p, _, _, h => by rw [bnd] at h; cases h
  | d + 1, p, hd, hw, h => by
    rw [bnd] at h
    cases hq : fs (fun b => mt A n (10 * A.w 2 d + b)) 0 (A.w 3 (A.w 2 d)) with
    | none => rw [hq] at h; exact bnd_some (by omega) hw h
    | some b =>
      rw [hq] at h
      cases h
      have := fs_some hq
      exact ⟨A.w 2 d, b, hw d (by omega), by omega, rfl, this.2.2⟩
def BOK (A : aS) : Prop := ∀ c b, c < 4 → b < A.w 3 c → argOK (A.w 8 (10 * c + b)) (A.w 9 (10 * c + b)) ∧ 1 ≤ A.w 4 (10 * c + b)
theorem bound_ok {A : aS} {n p : Nat} (hr : WFr A) (hb : BOK A) (h : bound A n = some p) : p < 40 ∧ argOK (A.w 8 p) (A.w 9 p) := by
  obtain ⟨c, b, h1, h2, rfl, h3⟩ := bnd_some hr.1.2 hr.2.1 h
  have := hr.2.2.1 c h1
  exact ⟨by omega, (hb c b h1 h2).1⟩
/-- what ends needs -/
def EnOK (A : aS) : Prop := WFr A ∧ BOK A ∧ (1 ≤ A.s 12 ∧ A.s 12 ≤ 4) ∧ (∀ m, m < 4 → A.w 21 m ≤ 12) ∧ A.s 16 + A.s 12 + 12 ≤ 100 ∧ A.s 18 ≤ 3 ∧ A.s 19 ≤ 20 ∧ A.s 20 ≤ 4 ∧ A.s 23 < 2147483647
theorem EnOK.pr {A : aS} (h : EnOK A) {n : Nat} (hn : 1 ≤ n) : PrOK (frees A n) := by
  obtain ⟨hr, hb, h12, h21, h16, h18, h19, h20, h23⟩ := h
  refine ⟨?_, ?_, ?_, ?_, ?_, ?_, ?_⟩
  · rw [frees_s (by decide) (by decide)]; exact hr.1
  · rw [frees_w (by decide)]; exact h21
  · rw [frees_16]; omega
  · rw [frees_s (by decide) (by decide)]; exact h18
  · rw [frees_s (by decide) (by decide)]; exact h19
  · rw [frees_s (by decide) (by decide)]; exact h20
  · rw [frees_s (by decide) (by decide)]; exact h23
theorem mv_endT {post : vS → Prop} {A : aS} (hA : EnOK A) {n : Nat} (hn : 1 ≤ n) (hn4 : n ≤ 4) (o : Option Nat) (ho : bound A n = o) (h : post (toV (endR A (if o = none then 1 else n, o)))) :
    (oI o = (-4 : Int32) → (vp_in (0 : Int32) 5 ∧ wv_X5_frees (fun V52 => (wv_X5_says (fun V54 => post V54) (1 : Int32) ((toV A).a 13 (0 : Int32).toNatClampNeg) V52)) (1 : Int32) (toV A))) ∧ (¬ (oI o = (-4 : Int32)) → (vp_in (oI o) 40 ∧ vp_in (oI o) 40 ∧ wv_X5_frees (fun V42 => (wv_X5_performs (fun V44 => post V44) ((toV A).a 8 (oI o).toNatClampNeg) ((toV A).a 9 (oI o).toNatClampNeg) V42)) (nI n) (toV A))) := by
  have hpr := fun k (hk : 1 ≤ k) => hA.pr hk
  obtain ⟨hr, hb, h12, h21, h16, h18, h19, h20, h23⟩ := hA
  cases o with
  | none =>
    refine ⟨fun _ => ⟨vp_in_nI (n := 0) (by decide) (by decide), ?_⟩, fun c => absurd rfl c⟩
    refine mv_frees (first := 1) (by decide) h12.2 (by omega) ?_
    refine mv_says (kd := 1) (ar := A.w 13 0) (by rw [frees_s (by decide) (by decide)]; exact h23) h
  | some p =>
    have hp := bound_ok hr hb ho
    refine ⟨fun c => ?_, fun _ => ⟨vp_in_nI hp.1 (by decide), vp_in_nI hp.1 (by decide), ?_⟩⟩
    · have : ¬ nI p < 0 := nI_pos (by omega)
      have c : nI p = -4 := c
      rw [c] at this
      exact absurd (by decide) this
    · show wv_X5_frees (fun V42 => wv_X5_performs (fun V44 => post V44) ((toV A).a 8 (nI p).toNatClampNeg) ((toV A).a 9 (nI p).toNatClampNeg) V42) (nI n) (toV A)
      rw [nI_clamp (by omega), toV_a (by decide) (by decide), toV_a (by decide) (by decide)]
      exact mv_frees hn4 h12.2 (by omega) (mv_perf (hpr n hn) hp.2 h)
theorem mv_endsL {post : vS → Prop} {A : aS} (hA : EnOK A) : ∀ n, 1 ≤ n → n ≤ 4 → post (toV (endR A (srch A n))) → wv_X5_ends_L11 post n (nI n) (oI (bound A n)) (toV A) := by
  intro n
  induction n with
  | zero => intro h; exact absurd h (by decide)
  | succ n ih =>
    intro _ h4 h
    have hT := fun hh => mv_endT hA (n := n + 1) (by omega) h4 (bound A (n + 1)) rfl (post := post) hh
    unfold wv_X5_ends_L11
    cases ho : bound A (n + 1) with
    | some p =>
      rw [ho] at hT
      have hT := hT (by rw [srch, ho] at h; exact h)
      refine ⟨fun c => absurd c ?_, fun _ => hT⟩
      intro c
      have := hT.1 c
      have hp := bound_ok hA.1 hA.2.1 ho
      have q : ¬ nI p < 0 := nI_pos (by omega)
      have c : nI p = -4 := c
      rw [c] at q
      exact absurd (by decide) q
    | none =>
      rw [ho] at hT
      refine ⟨fun _ => ⟨fun c => ?_, fun c => ?_⟩, fun c => absurd rfl c⟩
      · have hn : n = 0 := by
          rcases Nat.eq_zero_or_pos n with q | q
          · exact q
          · exact absurd c (nI_ge (a := 1) (b := n + 1) (by omega) (by omega))
        subst hn
        have hT := hT (by rw [srch, ho] at h; exact h)
        exact hT
      · have hn : n ≠ 0 := by
          intro q
          subst q
          exact c (nI_le (a := 1) (b := 1) (by decide) (by decide))
        rw [srch, ho] at h
        have h : post (toV (endR A (if n = 0 then (1, none) else srch A n))) := h
        rw [if_neg hn] at h
        rw [x_m1, nI_pred]
        exact mv_bound hA.1 (by omega) (ih (by omega) (by omega) h)
theorem mv_ends {post : vS → Prop} {A : aS} (hA : EnOK A) (h : post (toV (ends A))) : wv_X5_ends post (toV A) := by
  unfold wv_X5_ends
  rw [toV_s (by decide)]
  exact mv_bound hA.1 hA.2.2.1.2 ⟨A.s 12, mv_endsL hA _ hA.2.2.1.1 hA.2.2.1.2 h⟩
