/-! THE INVARIANT of processing: the stack of tasks stays below 100, every step lowers Phi -/
def cn (f : Nat → Nat) : Nat → Nat
  | 0 => 0
  | n + 1 => cn f n + (if f n = 12 then 1 else 0)
theorem cn_cong {f g : Nat → Nat} : ∀ {n : Nat}, (∀ i, i < n → f i = g i) → cn f n = cn g n
  | 0, _ => rfl
  | n + 1, h => by rw [cn, cn, cn_cong (fun i hi => h i (by omega)), h n (by omega)]
theorem cn_le {f : Nat → Nat} : ∀ {n : Nat}, cn f n ≤ n
  | 0 => Nat.le_refl _
  | n + 1 => by
    have := cn_le (f := f) (n := n)
    rw [cn]
    by_cases h : f n = 12
    · rw [if_pos h]; omega
    · rw [if_neg h]; omega
def Base (A : aS) : Prop := WFr A ∧ BOK A ∧ (∀ m, m < 4 → A.w 21 m ≤ 12) ∧ (∀ q, q < 48 → A.w 22 q < 12) ∧ A.s 20 ≤ 4 ∧ (1 ≤ A.s 14 ∧ A.s 14 ≤ 99)
theorem Base.of {A B : aS} (h : Base A) (e1 : B.s 1 = A.s 1) (e2 : B.w 2 = A.w 2) (e3 : B.w 3 = A.w 3) (e4 : B.w 4 = A.w 4) (e6 : B.z 6 = A.z 6) (e8 : B.w 8 = A.w 8) (e9 : B.w 9 = A.w 9) (e21 : B.w 21 = A.w 21) (e22 : B.w 22 = A.w 22) (e20 : B.s 20 = A.s 20) (e14 : B.s 14 = A.s 14) : Base B := by
  unfold Base WFr BOK at h ⊢
  rw [e1, e2, e3, e4, e6, e8, e9, e21, e22, e20, e14]
  exact h
theorem Base.ad {A : aS} {x : Nat} (h : Base A) : Base (adds A x) := h.of rfl (adds_wn (by decide)) (adds_wn (by decide)) (adds_wn (by decide)) rfl (adds_wn (by decide)) (adds_wn (by decide)) (adds_wn (by decide)) (adds_wn (by decide)) rfl rfl
theorem says_w {A : aS} {kd ar j : Nat} (h4 : j ≠ 24) (h5 : j ≠ 25) : (says A kd ar).w j = A.w j := by
  funext k
  show (((A.setW 24 (A.s 23 % 40) kd).setW 25 (A.s 23 % 40) ar)).w j k = _
  rw [aS.w_setW, if_neg (fun q => h5 q.1), aS.w_setW, if_neg (fun q => h4 q.1)]
theorem says_s {A : aS} {kd ar j : Nat} (h : j ≠ 23) : (says A kd ar).s j = A.s j := if_neg h
theorem Base.sy {A : aS} {kd ar : Nat} (h : Base A) : Base (says A kd ar) := h.of rfl (says_w (by decide) (by decide)) (says_w (by decide) (by decide)) (says_w (by decide) (by decide)) rfl (says_w (by decide) (by decide)) (says_w (by decide) (by decide)) (says_w (by decide) (by decide)) (says_w (by decide) (by decide)) rfl rfl
theorem Base.setS {A : aS} {j v : Nat} (h : Base A) (h1 : j ≠ 1) (h20 : j ≠ 20) (h14 : j ≠ 14) : Base (A.setS j v) := h.of (if_neg (Ne.symm h1)) rfl rfl rfl rfl rfl rfl rfl rfl (if_neg (Ne.symm h20)) (if_neg (Ne.symm h14))
theorem setW_wn {A : aS} {j k v i : Nat} (h : i ≠ j) : (A.setW j k v).w i = A.w i := by
  funext m
  rw [aS.w_setW, if_neg (fun q => h q.1)]
theorem Base.setW {A : aS} {j k v : Nat} (h : Base A) (hj : j = 0 ∨ j = 13 ∨ j = 17) : Base (A.setW j k v) := by
  rcases hj with rfl | rfl | rfl <;> exact h.of rfl (setW_wn (by decide)) (setW_wn (by decide)) (setW_wn (by decide)) rfl (setW_wn (by decide)) (setW_wn (by decide)) (setW_wn (by decide)) (setW_wn (by decide)) rfl rfl
def Stk (A : aS) : Prop := (∀ i, i < A.s 16 → A.w 17 i ≤ 12 ∧ (A.w 17 i = 12 → i ≤ 3 + 13 * cn (A.w 17) i + 2 * (A.s 19 - A.s 18))) ∧ cn (A.w 17) (A.s 16) = A.s 18 ∧ A.s 18 ≤ 3 ∧ A.s 18 ≤ A.s 19 ∧ A.s 19 ≤ 20
theorem Stk.of {A B : aS} (h : Stk A) (e16 : B.s 16 = A.s 16) (e17 : B.w 17 = A.w 17) (e18 : B.s 18 = A.s 18) (e19 : B.s 19 = A.s 19) : Stk B := by
  unfold Stk at h ⊢
  rw [e16, e17, e18, e19]
  exact h
theorem Stk.ad {A : aS} {x : Nat} (h : Stk A) (hx : x < 12) : Stk (adds A x) := by
  obtain ⟨h1, h2, h3, h4, h5⟩ := h
  have hw : ∀ i, i < A.s 16 → (adds A x).w 17 i = A.w 17 i := fun i hi => by rw [adds_w, if_neg (by omega)]
  have hc : ∀ i, i ≤ A.s 16 → cn ((adds A x).w 17) i = cn (A.w 17) i := fun i hi => cn_cong (fun j hj => hw j (by omega))
  have ht : (adds A x).w 17 (A.s 16) = x := by rw [adds_w, if_pos ⟨rfl, rfl⟩]
  refine ⟨fun i hi => ?_, ?_, h3, h4, h5⟩
  · have hi : i < A.s 16 + 1 := hi
    rcases Nat.lt_or_ge i (A.s 16) with q | q
    · rw [hw i q, hc i (by omega)]
      exact h1 i q
    · have e : i = A.s 16 := by omega
      subst e
      rw [ht]
      exact ⟨by omega, fun z => by omega⟩
  · show cn ((adds A x).w 17) (A.s 16 + 1) = A.s 18
    rw [cn, hc _ (Nat.le_refl _), ht, if_neg (by omega), h2, Nat.add_zero]
/-- the bound below which all stays -/
def Bd (A : aS) : Nat := 4 + 13 * A.s 18 + 2 * (A.s 19 - A.s 18)
theorem Stk.bd {A : aS} (h : Stk A) : Bd A ≤ 77 := by
  obtain ⟨h1, h2, h3, h4, h5⟩ := h
  unfold Bd
  omega
def Phi (A : aS) : Nat := 4 * (A.s 16 - A.s 18) + 3 * A.s 12 + A.s 18 + 49 * (20 - A.s 19)
def PInv (A : aS) : Prop := Base A ∧ Stk A ∧ A.s 16 + A.s 12 ≤ Bd A ∧ A.s 12 ≤ 3 ∧ (∀ k, k < A.s 12 → A.w 13 k < 12) ∧ (0 < A.s 12 → 1 ≤ A.s 15 ∧ A.s 15 ≤ 99)
def EInv (A : aS) : Prop := Base A ∧ Stk A ∧ A.s 16 + A.s 12 ≤ Bd A ∧ (1 ≤ A.s 12 ∧ A.s 12 ≤ 4) ∧ (∀ k, k < A.s 12 → A.w 13 k < 12)
theorem EInv.en {A : aS} (h : EInv A) (h23 : A.s 23 < 2147483647) : EnOK A := by
  obtain ⟨hb, hs, ht, h12, -⟩ := h
  have := hs.bd
  exact ⟨hb.1, hb.2.1, h12, hb.2.2.1, by omega, hs.2.2.1, hs.2.2.2.2, hb.2.2.2.2.1, h23⟩
theorem frD_inv {first : Nat} : ∀ (k : Nat) (A : aS), Base A → Stk A → (∀ i, i < k → A.w 13 i < 12) → Base (frD A first k) ∧ Stk (frD A first k) := by
  intro k
  induction k with
  | zero => intro A h1 h2 _; rw [frD]; exact ⟨h1, h2⟩
  | succ k ih =>
    intro A h1 h2 h3
    rw [frD]
    by_cases h : first ≤ k
    · rw [if_pos h]
      exact ih _ h1.ad (h2.ad (h3 k (by omega))) (fun i hi => by rw [adds_wn (by decide)]; exact h3 i (by omega))
    · rw [if_neg h]; exact ⟨h1, h2⟩
theorem plD_inv {m : Nat} (hm : m < 4) : ∀ (k : Nat) (A : aS), k ≤ 12 → Base A → Stk A → Base (plD A m k) ∧ Stk (plD A m k) ∧ (plD A m k).s 16 = A.s 16 + k ∧ (∀ j, j ≠ 16 → (plD A m k).s j = A.s j) ∧ (∀ j, j ≠ 17 → (plD A m k).w j = A.w j) ∧ (plD A m k).z = A.z := by
  intro k
  induction k with
  | zero => intro A _ h1 h2; rw [plD]; exact ⟨h1, h2, rfl, fun _ _ => rfl, fun _ _ => rfl, rfl⟩
  | succ k ih =>
    intro A hk h1 h2
    rw [plD]
    have h22 := h1.2.2.2.1 (12 * m + k) (by omega)
    obtain ⟨a1, a2, a3, a4, a5, a6⟩ := ih _ (by omega) h1.ad (h2.ad h22)
    refine ⟨a1, a2, ?_, fun j hj => ?_, fun j hj => ?_, ?_⟩
    · rw [a3, adds_s, if_pos rfl]; omega
    · rw [a4 j hj, adds_s, if_neg hj]
    · rw [a5 j hj, adds_wn hj]
    · rw [a6, adds_z]
theorem Base.push {A : aS} {c : Nat} (h : Base A) (h4 : A.s 1 ≠ 4) (hc : c < 4) : Base ((A.setW 2 (A.s 1) c).setS 1 (A.s 1 + 1)) := by
  obtain ⟨⟨a1, a2, a3, a4, a5⟩, b, c1, c2, c3, c4⟩ := h
  refine ⟨⟨?_, ?_, ?_, ?_, a5⟩, ?_, ?_, ?_, c3, c4⟩
  · show 1 ≤ A.s 1 + 1 ∧ A.s 1 + 1 ≤ 4
    omega
  · intro d hd
    show ((A.setW 2 (A.s 1) c)).w 2 d < 4
    rw [aS.w_setW]
    by_cases q : d = A.s 1
    · rw [if_pos ⟨rfl, q⟩]; exact hc
    · rw [if_neg (fun z => q z.2)]; exact a2 d hd
  · show ∀ c', c' < 4 → (A.setW 2 (A.s 1) c).w 3 c' ≤ 10
    rw [setW_wn (by decide)]; exact a3
  · show ∀ c', c' < 40 → (A.setW 2 (A.s 1) c).w 4 c' ≤ 4
    rw [setW_wn (by decide)]; exact a4
  · unfold BOK at b ⊢
    show ∀ c' b', c' < 4 → b' < (A.setW 2 (A.s 1) c).w 3 c' → argOK ((A.setW 2 (A.s 1) c).w 8 _) ((A.setW 2 (A.s 1) c).w 9 _) ∧ 1 ≤ (A.setW 2 (A.s 1) c).w 4 _
    rw [setW_wn (by decide), setW_wn (by decide), setW_wn (by decide), setW_wn (by decide)]; exact b
  · show ∀ m, m < 4 → (A.setW 2 (A.s 1) c).w 21 m ≤ 12
    rw [setW_wn (by decide)]; exact c1
  · show ∀ m, m < 48 → (A.setW 2 (A.s 1) c).w 22 m < 12
    rw [setW_wn (by decide)]; exact c2
theorem Base.pop {A : aS} (h : Base A) (h1 : A.s 1 ≠ 1) : Base (A.setS 1 (A.s 1 - 1)) := by
  obtain ⟨⟨a1, a2⟩, b⟩ := h
  refine ⟨⟨?_, a2⟩, b⟩
  show 1 ≤ A.s 1 - 1 ∧ A.s 1 - 1 ≤ 4
  omega
theorem Phi_says {A : aS} {kd ar : Nat} : Phi (says A kd ar) = Phi A := rfl
/-- performing: with nothing pending, one place below the bound -/
theorem perf_inv {A : aS} {act arg : Nat} (hb : Base A) (hs : Stk A) (h12 : A.s 12 = 0) (ht : A.s 16 + 1 ≤ Bd A) (ho : argOK act arg) :
    PInv (perf A act arg) ∧ (perf A act arg).s 12 = 0 ∧ Phi (perf A act arg) ≤ Phi A ∧ A.s 23 ≤ (perf A act arg).s 23 ∧ (perf A act arg).s 23 ≤ A.s 23 + 1 := by
  have hsay : ∀ kd ar, PInv (says A kd ar) ∧ (says A kd ar).s 12 = 0 ∧ Phi (says A kd ar) ≤ Phi A ∧ A.s 23 ≤ (says A kd ar).s 23 ∧ (says A kd ar).s 23 ≤ A.s 23 + 1 := by
    intro kd ar
    have e12 : (says A kd ar).s 12 = 0 := h12
    have hst : Stk (says A kd ar) := hs.of rfl (says_w (by decide) (by decide)) rfl rfl
    refine ⟨⟨hb.sy, hst, ?_, by omega, fun k hk => by omega, fun q => by omega⟩, e12, Nat.le_refl _, ?_, Nat.le_refl _⟩
    · show A.s 16 + A.s 12 ≤ Bd A
      omega
    · show A.s 23 ≤ A.s 23 + 1
      omega
  have htriv : ∀ B : aS, Base B → (∀ j, j ≠ 1 → B.s j = A.s j) → B.w 17 = A.w 17 → PInv B ∧ B.s 12 = 0 ∧ Phi B ≤ Phi A ∧ A.s 23 ≤ B.s 23 ∧ B.s 23 ≤ A.s 23 + 1 := by
    intro B hB e e17
    have e12 : B.s 12 = 0 := by rw [e 12 (by decide)]; exact h12
    have hst : Stk B := hs.of (e 16 (by decide)) e17 (e 18 (by decide)) (e 19 (by decide))
    refine ⟨⟨hB, hst, ?_, by omega, fun k hk => by omega, fun q => by omega⟩, e12, ?_, ?_, ?_⟩
    · unfold Bd at ht ⊢
      rw [e 16 (by decide), e 18 (by decide), e 19 (by decide), e12]; omega
    · unfold Phi
      rw [e 16 (by decide), e 18 (by decide), e 19 (by decide), e 12 (by decide)]; exact Nat.le_refl _
    · rw [e 23 (by decide)]; exact Nat.le_refl _
    · rw [e 23 (by decide)]; omega
  obtain ⟨o5, o0, o1, o2, o3, o4⟩ := ho
  unfold perf
  by_cases q0 : act = 0
  · rw [if_pos q0]; exact hsay 0 arg
  rw [if_neg q0]
  by_cases q1 : act = 1
  · rw [if_pos q1]
    have hm := o1 q1
    unfold plays
    by_cases hc : A.s 20 = arg ∨ A.s 18 = 3 ∨ A.s 19 = 20
    · rw [if_pos hc]; exact hsay 2 arg
    · rw [if_neg hc]
      have h18 : A.s 18 ≠ 3 := fun q => hc (Or.inr (Or.inl q))
      have h19 : A.s 19 ≠ 20 := fun q => hc (Or.inr (Or.inr q))
      obtain ⟨s1, s2, s3, s4, s5⟩ := hs
      have hB : Base (plB A) := ((hb.setS (j := 18) (by decide) (by decide) (by decide)).setS (j := 19) (by decide) (by decide) (by decide)).ad
      have hw : ∀ i, i < A.s 16 → (plB A).w 17 i = A.w 17 i := fun i hi => by
        unfold plB
        rw [adds_w, if_neg (fun z => by have := z.2; change i = A.s 16 at this; omega)]
        rfl
      have htop : (plB A).w 17 (A.s 16) = 12 := by
        unfold plB
        rw [adds_w]
        exact if_pos ⟨rfl, rfl⟩
      have hcn : ∀ i, i ≤ A.s 16 → cn ((plB A).w 17) i = cn (A.w 17) i := fun i hi => cn_cong (fun j hj => hw j (by omega))
      have hS : Stk (plB A) := by
        refine ⟨fun i hi => ?_, ?_, ?_, ?_, ?_⟩
        · have hi : i < A.s 16 + 1 := hi
          show (plB A).w 17 i ≤ 12 ∧ ((plB A).w 17 i = 12 → i ≤ 3 + 13 * cn ((plB A).w 17) i + 2 * ((A.s 19 + 1) - (A.s 18 + 1)))
          rcases Nat.lt_or_ge i (A.s 16) with q | q
          · rw [hw i q, hcn i (by omega)]
            obtain ⟨u1, u2⟩ := s1 i q
            exact ⟨u1, fun z => by have := u2 z; omega⟩
          · have e : i = A.s 16 := by omega
            subst e
            rw [htop, hcn _ (Nat.le_refl _), s2]
            refine ⟨Nat.le_refl _, fun _ => ?_⟩
            unfold Bd at ht
            omega
        · show cn ((plB A).w 17) (A.s 16 + 1) = A.s 18 + 1
          rw [cn, htop, hcn _ (Nat.le_refl _), s2, if_pos rfl]
        · show A.s 18 + 1 ≤ 3
          omega
        · show A.s 18 + 1 ≤ A.s 19 + 1
          omega
        · show A.s 19 + 1 ≤ 20
          omega
      have h21 := hb.2.2.1 arg hm
      obtain ⟨a1, a2, a3, a4, a5, a6⟩ := plD_inv hm (A.w 21 arg) (plB A) h21 hB hS
      have e12 : (plD (plB A) arg (A.w 21 arg)).s 12 = 0 := by rw [a4 12 (by decide)]; exact h12
      have e16 : (plD (plB A) arg (A.w 21 arg)).s 16 = A.s 16 + 1 + A.w 21 arg := a3
      have e18 : (plD (plB A) arg (A.w 21 arg)).s 18 = A.s 18 + 1 := a4 18 (by decide)
      have e19 : (plD (plB A) arg (A.w 21 arg)).s 19 = A.s 19 + 1 := a4 19 (by decide)
      have e23 : (plD (plB A) arg (A.w 21 arg)).s 23 = A.s 23 := a4 23 (by decide)
      refine ⟨⟨a1, a2, ?_, by omega, fun k hk => by omega, fun q => by omega⟩, e12, ?_, by omega, by omega⟩
      · unfold Bd at ht ⊢
        rw [e16, e12, e18, e19]; omega
      · have hle : A.s 18 ≤ A.s 16 := by rw [← s2]; exact cn_le
        unfold Phi
        rw [e16, e12, e18, e19, h12]; omega
  rw [if_neg q1]
  by_cases q2 : act = 2
  · rw [if_pos q2]
    by_cases h4 : A.s 1 = 4
    · rw [if_pos h4]; exact hsay 2 arg
    · rw [if_neg h4]
      exact htriv _ (hb.push h4 (o2 q2)) (fun j hj => if_neg hj) (setW_wn (by decide))
  rw [if_neg q2]
  by_cases q3 : act = 3
  · rw [if_pos q3]
    by_cases h4 : A.s 1 = 1
    · rw [if_pos h4]; exact hsay 2 0
    · rw [if_neg h4]
      exact htriv _ (hb.pop h4) (fun j hj => if_neg hj) rfl
  rw [if_neg q3]
  by_cases q4 : act = 4
  · rw [if_pos q4]; exact htriv _ (hb.setW (Or.inl rfl)) (fun _ _ => rfl) (setW_wn (by decide))
  · rw [if_neg q4]; exact htriv _ (hb.setW (Or.inl rfl)) (fun _ _ => rfl) (setW_wn (by decide))
theorem srch_le {A : aS} : ∀ n, 1 ≤ n → 1 ≤ (srch A n).1 ∧ (srch A n).1 ≤ n ∧ ((srch A n).2 = none → (srch A n).1 = 1) ∧ ∀ p, (srch A n).2 = some p → bound A (srch A n).1 = some p := by
  intro n
  induction n with
  | zero => intro h; exact absurd h (by decide)
  | succ n ih =>
    intro _
    rw [srch]
    cases ho : bound A (n + 1) with
    | some p => exact ⟨by show 1 ≤ n + 1; omega, Nat.le_refl _, fun q => (nomatch q), fun p' q => by cases q; exact ho⟩
    | none =>
      by_cases hn : n = 0
      · show 1 ≤ (if n = 0 then (1, none) else srch A n).1 ∧ (if n = 0 then (1, none) else srch A n).1 ≤ n + 1 ∧ _
        subst hn
        exact ⟨Nat.le_refl _, Nat.le_refl _, fun _ => rfl, fun p q => (nomatch q)⟩
      · obtain ⟨h1, h2, h3, h4⟩ := ih (by omega)
        show 1 ≤ (if n = 0 then (1, none) else srch A n).1 ∧ (if n = 0 then (1, none) else srch A n).1 ≤ n + 1 ∧ ((if n = 0 then (1, none) else srch A n).2 = none → (if n = 0 then (1, none) else srch A n).1 = 1) ∧ ∀ p, (if n = 0 then (1, none) else srch A n).2 = some p → bound A (if n = 0 then (1, none) else srch A n).1 = some p
        rw [if_neg hn]
        exact ⟨h1, by omega, h3, h4⟩
theorem ends_inv {A : aS} (h : EInv A) : PInv (ends A) ∧ (ends A).s 12 = 0 ∧ Phi (ends A) + 4 ≤ 4 * (A.s 16 - A.s 18) + 4 * A.s 12 + A.s 18 + 49 * (20 - A.s 19) ∧ A.s 23 ≤ (ends A).s 23 ∧ (ends A).s 23 ≤ A.s 23 + 1 := by
  obtain ⟨hb, hs, ht, h12, h13⟩ := h
  have hle : A.s 18 ≤ A.s 16 := by rw [← hs.2.1]; exact cn_le
  have hfr : ∀ n, 1 ≤ n → Base (frees A n) ∧ Stk (frees A n) ∧ (frees A n).s 12 = 0 ∧ (frees A n).s 16 + 1 ≤ Bd (frees A n) ∧ Phi (frees A n) + 4 ≤ 4 * (A.s 16 - A.s 18) + 4 * A.s 12 + A.s 18 + 49 * (20 - A.s 19) ∧ (frees A n).s 23 = A.s 23 := by
    intro n hn
    obtain ⟨b1, b2⟩ := frD_inv (first := n) (A.s 12) A hb hs h13
    have e18 : (frees A n).s 18 = A.s 18 := frees_s (by decide) (by decide)
    have e19 : (frees A n).s 19 = A.s 19 := frees_s (by decide) (by decide)
    refine ⟨b1.setS (by decide) (by decide) (by decide), b2.of rfl rfl rfl rfl, frees_12, ?_, ?_, frees_s (by decide) (by decide)⟩
    · unfold Bd at ht ⊢
      rw [frees_16, e18, e19]; omega
    · unfold Phi
      rw [frees_16, frees_12, e18, e19]; omega
  obtain ⟨s1, s2, s3, s4⟩ := srch_le (A := A) (A.s 12) h12.1
  unfold ends endR
  cases ho : (srch A (A.s 12)).2 with
  | none =>
    obtain ⟨f1, f2, f3, f4, f5, f6⟩ := hfr 1 (by decide)
    have hx := perf_inv (act := 0) (arg := 0) f1 f2 f3 f4 ⟨by decide, fun _ => by decide, fun q => absurd q (by decide), fun q => absurd q (by decide), fun q => absurd q (by decide), fun q => absurd q (by decide)⟩
    have hst : Stk (says (frees A 1) 1 (A.w 13 0)) := f2.of rfl (says_w (by decide) (by decide)) rfl rfl
    have e12 : (says (frees A 1) 1 (A.w 13 0)).s 12 = 0 := f3
    show PInv (says (frees A 1) 1 (A.w 13 0)) ∧ (says (frees A 1) 1 (A.w 13 0)).s 12 = 0 ∧ Phi (says (frees A 1) 1 (A.w 13 0)) + 4 ≤ _ ∧ A.s 23 ≤ (says (frees A 1) 1 (A.w 13 0)).s 23 ∧ (says (frees A 1) 1 (A.w 13 0)).s 23 ≤ A.s 23 + 1
    refine ⟨⟨f1.sy, hst, ?_, by omega, fun k hk => by omega, fun q => by omega⟩, e12, f5, ?_, ?_⟩
    · show (frees A 1).s 16 + (frees A 1).s 12 ≤ Bd (frees A 1)
      omega
    · show A.s 23 ≤ (frees A 1).s 23 + 1
      omega
    · show (frees A 1).s 23 + 1 ≤ A.s 23 + 1
      omega
  | some p =>
    obtain ⟨f1, f2, f3, f4, f5, f6⟩ := hfr _ s1
    have hp := bound_ok hb.1 hb.2.1 (s4 p ho)
    obtain ⟨g1, g2, g3, g4, g5⟩ := perf_inv f1 f2 f3 f4 hp.2
    show PInv (perf (frees A (srch A (A.s 12)).1) (A.w 8 p) (A.w 9 p)) ∧ (perf (frees A (srch A (A.s 12)).1) (A.w 8 p) (A.w 9 p)).s 12 = 0 ∧ Phi (perf (frees A (srch A (A.s 12)).1) (A.w 8 p) (A.w 9 p)) + 4 ≤ _ ∧ A.s 23 ≤ (perf (frees A (srch A (A.s 12)).1) (A.w 8 p) (A.w 9 p)).s 23 ∧ (perf (frees A (srch A (A.s 12)).1) (A.w 8 p) (A.w 9 p)).s 23 ≤ A.s 23 + 1
    exact ⟨g1, g2, by omega, by omega, by omega⟩
theorem fit_le {A : aS} {p n : Nat} (h : fit A p n = true) : n ≤ A.w 4 p := by
  unfold fit at h
  rw [Bool.and_eq_true] at h
  exact of_decide_eq_true h.1
theorem ext_lt {A : aS} (hr : WFr A) (h : ext A = true) : A.s 12 ≤ 3 := by
  unfold ext at h
  rw [List.any_eq_true] at h
  obtain ⟨d, hd, h⟩ := h
  rw [List.mem_range] at hd
  unfold exc at h
  rw [List.any_eq_true] at h
  obtain ⟨b, hb, h⟩ := h
  rw [List.mem_range] at hb
  unfold exb at h
  rw [Bool.and_eq_true] at h
  have h1 := of_decide_eq_true h.1
  have hd4 : d < 4 := by have := hr.1.2; omega
  have hc := hr.2.1 d hd4
  have hm := hr.2.2.1 _ hc
  have := hr.2.2.2.1 (10 * A.w 2 d + b) (by omega)
  omega
theorem key_inv {A : aS} (h : PInv A) (h0 : 0 < A.s 16) (hk : A.w 17 (A.s 16 - 1) ≠ 12) : EInv (keyA A) ∧ (keyA A).s 12 = A.s 12 + 1 ∧ (keyA A).s 16 = A.s 16 - 1 ∧ (∀ j, j ≠ 12 → j ≠ 16 → (keyA A).s j = A.s j) := by
  obtain ⟨hb, hs, ht, h12, h13, h15⟩ := h
  obtain ⟨s1, s2, s3, s4, s5⟩ := hs
  have hx := (s1 (A.s 16 - 1) (by omega)).1
  have hc : cn (A.w 17) (A.s 16 - 1) = A.s 18 := by
    have : cn (A.w 17) ((A.s 16 - 1) + 1) = A.s 18 := by rw [show A.s 16 - 1 + 1 = A.s 16 by omega]; exact s2
    rw [cn, if_neg hk] at this
    exact this
  have e17 : (keyA A).w 17 = A.w 17 := setW_wn (by decide)
  refine ⟨⟨?_, ?_, ?_, ?_, ?_⟩, rfl, rfl, fun j h1 h2 => ?_⟩
  · exact ((hb.setS (j := 16) (by decide) (by decide) (by decide)).setW (Or.inr (Or.inl rfl))).setS (by decide) (by decide) (by decide)
  · refine ⟨fun i hi => ?_, ?_, s3, s4, s5⟩
    · have hi : i < A.s 16 - 1 := hi
      rw [e17]
      exact s1 i (by omega)
    · rw [e17]; exact hc
  · show (A.s 16 - 1) + (A.s 12 + 1) ≤ Bd A
    omega
  · show 1 ≤ A.s 12 + 1 ∧ A.s 12 + 1 ≤ 4
    omega
  · intro k hk2
    have hk2 : k < A.s 12 + 1 := hk2
    show ((popA A).setW 13 (A.s 12) (A.w 17 (A.s 16 - 1))).w 13 k < 12
    rw [aS.w_setW]
    by_cases q : k = A.s 12
    · rw [if_pos ⟨rfl, q⟩]; omega
    · rw [if_neg (fun z => q z.2)]; exact h13 k (by omega)
  · show (if j = 12 then A.s 12 + 1 else if j = 16 then A.s 16 - 1 else A.s j) = A.s j
    rw [if_neg h1, if_neg h2]
theorem step_inv {A : aS} (h : PInv A) (h0 : 0 < A.s 16) : PInv (stepA A) ∧ Phi (stepA A) + 1 ≤ Phi A ∧ A.s 23 ≤ (stepA A).s 23 ∧ (stepA A).s 23 ≤ A.s 23 + 1 := by
  unfold stepA
  by_cases hk : A.w 17 (A.s 16 - 1) = 12
  · rw [if_pos hk]
    obtain ⟨hb, hs, ht, h12, h13, h15⟩ := h
    obtain ⟨s1, s2, s3, s4, s5⟩ := hs
    have hc : cn (A.w 17) (A.s 16 - 1) + 1 = A.s 18 := by
      have : cn (A.w 17) ((A.s 16 - 1) + 1) = A.s 18 := by rw [show A.s 16 - 1 + 1 = A.s 16 by omega]; exact s2
      rw [cn, if_pos hk] at this
      exact this
    have hi := (s1 (A.s 16 - 1) (by omega)).2 hk
    have hle : A.s 18 ≤ A.s 16 := by rw [← s2]; exact cn_le
    refine ⟨⟨(hb.setS (j := 16) (by decide) (by decide) (by decide)).setS (by decide) (by decide) (by decide), ⟨fun i hi => ?_, ?_, ?_, ?_, s5⟩, ?_, h12, h13, h15⟩, ?_, Nat.le_refl _, ?_⟩
    · have hi : i < A.s 16 - 1 := hi
      show A.w 17 i ≤ 12 ∧ (A.w 17 i = 12 → i ≤ 3 + 13 * cn (A.w 17) i + 2 * (A.s 19 - (A.s 18 - 1)))
      obtain ⟨u1, u2⟩ := s1 i (by omega)
      exact ⟨u1, fun z => by have := u2 z; omega⟩
    · show cn (A.w 17) (A.s 16 - 1) = A.s 18 - 1
      omega
    · show A.s 18 - 1 ≤ 3
      omega
    · show A.s 18 - 1 ≤ A.s 19
      omega
    · show (A.s 16 - 1) + A.s 12 ≤ 4 + 13 * (A.s 18 - 1) + 2 * (A.s 19 - (A.s 18 - 1))
      omega
    · show (4 * ((A.s 16 - 1) - (A.s 18 - 1)) + 3 * A.s 12 + (A.s 18 - 1) + 49 * (20 - A.s 19)) + 1 ≤ 4 * (A.s 16 - A.s 18) + 3 * A.s 12 + A.s 18 + 49 * (20 - A.s 19)
      omega
    · show A.s 23 ≤ A.s 23 + 1
      omega
  · rw [if_neg hk]
    obtain ⟨ke, k12, k16, kj⟩ := key_inv h h0 hk
    obtain ⟨hb, hs, ht, h12, h13, h15⟩ := h
    have hle : A.s 18 ≤ A.s 16 - 1 := by
      have := ke.2.1.2.1
      have q := cn_le (f := (keyA A).w 17) (n := (keyA A).s 16)
      rw [this, k16, kj 18 (by decide) (by decide)] at q
      exact q
    by_cases hx : ext (keyA A) = true
    · rw [if_pos hx]
      have h3 := ext_lt ke.1.1 hx
      refine ⟨⟨ke.1.setS (by decide) (by decide) (by decide), ke.2.1.of rfl rfl rfl rfl, ke.2.2.1, h3, ke.2.2.2.2, fun _ => hb.2.2.2.2.2⟩, ?_, Nat.le_refl _, ?_⟩
      · show (4 * ((keyA A).s 16 - (keyA A).s 18) + 3 * (keyA A).s 12 + (keyA A).s 18 + 49 * (20 - (keyA A).s 19)) + 1 ≤ Phi A
        unfold Phi
        rw [k12, k16, kj 18 (by decide) (by decide), kj 19 (by decide) (by decide)]; omega
      · show A.s 23 ≤ A.s 23 + 1
        omega
    · rw [if_neg hx]
      obtain ⟨g1, g2, g3, g4, g5⟩ := ends_inv ke
      refine ⟨g1, ?_, ?_, ?_⟩
      · rw [k12, k16, kj 18 (by decide) (by decide), kj 19 (by decide) (by decide)] at g3
        unfold Phi at g3 ⊢
        omega
      · rw [kj 23 (by decide) (by decide)] at g4; exact g4
      · rw [kj 23 (by decide) (by decide)] at g5; exact g5
theorem wk_inv : ∀ (f : Nat) (A : aS), PInv A → Phi A ≤ f → PInv (wkA f A) ∧ (wkA f A).s 16 = 0 ∧ A.s 23 ≤ (wkA f A).s 23 ∧ (wkA f A).s 23 ≤ A.s 23 + Phi A := by
  intro f
  induction f with
  | zero =>
    intro A h hf
    rw [wkA]
    refine ⟨h, ?_, Nat.le_refl _, by omega⟩
    have := h.2.1.2.2.1
    unfold Phi at hf
    omega
  | succ f ih =>
    intro A h hf
    rw [wkA]
    by_cases h0 : A.s 16 = 0
    · rw [if_pos h0]; exact ⟨h, h0, Nat.le_refl _, by omega⟩
    · rw [if_neg h0]
      obtain ⟨s1, s2, s3, s4⟩ := step_inv h (by omega)
      obtain ⟨g1, g2, g3, g4⟩ := ih _ s1 (by omega)
      exact ⟨g1, g2, by omega, by omega⟩
