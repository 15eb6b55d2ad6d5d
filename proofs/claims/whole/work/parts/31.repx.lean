/-! HOW THE CLASS'S OBJECT HOLDS THE ABSTRACT STATE: fixed cells c 0 .. c 32 (the object itself: c 32), the lists of bindings la -/
def ck : Nat → Nat
  | 0 => 3
  | 1 => 7
  | 2 => 3
  | 3 => 7
  | 4 => 3
  | 5 => 7
  | 6 => 6
  | 7 => 8
  | 8 => 3
  | 9 => 7
  | 10 => 3
  | 11 => 7
  | 12 => 3
  | 13 => 7
  | 14 => 3
  | 15 => 7
  | 16 => 6
  | 17 => 8
  | 18 => 1
  | 19 => 1
  | 20 => 1
  | 21 => 1
  | 22 => 6
  | 23 => 6
  | 24 => 6
  | 25 => 6
  | 26 => 6
  | 27 => 8
  | 28 => 7
  | 29 => 2
  | 30 => 7
  | 31 => 7
  | _ => 4
def cl : Nat → Nat
  | 1 => 4
  | 3 => 4
  | 5 => 264
  | 7 => 10
  | 9 => 12
  | 11 => 12
  | 13 => 12
  | 15 => 12
  | 17 => 10
  | 27 => 10
  | 28 => 6
  | 30 => 40
  | 31 => 40
  | _ => 0
def cp : Nat → Nat → Option Nat
  | 32, 0 => some 0
  | 32, 1 => some 2
  | 32, 2 => some 4
  | 32, 3 => some 6
  | 32, 4 => some 16
  | 32, 5 => some 26
  | 32, 6 => some 28
  | 32, 7 => some 29
  | 0, 0 => some 1
  | 2, 0 => some 3
  | 4, 0 => some 5
  | 8, 0 => some 9
  | 10, 0 => some 11
  | 12, 0 => some 13
  | 14, 0 => some 15
  | 6, 1 => some 7
  | 16, 1 => some 17
  | 26, 1 => some 27
  | 18, 1 => some 22
  | 19, 1 => some 23
  | 20, 1 => some 24
  | 21, 1 => some 25
  | 29, 0 => some 30
  | 29, 1 => some 31
  | 7, 0 => some 8
  | 7, 1 => some 10
  | 7, 2 => some 12
  | 7, 3 => some 14
  | 17, 0 => some 18
  | 17, 1 => some 19
  | 17, 2 => some 20
  | 17, 3 => some 21
  | _, _ => none
def enc (x : Nat) : Int32 := if x = 12 then -1 else nI x
def recX (r : Nat) : Int32 := if r < 4 then nI r else -1
def ShX (e0 : Nat) (c : Nat → Nat) (S : pS) : Prop := (∀ i, i < 33 → S.ok (c i) (ck i)) ∧ (∀ i j, i < 33 → j < 33 → c i = c j → i = j) ∧ (∀ i k t, i < 33 → cp i k = some t → S.P (c i) k = some (c t)) ∧ (∀ i, i < 33 → 0 < cl i → S.n (c i) = cl i) ∧ c 7 ≠ e0 ∧ c 17 ≠ e0 ∧ c 27 ≠ e0
def XR (A : aS) (i k : Nat) (v : Int32) : Prop := match i with
  | 0 => k = 1 → v = nI (A.s 10)
  | 1 => k < A.s 10 → v = nI (A.w 11 k)
  | 2 => k = 1 → v = nI (A.s 12)
  | 3 => k < A.s 12 → v = nI (A.w 13 k)
  | 4 => k = 1 → v = nI (A.s 16)
  | 5 => k < A.s 16 → v = enc (A.w 17 k)
  | 6 => k = 2 → v = 4
  | 8 => k = 1 → v = nI (A.w 21 0)
  | 9 => k < A.w 21 0 → v = nI (A.w 22 (12 * 0 + k))
  | 10 => k = 1 → v = nI (A.w 21 1)
  | 11 => k < A.w 21 1 → v = nI (A.w 22 (12 * 1 + k))
  | 12 => k = 1 → v = nI (A.w 21 2)
  | 13 => k < A.w 21 2 → v = nI (A.w 22 (12 * 2 + k))
  | 14 => k = 1 → v = nI (A.w 21 3)
  | 15 => k < A.w 21 3 → v = nI (A.w 22 (12 * 3 + k))
  | 16 => k = 2 → v = 4
  | 18 => k = 0 → v = nI 0
  | 19 => k = 0 → v = nI 1
  | 20 => k = 0 → v = nI 2
  | 21 => k = 0 → v = nI 3
  | 22 => k = 2 → v = nI (A.w 3 0)
  | 23 => k = 2 → v = nI (A.w 3 1)
  | 24 => k = 2 → v = nI (A.w 3 2)
  | 25 => k = 2 → v = nI (A.w 3 3)
  | 26 => k = 2 → v = nI (A.s 1)
  | 28 => k < 6 → v = nI (A.w 0 k)
  | 29 => k = 2 → v = nI (A.s 23)
  | 30 => k < 40 → v = nI (A.w 24 k)
  | 31 => k < 40 → v = nI (A.w 25 k)
  | 32 => (k = 8 → v = nI (A.s 14)) ∧ (k = 9 → v = nI (A.s 15)) ∧ (k = 10 → v = recX (A.s 20)) ∧ (k = 11 → v = nI (A.s 18)) ∧ (k = 12 → v = nI (A.s 19))
  | _ => True
def BX (c : Nat → Nat) (A : aS) (p q : Nat) (S : pS) : Prop := ∃ r t, BR S q r t (A.w 4 p) ∧ (∀ i, i < A.w 4 p → S.I t i = nI (A.w 5 (4 * p + i))) ∧ S.I q 1 = A.z 6 p ∧ S.I q 2 = A.z 7 p ∧ S.I q 3 = nI (A.w 8 p) ∧ S.I q 4 = nI (A.w 9 p) ∧ ∀ i, i < 33 → q ≠ c i ∧ r ≠ c i ∧ t ≠ c i
def Own (e0 : Nat) (c la : Nat → Nat) (S : pS) (k : Nat) : Prop := la k ≠ e0 ∧ S.ok (la k) 8 ∧ S.n (la k) = 10 ∧ (∀ i, i < 33 → la k ≠ c i) ∧ ∀ k', k' < 4 → k' ≠ k → la k ≠ la k'
def Dyn (e0 : Nat) (c la : Nat → Nat) (A : aS) (S : pS) : Prop := (∀ d, d < A.s 1 → S.P (c 27) d = some (c (18 + A.w 2 d))) ∧ ∀ k, k < 4 → S.P (c (22 + k)) 1 = some (la k) ∧ ((la k = e0 ∧ A.w 3 k = 0) ∨ Own e0 c la S k) ∧ ∀ b, b < A.w 3 k → ∃ q, S.P (la k) b = some q ∧ BX c A (10 * k + b) q S
def RepX (e0 : Nat) (c la : Nat → Nat) (A : aS) (S : pS) : Prop := ShX e0 c S ∧ (∀ i, i < 33 → ∀ k, XR A i k (S.I (c i) k)) ∧ Dyn e0 c la A S
section RX
variable {e0 : Nat} {c la : Nat → Nat} {A : aS} {S : pS}
theorem RepX.ok (h : RepX e0 c la A S) (i : Nat) (hi : i < 33 := by decide) : S.ok (c i) (ck i) := h.1.1 i hi
theorem RepX.P (h : RepX e0 c la A S) (i k t : Nat) (hi : i < 33 := by decide) (e : cp i k = some t := by rfl) : S.P (c i) k = some (c t) := h.1.2.2.1 i k t hi e
theorem RepX.ne (h : RepX e0 c la A S) {i j : Nat} (hi : i < 33) (hj : j < 33) (n : i ≠ j) : c i ≠ c j := fun e => n (h.1.2.1 i j hi hj e)
theorem RepX.X (h : RepX e0 c la A S) (i k : Nat) (hi : i < 33 := by decide) : XR A i k (S.I (c i) k) := h.2.1 i hi k
theorem cI_c (hs : ShX e0 c S) {i j m k : Nat} {v : Int32} {S1 : pS} (hi : i < 33) (hj : j < 33) : (S1.setI (c i) m v).I (c j) k = if j = i ∧ k = m then v else S1.I (c j) k := by
  rw [I_setI]
  by_cases h : j = i
  · subst h; simp
  · rw [if_neg (fun q => h (hs.2.1 j i hj hi q.1)), if_neg (fun q => h q.1)]
theorem BX.keep {A' : aS} {S' : pS} {p q : Nat} (h : BX c A p q S) (eL : S'.L = S.L) (eK : S'.K = S.K) (en : S'.n = S.n) (eP : ∀ a, (∀ i, i < 33 → a ≠ c i) → S.K a ≠ 8 → S'.P a = S.P a) (hI : ∀ a, (∀ i, i < 33 → a ≠ c i) → S'.I a = S.I a) (e4 : A'.w 4 = A.w 4) (e5 : A'.w 5 = A.w 5) (e8 : A'.w 8 = A.w 8) (e9 : A'.w 9 = A.w 9) (ez : A'.z = A.z) : BX c A' p q S' := by
  obtain ⟨r, t, ⟨b1, b2, r1, r2, r3, r4, r5, r6, r7⟩, h1, h2, h3, h4, h5, h6⟩ := h
  have hq : ∀ i, i < 33 → q ≠ c i := fun i hi => (h6 i hi).1
  have hr : ∀ i, i < 33 → r ≠ c i := fun i hi => (h6 i hi).2.1
  have ht : ∀ i, i < 33 → t ≠ c i := fun i hi => (h6 i hi).2.2
  have ok' : ∀ a k, S.ok a k → S'.ok a k := fun a k h => ⟨by rw [eL]; exact h.1, by rw [eK]; exact h.2⟩
  unfold BX
  rw [e4, e5, e8, e9, ez]
  refine ⟨r, t, ⟨ok' _ _ b1, ?_, ok' _ _ r1, ?_, ok' _ _ r3, by rw [en]; exact r4, by rw [hI r hr]; exact r5, r6, r7⟩, ?_, ?_, ?_, ?_, ?_, h6⟩
  · rw [eP q hq (by rw [b1.2]; decide)]; exact b2
  · rw [eP r hr (by rw [r1.2]; decide)]; exact r2
  · rw [hI t ht]; exact h1
  · rw [hI q hq]; exact h2
  · rw [hI q hq]; exact h3
  · rw [hI q hq]; exact h4
  · rw [hI q hq]; exact h5
/-- only ints of the fixed cells have changed, and nothing of contexts and bindings -/
theorem RepX.ints {A' : aS} {S' : pS} (h : RepX e0 c la A S) (eL : S'.L = S.L) (eK : S'.K = S.K) (en : S'.n = S.n) (eP : S'.P = S.P) (hI : ∀ a, (∀ i, i < 33 → a ≠ c i) → S'.I a = S.I a) (hX : ∀ i, i < 33 → ∀ k, XR A i k (S.I (c i) k) → XR A' i k (S'.I (c i) k))
    (e1 : A'.s 1 = A.s 1) (e2 : A'.w 2 = A.w 2) (e3 : A'.w 3 = A.w 3) (e4 : A'.w 4 = A.w 4) (e5 : A'.w 5 = A.w 5) (e8 : A'.w 8 = A.w 8) (e9 : A'.w 9 = A.w 9) (ez : A'.z = A.z) : RepX e0 c la A' S' := by
  obtain ⟨⟨s1, s2, s3, s4, s5⟩, hx, d1, d2⟩ := h
  have ok' : ∀ a k, S.ok a k → S'.ok a k := fun a k h => ⟨by rw [eL]; exact h.1, by rw [eK]; exact h.2⟩
  refine ⟨⟨fun i hi => ok' _ _ (s1 i hi), s2, by rw [eP]; exact s3, by rw [en]; exact s4, s5⟩, fun i hi k => hX i hi k (hx i hi k), ?_, ?_⟩
  · rw [e1, e2, eP]; exact d1
  · intro k hk
    obtain ⟨g1, g2, g3⟩ := d2 k hk
    rw [eP, e3]
    refine ⟨g1, ?_, fun b hb => ?_⟩
    · rcases g2 with g2 | ⟨o1, o2, o3, o4, o5⟩
      · exact Or.inl g2
      · exact Or.inr ⟨o1, ok' _ _ o2, by rw [en]; exact o3, o4, o5⟩
    · obtain ⟨q, q1, q2⟩ := g3 b hb
      exact ⟨q, q1, q2.keep eL eK en (fun a _ _ => by rw [eP]) hI e4 e5 e8 e9 ez⟩
theorem hI1 {i m : Nat} {v : Int32} (hi : i < 33) : ∀ a, (∀ i, i < 33 → a ≠ c i) → (S.setI (c i) m v).I a = S.I a := fun a ha => by
  funext k
  exact I_ne (ha i hi)
-- rows of it
theorem RepX.rowB (h : RepX e0 c la A S) (h4 : A.s 10 ≤ 4) : RR S (c 0) (c 1) 4 (A.s 10) := ⟨h.ok 0, h.P 0 0 1, h.ok 1, h.1.2.2.2.1 1 (by decide) (by decide), h.X 0 1 (by decide) rfl, h4, by decide⟩
theorem RepX.rowP (h : RepX e0 c la A S) (h4 : A.s 12 ≤ 4) : RR S (c 2) (c 3) 4 (A.s 12) := ⟨h.ok 2, h.P 2 0 3, h.ok 3, h.1.2.2.2.1 3 (by decide) (by decide), h.X 2 1 (by decide) rfl, h4, by decide⟩
theorem RepX.rowW (h : RepX e0 c la A S) (h4 : A.s 16 ≤ 100) : RR S (c 4) (c 5) 264 (A.s 16) := ⟨h.ok 4, h.P 4 0 5, h.ok 5, h.1.2.2.2.1 5 (by decide) (by decide), h.X 4 1 (by decide) rfl, by omega, by decide⟩
theorem four {m : Nat} (h : m < 4) : m = 0 ∨ m = 1 ∨ m = 2 ∨ m = 3 := by omega
theorem RepX.rowM (h : RepX e0 c la A S) {m : Nat} (hm : m < 4) (h12 : A.w 21 m ≤ 12) : RR S (c (8 + 2 * m)) (c (9 + 2 * m)) 12 (A.w 21 m) := by
  rcases four hm with rfl | rfl | rfl | rfl
  · exact ⟨h.ok 8, h.P 8 0 9, h.ok 9, h.1.2.2.2.1 9 (by decide) (by decide), h.X 8 1 (by decide) rfl, h12, by decide⟩
  · exact ⟨h.ok 10, h.P 10 0 11, h.ok 11, h.1.2.2.2.1 11 (by decide) (by decide), h.X 10 1 (by decide) rfl, h12, by decide⟩
  · exact ⟨h.ok 12, h.P 12 0 13, h.ok 13, h.1.2.2.2.1 13 (by decide) (by decide), h.X 12 1 (by decide) rfl, h12, by decide⟩
  · exact ⟨h.ok 14, h.P 14 0 15, h.ok 15, h.1.2.2.2.1 15 (by decide) (by decide), h.X 14 1 (by decide) rfl, h12, by decide⟩
theorem RepX.keyM (h : RepX e0 c la A S) {m k : Nat} (hm : m < 4) (hk : k < A.w 21 m) : S.I (c (9 + 2 * m)) k = nI (A.w 22 (12 * m + k)) := by
  rcases four hm with rfl | rfl | rfl | rfl
  · exact h.X 9 k (by decide) hk
  · exact h.X 11 k (by decide) hk
  · exact h.X 13 k (by decide) hk
  · exact h.X 15 k (by decide) hk
-- lists of it
theorem RepX.listM (h : RepX e0 c la A S) : LR S (c 6) (c 7) 4 := ⟨h.ok 6, h.P 6 1 7, h.ok 7, h.1.2.2.2.1 7 (by decide) (by decide), h.X 6 2 (by decide) rfl, by decide⟩
theorem RepX.listC (h : RepX e0 c la A S) : LR S (c 16) (c 17) 4 := ⟨h.ok 16, h.P 16 1 17, h.ok 17, h.1.2.2.2.1 17 (by decide) (by decide), h.X 16 2 (by decide) rfl, by decide⟩
theorem RepX.listS (h : RepX e0 c la A S) (h4 : A.s 1 ≤ 4) : LR S (c 26) (c 27) (A.s 1) := ⟨h.ok 26, h.P 26 1 27, h.ok 27, h.1.2.2.2.1 27 (by decide) (by decide), h.X 26 2 (by decide) rfl, by omega⟩
theorem RepX.getM (h : RepX e0 c la A S) {m : Nat} (hm : m < 4) : S.P (c 7) m = some (c (8 + 2 * m)) := by
  rcases four hm with rfl | rfl | rfl | rfl
  · exact h.P 7 0 8
  · exact h.P 7 1 10
  · exact h.P 7 2 12
  · exact h.P 7 3 14
theorem RepX.getC (h : RepX e0 c la A S) {m : Nat} (hm : m < 4) : S.P (c 17) m = some (c (18 + m)) := by
  rcases four hm with rfl | rfl | rfl | rfl
  · exact h.P 17 0 18
  · exact h.P 17 1 19
  · exact h.P 17 2 20
  · exact h.P 17 3 21
theorem RepX.okC (h : RepX e0 c la A S) {m : Nat} (hm : m < 4) : S.ok (c (18 + m)) 1 ∧ S.P (c (18 + m)) 1 = some (c (22 + m)) ∧ S.ok (c (22 + m)) 6 ∧ S.I (c (18 + m)) 0 = nI m ∧ S.I (c (22 + m)) 2 = nI (A.w 3 m) := by
  rcases four hm with rfl | rfl | rfl | rfl
  · exact ⟨h.ok 18, h.P 18 1 22, h.ok 22, h.X 18 0 (by decide) rfl, h.X 22 2 (by decide) rfl⟩
  · exact ⟨h.ok 19, h.P 19 1 23, h.ok 23, h.X 19 0 (by decide) rfl, h.X 23 2 (by decide) rfl⟩
  · exact ⟨h.ok 20, h.P 20 1 24, h.ok 24, h.X 20 0 (by decide) rfl, h.X 24 2 (by decide) rfl⟩
  · exact ⟨h.ok 21, h.P 21 1 25, h.ok 25, h.X 21 0 (by decide) rfl, h.X 25 2 (by decide) rfl⟩
theorem RepX.okM (h : RepX e0 c la A S) {m : Nat} (hm : m < 4) : S.ok (c (8 + 2 * m)) 3 := by
  rcases four hm with rfl | rfl | rfl | rfl
  · exact h.ok 8
  · exact h.ok 10
  · exact h.ok 12
  · exact h.ok 14
theorem RepX.log (h : RepX e0 c la A S) : GR S (c 29) (c 30) (c 31) (A.s 23) := ⟨h.ok 29, h.P 29 0 30, h.P 29 1 31, h.ok 30, h.ok 31, h.1.2.2.2.1 30 (by decide) (by decide), h.1.2.2.2.1 31 (by decide) (by decide), h.ne (by decide) (by decide) (by decide), h.X 29 2 (by decide) rfl⟩
/-- the list of bindings of context k: not empty -/
theorem RepX.listB (h : RepX e0 c la A S) {k : Nat} (hk : k < 4) (h10 : A.w 3 k ≤ 10) (h0 : 0 < A.w 3 k) : LR S (c (22 + k)) (la k) (A.w 3 k) := by
  obtain ⟨g1, g2, g3⟩ := h.2.2.2 k hk
  rcases g2 with g2 | ⟨o1, o2, o3, o4, o5⟩
  · exact absurd g2.2 (by omega)
  · exact ⟨(h.okC hk).2.2.1, g1, o2, o3, (h.okC hk).2.2.2.2, h10⟩
theorem RepX.bind (h : RepX e0 c la A S) {k b : Nat} (hk : k < 4) (hb : b < A.w 3 k) : ∃ q, S.P (la k) b = some q ∧ BX c A (10 * k + b) q S := (h.2.2.2 k hk).2.2 b hb
theorem RepX.o (h : RepX e0 c la A S) : S.I (c 32) 8 = nI (A.s 14) ∧ S.I (c 32) 9 = nI (A.s 15) ∧ S.I (c 32) 10 = recX (A.s 20) ∧ S.I (c 32) 11 = nI (A.s 18) ∧ S.I (c 32) 12 = nI (A.s 19) :=
  ⟨(h.X 32 8).1 rfl, (h.X 32 9).2.1 rfl, (h.X 32 10).2.2.1 rfl, (h.X 32 11).2.2.2.1 rfl, (h.X 32 12).2.2.2.2 rfl⟩
end RX
