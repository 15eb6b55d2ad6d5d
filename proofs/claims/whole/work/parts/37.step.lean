/-! ONE CALL: reference and class answer alike, and the invariant goes on -/
def Kp (A B : aS) : Prop := B.s 10 = A.s 10 ∧ B.w 11 = A.w 11 ∧ B.z = A.z
theorem Kp.refl (A : aS) : Kp A A := ⟨rfl, rfl, rfl⟩
theorem Kp.tr {A B C : aS} (h : Kp A B) (g : Kp B C) : Kp A C := ⟨g.1.trans h.1, g.2.1.trans h.2.1, g.2.2.trans h.2.2⟩
theorem Kp.s {A B : aS} (h : Kp A B) {j v : Nat} (hj : j ≠ 10 := by decide) : Kp A (B.setS j v) := h.tr ⟨if_neg (Ne.symm hj), rfl, rfl⟩
theorem Kp.w {A B : aS} (h : Kp A B) {j k v : Nat} (hj : j ≠ 11 := by decide) : Kp A (B.setW j k v) := h.tr ⟨rfl, setW_wn (Ne.symm hj), rfl⟩
theorem Kp.ksays {A B : aS} (h : Kp A B) {x y : Nat} : Kp A (says B x y) := (h.w (j := 24)).w (j := 25) |>.s
theorem Kp.kadds {A B : aS} (h : Kp A B) {x : Nat} : Kp A (adds B x) := (h.w (j := 17)).s
theorem Kp.kplD {A : aS} {m : Nat} : ∀ (k : Nat) (B : aS), Kp A B → Kp A (plD B m k) := by
  intro k
  induction k with
  | zero => intro B h; rw [plD]; exact h
  | succ k ih => intro B h; rw [plD]; exact ih _ h.kadds
theorem Kp.kplays {A B : aS} (h : Kp A B) {m : Nat} : Kp A (plays B m) := by
  unfold plays
  by_cases q : B.s 20 = m ∨ B.s 18 = 3 ∨ B.s 19 = 20
  · rw [if_pos q]; exact h.ksays
  · rw [if_neg q]; exact Kp.kplD _ _ ((h.s (j := 18)).s (j := 19)).kadds
theorem Kp.kperf {A B : aS} (h : Kp A B) {x y : Nat} : Kp A (perf B x y) := by
  unfold perf
  by_cases q0 : x = 0
  · rw [if_pos q0]; exact h.ksays
  rw [if_neg q0]
  by_cases q1 : x = 1
  · rw [if_pos q1]; exact h.kplays
  rw [if_neg q1]
  by_cases q2 : x = 2
  · rw [if_pos q2]
    by_cases r : B.s 1 = 4
    · rw [if_pos r]; exact h.ksays
    · rw [if_neg r]; exact (h.w (j := 2)).s
  rw [if_neg q2]
  by_cases q3 : x = 3
  · rw [if_pos q3]
    by_cases r : B.s 1 = 1
    · rw [if_pos r]; exact h.ksays
    · rw [if_neg r]; exact h.s
  rw [if_neg q3]
  by_cases q4 : x = 4
  · rw [if_pos q4]; exact h.w
  · rw [if_neg q4]; exact h.w
theorem Kp.kfrD {A : aS} {first : Nat} : ∀ (k : Nat) (B : aS), Kp A B → Kp A (frD B first k) := by
  intro k
  induction k with
  | zero => intro B h; rw [frD]; exact h
  | succ k ih =>
    intro B h
    rw [frD]
    by_cases q : first ≤ k
    · rw [if_pos q]; exact ih _ h.kadds
    · rw [if_neg q]; exact h
theorem Kp.kends {A B : aS} (h : Kp A B) : Kp A (ends B) := by
  have hf : ∀ n, Kp A (frees B n) := fun n => (Kp.kfrD _ _ h).s
  unfold ends endR
  cases (srch B (B.s 12)).2 with
  | none => exact (hf 1).ksays
  | some p => exact (hf _).kperf
theorem Kp.step {A B : aS} (h : Kp A B) : Kp A (stepA B) := by
  have hk : Kp A (keyA B) := ((h.s (j := 16)).w (j := 13)).s
  unfold stepA
  by_cases q : B.w 17 (B.s 16 - 1) = 12
  · rw [if_pos q]; exact (h.s (j := 16)).s
  · rw [if_neg q]
    by_cases r : ext (keyA B) = true
    · rw [if_pos r]; exact hk.s
    · rw [if_neg r]; exact hk.kends
theorem Kp.wk {A : aS} : ∀ (f : Nat) (B : aS), Kp A B → Kp A (wkA f B) := by
  intro f
  induction f with
  | zero => intro B h; rw [wkA]; exact h
  | succ f ih =>
    intro B h
    rw [wkA]
    by_cases q : B.s 16 = 0
    · rw [if_pos q]; exact h
    · rw [if_neg q]; exact ih _ h.step
theorem Kp.tk {A : aS} : ∀ (t : Nat) (B : aS), Kp A B → Kp A (tkA t B) := by
  intro t
  induction t with
  | zero => intro B h; rw [tkA]; exact h
  | succ t ih =>
    intro B h
    rw [tkA]
    by_cases q : B.s 12 = 0
    · rw [if_pos q]; exact h
    · rw [if_neg q]
      by_cases r : B.s 15 - 1 = 0
      · rw [if_pos r]; exact ih _ (Kp.wk _ _ (h.s (j := 15)).kends)
      · rw [if_neg r]; exact ih _ h.s
theorem Kp.kprA {A : aS} {x : Nat} : Kp A (prA A x) := by
  have h1 : Kp A (rcd (A.setS 19 0) x) := by
    unfold rcd
    by_cases q : (A.setS 19 0).s 20 < 4 ∧ (A.setS 19 0).w 21 ((A.setS 19 0).s 20) < 12
    · rw [if_pos q]; exact (((Kp.refl A).s (j := 19)).w (j := 22)).w (j := 21)
    · rw [if_neg q]; exact (Kp.refl A).s
  exact h1.kadds
/-- what stands between two calls -/
def J (A : aS) (R : Nat) : Prop := Inv A R ∧ Zk A
theorem J.up {A : aS} {R : Nat} (h : J A R) : J A (R + 1001000) := by
  obtain ⟨⟨a1, a2, a3, a4, a5, a6, a7, a8, a9, a10⟩, z⟩ := h
  exact ⟨⟨a1, a2, a3, a4, a5, a6, a7, a8, a9, by omega⟩, z⟩
theorem J.fin {A B : aS} {R : Nat} (h : J A R) (k : Kp A B) (hp : PInv B) (h16 : B.s 16 = 0) (h23 : B.s 23 ≤ R + 1001000) : J B (R + 1001000) := by
  obtain ⟨⟨a1, a2, a3, a4, a5, a6, a7, a8, a9, a10⟩, z⟩ := h
  obtain ⟨k1, k2, k3⟩ := k
  obtain ⟨hb, hs, ht, h12, h13, h15⟩ := hp
  have h18 := hs.2.1
  rw [h16] at h18
  refine ⟨⟨hb, h16, h18.symm, hs.2.2.2.2, h12, h13, h15, by rw [k1]; exact a8, by rw [k1, k2]; exact a9, h23⟩, ?_⟩
  unfold Zk
  rw [k3]
  exact z
theorem J.bs {A : aS} {R : Nat} (h : J A R) : Base A := h.1.1
theorem J.b10 {A : aS} {R : Nat} (h : J A R) : A.s 10 ≤ 4 := h.1.2.2.2.2.2.2.2.1
theorem J.b12 {A : aS} {R : Nat} (h : J A R) : A.s 12 ≤ 3 := h.1.2.2.2.2.1
theorem J.b23 {A : aS} {R : Nat} (h : J A R) : A.s 23 ≤ R := h.1.2.2.2.2.2.2.2.2.2
theorem J_press {A : aS} {R : Nat} {x : Int32} (h : J A R) : J (a_press A x).2 (R + 1001000) := by
  unfold a_press
  by_cases q : 0 ≤ x ∧ x ≤ 11
  · rw [if_pos q]
    obtain ⟨k, hk, rfl⟩ := x_nat (h := 11) rfl q
    rw [nI_clamp (by omega)]
    obtain ⟨p1, p2, p3, p4, p5⟩ := pr_inv h.1 (x := k) (by omega)
    obtain ⟨w1, w2, w3, w4⟩ := wk_inv 1000 _ p1 p2
    have := h.b23
    exact h.fin (Kp.wk _ _ Kp.kprA) w1 w2 (by show (wkA 1000 (prA A k)).s 23 ≤ _; omega)
  · rw [if_neg q]; exact h.up
theorem J_tick {A : aS} {R : Nat} {x : Int32} (h : J A R) : J (a_tick A x).2 (R + 1001000) := by
  unfold a_tick
  by_cases q : 0 ≤ x ∧ x ≤ 999
  · rw [if_pos q]
    obtain ⟨k, hk, rfl⟩ := x_nat (h := 999) rfl q
    rw [nI_clamp (by omega)]
    obtain ⟨w1, w2, w3, w4⟩ := tk_inv k (A.setS 19 0) h.1.p h.1.2.1
    have := h.b23
    have w4 : (tkA k (A.setS 19 0)).s 23 ≤ A.s 23 + 1001 * k := w4
    exact h.fin (Kp.tk _ _ (Kp.refl A).s) w1 w2 (by show (tkA k (A.setS 19 0)).s 23 ≤ _; omega)
  · rw [if_neg q]; exact h.up
theorem J_append {A : aS} {R : Nat} {x : Int32} (h : J A R) : J (a_append A x).2 (R + 1001000) := by
  unfold a_append
  by_cases q : 0 ≤ x ∧ x ≤ 11
  · rw [if_pos q]
    obtain ⟨k, hk, rfl⟩ := x_nat (h := 11) rfl q
    rw [nI_clamp (by omega)]
    have h10 := h.b10
    by_cases e : A.s 10 = 4
    · rw [if_pos e]; exact h.up
    · rw [if_neg e]
      obtain ⟨⟨a1, a2, a3, a4, a5, a6, a7, a8, a9, a10⟩, z⟩ := h
      refine ⟨⟨?_, a2, a3, a4, a5, ?_, a7, ?_, fun i hi => ?_, ?_⟩, z⟩
      · exact a1.of rfl (setW_wn (by decide)) (setW_wn (by decide)) (setW_wn (by decide)) rfl (setW_wn (by decide)) (setW_wn (by decide)) (setW_wn (by decide)) (setW_wn (by decide)) rfl rfl
      · intro i hi
        show ((A.setW 11 (A.s 10) k)).w 13 i < 12
        rw [setW_wn (by decide)]; exact a6 i hi
      · show A.s 10 + 1 ≤ 4
        omega
      · have hi : i < A.s 10 + 1 := hi
        show ((A.setW 11 (A.s 10) k)).w 11 i < 12
        rw [aS.w_setW]
        by_cases e2 : i = A.s 10
        · rw [if_pos ⟨rfl, e2⟩]; omega
        · rw [if_neg (fun z => e2 z.2)]; exact a9 i (by omega)
      · show A.s 23 ≤ R + 1001000
        omega
  · rw [if_neg q]; exact h.up
theorem J_clear {A : aS} {R : Nat} (h : J A R) : J (a_clear A).2 (R + 1001000) := by
  obtain ⟨⟨a1, a2, a3, a4, a5, a6, a7, a8, a9, a10⟩, z⟩ := h
  exact ⟨⟨a1.setS (by decide) (by decide) (by decide), a2, a3, a4, a5, a6, a7, Nat.zero_le _, fun i hi => absurd hi (Nat.not_lt_zero _), show A.s 23 ≤ R + 1001000 by omega⟩, z⟩
theorem J_timeout {A : aS} {R : Nat} {x : Int32} (h : J A R) : J (a_timeout A x).2 (R + 1001000) := by
  unfold a_timeout
  by_cases q : 1 ≤ x ∧ x ≤ 99
  · rw [if_pos q]
    obtain ⟨⟨⟨b1, b2, b3, b4, b5, b6⟩, a2, a3, a4, a5, a6, a7, a8, a9, a10⟩, z⟩ := h
    obtain ⟨k, hk, rfl⟩ := x_nat (h := 99) rfl ⟨Int32.le_trans (by decide) q.1, q.2⟩
    rw [nI_clamp (by omega)]
    have q1 := q.1
    rw [Int32.le_iff_toInt_le, nI_toInt (by omega)] at q1
    have q1 : (1 : Int) ≤ k := q1
    refine ⟨⟨⟨b1, b2, b3, b4, b5, ?_⟩, a2, a3, a4, a5, a6, a7, a8, a9, show A.s 23 ≤ R + 1001000 by omega⟩, z⟩
    show 1 ≤ k ∧ k ≤ 99
    omega
  · rw [if_neg q]; exact h.up
theorem J_setFlag {A : aS} {R : Nat} {f v : Int32} (h : J A R) : J (a_setFlag A f v).2 (R + 1001000) := by
  unfold a_setFlag
  by_cases q : 0 ≤ f ∧ f ≤ 5
  · rw [if_pos q]
    by_cases r : 0 ≤ v ∧ v ≤ 1
    · rw [if_pos r]
      obtain ⟨⟨a1, a2, a3, a4, a5, a6, a7, a8, a9, a10⟩, z⟩ := h
      refine ⟨⟨a1.setW (Or.inl rfl), a2, a3, a4, a5, ?_, a7, a8, ?_, show A.s 23 ≤ R + 1001000 by omega⟩, z⟩
      · rw [setW_wn (by decide)]; exact a6
      · rw [setW_wn (by decide)]; exact a9
    · rw [if_neg r]; exact h.up
  · rw [if_neg q]; exact h.up
theorem J_start {A : aS} {R : Nat} {x : Int32} (h : J A R) : J (a_start A x).2 (R + 1001000) := by
  unfold a_start
  by_cases q : 0 ≤ x ∧ x ≤ 3
  · rw [if_pos q]
    by_cases r : A.s 20 < 4
    · rw [if_pos r]; exact h.up
    · rw [if_neg r]
      obtain ⟨k, hk, rfl⟩ := x_nat (h := 3) rfl q
      rw [nI_clamp (by omega)]
      obtain ⟨⟨⟨⟨w1, w2, w3, w4, w5⟩, b2, b3, b4, b5, b6⟩, a2, a3, a4, a5, a6, a7, a8, a9, a10⟩, z⟩ := h
      have ew : ∀ j, j ≠ 21 → ((A.setS 20 k).setW 21 k 0).w j = A.w j := fun j hj => setW_wn hj
      refine ⟨⟨⟨⟨w1, by rw [ew 2 (by decide)]; exact w2, by rw [ew 3 (by decide)]; exact w3, by rw [ew 4 (by decide)]; exact w4, w5⟩, ?_, fun m hm => ?_, by rw [ew 22 (by decide)]; exact b4, show k ≤ 4 by omega, b6⟩, a2, a3, a4, a5, by rw [ew 13 (by decide)]; exact a6, a7, a8, by rw [ew 11 (by decide)]; exact a9, show A.s 23 ≤ R + 1001000 by omega⟩, z⟩
      · unfold BOK at b2 ⊢
        rw [ew 3 (by decide), ew 4 (by decide), ew 8 (by decide), ew 9 (by decide)]; exact b2
      · rw [aS.w_setW]
        by_cases e : m = k
        · rw [if_pos ⟨rfl, e⟩]; omega
        · rw [if_neg (fun z => e z.2)]; exact b3 m hm
  · rw [if_neg q]; exact h.up
theorem J_stop {A : aS} {R : Nat} (h : J A R) : J (a_stop A).2 (R + 1001000) := by
  unfold a_stop
  by_cases r : A.s 20 < 4
  · rw [if_pos r]
    obtain ⟨⟨⟨b1, b2, b3, b4, b5, b6⟩, a2, a3, a4, a5, a6, a7, a8, a9, a10⟩, z⟩ := h
    exact ⟨⟨⟨b1, b2, b3, b4, show 4 ≤ 4 by decide, b6⟩, a2, a3, a4, a5, a6, a7, a8, a9, show A.s 23 ≤ R + 1001000 by omega⟩, z⟩
  · rw [if_neg r]; exact h.up
theorem bOK_arg {x f v : Int32} {a g : Nat} (ha : a ≤ 5) (hg : g ≤ 99) (h : bOK x f v (nI a) (nI g)) : argOK a g := by
  have h := h.2.2.2.2.2
  have key : ∀ m : Nat, m < 1000 → nI g ≤ nI m → g ≤ m := fun m hm z => by
    rcases Nat.lt_or_ge m g with w | w
    · exact absurd z (nI_ge w (by omega))
    · exact w
  refine ⟨ha, fun e => by omega, fun e => ?_, fun e => ?_, fun e => ?_, fun e => ?_⟩
  · subst e; have := key 3 (by decide) h; omega
  · subst e; have := key 3 (by decide) h; omega
  · subst e; have := key 0 (by decide) h; omega
  · have : a = 4 ∨ a = 5 := by omega
    rcases this with rfl | rfl
    · have := key 5 (by decide) h; omega
    · have := key 5 (by decide) h; omega
theorem J_bind {A : aS} {R : Nat} {x f v a g : Int32} (h : J A R) (hok : bOK x f v a g) (h0 : A.s 10 ≠ 0) (h3 : A.w 3 x.toNatClampNeg ≠ 10) : J (bndA A x.toNatClampNeg f v a.toNatClampNeg g.toNatClampNeg) (R + 1001000) := by
  have hok0 := hok
  obtain ⟨o1, o2, o3, o4, o5⟩ := hok
  obtain ⟨k, hk, rfl⟩ := x_nat (h := 3) rfl o1
  obtain ⟨ka, hka, rfl⟩ := x_nat (h := 5) rfl o4
  obtain ⟨kg, hkg, rfl⟩ := x_nat (x := g) (h := 99) rfl ⟨o5.1, Int32.le_trans o5.2 (show mostI (nI ka) ≤ 99 by unfold mostI; split; decide; split; decide; split; decide; split; decide; decide)⟩
  have har := bOK_arg hka hkg hok0
  rw [nI_clamp (n := k) (by omega)] at h3 ⊢
  rw [nI_clamp (n := ka) (by omega), nI_clamp (n := kg) (by omega), bnd_e]
  obtain ⟨⟨⟨⟨w1, w2, w3, w4, w5⟩, b2, b3, b4, b5, b6⟩, a2, a3, a4, a5, a6, a7, a8, a9, a10⟩, z⟩ := h
  have hk3 := w3 k (by omega)
  have fneg : f < 0 → f = -1 := fun q => by
    have q1 := o2.1
    rw [Int32.le_iff_toInt_le] at q1
    rw [Int32.lt_iff_toInt_lt] at q
    have c1 : (-1 : Int32).toInt = -1 := rfl
    have c2 : (0 : Int32).toInt = 0 := rfl
    exact Int32.toInt_inj.mp (by omega)
  have J1 : Inv (bnd3 A k f v ka kg) (R + 1001000) := by
    refine ⟨⟨⟨by rw [bnd_s]; exact w1, by rw [bnd_wn (by decide) (by decide) (by decide) (by decide) (by decide)]; exact w2, fun c hc => ?_, fun p hp => ?_, fun p hp => ?_⟩, fun c b hc hb => ?_, by rw [bnd_wn (by decide) (by decide) (by decide) (by decide) (by decide)]; exact b3, by rw [bnd_wn (by decide) (by decide) (by decide) (by decide) (by decide)]; exact b4, by rw [bnd_s]; exact b5, by rw [bnd_s]; exact b6⟩, by rw [bnd_s]; exact a2, by rw [bnd_s]; exact a3, by rw [bnd_s]; exact a4, by rw [bnd_s]; exact a5, by rw [bnd_s, bnd_wn (by decide) (by decide) (by decide) (by decide) (by decide)]; exact a6, by rw [bnd_s]; exact a7, by rw [bnd_s]; exact a8, by rw [bnd_s, bnd_wn (by decide) (by decide) (by decide) (by decide) (by decide)]; exact a9, by rw [bnd_s]; omega⟩
    · rw [bnd_3]
      by_cases e : c = k
      · rw [if_pos e]; omega
      · rw [if_neg e]; exact w3 c hc
    · rw [bnd_4]
      by_cases e : p = 10 * k + A.w 3 k
      · rw [if_pos e]; exact a8
      · rw [if_neg e]; exact w4 p hp
    · rw [bnd_z6]
      by_cases e : p = 10 * k + A.w 3 k
      · rw [if_pos e]
        by_cases q : f < 0
        · exact Or.inl q
        · obtain ⟨kf, hkf, rfl⟩ := x_nat (h := 5) rfl ⟨x_ge.mpr q, o2.2⟩
          exact Or.inr ⟨kf, by omega, rfl⟩
      · rw [if_neg e]; exact w5 p hp
    · rw [bnd_3] at hb
      rw [bnd_8, bnd_9, bnd_4]
      by_cases e : 10 * c + b = 10 * k + A.w 3 k
      · rw [if_pos e, if_pos e, if_pos e]; exact ⟨har, by omega⟩
      · rw [if_neg e, if_neg e, if_neg e]
        refine b2 c b hc ?_
        by_cases e2 : c = k
        · subst e2; rw [if_pos rfl] at hb; omega
        · rw [if_neg e2] at hb; exact hb
  obtain ⟨c1, c2, c3, c4, c5, c6, c7, c8, c9, c10⟩ := J1
  refine ⟨⟨c1.setS (by decide) (by decide) (by decide), c2, c3, c4, c5, c6, c7, Nat.zero_le _, fun i hi => absurd hi (Nat.not_lt_zero _), c10⟩, ?_⟩
  intro p hp
  show (bnd3 A k f v ka kg).z 6 p < 0 → (bnd3 A k f v ka kg).z 6 p = -1
  rw [bnd_z6]
  by_cases e : p = 10 * k + A.w 3 k
  · rw [if_pos e]; exact fneg
  · rw [if_neg e]; exact z p hp
theorem J_unbind {A : aS} {R : Nat} {x y : Int32} (h : J A R) (hb : isB A x y) : J (unbA A x.toNatClampNeg y.toNatClampNeg) (R + 1001000) := by
  obtain ⟨q1, q2, q3⟩ := hb
  obtain ⟨k, hk, rfl⟩ := x_nat (h := 3) rfl q1
  rw [nI_clamp (n := k) (by omega)] at q3 ⊢
  obtain ⟨⟨⟨⟨w1, w2, w3, w4, w5⟩, b2, b3, b4, b5, b6⟩, a2, a3, a4, a5, a6, a7, a8, a9, a10⟩, z⟩ := h
  have hm := w3 k (by omega)
  obtain ⟨u, hu, rfl⟩ := x_lt_n q2 q3 (by omega)
  rw [nI_clamp (n := u) (by omega)]
  have e3 : ∀ j, (unbA A k u).w 3 j = if j = k then A.w 3 k - 1 else A.w 3 j := fun j => by
    unfold unbA
    rw [shf_wn (by decide) (by decide) (by decide) (by decide), aS.w_setW]
    by_cases z : j = k
    · rw [if_pos ⟨rfl, z⟩, if_pos z]
    · rw [if_neg (fun y => z y.2), if_neg z]
  have ew : ∀ j i, j = 4 ∨ j = 8 ∨ j = 9 → (unbA A k u).w j i = if 10 * k + u ≤ i ∧ i < 10 * k + A.w 3 k - 1 then A.w j (i + 1) else A.w j i := fun j i hj => by
    unfold unbA
    rw [shf_w hj, setW_wn (by omega), show 10 * k + u + (A.w 3 k - 1 - u) = 10 * k + A.w 3 k - 1 by omega]
  have ez : ∀ i, (unbA A k u).z 6 i = if 10 * k + u ≤ i ∧ i < 10 * k + A.w 3 k - 1 then A.z 6 (i + 1) else A.z 6 i := fun i => by
    unfold unbA
    rw [shf_z (Or.inl rfl), aS.z_setW, show 10 * k + u + (A.w 3 k - 1 - u) = 10 * k + A.w 3 k - 1 by omega]
  have en : ∀ j, j ≠ 3 → j ≠ 4 → j ≠ 5 → j ≠ 8 → j ≠ 9 → (unbA A k u).w j = A.w j := fun j a b d e f => by
    unfold unbA
    rw [shf_wn b d e f, setW_wn a]
  refine ⟨⟨⟨⟨w1, by rw [en 2 (by decide) (by decide) (by decide) (by decide) (by decide)]; exact w2, fun c hc => ?_, fun p hp => ?_, fun p hp => ?_⟩, fun c b hc hb => ?_, by rw [en 21 (by decide) (by decide) (by decide) (by decide) (by decide)]; exact b3, by rw [en 22 (by decide) (by decide) (by decide) (by decide) (by decide)]; exact b4, b5, b6⟩, a2, a3, a4, a5, by rw [en 13 (by decide) (by decide) (by decide) (by decide) (by decide)]; exact a6, a7, a8, by rw [en 11 (by decide) (by decide) (by decide) (by decide) (by decide)]; exact a9, show A.s 23 ≤ R + 1001000 by omega⟩, fun p hp => ?_⟩
  · rw [e3]
    by_cases e : c = k
    · rw [if_pos e]; omega
    · rw [if_neg e]; exact w3 c hc
  · rw [ew 4 p (Or.inl rfl)]
    by_cases e : 10 * k + u ≤ p ∧ p < 10 * k + A.w 3 k - 1
    · rw [if_pos e]; exact w4 _ (by omega)
    · rw [if_neg e]; exact w4 p hp
  · rw [ez p]
    by_cases e : 10 * k + u ≤ p ∧ p < 10 * k + A.w 3 k - 1
    · rw [if_pos e]; exact w5 _ (by omega)
    · rw [if_neg e]; exact w5 p hp
  · have hm' := w3 c hc
    rw [e3] at hb
    rw [ew 8 _ (Or.inr (Or.inl rfl)), ew 9 _ (Or.inr (Or.inr rfl)), ew 4 _ (Or.inl rfl)]
    by_cases e : 10 * k + u ≤ 10 * c + b ∧ 10 * c + b < 10 * k + A.w 3 k - 1
    · rw [if_pos e, if_pos e, if_pos e]
      have hc' : c = k := by
        by_cases q : c = k
        · exact q
        · rw [if_neg q] at hb; omega
      subst hc'
      rw [if_pos rfl] at hb
      exact b2 c (b + 1) hc (by omega)
    · rw [if_neg e, if_neg e, if_neg e]
      refine b2 c b hc ?_
      by_cases q : c = k
      · subst q; rw [if_pos rfl] at hb; omega
      · rw [if_neg q] at hb; exact hb
  · rw [ez p]
    by_cases e : 10 * k + u ≤ p ∧ p < 10 * k + A.w 3 k - 1
    · rw [if_pos e]; exact z _ (by omega)
    · rw [if_neg e]; exact z p hp
