/-! bind, unbind, shadowedBy of the reference -/
def isB (A : aS) (c b : Int32) : Prop := (0 ≤ c ∧ c ≤ 3) ∧ ¬ b < 0 ∧ ¬ nI (A.w 3 c.toNatClampNeg) ≤ b
theorem nI_sub1 {m : Nat} (hm : m < 1000) : (nI m - 1 : Int32).toInt = (m : Int) - 1 := by
  rw [show (1 : Int32) = nI 1 from rfl, Int32.toInt_sub, nI_toInt (by omega), nI_toInt (by omega)]
  exact Int.bmod_eq_of_le (by omega) (by omega)
theorem mv_isB {post : Int32 → vS → Prop} {A : aS} {c b : Int32} (hm : ∀ c, c < 4 → A.w 3 c ≤ 10) (h1 : isB A c b → post 1 (toV A)) (h0 : ¬ isB A c b → post 0 (toV A)) : wv_X5_isBinding post c b (toV A) := by
  unfold wv_X5_isBinding
  refine mv_if (post := post) (fun hi => ⟨fun c => absurd c (by decide), fun _ => ?_⟩) (fun hi => ⟨fun _ => h0 (fun q => hi q.1), fun c => absurd rfl c⟩)
  have hi0 := hi
  obtain ⟨k, hk, rfl⟩ := x_nat (h := 3) rfl hi
  have hmk := hm k (by omega)
  have hmk' : A.w 3 (nI k).toNatClampNeg ≤ 10 := by rw [nI_clamp (by omega)]; exact hmk
  rw [nI_clamp (by omega), toV_a (by decide) (by decide)]
  refine ⟨vp_in_nI (by omega) (by decide), ?_⟩
  have key : ¬ nI (A.w 3 (nI k).toNatClampNeg) ≤ b ↔ b ≤ nI (A.w 3 k) - 1 := by
    rw [nI_clamp (by omega), Int32.le_iff_toInt_le, Int32.le_iff_toInt_le, nI_toInt (by omega), nI_sub1 (by omega)]
    omega
  refine mv_if (post := post) (fun hj => ⟨fun c => absurd c (by decide), fun _ => h1 ⟨hi0, x_ge.mp hj.1, key.mpr hj.2⟩⟩) (fun hj => ⟨fun _ => h0 (fun q => hj ⟨x_ge.mpr q.2.1, key.mp q.2.2⟩), fun c => absurd rfl c⟩)
def mostI (a : Int32) : Int32 := if a = 0 then 99 else if a = 1 then 3 else if a = 2 then 3 else if a = 3 then 0 else 5
theorem mv_most {post : Int32 → vS → Prop} {V : vS} {a : Int32} (h : post (mostI a) V) : wv_X5_most post a V := by
  unfold wv_X5_most
  unfold mostI at h
  refine ⟨fun c => ?_, fun c => ?_, fun c => ?_, fun c => ?_, fun c => ?_⟩
  · subst c; exact h
  · subst c; exact h
  · subst c; exact h
  · subst c; exact h
  · rw [if_neg c.1, if_neg c.2.1, if_neg c.2.2.1, if_neg c.2.2.2] at h
    exact h
def cpk (A : aS) (p : Nat) : Nat → aS
  | 0 => A
  | n + 1 => (cpk A p n).setW 5 (4 * p + n) (A.w 11 n)
theorem cpk_s {A : aS} {p : Nat} : ∀ n, (cpk A p n).s = A.s
  | 0 => rfl
  | n + 1 => cpk_s n
theorem cpk_z {A : aS} {p : Nat} : ∀ n, (cpk A p n).z = A.z
  | 0 => rfl
  | n + 1 => cpk_z n
theorem cpk_w {A : aS} {p j : Nat} (hj : j ≠ 5) : ∀ n, (cpk A p n).w j = A.w j
  | 0 => rfl
  | n + 1 => by rw [cpk, setW_wn hj, cpk_w hj n]
theorem cpk_5 {A : aS} {p q : Nat} : ∀ n, (cpk A p n).w 5 q = if 4 * p ≤ q ∧ q < 4 * p + n then A.w 11 (q - 4 * p) else A.w 5 q
  | 0 => by rw [if_neg (by omega)]; rfl
  | n + 1 => by
    rw [cpk, aS.w_setW, cpk_5 n]
    by_cases h : q = 4 * p + n
    · rw [if_pos ⟨rfl, h⟩, if_pos (by omega)]
      congr 1; omega
    · rw [if_neg (fun z => h z.2)]
      by_cases h2 : 4 * p ≤ q ∧ q < 4 * p + n
      · rw [if_pos h2, if_pos (by omega)]
      · rw [if_neg h2, if_neg (by omega)]
def bndA (A : aS) (c : Nat) (f v : Int32) (a g : Nat) : aS := (((((((cpk (A.setW 4 (10 * c + A.w 3 c) (A.s 10)) (10 * c + A.w 3 c) (A.s 10)).setZ 6 (10 * c + A.w 3 c) f).setZ 7 (10 * c + A.w 3 c) v).setW 8 (10 * c + A.w 3 c) a).setW 9 (10 * c + A.w 3 c) g).setW 3 c (A.w 3 c + 1)).setS 10 0)
def bOK (c f v a g : Int32) : Prop := (0 ≤ c ∧ c ≤ 3) ∧ (-1 ≤ f ∧ f ≤ 5) ∧ (f < 0 ∨ (0 ≤ v ∧ v ≤ 1)) ∧ (0 ≤ a ∧ a ≤ 5) ∧ (0 ≤ g ∧ g ≤ mostI a)
theorem bOK_dec (c f v a g : Int32) : bOK c f v a g ∨ ¬ bOK c f v a g := Classical.em _
theorem mv_bindL {post : Int32 → vS → Prop} {A : aS} {c p a g : Nat} {f v : Int32} (hc : c < 4) (hp : p < 40) (h10 : A.s 10 ≤ 4) (h3 : A.w 3 c ≤ 10) (h : post (nI (A.w 3 c)) (toV (((((((cpk A p (A.s 10)).setZ 6 p f).setZ 7 p v).setW 8 p a).setW 9 p g).setW 3 c (A.w 3 c + 1)).setS 10 0))) :
    ∀ m k, k + m = A.s 10 → wv_X5_bind_L120 post (m + 1) (nI c) f v (nI a) (nI g) (nI p) (nI k) (toV (cpk A p k)) := by
  intro m
  induction m with
  | zero =>
    intro k hk
    have hk : k = A.s 10 := by omega
    subst hk
    unfold wv_X5_bind_L120
    rw [toV_s (by decide), cpk_s, nI_clamp (n := p) (by omega), nI_clamp (n := c) (by omega)]
    refine ⟨fun _ => ⟨vp_in_nI hp (by decide), ?_⟩, fun q => absurd (nI_le (Nat.le_refl _) (by omega)) q⟩
    intro V35 e35
    replace e35 := e35.trans (toV_setZ (Or.inl rfl))
    subst e35
    refine ⟨vp_in_nI hp (by decide), ?_⟩
    intro V41 e41
    replace e41 := e41.trans (toV_setZ (Or.inr rfl))
    subst e41
    refine ⟨vp_in_nI hp (by decide), ?_⟩
    intro V47 e47
    replace e47 := e47.trans (toV_setW (v := a) (by decide) (by decide) rfl)
    subst e47
    refine ⟨vp_in_nI hp (by decide), ?_⟩
    intro V53 e53
    replace e53 := e53.trans (toV_setW (v := g) (by decide) (by decide) rfl)
    subst e53
    refine ⟨vp_in_nI hc (by decide), vp_in_nI hc (by decide), ?_⟩
    intro V60 e60
    have e3 : (((((cpk A p (A.s 10)).setZ 6 p f).setZ 7 p v).setW 8 p a).setW 9 p g).w 3 c = A.w 3 c := by
      rw [setW_wn (by decide), setW_wn (by decide), aS.w_setZ, aS.w_setZ, cpk_w (by decide)]
    rw [toV_a (by decide) (by decide), e3] at e60
    replace e60 := e60.trans (toV_setW (v := A.w 3 c + 1) (by decide) (by decide) (nI_1 _))
    subst e60
    intro V62 e62
    replace e62 := e62.trans (toV_setS (v := 0) (by decide) rfl)
    subst e62
    refine ⟨vp_in_nI hc (by decide), ?_⟩
    have e4 : ((((((cpk A p (A.s 10)).setZ 6 p f).setZ 7 p v).setW 8 p a).setW 9 p g).setW 3 c (A.w 3 c + 1)).w 3 c = A.w 3 c + 1 := by rw [aS.w_setW, if_pos ⟨rfl, rfl⟩]
    rw [toV_a (by decide) (by decide), aS.w_setS, e4, nI_pred]
    exact h
  | succ m ih =>
    intro k hk
    unfold wv_X5_bind_L120
    rw [toV_s (by decide), cpk_s]
    refine ⟨fun q => absurd q (nI_ge (by omega) (by omega)), fun _ => ⟨vp_in_nI (by omega) (by decide), ?_⟩⟩
    rw [show (4 : Int32) = nI 4 from rfl, ix, nI_clamp (n := 4 * p + k) (by omega), nI_clamp (n := k) (by omega), toV_a (by decide) (by decide), cpk_w (by decide), nI_1]
    refine ⟨vp_in_nI (by omega) (by decide), ?_⟩
    intro V77 e77
    replace e77 := e77.trans (toV_setW (v := A.w 11 k) (by decide) (by decide) rfl)
    subst e77
    exact ih (k + 1) (by omega)
/-- bind: its answer and what it leaves -/
theorem mv_bind {post : Int32 → vS → Prop} {A : aS} {c f v a g : Int32} (h10 : A.s 10 ≤ 4) (hm : ∀ c, c < 4 → A.w 3 c ≤ 10) (hbad : ¬ bOK c f v a g → post (-1) (toV A))
    (h2 : bOK c f v a g → A.s 10 = 0 → post (-2) (toV A)) (h3 : bOK c f v a g → A.s 10 ≠ 0 → A.w 3 c.toNatClampNeg = 10 → post (-3) (toV A))
    (h : bOK c f v a g → A.s 10 ≠ 0 → A.w 3 c.toNatClampNeg ≠ 10 → post (nI (A.w 3 c.toNatClampNeg)) (toV (bndA A c.toNatClampNeg f v a.toNatClampNeg g.toNatClampNeg))) : wv_X5_bind post c f v a g (toV A) := by
  have fin : ∀ (V : vS), V = toV A → bOK c f v a g → ((((V.s 10) = 0 → post (-2 : Int32) V) ∧ (¬ ((V.s 10) = 0) → (vp_in c 4 ∧ (((V.a 3 c.toNatClampNeg) = (10 : Int32) → post (-3 : Int32) V) ∧ (¬ ((V.a 3 c.toNatClampNeg) = (10 : Int32)) → (vp_in c 4 ∧ vp_in (((10 : Int32) * c) + (V.a 3 c.toNatClampNeg)) 40 ∧ ∀ V28, V28 = V.setA 4 (((10 : Int32) * c) + (V.a 3 c.toNatClampNeg)).toNatClampNeg (V.s 10) → (∃ n120, wv_X5_bind_L120 post n120 c f v a g (((10 : Int32) * c) + (V.a 3 c.toNatClampNeg)) (0 : Int32) V28)))))))) := by
    intro V eV hok
    subst eV
    have hok0 := hok
    obtain ⟨o1, o2, o3, o4, o5⟩ := hok
    obtain ⟨k, hk, rfl⟩ := x_nat (h := 3) rfl o1
    have hmk := hm k (by omega)
    obtain ⟨ka, hka, rfl⟩ := x_nat (h := 5) rfl o4
    obtain ⟨kg, hkg, rfl⟩ := x_nat (x := g) (h := 99) rfl ⟨o5.1, Int32.le_trans o5.2 (show mostI (nI ka) ≤ 99 by unfold mostI; split; decide; split; decide; split; decide; split; decide; decide)⟩
    rw [nI_clamp (n := k) (by omega)] at h3 h
    rw [nI_clamp (n := ka) (by omega), nI_clamp (n := kg) (by omega)] at h
    rw [nI_clamp (n := k) (by omega), toV_s (by decide), toV_a (by decide) (by decide)]
    refine ⟨fun q => h2 hok0 ((nI_eq (b := 0) (by omega) (by decide)).mp q), fun q => ⟨vp_in_nI (by omega) (by decide), fun q1 => h3 hok0 (fun z => q (by rw [z]; rfl)) ((nI_eq (b := 10) (by omega) (by decide)).mp q1), fun q1 => ⟨vp_in_nI (by omega) (by decide), ?_⟩⟩⟩
    have n10 : A.w 3 k ≠ 10 := fun z => q1 (by rw [z]; rfl)
    have n0 : A.s 10 ≠ 0 := fun z => q (by rw [z]; rfl)
    rw [show (10 : Int32) = nI 10 from rfl, ix, nI_clamp (by omega)]
    refine ⟨vp_in_nI (by omega) (by decide), ?_⟩
    intro V28 e28
    replace e28 := e28.trans (toV_setW (v := A.s 10) (by decide) (by decide) rfl)
    subst e28
    refine ⟨A.s 10 + 1, ?_⟩
    have e3 : (A.setW 4 (10 * k + A.w 3 k) (A.s 10)).w 3 k = A.w 3 k := by rw [setW_wn (by decide)]
    have := mv_bindL (post := post) (A := A.setW 4 (10 * k + A.w 3 k) (A.s 10)) (c := k) (p := 10 * k + A.w 3 k) (a := ka) (g := kg) (f := f) (v := v) (by omega) (by omega) h10 (by rw [e3]; exact hmk) (by rw [e3]; exact h hok0 n0 n10) (A.s 10) 0 (Nat.zero_add _)
    exact this
  unfold wv_X5_bind
  refine mv_if (post := post) (fun hc => ⟨fun c => absurd c (by decide), fun _ => ?_⟩) (fun hc => ⟨fun _ => hbad (fun q => hc q.1), fun c => absurd rfl c⟩)
  refine mv_if (post := post) (fun hf => ⟨fun c => absurd c (by decide), fun _ => ?_⟩) (fun hf => ⟨fun _ => hbad (fun q => hf q.2.1), fun c => absurd rfl c⟩)
  refine ⟨fun q => ?_, fun q => ?_⟩
  · refine mv_if (post := post) (fun ha => ⟨fun c => absurd c (by decide), fun _ => ?_⟩) (fun ha => ⟨fun _ => hbad (fun q => ha q.2.2.2.1), fun c => absurd rfl c⟩)
    refine mv_most ?_
    refine mv_if (post := post) (fun hg => ⟨fun c => absurd c (by decide), fun _ => ?_⟩) (fun hg => ⟨fun _ => hbad (fun q => hg q.2.2.2.2), fun c => absurd rfl c⟩)
    exact fin _ rfl ⟨hc, hf, Or.inl q, ha, hg⟩
  · refine mv_if (post := post) (fun hv => ⟨fun c => absurd c (by decide), fun _ => ?_⟩) (fun hv => ⟨fun _ => hbad (fun z => z.2.2.1.elim q hv), fun c => absurd rfl c⟩)
    refine mv_if (post := post) (fun ha => ⟨fun c => absurd c (by decide), fun _ => ?_⟩) (fun ha => ⟨fun _ => hbad (fun q => ha q.2.2.2.1), fun c => absurd rfl c⟩)
    refine mv_most ?_
    refine mv_if (post := post) (fun hg => ⟨fun c => absurd c (by decide), fun _ => ?_⟩) (fun hg => ⟨fun _ => hbad (fun q => hg q.2.2.2.2), fun c => absurd rfl c⟩)
    exact fin _ rfl ⟨hc, hf, Or.inr hv, ha, hg⟩
-- shadowedBy
def keq2 (A : aS) (p q : Nat) : Nat → Bool
  | 0 => true
  | n + 1 => keq2 A p q n && decide (nI (A.w 5 (4 * p + n)) = nI (A.w 5 (4 * q + n)))
def cnd2 (A : aS) (p q : Nat) : Bool := decide (A.w 4 p = A.w 4 q) && (decide (A.z 6 p < 0) || (decide (A.z 6 p = A.z 6 q) && decide (A.z 7 p = A.z 7 q)))
def shd (A : aS) (p q : Nat) : Bool := cnd2 A p q && keq2 A p q (A.w 4 q)
theorem mv_shL {post : Int32 → vS → Prop} {k21 : Int32 → Int32 → Int32 → Int32 → vS → Prop} {A : aS} {p q : Nat} {x1 x2 x4 : Int32} (hp : p < 40) (hq : q < 40) (h4 : A.w 4 q ≤ 4) {b0 : Bool}
    (hy : (b0 && keq2 A p q (A.w 4 q)) = true → post x4 (toV A)) (hn : (b0 && keq2 A p q (A.w 4 q)) = false → k21 x1 x2 (nI q) (x4 + 1) (toV A)) :
    ∀ m k, k + m = A.w 4 q → wv_X5_shadowedBy_L104 post k21 (m + 1) x1 x2 (nI q) x4 (nI p) (bI (b0 && keq2 A p q k)) (nI k) (toV A) := by
  intro m
  induction m with
  | zero =>
    intro k hk
    have hk : k = A.w 4 q := by omega
    subst hk
    unfold wv_X5_shadowedBy_L104
    rw [nI_clamp (n := q) (by omega), toV_a (by decide) (by decide)]
    refine ⟨vp_in_nI hq (by decide), fun _ => ⟨fun c => hn ?_, fun c => hy ?_⟩, fun z => absurd (nI_le (Nat.le_refl _) (by omega)) z⟩
    · cases e : (b0 && keq2 A p q (A.w 4 q)) with
      | false => rfl
      | true => rw [e] at c; exact absurd c (by decide)
    · cases e : (b0 && keq2 A p q (A.w 4 q)) with
      | true => rfl
      | false => rw [e] at c; exact absurd rfl c
  | succ m ih =>
    intro k hk
    unfold wv_X5_shadowedBy_L104
    rw [nI_clamp (n := q) (by omega), toV_a (by decide) (by decide)]
    refine ⟨vp_in_nI hq (by decide), fun z => absurd z (nI_ge (by omega) (by omega)), fun _ => ?_⟩
    have hx := ih (k + 1) (by omega)
    rw [nI_1]
    refine ⟨fun c => ?_, fun c => ?_⟩
    · have e : (b0 && keq2 A p q k) = false := by
        cases e : (b0 && keq2 A p q k) with
        | false => rfl
        | true => rw [e] at c; exact absurd c (by decide)
      have e2 : (b0 && keq2 A p q (k + 1)) = false := by
        rw [keq2, ← Bool.and_assoc, e, Bool.false_and]
      rw [e2] at hx
      exact hx
    · have e : (b0 && keq2 A p q k) = true := by
        cases e : (b0 && keq2 A p q k) with
        | true => rfl
        | false => rw [e] at c; exact absurd rfl c
      rw [show (4 : Int32) = nI 4 from rfl, ix, ix, nI_clamp (by omega), nI_clamp (by omega), toV_a (by decide) (by decide), toV_a (by decide) (by decide)]
      refine ⟨vp_in_nI (by omega) (by decide), vp_in_nI (by omega) (by decide), fun z => ?_, fun z => ?_⟩
      · rw [keq2, ← Bool.and_assoc, e, decide_eq_true z] at hx
        exact hx
      · rw [keq2, ← Bool.and_assoc, e, decide_eq_false z] at hx
        exact hx
def shB (A : aS) (c b : Nat) : Option Nat := fs (fun i => shd A (10 * c + i) (10 * c + b)) 0 b
theorem mv_sh21 {post : Int32 → vS → Prop} {A : aS} {c b : Nat} (hr : WFr A) (hc : c < 4) (hb : b < A.w 3 c) (h : post (oI (shB A c b)) (toV A)) : ∀ m i, i + m = b → shB A c b = fs (fun i => shd A (10 * c + i) (10 * c + b)) i m → wv_X5_shadowedBy_L21 post (m + 1) (nI c) (nI b) (nI (10 * c + b)) (nI i) (toV A) := by
  have hm := hr.2.2.1 c hc
  have hq : 10 * c + b < 40 := by omega
  have h4 := hr.2.2.2.1 _ hq
  intro m
  induction m with
  | zero =>
    intro i hi e
    unfold wv_X5_shadowedBy_L21
    rw [e] at h
    exact ⟨fun _ => h, fun z => absurd (nI_le (by omega) (by omega)) z⟩
  | succ m ih =>
    intro i hi e
    have hp : 10 * c + i < 40 := by omega
    have h4p := hr.2.2.2.1 _ hp
    rw [fs] at e
    have hx : ∀ b0 : Bool, cnd2 A (10 * c + i) (10 * c + b) = b0 → ∃ n104, wv_X5_shadowedBy_L104 post (wv_X5_shadowedBy_L21 post (m + 1)) n104 (nI c) (nI b) (nI (10 * c + b)) (nI i) (nI (10 * c + i)) (bI b0) 0 (toV A) := by
      intro b0 eb
      have := mv_shL (post := post) (k21 := wv_X5_shadowedBy_L21 post (m + 1)) (x1 := nI c) (x2 := nI b) (x4 := nI i) hp hq h4 (b0 := b0) (fun z => ?_) (fun z => ?_) (A.w 4 (10 * c + b)) 0 (Nat.zero_add _)
      · rw [keq2, Bool.and_true] at this
        exact ⟨_, this⟩
      · have z : shd A (10 * c + i) (10 * c + b) = true := by unfold shd; rw [eb]; exact z
        rw [if_pos z] at e
        rw [e] at h
        exact h
      · have z : ¬ shd A (10 * c + i) (10 * c + b) = true := by unfold shd; rw [eb, z]; decide
        rw [if_neg z] at e
        rw [nI_1]
        exact ih (i + 1) (by omega) e
    unfold wv_X5_shadowedBy_L21
    rw [show (10 : Int32) = nI 10 from rfl, ix, nI_clamp (n := 10 * c + i) (by omega), nI_clamp (n := 10 * c + b) (by omega), toV_a (by decide) (by decide), toV_a (by decide) (by decide)]
    show (nI b ≤ nI i → _) ∧ (¬ nI b ≤ nI i → (vp_in _ 40 ∧ vp_in _ 40 ∧ ((_ → (vp_in _ 40 ∧ ((A.z 6 (10 * c + i) < 0 → _) ∧ (¬ A.z 6 (10 * c + i) < 0 → (vp_in _ 40 ∧ vp_in _ 40 ∧ ((A.z 6 (10 * c + i) = A.z 6 (10 * c + b) → (vp_in _ 40 ∧ vp_in _ 40 ∧ ((A.z 7 (10 * c + i) = A.z 7 (10 * c + b) → _) ∧ (¬ A.z 7 (10 * c + i) = A.z 7 (10 * c + b) → _)))) ∧ (¬ A.z 6 (10 * c + i) = A.z 6 (10 * c + b) → _))))))) ∧ (_ → _))))
    have vi := vp_in_nI hp (N := 40) (by decide)
    have vb := vp_in_nI hq (N := 40) (by decide)
    refine ⟨fun z => absurd z (nI_ge (by omega) (by omega)), fun _ => ⟨vi, vb, fun c1 => ⟨vi, fun c2 => hx true ?_, fun c2 => ⟨vi, vb, fun c3 => ⟨vi, vb, fun c4 => hx true ?_, fun c4 => hx false ?_⟩, fun c3 => hx false ?_⟩⟩, fun c1 => hx false ?_⟩⟩
    · have c1 := (nI_eq (by omega) (by omega)).mp c1
      unfold cnd2; rw [decide_eq_true c1, decide_eq_true c2]; rfl
    · have c1 := (nI_eq (by omega) (by omega)).mp c1
      unfold cnd2; rw [decide_eq_true c1, decide_eq_true c3, decide_eq_true c4, decide_eq_false c2]; rfl
    · unfold cnd2; rw [decide_eq_true c3, decide_eq_false c4, decide_eq_false c2]; simp
    · unfold cnd2; rw [decide_eq_false c3, decide_eq_false c2]; simp
    · have c1 : ¬ A.w 4 (10 * c + i) = A.w 4 (10 * c + b) := fun z => c1 (by rw [z])
      unfold cnd2; rw [decide_eq_false c1]; rfl
theorem mv_shadow {post : Int32 → vS → Prop} {A : aS} {c b : Int32} (hr : WFr A) (h0 : ¬ isB A c b → post (-1) (toV A)) (h : isB A c b → post (oI (shB A c.toNatClampNeg b.toNatClampNeg)) (toV A)) : wv_X5_shadowedBy post c b (toV A) := by
  unfold wv_X5_shadowedBy
  refine mv_isB hr.2.2.1 (fun q => ⟨fun c => absurd c (by decide), fun _ => ?_⟩) (fun q => ⟨fun _ => h0 q, fun c => absurd rfl c⟩)
  have h := h q
  obtain ⟨q1, q2, q3⟩ := q
  obtain ⟨k, hk, rfl⟩ := x_nat (h := 3) rfl q1
  rw [nI_clamp (n := k) (by omega)] at q3 h
  have hm := hr.2.2.1 k (by omega)
  obtain ⟨u, hu, rfl⟩ := x_lt_n q2 q3 (by omega)
  rw [nI_clamp (n := u) (by omega)] at h
  rw [show (10 : Int32) = nI 10 from rfl, ix]
  exact ⟨u + 1, mv_sh21 hr (by omega) hu h u 0 (Nat.zero_add _) rfl⟩
-- unbind
def shf (A : aS) (p t : Nat) : aS := aS.mk A.s (fun j k => if j = 4 ∨ j = 8 ∨ j = 9 then (if p ≤ k ∧ k < p + t then A.w j (k + 1) else A.w j k) else if j = 5 then (if 4 * p ≤ k ∧ k < 4 * (p + t) then A.w 5 (k + 4) else A.w 5 k) else A.w j k) (fun j k => if j = 6 ∨ j = 7 then (if p ≤ k ∧ k < p + t then A.z j (k + 1) else A.z j k) else A.z j k)
def unbA (A : aS) (c b : Nat) : aS := shf (A.setW 3 c (A.w 3 c - 1)) (10 * c + b) (A.w 3 c - 1 - b)
theorem shf_s {A : aS} {p t : Nat} : (shf A p t).s = A.s := rfl
theorem shf_w {A : aS} {p t j k : Nat} (h : j = 4 ∨ j = 8 ∨ j = 9) : (shf A p t).w j k = if p ≤ k ∧ k < p + t then A.w j (k + 1) else A.w j k := if_pos h
theorem shf_5 {A : aS} {p t k : Nat} : (shf A p t).w 5 k = if 4 * p ≤ k ∧ k < 4 * (p + t) then A.w 5 (k + 4) else A.w 5 k := rfl
theorem shf_wn {A : aS} {p t j : Nat} (h4 : j ≠ 4) (h5 : j ≠ 5) (h8 : j ≠ 8) (h9 : j ≠ 9) : (shf A p t).w j = A.w j := by
  funext k
  show (if j = 4 ∨ j = 8 ∨ j = 9 then _ else if j = 5 then _ else A.w j k) = A.w j k
  rw [if_neg (by omega), if_neg h5]
theorem shf_z {A : aS} {p t j k : Nat} (h : j = 6 ∨ j = 7) : (shf A p t).z j k = if p ≤ k ∧ k < p + t then A.z j (k + 1) else A.z j k := if_pos h
theorem shf_zn {A : aS} {p t j k : Nat} (h : ¬ (j = 6 ∨ j = 7)) : (shf A p t).z j k = A.z j k := if_neg h
def kc (B : aS) (q : Nat) : Nat → aS
  | 0 => B
  | k + 1 => (kc B q k).setW 5 (4 * q + k) (B.w 5 (4 * q + 4 + k))
theorem kc_s {B : aS} {q : Nat} : ∀ n, (kc B q n).s = B.s
  | 0 => rfl
  | n + 1 => kc_s n
theorem kc_z {B : aS} {q : Nat} : ∀ n, (kc B q n).z = B.z
  | 0 => rfl
  | n + 1 => kc_z n
theorem kc_w {B : aS} {q j : Nat} (hj : j ≠ 5) : ∀ n, (kc B q n).w j = B.w j
  | 0 => rfl
  | n + 1 => by rw [kc, setW_wn hj, kc_w hj n]
theorem kc_5 {B : aS} {q k : Nat} : ∀ n, (kc B q n).w 5 k = if 4 * q ≤ k ∧ k < 4 * q + n then B.w 5 (k + 4) else B.w 5 k
  | 0 => by rw [if_neg (by omega)]; rfl
  | n + 1 => by
    rw [kc, aS.w_setW, kc_5 n]
    by_cases h : k = 4 * q + n
    · rw [if_pos ⟨rfl, h⟩, if_pos (by omega)]
      congr 1; omega
    · rw [if_neg (fun z => h z.2)]
      by_cases h2 : 4 * q ≤ k ∧ k < 4 * q + n
      · rw [if_pos h2, if_pos (by omega)]
      · rw [if_neg h2, if_neg (by omega)]
def sh5 (A : aS) (q : Nat) : aS := ((((A.setW 4 q (A.w 4 (q + 1))).setZ 6 q (A.z 6 (q + 1))).setZ 7 q (A.z 7 (q + 1))).setW 8 q (A.w 8 (q + 1))).setW 9 q (A.w 9 (q + 1))
theorem sh5_w {A : aS} {q j k : Nat} (h : j = 4 ∨ j = 8 ∨ j = 9) : (sh5 A q).w j k = if k = q then A.w j (q + 1) else A.w j k := by
  unfold sh5
  rcases h with rfl | rfl | rfl
  · rw [setW_wn (by decide), setW_wn (by decide), aS.w_setZ, aS.w_setZ, aS.w_setW]
    by_cases z : k = q
    · rw [if_pos ⟨rfl, z⟩, if_pos z]
    · rw [if_neg (fun y => z y.2), if_neg z]
  · rw [setW_wn (by decide), aS.w_setW]
    by_cases z : k = q
    · rw [if_pos ⟨rfl, z⟩, if_pos z]
    · rw [if_neg (fun y => z y.2), if_neg z, aS.w_setZ, aS.w_setZ, setW_wn (by decide)]
  · rw [aS.w_setW]
    by_cases z : k = q
    · rw [if_pos ⟨rfl, z⟩, if_pos z]
    · rw [if_neg (fun y => z y.2), if_neg z, setW_wn (by decide), aS.w_setZ, aS.w_setZ, setW_wn (by decide)]
theorem sh5_wn {A : aS} {q j : Nat} (h4 : j ≠ 4) (h8 : j ≠ 8) (h9 : j ≠ 9) : (sh5 A q).w j = A.w j := by
  unfold sh5
  rw [setW_wn h9, setW_wn h8, aS.w_setZ, aS.w_setZ, setW_wn h4]
theorem sh5_z {A : aS} {q j k : Nat} (h : j = 6 ∨ j = 7) : (sh5 A q).z j k = if k = q then A.z j (q + 1) else A.z j k := by
  unfold sh5
  rw [aS.z_setW, aS.z_setW, aS.z_setZ, aS.z_setZ, aS.z_setW]
  rcases h with rfl | rfl
  · rw [if_neg (by omega)]
    by_cases z : k = q
    · rw [if_pos ⟨rfl, z⟩, if_pos z]
    · rw [if_neg (fun y => z y.2), if_neg z]
  · by_cases z : k = q
    · rw [if_pos ⟨rfl, z⟩, if_pos z]
    · rw [if_neg (fun y => z y.2), if_neg z, if_neg (by omega)]
theorem sh5_zn {A : aS} {q j k : Nat} (h : ¬ (j = 6 ∨ j = 7)) : (sh5 A q).z j k = A.z j k := by
  unfold sh5
  rw [aS.z_setW, aS.z_setW, aS.z_setZ, aS.z_setZ, aS.z_setW, if_neg (by omega), if_neg (by omega)]
theorem shf_step {A : aS} {p t : Nat} : kc (sh5 (shf A p t) (p + t)) (p + t) 4 = shf A p (t + 1) := by
  refine aS.ext (fun j => ?_) (fun j k => ?_) (fun j k => ?_)
  · rw [kc_s]; rfl
  · by_cases h5 : j = 5
    · subst h5
      rw [kc_5, sh5_wn (by decide) (by decide) (by decide), shf_5, shf_5, shf_5]
      by_cases h1 : 4 * (p + t) ≤ k ∧ k < 4 * (p + t) + 4
      · rw [if_pos h1, if_neg (by omega), if_pos (by omega)]
      · rw [if_neg h1]
        by_cases h2 : 4 * p ≤ k ∧ k < 4 * (p + t)
        · rw [if_pos h2, if_pos (by omega)]
        · rw [if_neg h2, if_neg (by omega)]
    · rw [kc_w h5]
      by_cases h : j = 4 ∨ j = 8 ∨ j = 9
      · rw [sh5_w h, shf_w h, shf_w h, shf_w h]
        by_cases h1 : k = p + t
        · rw [if_pos h1, if_neg (by omega), if_pos (by omega), h1]
        · rw [if_neg h1]
          by_cases h2 : p ≤ k ∧ k < p + t
          · rw [if_pos h2, if_pos (by omega)]
          · rw [if_neg h2, if_neg (by omega)]
      · rw [sh5_wn (by omega) (by omega) (by omega), shf_wn (by omega) h5 (by omega) (by omega), shf_wn (by omega) h5 (by omega) (by omega)]
  · rw [kc_z]
    by_cases h : j = 6 ∨ j = 7
    · rw [sh5_z h, shf_z h, shf_z h, shf_z h]
      by_cases h1 : k = p + t
      · rw [if_pos h1, if_neg (by omega), if_pos (by omega), h1]
      · rw [if_neg h1]
        by_cases h2 : p ≤ k ∧ k < p + t
        · rw [if_pos h2, if_pos (by omega)]
        · rw [if_neg h2, if_neg (by omega)]
    · rw [sh5_zn h, shf_zn h, shf_zn h]
theorem shf_0 {A : aS} {p : Nat} : shf A p 0 = A := by
  refine aS.ext (fun j => rfl) (fun j k => ?_) (fun j k => ?_)
  · by_cases h5 : j = 5
    · subst h5; rw [shf_5, if_neg (by omega)]
    · by_cases h : j = 4 ∨ j = 8 ∨ j = 9
      · rw [shf_w h, if_neg (by omega)]
      · rw [shf_wn (by omega) h5 (by omega) (by omega)]
  · by_cases h : j = 6 ∨ j = 7
    · rw [shf_z h, if_neg (by omega)]
    · rw [shf_zn h]
theorem mv_kc {post : Int32 → vS → Prop} {k28 : Int32 → Int32 → vS → Prop} {B : aS} {q : Nat} {x : Int32} (hq : q < 39) (h : k28 x (nI (q + 1)) (toV (kc B q 4))) : ∀ m k, k + m = 4 → wv_X5_unbind_L116 post k28 (m + 1) x (nI q) (nI k) (toV (kc B q k)) := by
  intro m
  induction m with
  | zero =>
    intro k hk
    have hk : k = 4 := by omega
    subst hk
    unfold wv_X5_unbind_L116
    rw [nI_1]
    exact ⟨fun _ => h, fun z => absurd (by decide) z⟩
  | succ m ih =>
    intro k hk
    unfold wv_X5_unbind_L116
    rw [show (4 : Int32) = nI 4 from rfl, ix, ix, nI_add, nI_clamp (n := 4 * q + k) (by omega), nI_clamp (n := 4 * q + 4 + k) (by omega), toV_a (by decide) (by decide), nI_1 k]
    refine ⟨fun z => absurd z (nI_ge (by omega) (by omega)), fun _ => ⟨vp_in_nI (by omega) (by decide), vp_in_nI (by omega) (by decide), ?_⟩⟩
    have e : (kc B q k).w 5 (4 * q + 4 + k) = B.w 5 (4 * q + 4 + k) := by rw [kc_5, if_neg (by omega)]
    intro V60 e60
    rw [e] at e60
    replace e60 := e60.trans (toV_setW (v := B.w 5 (4 * q + 4 + k)) (by decide) (by decide) rfl)
    subst e60
    exact ih (k + 1) (by omega)
theorem mv_unbL {post : Int32 → vS → Prop} {A : aS} {c p : Nat} (hc : c < 4) (h3 : A.w 3 c ≤ 9) {T : Nat} (hT : p + T = 10 * c + A.w 3 c) (h : post (nI (A.w 3 c)) (toV (shf A p T))) : ∀ m t, t + m = T → wv_X5_unbind_L28 post (m + 1) (nI c) (nI (p + t)) (toV (shf A p t)) := by
  intro m
  induction m with
  | zero =>
    intro t ht
    have ht : t = T := by omega
    subst ht
    unfold wv_X5_unbind_L28
    rw [nI_clamp (n := c) (by omega), toV_a (by decide) (by decide), shf_wn (by decide) (by decide) (by decide) (by decide), show (10 : Int32) = nI 10 from rfl, ix]
    exact ⟨vp_in_nI hc (by decide), fun _ => ⟨vp_in_nI hc (by decide), h⟩, fun z => absurd (nI_le (by omega) (by omega)) z⟩
  | succ m ih =>
    intro t ht
    have hq : p + t < 39 := by omega
    unfold wv_X5_unbind_L28
    rw [nI_clamp (n := c) (by omega), toV_a (by decide) (by decide), shf_wn (by decide) (by decide) (by decide) (by decide), show (10 : Int32) = nI 10 from rfl, ix]
    refine ⟨vp_in_nI hc (by decide), fun z => absurd z (nI_ge (by omega) (by omega)), fun _ => ?_⟩
    rw [nI_1, nI_clamp (n := p + t) (by omega), nI_clamp (n := p + t + 1) (by omega)]
    have v1 := vp_in_nI (n := p + t + 1) (N := 40) (by omega) (by decide)
    have v0 := vp_in_nI (n := p + t) (N := 40) (by omega) (by decide)
    refine ⟨v1, v0, ?_⟩
    intro V24 e24
    replace e24 := e24.trans (toV_setW (v := (shf A p t).w 4 (p + t + 1)) (by decide) (by decide) rfl)
    subst e24
    refine ⟨v1, v0, ?_⟩
    intro V31 e31
    replace e31 := e31.trans (toV_setZ (x := (shf A p t).z 6 (p + t + 1)) (Or.inl rfl))
    subst e31
    refine ⟨v1, v0, ?_⟩
    intro V38 e38
    replace e38 := e38.trans (toV_setZ (x := (shf A p t).z 7 (p + t + 1)) (Or.inr rfl))
    subst e38
    refine ⟨v1, v0, ?_⟩
    intro V45 e45
    replace e45 := e45.trans (toV_setW (v := (shf A p t).w 8 (p + t + 1)) (by decide) (by decide) rfl)
    subst e45
    refine ⟨v1, v0, ?_⟩
    intro V52 e52
    replace e52 := e52.trans (toV_setW (v := (shf A p t).w 9 (p + t + 1)) (by decide) (by decide) rfl)
    have e52' : V52 = toV (sh5 (shf A p t) (p + t)) := e52
    rw [e52']
    refine ⟨5, mv_kc (B := sh5 (shf A p t) (p + t)) hq ?_ 4 0 rfl⟩
    rw [shf_step, show p + t + 1 = p + (t + 1) by omega]
    exact ih (t + 1) (by omega)
theorem mv_unbind {post : Int32 → vS → Prop} {A : aS} {c b : Int32} (hr : WFr A) (h0 : ¬ isB A c b → post (-1) (toV A)) (h : isB A c b → post (nI (A.w 3 c.toNatClampNeg - 1)) (toV (unbA A c.toNatClampNeg b.toNatClampNeg))) : wv_X5_unbind post c b (toV A) := by
  unfold wv_X5_unbind
  refine mv_isB hr.2.2.1 (fun q => ⟨fun c => absurd c (by decide), fun _ => ?_⟩) (fun q => ⟨fun _ => h0 q, fun c => absurd rfl c⟩)
  have h := h q
  obtain ⟨q1, q2, q3⟩ := q
  obtain ⟨k, hk, rfl⟩ := x_nat (h := 3) rfl q1
  rw [nI_clamp (n := k) (by omega)] at q3 h
  have hm := hr.2.2.1 k (by omega)
  obtain ⟨u, hu, rfl⟩ := x_lt_n q2 q3 (by omega)
  rw [nI_clamp (n := u) (by omega)] at h
  rw [nI_clamp (n := k) (by omega), toV_a (by decide) (by decide)]
  refine ⟨vp_in_nI (by omega) (by decide), vp_in_nI (by omega) (by decide), ?_⟩
  intro V11 e11
  replace e11 := e11.trans (toV_setW (v := A.w 3 k - 1) (by decide) (by decide) (by rw [show (1 : Int32) = nI 1 from rfl, pk_sub (by omega)]))
  subst e11
  rw [show (10 : Int32) = nI 10 from rfl, ix]
  have e3 : (A.setW 3 k (A.w 3 k - 1)).w 3 k = A.w 3 k - 1 := by rw [aS.w_setW, if_pos ⟨rfl, rfl⟩]
  have := mv_unbL (post := post) (A := A.setW 3 k (A.w 3 k - 1)) (c := k) (p := 10 * k + u) (T := A.w 3 k - 1 - u) (by omega) (by omega) (by omega) (by rw [e3]; exact h) (A.w 3 k - 1 - u) 0 (Nat.zero_add _)
  rw [shf_0, Nat.add_zero] at this
  exact ⟨_, this⟩
