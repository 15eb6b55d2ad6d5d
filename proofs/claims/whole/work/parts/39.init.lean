/-! THE CONSTRUCTORS: cells by number; what each holds is a closed table -/
def dsI (II : Nat → Nat → Int32) (i j : Nat) (v : Int32) : Nat → Nat → Int32 := va_up II i (va_up (II i) j v)
def dsP (PP : Nat → Nat → Option Nat) (i j t : Nat) : Nat → Nat → Option Nat := va_up PP i (va_up (PP i) j (some t))
def Ds (S : pS) (N : Nat) (q kk nn : Nat → Nat) (II : Nat → Nat → Int32) (PP : Nat → Nat → Option Nat) : Prop :=
  (∀ i, i < N → q i ∈ S.L ∧ S.K (q i) = kk i ∧ S.n (q i) = nn i ∧ (∀ j, S.I (q i) j = II i j) ∧ ∀ j, S.P (q i) j = (PP i j).map q) ∧ (∀ i j, i < N → j < N → q i = q j → i = j) ∧ (∀ i j t, i < N → PP i j = some t → t < N ∨ t = 1000) ∧ (∀ a, a ∉ S.L → ∀ j, S.I a j = 0) ∧ N ≤ 900
def S0 : pS := pS.mk5 [] (fun _ => 0) (fun _ => 0) (fun _ _ => 0) (fun _ _ => none)
section DS
variable {S : pS} {N : Nat} {q kk nn : Nat → Nat} {II : Nat → Nat → Int32} {PP : Nat → Nat → Option Nat}
theorem Ds.new (h : Ds S N q kk nn II PP) {a k n : Nat} (ha : a ∉ S.L) (hN : N < 900) : Ds (S.new a k n) (N + 1) (va_up q N a) (va_up kk N k) (va_up nn N n) (va_up II N (fun _ => 0)) (va_up PP N (fun _ => none)) := by
  obtain ⟨h1, h2, h3, h4, h5⟩ := h
  have hg : Gr S (S.new a k n) := Gr.new ha
  refine ⟨fun i hi => ?_, fun i j hi hj e => ?_, fun i j t hi e => ?_, fun b hb j => ?_, hN⟩
  · by_cases e : i = N
    · subst e
      rw [va_up_self, va_up_self, va_up_self, va_up_self, va_up_self]
      refine ⟨(ok_new (S := S) (q := a) (k := k) (n := n)).1, va_up_self _ _ _, va_up_self _ _ _, fun j => ?_, fun j => ?_⟩
      · show va_up S.I a (fun _ => 0) a j = 0
        rw [va_up_self]
      · show va_up S.P a (fun _ => none) a j = none
        rw [va_up_self]
    · rw [va_up_ne _ _ e, va_up_ne _ _ e, va_up_ne _ _ e, va_up_ne _ _ e, va_up_ne _ _ e]
      obtain ⟨a1, a2, a3, a4, a5⟩ := h1 i (by omega)
      obtain ⟨g1, g2, g3, g4, g5⟩ := hg (q i) a1
      refine ⟨g1, g2.trans a2, g3.trans a3, fun j => by rw [g4]; exact a4 j, fun j => ?_⟩
      rw [g5, a5 j]
      cases ep : PP i j with
      | none => rfl
      | some t =>
        have ht := h3 i j t (by omega) ep
        show some (q t) = some (va_up q N a t)
        rw [va_up_ne _ _ (by omega)]
  · by_cases ei : i = N
    · by_cases ej : j = N
      · omega
      · subst ei
        rw [va_up_self, va_up_ne _ _ ej] at e
        exact absurd (h1 j (by omega)).1 (by rw [← e]; exact ha)
    · by_cases ej : j = N
      · subst ej
        rw [va_up_self, va_up_ne _ _ ei] at e
        exact absurd (h1 i (by omega)).1 (by rw [e]; exact ha)
      · rw [va_up_ne _ _ ei, va_up_ne _ _ ej] at e
        exact h2 i j (by omega) (by omega) e
  · by_cases ei : i = N
    · subst ei; rw [va_up_self] at e; cases e
    · rw [va_up_ne _ _ ei] at e
      rcases h3 i j t (by omega) e with z | z
      · exact Or.inl (by omega)
      · exact Or.inr z
  · have hb1 : b ∉ S.L := fun z => hb (hg b z).1
    have hb2 : b ≠ a := fun z => hb (by rw [z]; exact (ok_new (S := S) (q := a) (k := k) (n := n)).1)
    show va_up S.I a (fun _ => 0) b j = 0
    rw [va_up_ne _ _ hb2]
    exact h4 b hb1 j
theorem Ds.sI (h : Ds S N q kk nn II PP) (i j : Nat) {a : Nat} {v : Int32} (ha : q i = a) (hi : i < N) : Ds (S.setI a j v) N q kk nn (dsI II i j v) PP := by
  subst ha
  obtain ⟨h1, h2, h3, h4, h5⟩ := h
  refine ⟨fun k hk => ?_, h2, h3, fun b hb m => ?_, h5⟩
  · obtain ⟨a1, a2, a3, a4, a5⟩ := h1 k hk
    refine ⟨a1, a2, a3, fun m => ?_, a5⟩
    rw [I_setI]
    unfold dsI
    by_cases e : k = i
    · subst e
      rw [va_up_self]
      by_cases em : m = j
      · subst em; rw [if_pos ⟨rfl, rfl⟩, va_up_self]
      · rw [if_neg (fun z => em z.2), va_up_ne _ _ em]; exact a4 m
    · rw [if_neg (fun z => e (h2 k i hk hi z.1)), va_up_ne _ _ e]; exact a4 m
  · have hb : b ∉ S.L := hb
    rw [I_ne (fun e => hb (by rw [e]; exact (h1 i hi).1))]
    exact h4 b hb m
theorem Ds.sP (h : Ds S N q kk nn II PP) (i j t : Nat) {a b : Nat} (ha : q i = a) (hb : q t = b) (hi : i < N) (ht : t < N ∨ t = 1000) : Ds (S.setP a j (some b)) N q kk nn II (dsP PP i j t) := by
  subst ha
  subst hb
  obtain ⟨h1, h2, h3, h4, h5⟩ := h
  refine ⟨fun k hk => ?_, h2, fun k m u hk e => ?_, h4, h5⟩
  · obtain ⟨a1, a2, a3, a4, a5⟩ := h1 k hk
    refine ⟨a1, a2, a3, a4, fun m => ?_⟩
    rw [P_setP]
    unfold dsP
    by_cases e : k = i
    · subst e
      rw [va_up_self]
      by_cases em : m = j
      · subst em; rw [if_pos ⟨rfl, rfl⟩, va_up_self]; rfl
      · rw [if_neg (fun z => em z.2), va_up_ne _ _ em]; exact a5 m
    · rw [if_neg (fun z => e (h2 k i hk hi z.1)), va_up_ne _ _ e]; exact a5 m
  · unfold dsP at e
    by_cases ei : k = i
    · subst ei
      rw [va_up_self] at e
      by_cases em : m = j
      · subst em; rw [va_up_self] at e; cases e; exact ht
      · rw [va_up_ne _ _ em] at e; exact h3 k m u hk e
    · rw [va_up_ne _ _ ei] at e; exact h3 k m u hk e
theorem Ds.ok (h : Ds S N q kk nn II PP) (i : Nat) {a k : Nat} (ha : q i = a) (hi : i < N) (hk : kk i = k) : S.ok a k := by
  subst ha; subst hk; exact ⟨(h.1 i hi).1, (h.1 i hi).2.1⟩
theorem Ds.P (h : Ds S N q kk nn II PP) (i j t : Nat) {a b : Nat} (ha : q i = a) (hb : q t = b) (hi : i < N) (hp : PP i j = some t) : S.P a j = some b := by
  subst ha; subst hb; rw [(h.1 i hi).2.2.2.2 j, hp]; rfl
theorem Ds.I (h : Ds S N q kk nn II PP) (i j : Nat) {a : Nat} {v : Int32} (ha : q i = a) (hi : i < N) (hv : II i j = v) : S.I a j = v := by
  subst ha; subst hv; exact (h.1 i hi).2.2.2.1 j
theorem Ds.n (h : Ds S N q kk nn II PP) (i : Nat) {a n : Nat} (ha : q i = a) (hi : i < N) (hn : nn i = n) : S.n a = n := by
  subst ha; subst hn; exact (h.1 i hi).2.2.1
theorem up0 {α : Type} (f : Nat → α) {N : Nat} {x y : α} : va_up (va_up f N x) (N + 1) y N = x := by rw [va_up_ne _ _ (by omega), va_up_self]
/-- a row, made -/
theorem ds_row {post : Nat → pS → Prop} {cap : Int32} {cn M : Nat} (h : Ds S N q kk nn II PP) (hN : N < 800) (hc : cap = nI cn) (hcn : cn ≤ M) (hM : M ≤ 1000)
    (hp : ∀ r u S', Ds S' (N + 1 + 1) (va_up (va_up q N r) (N + 1) u) (va_up (va_up kk N 3) (N + 1) 7) (va_up (va_up nn N 0) (N + 1) cn) (dsI (va_up (va_up II N (fun _ => 0)) (N + 1) (fun _ => 0)) N 1 0) (dsP (va_up (va_up PP N (fun _ => none)) (N + 1) (fun _ => none)) N 0 (N + 1)) → post r S') : ∀ r, r ∉ S.L → ∀ S3, S3 = S.new r 3 0 → wp_X3_init (post r) M r cap S3 := by
  intro r hr S3 e3
  subst e3
  subst hc
  have h1 := h.new (k := 3) (n := 0) hr (by omega)
  unfold wp_X3_init wp_J9_max_7cf53
  refine ⟨fun z => absurd z (nI_pos (by omega)), fun _ => ⟨nI_pos (by omega), by rw [nI_clamp (by omega)]; exact hcn, hM, ?_⟩⟩
  intro u hu S8 e8
  subst e8
  rw [nI_clamp (by omega)]
  have h2 := h1.new (k := 7) (n := cn) hu (by omega)
  refine ⟨h2.ok N (up0 _) (by omega) (up0 _), ?_⟩
  intro S11 e11
  subst e11
  have h3 := h2.sP N 0 (N + 1) (a := r) (b := u) (up0 _) (va_up_self _ _ _) (by omega) (Or.inl (by omega))
  intro S13 e13
  subst e13
  exact hp r u _ (h3.sI N 1 (a := r) (v := 0) (up0 _) (by omega))
/-- a list, made -/
theorem ds_ini {post : pS → Prop} {e0 a : Nat} (h : Ds S N q kk nn II PP) (i : Nat) (ha : q i = a) (hi : i < N) (hk : kk i = 6) (he : q 1000 = e0) (hp : ∀ S', Ds S' N q kk nn (dsI II i 0 0) (dsP PP i 1 1000) → post S') : wp_Jx4a65c_init_da8c8 post e0 a S := by
  unfold wp_Jx4a65c_init_da8c8 wp_Jxc12de_init_da8c8 wp_Jxa1e45_init_da8c8
  refine ⟨h.ok i ha hi hk, ?_⟩
  intro S4 e4
  subst e4
  have h1 := h.sI i 0 (v := 0) ha hi
  refine ⟨h1.ok i ha hi hk, ?_⟩
  intro S5 e5
  subst e5
  exact hp _ (h1.sP i 1 1000 ha he hi (Or.inr rfl))
theorem ds_list {post : Nat → pS → Prop} {e0 : Nat} (h : Ds S N q kk nn II PP) (hN : N < 850) (he : q 1000 = e0) (hp : ∀ r S', Ds S' (N + 1) (va_up q N r) (va_up kk N 6) (va_up nn N 0) (dsI (va_up II N (fun _ => 0)) N 0 0) (dsP (va_up PP N (fun _ => none)) N 1 1000) → post r S') : ∀ r, r ∉ S.L → ∀ S3, S3 = S.new r 6 0 → wp_Jx4a65c_init_da8c8 (post r) e0 r S3 := by
  intro r hr S3 e3
  subst e3
  have h1 := h.new (k := 6) (n := 0) hr (by omega)
  exact ds_ini h1 N (va_up_self _ _ _) (by omega) (va_up_self _ _ _) (by rw [va_up_ne _ _ (by omega)]; exact he) (fun S' h' => hp r S' h')
/-- a list's first element -/
theorem ds_add0 {post : Int32 → pS → Prop} {e0 a x : Nat} (h : Ds S N q kk nn II PP) (hN : N < 800) (i t : Nat) (ha : q i = a) (hx : q t = x) (he : q 1000 = e0) (hi : i < N) (ht : t < N) (hk : kk i = 6) (hxk : kk t = 0 ∨ kk t = 1 ∨ kk t = 3) (h1 : PP i 1 = some 1000) (h2 : II i 2 = 0)
    (hp : ∀ u S', u ≠ e0 → Ds S' (N + 1) (va_up q N u) (va_up kk N 8) (va_up nn N 10) (dsI (va_up (dsI II i 0 (II i 0 + 1)) N (fun _ => 0)) i 2 1) (dsP (dsP (va_up PP N (fun _ => none)) i 1 N) N 0 t) → post 1 S') : wp_Jx4a65c_add_9ea2d post e0 a x S := by
  have hiN : i ≠ N := by omega
  have htN : t ≠ N := by omega
  refine xl_add0 (h.ok i ha hi hk) (h.P i 1 1000 ha he hi h1) (h.I i 2 ha hi h2) ?_ (fun u hu hue => ?_)
  · rcases hxk with z | z | z
    · exact Or.inl (h.ok t hx ht z)
    · exact Or.inr (Or.inl (h.ok t hx ht z))
    · exact Or.inr (Or.inr (h.ok t hx ht z))
  rw [h.I i 0 ha hi rfl]
  have g1 := h.sI i 0 (v := II i 0 + 1) ha hi
  have g2 := g1.new (k := 8) (n := 10) hu (by omega)
  have g3 := g2.sP i 1 N (a := a) (b := u) (by rw [va_up_ne _ _ hiN]; exact ha) (va_up_self _ _ _) (by omega) (Or.inl (by omega))
  have g4 := g3.sP N 0 t (a := u) (b := x) (va_up_self _ _ _) (by rw [va_up_ne _ _ htN]; exact hx) (by omega) (Or.inl (by omega))
  have g5 := g4.sI i 2 (a := a) (v := 1) (by rw [va_up_ne _ _ hiN]; exact ha) (by omega)
  exact hp u _ hue g5
/-- one more -/
theorem ds_addn {post : Int32 → pS → Prop} {e0 a x : Nat} (h : Ds S N q kk nn II PP) (i t ar n : Nat) (ha : q i = a) (hx : q t = x) (hne : q ar ≠ e0) (hi : i < N) (ht : t < N) (har : ar < N) (hk : kk i = 6) (hka : kk ar = 8) (hna : nn ar = 10) (hxk : kk t = 0 ∨ kk t = 1 ∨ kk t = 3) (h1 : PP i 1 = some ar) (h2 : II i 2 = nI n) (hn : n < 10)
    (hp : ∀ S', Ds S' N q kk nn (dsI (dsI II i 0 (II i 0 + 1)) i 2 (nI (n + 1))) (dsP PP ar n t) → post 1 S') : wp_Jx4a65c_add_9ea2d post e0 a x S := by
  refine xl_add (arr := q ar) (n := n) ⟨h.ok i ha hi hk, h.P i 1 ar ha rfl hi h1, h.ok ar rfl har hka, h.n ar rfl har hna, h.I i 2 ha hi h2, by omega⟩ hn hne ?_ ?_
  · rcases hxk with z | z | z
    · exact Or.inl (h.ok t hx ht z)
    · exact Or.inr (Or.inl (h.ok t hx ht z))
    · exact Or.inr (Or.inr (h.ok t hx ht z))
  rw [h.I i 0 ha hi rfl]
  have g1 := h.sI i 0 (v := II i 0 + 1) ha hi
  have g3 := g1.sP ar n t (a := q ar) (b := x) rfl hx har (Or.inl ht)
  exact hp _ (g3.sI i 2 (a := a) (v := nI (n + 1)) ha hi)
/-- a context, made -/
theorem ds_ctx {post : Nat → pS → Prop} {e0 : Nat} {v : Int32} (h : Ds S N q kk nn II PP) (hN : N < 800) (he : q 1000 = e0)
    (hp : ∀ r u S', Ds S' (N + 1 + 1) (va_up (va_up q N r) (N + 1) u) (va_up (va_up kk N 1) (N + 1) 6) (va_up (va_up nn N 0) (N + 1) 0) (dsI (va_up (dsI (va_up II N (fun _ => 0)) N 0 v) (N + 1) (fun _ => 0)) (N + 1) 0 0) (dsP (dsP (va_up (va_up PP N (fun _ => none)) (N + 1) (fun _ => none)) (N + 1) 1 1000) N 1 (N + 1)) → post r S') : ∀ r, r ∉ S.L → ∀ S3, S3 = S.new r 1 0 → wp_X1_init (post r) e0 r v S3 := by
  intro r hr S3 e3
  subst e3
  have h1 := h.new (k := 1) (n := 0) hr (by omega)
  unfold wp_X1_init
  refine ⟨h1.ok N (va_up_self _ _ _) (by omega) (va_up_self _ _ _), ?_⟩
  intro S2 e2
  subst e2
  have h2 := h1.sI N 0 (a := r) (v := v) (va_up_self _ _ _) (by omega)
  refine ds_list h2 (by omega) (by rw [va_up_ne _ _ (by omega)]; exact he) (fun u S' h' => ⟨h'.ok N (up0 _) (by omega) (up0 _), ?_⟩)
  intro S10 e10
  subst e10
  exact hp r u _ (h'.sP N 1 (N + 1) (a := r) (b := u) (up0 _) (va_up_self _ _ _) (by omega) (Or.inl (by omega)))
theorem up1 {α : Type} (f : Nat → α) {N : Nat} {x y z : α} : va_up (va_up (va_up f N x) (N + 1) y) (N + 1 + 1) z N = x := by rw [va_up_ne _ _ (by omega), up0]
theorem up2 {α : Type} (f : Nat → α) {N : Nat} {x y z : α} : va_up (va_up (va_up f N x) (N + 1) y) (N + 1 + 1) z (N + 1) = y := by rw [va_up_ne _ _ (by omega), va_up_self]
/-- the log, made -/
theorem ds_log {post : Nat → pS → Prop} (h : Ds S N q kk nn II PP) (hN : N < 800)
    (hp : ∀ r u w S', Ds S' (N + 1 + 1 + 1) (va_up (va_up (va_up q N r) (N + 1) u) (N + 1 + 1) w) (va_up (va_up (va_up kk N 2) (N + 1) 7) (N + 1 + 1) 7) (va_up (va_up (va_up nn N 0) (N + 1) 40) (N + 1 + 1) 40) (dsI (va_up (va_up (va_up II N (fun _ => 0)) (N + 1) (fun _ => 0)) (N + 1 + 1) (fun _ => 0)) N 2 0) (dsP (va_up (dsP (va_up (va_up PP N (fun _ => none)) (N + 1) (fun _ => none)) N 0 (N + 1)) (N + 1 + 1) (fun _ => none)) N 1 (N + 1 + 1)) → post r S') : ∀ r, r ∉ S.L → ∀ S3, S3 = S.new r 2 0 → wp_X2_init (post r) r S3 := by
  intro r hr S3 e3
  subst e3
  have h1 := h.new (k := 2) (n := 0) hr (by omega)
  unfold wp_X2_init
  intro u hu S4 e4
  subst e4
  have h2 := h1.new (k := 7) (n := (40 : Int32).toNatClampNeg) hu (by omega)
  refine ⟨h2.ok N (up0 _) (by omega) (up0 _), ?_⟩
  intro S6 e6
  subst e6
  have h3 := h2.sP N 0 (N + 1) (a := r) (b := u) (up0 _) (va_up_self _ _ _) (by omega) (Or.inl (by omega))
  intro w hw S9 e9
  subst e9
  have h4 := h3.new (k := 7) (n := (40 : Int32).toNatClampNeg) hw (by omega)
  intro S13 e13
  subst e13
  have h5 := h4.sP N 1 (N + 1 + 1) (a := r) (b := w) (up1 _) (va_up_self _ _ _) (by omega) (Or.inl (by omega))
  intro S15 e15
  subst e15
  exact hp r u w _ (h5.sI N 2 (a := r) (v := 0) (up1 _) (by omega))
theorem ds_arr {a : Nat} (h : Ds S N q kk nn II PP) (hN : N < 800) {n : Nat} (ha : a ∉ S.L) : Ds (S.new a 7 n) (N + 1) (va_up q N a) (va_up kk N 7) (va_up nn N n) (va_up II N (fun _ => 0)) (va_up PP N (fun _ => none)) := h.new ha (by omega)
theorem ds_start {o e0 k : Nat} : Ds (S0.new o k 0) 1 (fun i => if i = 1000 then e0 else o) (fun _ => k) (fun _ => 0) (fun _ _ => 0) (fun _ _ => none) := by
  refine ⟨fun i hi => ?_, fun i j hi hj _ => by omega, fun i j t _ e => (by cases e), fun a ha j => ?_, by decide⟩
  · have e : i = 0 := by omega
    subst e
    refine ⟨(ok_new (S := S0) (q := o) (k := k) (n := 0)).1, va_up_self _ _ _, va_up_self _ _ _, fun j => ?_, fun j => ?_⟩
    · show va_up S0.I o (fun _ => 0) o j = 0
      rw [va_up_self]
    · show va_up S0.P o (fun _ => none) o j = none
      rw [va_up_self]
  · show va_up S0.I o (fun _ => 0) a j = 0
    unfold va_up
    by_cases e : a = o
    · rw [if_pos e]
    · rw [if_neg e]; rfl
end DS
def A0 : aS := aS.mk (fun j => if j = 1 then 1 else if j = 14 then 10 else if j = 20 then 4 else 0) (fun _ _ => 0) (fun _ _ => 0)
def sg : Nat → Nat
  | 0 => 1
  | 1 => 2
  | 2 => 3
  | 3 => 4
  | 4 => 5
  | 5 => 6
  | 6 => 7
  | 7 => 10
  | 8 => 8
  | 9 => 9
  | 10 => 11
  | 11 => 12
  | 12 => 13
  | 13 => 14
  | 14 => 15
  | 15 => 16
  | 16 => 17
  | 17 => 20
  | 18 => 18
  | 19 => 21
  | 20 => 23
  | 21 => 25
  | 22 => 19
  | 23 => 22
  | 24 => 24
  | 25 => 26
  | 26 => 27
  | 27 => 32
  | 28 => 28
  | 29 => 29
  | 30 => 30
  | 31 => 31
  | 32 => 0
  | _ => 0
theorem cp_lt {i k t : Nat} (h : cp i k = some t) : k < 8 := by
  unfold cp at h
  split at h <;> first | decide | cases h
theorem cp_t {i k t : Nat} (h : cp i k = some t) : t < 33 := by
  unfold cp at h
  split at h <;> first | (cases h; decide) | cases h
/-- the tables' end is the representation of the start -/
theorem ds_fin {S : pS} {q kk nn : Nat → Nat} {II : Nat → Nat → Int32} {PP : Nat → Nat → Option Nat} {e0 : Nat} (h : Ds S 33 q kk nn II PP) (he : q 1000 = e0)
    (hs : ∀ i, i < 33 → sg i < 33) (hsj : ∀ i, i < 33 → ∀ j, j < 33 → sg i = sg j → i = j) (hk : ∀ i, i < 33 → kk (sg i) = ck i) (hn : ∀ i, i < 33 → 0 < cl i → nn (sg i) = cl i)
    (hP : ∀ i, i < 33 → ∀ k, k < 8 → cp i k = none ∨ (cp i k).map sg = PP (sg i) k) (h7 : q (sg 7) ≠ e0) (h17 : q (sg 17) ≠ e0) (h27 : q (sg 27) ≠ e0)
    (hI : II (sg 0) 1 = 0 ∧ II (sg 2) 1 = 0 ∧ II (sg 4) 1 = 0 ∧ II (sg 6) 2 = 4 ∧ II (sg 8) 1 = 0 ∧ II (sg 10) 1 = 0 ∧ II (sg 12) 1 = 0 ∧ II (sg 14) 1 = 0 ∧ II (sg 16) 2 = 4 ∧ II (sg 18) 0 = 0 ∧ II (sg 19) 0 = 1 ∧ II (sg 20) 0 = 2 ∧ II (sg 21) 0 = 3 ∧ II (sg 22) 2 = 0 ∧ II (sg 23) 2 = 0 ∧ II (sg 24) 2 = 0 ∧ II (sg 25) 2 = 0 ∧ II (sg 26) 2 = 1 ∧ (∀ k, II (sg 28) k = 0) ∧ II (sg 29) 2 = 0 ∧ (∀ k, II (sg 30) k = 0) ∧ (∀ k, II (sg 31) k = 0) ∧ II (sg 32) 8 = 10 ∧ II (sg 32) 9 = 0 ∧ II (sg 32) 10 = -1 ∧ II (sg 32) 11 = 0 ∧ II (sg 32) 12 = 0)
    (hd : PP (sg 27) 0 = some (sg 18)) (hb : ∀ k, k < 4 → PP (sg (22 + k)) 1 = some 1000) : RepX e0 (fun i => q (sg i)) (fun _ => e0) A0 S := by
  have hi : ∀ i, i < 33 → ∀ k, S.I (q (sg i)) k = II (sg i) k := fun i hi k => (h.1 (sg i) (hs i hi)).2.2.2.1 k
  refine ⟨⟨fun i hi => ⟨(h.1 _ (hs i hi)).1, (h.1 _ (hs i hi)).2.1.trans (hk i hi)⟩, fun i j hi hj e => hsj i hi j hj (h.2.1 _ _ (hs i hi) (hs j hj) e), fun i k t hi e => ?_, fun i hi h0 => (h.1 _ (hs i hi)).2.2.1.trans (hn i hi h0), h7, h17, h27⟩, fun i hi' k => ?_, fun d hd' => ?_, fun k hk' => ⟨?_, Or.inl ⟨rfl, rfl⟩, fun b hb' => absurd hb' (Nat.not_lt_zero _)⟩⟩
  · have := hP i hi k (cp_lt e)
    rw [e] at this
    rcases this with z | z
    · cases z
    · show S.P (q (sg i)) k = some (q (sg t))
      rw [(h.1 _ (hs i hi)).2.2.2.2 k, ← z]; rfl
  · show XR A0 i k (S.I (q (sg i)) k)
    rw [hi i hi' k]
    obtain ⟨i0, i2, i4, i6, i8, i10, i12, i14, i16, i18, i19, i20, i21, i22, i23, i24, i25, i26, i28, i29, i30, i31, j8, j9, j10, j11, j12⟩ := hI
    unfold XR
    split
    · intro e; subst e; exact i0
    · intro e; exact absurd e (Nat.not_lt_zero _)
    · intro e; subst e; exact i2
    · intro e; exact absurd e (Nat.not_lt_zero _)
    · intro e; subst e; exact i4
    · intro e; exact absurd e (Nat.not_lt_zero _)
    · intro e; subst e; exact i6
    · intro e; subst e; exact i8
    · intro e; exact absurd e (Nat.not_lt_zero _)
    · intro e; subst e; exact i10
    · intro e; exact absurd e (Nat.not_lt_zero _)
    · intro e; subst e; exact i12
    · intro e; exact absurd e (Nat.not_lt_zero _)
    · intro e; subst e; exact i14
    · intro e; exact absurd e (Nat.not_lt_zero _)
    · intro e; subst e; exact i16
    · intro e; subst e; exact i18
    · intro e; subst e; exact i19
    · intro e; subst e; exact i20
    · intro e; subst e; exact i21
    · intro e; subst e; exact i22
    · intro e; subst e; exact i23
    · intro e; subst e; exact i24
    · intro e; subst e; exact i25
    · intro e; subst e; exact i26
    · intro _; exact i28 k
    · intro e; subst e; exact i29
    · intro _; exact i30 k
    · intro _; exact i31 k
    · exact ⟨fun e => by subst e; exact j8, fun e => by subst e; exact j9, fun e => by subst e; exact j10, fun e => by subst e; exact j11, fun e => by subst e; exact j12⟩
    · trivial
  · have hd' : d < 1 := hd'
    have e : d = 0 := by omega
    subst e
    show S.P (q (sg 27)) 0 = some (q (sg 18))
    rw [(h.1 _ (hs 27 (by decide))).2.2.2.2 0, hd]; rfl
  · show S.P (q (sg (22 + k))) 1 = some e0
    rw [(h.1 _ (hs (22 + k) (by omega))).2.2.2.2 1, hb k hk', ← he]; rfl
set_option maxHeartbeats 4000000 in
set_option maxRecDepth 100000 in
theorem x_init {post : pS → Prop} {e0 o : Nat} (hp : ∀ (c : Nat → Nat) S', c 32 = o → RepX e0 c (fun _ => e0) A0 S' → post S') : wp_X4_init post e0 o (S0.new o 4 0) := by
  have h0 := ds_start (o := o) (e0 := e0) (k := 4)
  unfold wp_X4_init
  refine ds_row (cn := 4) h0 (by decide) rfl (by decide) (by decide) (fun q1 q2 Th1 h1 => ⟨h1.ok 0 rfl (by decide) rfl, ?_⟩)
  intro S e
  subst e
  have h2 := h1.sP 0 0 1 (a := o) (b := q1) rfl rfl (by decide) (Or.inl (by decide))
  refine ds_row (cn := 4) h2 (by decide) rfl (by decide) (by decide) (fun q3 q4 Th3 h3 => ⟨h3.ok 0 rfl (by decide) rfl, ?_⟩)
  intro S e
  subst e
  have h4 := h3.sP 0 1 3 (a := o) (b := q3) rfl rfl (by decide) (Or.inl (by decide))
  refine ds_row (cn := 264) h4 (by decide) rfl (by decide) (by decide) (fun q5 q6 Th5 h5 => ⟨h5.ok 0 rfl (by decide) rfl, ?_⟩)
  intro S e
  subst e
  have h6 := h5.sP 0 2 5 (a := o) (b := q5) rfl rfl (by decide) (Or.inl (by decide))
  refine ds_list h6 (by decide) rfl (fun q7 Th7 h7 => ⟨h7.ok 0 rfl (by decide) rfl, ?_⟩)
  intro S e
  subst e
  have h8 := h7.sP 0 3 7 (a := o) (b := q7) rfl rfl (by decide) (Or.inl (by decide))
  refine ⟨q7, h8.P 0 3 7 rfl rfl (by decide) rfl, ?_⟩
  refine ds_row (cn := 12) h8 (by decide) rfl (by decide) (by decide) (fun q8 q9 Th9 h9 => ⟨h9.ok 7 rfl (by decide) rfl, ?_⟩)
  refine ds_add0 h9 (by decide) 7 8 rfl rfl rfl (by decide) (by decide) rfl (Or.inr (Or.inr rfl)) rfl rfl (fun q10 Th10 ne10 h10 => ?_)
  refine ⟨h10.ok 0 rfl (by decide) rfl, ?_⟩
  refine ⟨q7, h10.P 0 3 7 rfl rfl (by decide) rfl, ?_⟩
  refine ds_row (cn := 12) h10 (by decide) rfl (by decide) (by decide) (fun q11 q12 Th11 h11 => ⟨h11.ok 7 rfl (by decide) rfl, ?_⟩)
  refine ds_addn h11 7 11 10 1 rfl rfl ne10 (by decide) (by decide) (by decide) rfl rfl rfl (Or.inr (Or.inr rfl)) rfl rfl (by decide) (fun Th12 h12 => ?_)
  refine ⟨h12.ok 0 rfl (by decide) rfl, ?_⟩
  refine ⟨q7, h12.P 0 3 7 rfl rfl (by decide) rfl, ?_⟩
  refine ds_row (cn := 12) h12 (by decide) rfl (by decide) (by decide) (fun q13 q14 Th13 h13 => ⟨h13.ok 7 rfl (by decide) rfl, ?_⟩)
  refine ds_addn h13 7 13 10 2 rfl rfl ne10 (by decide) (by decide) (by decide) rfl rfl rfl (Or.inr (Or.inr rfl)) rfl rfl (by decide) (fun Th14 h14 => ?_)
  refine ⟨h14.ok 0 rfl (by decide) rfl, ?_⟩
  refine ⟨q7, h14.P 0 3 7 rfl rfl (by decide) rfl, ?_⟩
  refine ds_row (cn := 12) h14 (by decide) rfl (by decide) (by decide) (fun q15 q16 Th15 h15 => ⟨h15.ok 7 rfl (by decide) rfl, ?_⟩)
  refine ds_addn h15 7 15 10 3 rfl rfl ne10 (by decide) (by decide) (by decide) rfl rfl rfl (Or.inr (Or.inr rfl)) rfl rfl (by decide) (fun Th16 h16 => ?_)
  refine ds_list h16 (by decide) rfl (fun q17 Th17 h17 => ⟨h17.ok 0 rfl (by decide) rfl, ?_⟩)
  intro S e
  subst e
  have h18 := h17.sP 0 4 17 (a := o) (b := q17) rfl rfl (by decide) (Or.inl (by decide))
  refine ⟨q17, h18.P 0 4 17 rfl rfl (by decide) rfl, ?_⟩
  refine ds_ctx h18 (by decide) rfl (fun q18 q19 Th19 h19 => ⟨h19.ok 17 rfl (by decide) rfl, ?_⟩)
  refine ds_add0 h19 (by decide) 17 18 rfl rfl rfl (by decide) (by decide) rfl (Or.inr (Or.inl rfl)) rfl rfl (fun q20 Th20 ne20 h20 => ?_)
  refine ⟨h20.ok 0 rfl (by decide) rfl, ?_⟩
  refine ⟨q17, h20.P 0 4 17 rfl rfl (by decide) rfl, ?_⟩
  refine ds_ctx h20 (by decide) rfl (fun q21 q22 Th21 h21 => ⟨h21.ok 17 rfl (by decide) rfl, ?_⟩)
  refine ds_addn h21 17 21 20 1 rfl rfl ne20 (by decide) (by decide) (by decide) rfl rfl rfl (Or.inr (Or.inl rfl)) rfl rfl (by decide) (fun Th22 h22 => ?_)
  refine ⟨h22.ok 0 rfl (by decide) rfl, ?_⟩
  refine ⟨q17, h22.P 0 4 17 rfl rfl (by decide) rfl, ?_⟩
  refine ds_ctx h22 (by decide) rfl (fun q23 q24 Th23 h23 => ⟨h23.ok 17 rfl (by decide) rfl, ?_⟩)
  refine ds_addn h23 17 23 20 2 rfl rfl ne20 (by decide) (by decide) (by decide) rfl rfl rfl (Or.inr (Or.inl rfl)) rfl rfl (by decide) (fun Th24 h24 => ?_)
  refine ⟨h24.ok 0 rfl (by decide) rfl, ?_⟩
  refine ⟨q17, h24.P 0 4 17 rfl rfl (by decide) rfl, ?_⟩
  refine ds_ctx h24 (by decide) rfl (fun q25 q26 Th25 h25 => ⟨h25.ok 17 rfl (by decide) rfl, ?_⟩)
  refine ds_addn h25 17 25 20 3 rfl rfl ne20 (by decide) (by decide) (by decide) rfl rfl rfl (Or.inr (Or.inl rfl)) rfl rfl (by decide) (fun Th26 h26 => ?_)
  refine ds_list h26 (by decide) rfl (fun q27 Th27 h27 => ⟨h27.ok 0 rfl (by decide) rfl, ?_⟩)
  intro S e
  subst e
  have h28 := h27.sP 0 5 27 (a := o) (b := q27) rfl rfl (by decide) (Or.inl (by decide))
  intro q28 hf S e
  subst e
  have h29 := ds_arr (n := (6 : Int32).toNatClampNeg) h28 (by decide) hf
  intro S e
  subst e
  have h30 := h29.sP 0 6 28 (a := o) (b := q28) rfl rfl (by decide) (Or.inl (by decide))
  refine ds_log h30 (by decide) (fun q29 q30 q31 Th31 h31 => ⟨h31.ok 0 rfl (by decide) rfl, ?_⟩)
  intro S e
  subst e
  have h32 := h31.sP 0 7 29 (a := o) (b := q29) rfl rfl (by decide) (Or.inl (by decide))
  intro S e
  subst e
  have h33 := h32.sI 0 8 (a := o) (v := (10 : Int32)) rfl (by decide)
  intro S e
  subst e
  have h34 := h33.sI 0 9 (a := o) (v := (0 : Int32)) rfl (by decide)
  intro S e
  subst e
  have h35 := h34.sI 0 10 (a := o) (v := (-1 : Int32)) rfl (by decide)
  intro S e
  subst e
  have h36 := h35.sI 0 11 (a := o) (v := (0 : Int32)) rfl (by decide)
  intro S e
  subst e
  have h37 := h36.sI 0 12 (a := o) (v := (0 : Int32)) rfl (by decide)
  unfold wp_X4_pushContext wp_X4_isContext
  refine ⟨h37.ok 0 rfl (by decide) rfl, fun z => absurd z (by decide), fun _ => ⟨h37.ok 0 rfl (by decide) rfl, q17, h37.P 0 4 17 rfl rfl (by decide) rfl, h37.ok 17 rfl (by decide) rfl, xl_size (n := 4) (h37.ok 17 rfl (by decide) rfl) (h37.I 17 2 rfl (by decide) rfl) ⟨fun z => absurd z (by decide), fun _ => ⟨fun z => absurd z (by decide), fun _ => ⟨h37.ok 0 rfl (by decide) rfl, q27, h37.P 0 5 27 rfl rfl (by decide) rfl, q17, h37.P 0 4 17 rfl rfl (by decide) rfl, h37.ok 17 rfl (by decide) rfl, ?_⟩⟩⟩⟩⟩
  refine xl_get (arr := q20) (n := 4) (i := 0) (q := q18) ⟨h37.ok 17 rfl (by decide) rfl, h37.P 17 1 20 rfl rfl (by decide) rfl, h37.ok 20 rfl (by decide) rfl, h37.n 20 rfl (by decide) rfl, h37.I 17 2 rfl (by decide) rfl, by decide⟩ (by decide) (h37.P 20 0 18 rfl rfl (by decide) rfl) ⟨h37.ok 18 rfl (by decide) rfl, h37.ok 27 rfl (by decide) rfl, ?_⟩
  refine ds_add0 h37 (by decide) 27 18 rfl rfl rfl (by decide) (by decide) rfl (Or.inr (Or.inl rfl)) rfl rfl (fun q32 Th38 ne32 h38 => ?_)
  exact hp _ _ rfl (ds_fin h38 rfl (by decide) (by decide) (by decide) (by decide) (by decide) ne10 ne20 ne32 ⟨rfl, rfl, rfl, rfl, rfl, rfl, rfl, rfl, rfl, rfl, rfl, rfl, rfl, rfl, rfl, rfl, rfl, rfl, fun _ => rfl, rfl, fun _ => rfl, fun _ => rfl, rfl, rfl, rfl, rfl, rfl⟩ rfl (by decide))
