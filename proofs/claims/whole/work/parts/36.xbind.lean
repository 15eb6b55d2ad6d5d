/-! THE CLASS'S bind, unbind, shadowedBy -/
def Gr (S S' : pS) : Prop := ∀ a, a ∈ S.L → a ∈ S'.L ∧ S'.K a = S.K a ∧ S'.n a = S.n a ∧ S'.I a = S.I a ∧ S'.P a = S.P a
theorem Gr.refl (S : pS) : Gr S S := fun _ h => ⟨h, rfl, rfl, rfl, rfl⟩
theorem Gr.tr {S S1 S2 : pS} (h : Gr S S1) (h2 : Gr S1 S2) : Gr S S2 := fun a ha => by
  obtain ⟨a1, a2, a3, a4, a5⟩ := h a ha
  obtain ⟨b1, b2, b3, b4, b5⟩ := h2 a a1
  exact ⟨b1, b2.trans a2, b3.trans a3, b4.trans a4, b5.trans a5⟩
theorem Gr.ok {S S' : pS} (g : Gr S S') {a k : Nat} (h : S.ok a k) : S'.ok a k := ⟨(g a h.1).1, (g a h.1).2.1.trans h.2⟩
theorem Gr.new {S : pS} {q k n : Nat} (hq : q ∉ S.L) : Gr S (S.new q k n) := fun a ha => by
  have hne : a ≠ q := fun e => by subst e; exact hq ha
  exact ⟨List.mem_append_left _ ha, va_up_ne _ _ hne, va_up_ne _ _ hne, va_up_ne _ _ hne, va_up_ne _ _ hne⟩
theorem Gr.setI {S S' : pS} (g : Gr S S') {a j : Nat} {v : Int32} (ha : a ∉ S.L) : Gr S (S'.setI a j v) := fun b hb => by
  have hne : b ≠ a := fun e => by subst e; exact ha hb
  obtain ⟨a1, a2, a3, a4, a5⟩ := g b hb
  exact ⟨a1, a2, a3, (va_up_ne _ _ hne).trans a4, a5⟩
theorem Gr.setP {S S' : pS} (g : Gr S S') {a j : Nat} {v : Option Nat} (ha : a ∉ S.L) : Gr S (S'.setP a j v) := fun b hb => by
  have hne : b ≠ a := fun e => by subst e; exact ha hb
  obtain ⟨a1, a2, a3, a4, a5⟩ := g b hb
  exact ⟨a1, a2, a3, a4, (va_up_ne _ _ hne).trans a5⟩
theorem Gr.rr {S S' : pS} (g : Gr S S') {r t cap n : Nat} (h : RR S r t cap n) : RR S' r t cap n := by
  obtain ⟨h1, h2, h3, h4, h5, h6, h7⟩ := h
  exact ⟨g.ok h1, by rw [(g r h1.1).2.2.2.2]; exact h2, g.ok h3, by rw [(g t h3.1).2.2.1]; exact h4, by rw [(g r h1.1).2.2.2.1]; exact h5, h6, h7⟩
theorem xr_copyL {post : Nat → pS → Prop} {S : pS} {r t cap n q u : Nat} (h : RR S r t cap n) (hn : n ≤ 4) (hq : q ∉ S.L) (hu : u ∉ S.L) (hp : ∀ S', Gr S S' → RR S' q u n n → (∀ i, i < n → S'.I u i = S.I t i) → post q S') :
    ∀ m k S', k + m = n → Gr S S' → RR S' q u n k → (∀ i, i < k → S'.I u i = S.I t i) → wp_X3_copy_L14 post (m + 1) r q (nI k) S' := by
  intro m
  induction m with
  | zero =>
    intro k S' hk g hr hi
    have hk : k = n := by omega
    subst hk
    have h' := g.rr h
    unfold wp_X3_copy_L14
    rw [h'.2.2.2.2.1]
    exact ⟨h'.1, fun _ => hp S' g hr hi, fun z => absurd (nI_le (Nat.le_refl _) (by omega)) z⟩
  | succ m ih =>
    intro k S' hk g hr hi
    have h' := g.rr h
    unfold wp_X3_copy_L14
    rw [h'.2.2.2.2.1]
    refine ⟨h'.1, fun z => absurd z (nI_ge (by omega) (by omega)), fun _ => ⟨t, h'.2.1, h'.2.2.1, vin_of h'.2.2.2.1 (vp_in_nI (by have := h'.2.2.2.2.2.1; omega) (by have := h'.2.2.2.2.2.2; omega)), hr.1, ?_⟩⟩
    rw [nI_clamp (by omega), nI_1, (g t h.2.2.1.1).2.2.2.1]
    refine xr_add hr (fun e => absurd e (by omega)) (fun _ => ?_)
    obtain ⟨r1, r2, r3, r4, r5, r6, r7⟩ := hr
    have hne : q ≠ u := ok_ne r1 r3 (by decide)
    refine ih (k + 1) _ (by omega) ((g.setI hu).setI hq) ⟨r1, r2, r3, r4, I_eq, by omega, r7⟩ (fun i hik => ?_)
    rw [I_ne (Ne.symm hne)]
    by_cases e : i = k
    · subst e; rw [I_eq]
    · rw [I_ne2 e]; exact hi i (by omega)
theorem xr_copy {post : Nat → pS → Prop} {S : pS} {r t cap n : Nat} (h : RR S r t cap n) (hn : n ≤ 4) (hp : ∀ q u S', Gr S S' → q ∉ S.L → u ∉ S.L → RR S' q u n n → (∀ i, i < n → S'.I u i = S.I t i) → post q S') : wp_X3_copy post r S := by
  unfold wp_X3_copy
  intro q hq S3 e3
  subst e3
  have g3 : Gr S (S.new q 3 0) := Gr.new hq
  have h' := g3.rr h
  refine ⟨h'.1, ?_⟩
  unfold wp_X3_init wp_J9_max_7cf53
  rw [h'.2.2.2.2.1]
  refine ⟨fun z => absurd z (nI_pos (by omega)), fun _ => ⟨nI_pos (by omega), by rw [nI_clamp (by omega)]; exact hn, by decide, ?_⟩⟩
  intro u hu S8 e8
  subst e8
  rw [nI_clamp (by omega)]
  have hu0 : u ∉ S.L := fun z => hu (g3 u z).1
  have hqu : q ≠ u := fun z => by subst z; exact hu ok_new.1
  have g8 : Gr S ((S.new q 3 0).new u 7 n) := g3.tr (Gr.new hu)
  have k1 : ((S.new q 3 0).new u 7 n).ok q 3 := ok_old hu ok_new
  have k2 : ((S.new q 3 0).new u 7 n).ok u 7 := ok_new
  refine ⟨k1, ?_⟩
  intro S11 e11
  subst e11
  intro S13 e13
  subst e13
  refine ⟨n + 1, xr_copyL h hn hq hu0 (fun S' g a b => hp q u S' g hq hu0 a b) n 0 _ (Nat.zero_add _) ((g8.setP hq).setI hq) ⟨k1, P_eq, k2, ?_, I_eq, Nat.zero_le _, by omega⟩ (fun i hi => absurd hi (by omega))⟩
  exact va_up_self _ _ _
section XB
variable {e0 : Nat} {c la : Nat → Nat} {A : aS} {S : pS}
theorem BX.keep2 {A' : aS} {S' : pS} {p p' q : Nat} (h : BX c A p q S) (hL : ∀ a, a ∈ S.L → (∀ i, i < 33 → a ≠ c i) → S.K a ≠ 8 → a ∈ S'.L ∧ S'.K a = S.K a ∧ S'.n a = S.n a ∧ S'.I a = S.I a ∧ S'.P a = S.P a) (e4 : A'.w 4 p' = A.w 4 p) (e5 : ∀ i, i < A.w 4 p → A'.w 5 (4 * p' + i) = A.w 5 (4 * p + i)) (e6 : A'.z 6 p' = A.z 6 p) (e7 : A'.z 7 p' = A.z 7 p) (e8 : A'.w 8 p' = A.w 8 p) (e9 : A'.w 9 p' = A.w 9 p) : BX c A' p' q S' := by
  obtain ⟨r, t, ⟨b1, b2, r1, r2, r3, r4, r5, r6, r7⟩, h1, h2, h3, h4, h5, h6⟩ := h
  obtain ⟨q1, q2, q3, q4, q5⟩ := hL q b1.1 (fun i hi => (h6 i hi).1) (by rw [b1.2]; decide)
  obtain ⟨x1, x2, x3, x4, x5⟩ := hL r r1.1 (fun i hi => (h6 i hi).2.1) (by rw [r1.2]; decide)
  obtain ⟨y1, y2, y3, y4, y5⟩ := hL t r3.1 (fun i hi => (h6 i hi).2.2) (by rw [r3.2]; decide)
  unfold BX
  rw [e4, e6, e7, e8, e9]
  refine ⟨r, t, ⟨⟨q1, q2.trans b1.2⟩, by rw [q5]; exact b2, ⟨x1, x2.trans r1.2⟩, by rw [x5]; exact r2, ⟨y1, y2.trans r3.2⟩, by rw [y3]; exact r4, by rw [x4]; exact r5, r6, r7⟩, fun i hi => ?_, by rw [q4]; exact h2, by rw [q4]; exact h3, by rw [q4]; exact h4, by rw [q4]; exact h5, h6⟩
  rw [y4, e5 i hi]; exact h1 i hi
theorem RepX.grow {S' : pS} (h : RepX e0 c la A S) (g : Gr S S') : RepX e0 c la A S' := by
  obtain ⟨⟨s1, s2, s3, s4, s5⟩, hx, d1, d2⟩ := h
  have gc : ∀ i, i < 33 → _ := fun i hi => g (c i) (s1 i hi).1
  refine ⟨⟨fun i hi => g.ok (s1 i hi), s2, fun i k t hi e => by rw [(gc i hi).2.2.2.2]; exact s3 i k t hi e, fun i hi h0 => by rw [(gc i hi).2.2.1]; exact s4 i hi h0, s5⟩, fun i hi k => by rw [(gc i hi).2.2.2.1]; exact hx i hi k, fun d hd => by rw [(gc 27 (by decide)).2.2.2.2]; exact d1 d hd, fun k hk => ?_⟩
  obtain ⟨g1, g2, g3⟩ := d2 k hk
  refine ⟨by rw [(gc (22 + k) (by omega)).2.2.2.2]; exact g1, ?_, fun b hb => ?_⟩
  · rcases g2 with g2 | ⟨o1, o2, o3, o4, o5⟩
    · exact Or.inl g2
    · exact Or.inr ⟨o1, g.ok o2, by rw [(g _ o2.1).2.2.1]; exact o3, o4, o5⟩
  · obtain ⟨q, q1, q2⟩ := g3 b hb
    rcases g2 with g2 | ⟨o1, o2, o3, o4, o5⟩
    · exact absurd hb (by omega)
    · exact ⟨q, by rw [(g _ o2.1).2.2.2.2]; exact q1, q2.keep2 (fun a ha _ _ => g a ha) rfl (fun _ _ => rfl) rfl rfl rfl rfl⟩
theorem cp_2x {k j : Nat} (hk : k < 4) : cp (22 + k) j = none := by
  rcases four hk with rfl | rfl | rfl | rfl <;> rfl
/-- the first binding of a context: an array of its own -/
theorem RepX.own (h : RepX e0 c la A S) {k u : Nat} (hk : k < 4) (h0 : la k = e0 ∧ A.w 3 k = 0) (hu : u ∉ S.L) (hue : u ≠ e0) : RepX e0 c (va_up la k u) A ((S.new u 8 10).setP (c (22 + k)) 1 (some u)) := by
  have g : Gr S (S.new u 8 10) := Gr.new hu
  have h' := h.grow g
  have hc0 : ∀ i, i < 33 → u ≠ c i := fun i hi e => hu (by rw [e]; exact (h.1.1 i hi).1)
  obtain ⟨⟨s1, s2, s3, s4, s5⟩, hx, d1, d2⟩ := h'
  have hP : ∀ a j, a ≠ c (22 + k) → ((S.new u 8 10).setP (c (22 + k)) 1 (some u)).P a j = (S.new u 8 10).P a j := fun a j ha => P_ne ha
  refine ⟨⟨s1, s2, fun i j t hi e => ?_, s4, s5⟩, hx, fun d hd => ?_, fun k' hk' => ?_⟩
  · by_cases q : i = 22 + k
    · subst q; rw [cp_2x hk] at e; cases e
    · rw [hP _ _ (h.ne hi (by omega) q)]; exact s3 i j t hi e
  · rw [hP _ _ (h.ne (by omega) (by omega) (by omega))]; exact d1 d hd
  · obtain ⟨g1, g2, g3⟩ := d2 k' hk'
    have d2' := h.2.2.2
    have hlu : ∀ k'', k'' < 4 → u ≠ la k'' := fun k'' hk'' e => by
      rcases (d2' k'' hk'').2.1 with z | z
      · exact hue (e.trans z.1)
      · exact hu (by rw [e]; exact z.2.1.1)
    by_cases q : k' = k
    · subst q
      rw [va_up_self]
      refine ⟨P_eq, Or.inr ⟨by rw [va_up_self]; exact hue, by rw [va_up_self]; exact (ok_new : (S.new u 8 10).ok u 8), ?_, ?_, ?_⟩, fun b hb => absurd hb (by omega)⟩
      · rw [va_up_self]; exact va_up_self _ _ _
      · rw [va_up_self]; exact hc0
      · intro k'' hk'' hne
        rw [va_up_self, va_up_ne _ _ hne]
        exact hlu k'' hk''
    · rw [va_up_ne _ _ q]
      refine ⟨by rw [hP _ _ (h.ne (by omega) (by omega) (by omega))]; exact g1, ?_, fun b hb => ?_⟩
      · rcases g2 with g2 | ⟨o1, o2, o3, o4, o5⟩
        · exact Or.inl g2
        · refine Or.inr ⟨by rw [va_up_ne _ _ q]; exact o1, by rw [va_up_ne _ _ q]; exact o2, by rw [va_up_ne _ _ q]; exact o3, by rw [va_up_ne _ _ q]; exact o4, fun k'' hk'' hne => ?_⟩
          rw [va_up_ne _ _ q]
          by_cases z : k'' = k
          · subst z; rw [va_up_self]; exact Ne.symm (hlu k' hk')
          · rw [va_up_ne _ _ z]; exact o5 k'' hk'' hne
      · obtain ⟨y, q1, q2⟩ := g3 b hb
        rcases g2 with g2 | ⟨o1, o2, o3, o4, o5⟩
        · exact absurd hb (by omega)
        · refine ⟨y, by rw [hP _ _ (o4 _ (by omega))]; exact q1, q2.keep2 (fun a ha hn _ => ⟨ha, rfl, rfl, rfl, ?_⟩) rfl (fun _ _ => rfl) rfl rfl rfl rfl⟩
          funext j
          exact hP a j (hn _ (by omega))
/-- the list of bindings of context k changes, and nothing else -/
theorem RepX.lst {A' : aS} {S' : pS} {k : Nat} (h : RepX e0 c la A S) (hk : k < 4) (ho : Own e0 c la S k) (eL : S'.L = S.L) (eK : S'.K = S.K) (en : S'.n = S.n) (eI : ∀ a j, a ≠ c (22 + k) → S'.I a j = S.I a j) (e2 : S'.I (c (22 + k)) 2 = nI (A'.w 3 k)) (eP : ∀ a j, a ≠ la k → S'.P a j = S.P a j)
    (es : A'.s = A.s) (ew : ∀ j, j ≠ 3 → j ≠ 4 → j ≠ 5 → j ≠ 8 → j ≠ 9 → A'.w j = A.w j) (e3 : ∀ k', k' ≠ k → A'.w 3 k' = A.w 3 k')
    (hb : ∀ k', k' < 4 → ∀ b, b < A'.w 3 k' → ∃ q, S'.P (la k') b = some q ∧ BX c A' (10 * k' + b) q S) : RepX e0 c la A' S' := by
  have h' := h
  obtain ⟨⟨s1, s2, s3, s4, s5⟩, hx, d1, d2⟩ := h
  obtain ⟨o1, o2, o3, o4, o5⟩ := ho
  have ok' : ∀ a k, S.ok a k → S'.ok a k := fun a k h => ⟨by rw [eL]; exact h.1, by rw [eK]; exact h.2⟩
  refine ⟨⟨fun i hi => ok' _ _ (s1 i hi), s2, fun i j t hi e => by rw [eP _ _ (Ne.symm (o4 i hi))]; exact s3 i j t hi e, by rw [en]; exact s4, s5⟩, fun i hi j => ?_, fun d hd => ?_, fun k' hk' => ?_⟩
  · by_cases q : i = 22 + k
    · subst q
      rcases four hk with rfl | rfl | rfl | rfl
      · intro hj; rw [hj]; exact e2
      · intro hj; rw [hj]; exact e2
      · intro hj; rw [hj]; exact e2
      · intro hj; rw [hj]; exact e2
    · rw [eI _ _ (h'.ne hi (by omega) q)]
      have h0 := hx i hi j
      revert h0
      unfold XR
      split <;> intro h0 <;> first | exact h0 | (rw [es]; exact h0) | (rw [ew _ (by decide) (by decide) (by decide) (by decide) (by decide)]; exact h0) | (rw [es, ew _ (by decide) (by decide) (by decide) (by decide) (by decide)]; exact h0) | (rw [ew 21 (by decide) (by decide) (by decide) (by decide) (by decide), ew 22 (by decide) (by decide) (by decide) (by decide) (by decide)]; exact h0) | (rw [e3 _ (by omega)]; exact h0)
  · rw [es] at hd
    rw [ew 2 (by decide) (by decide) (by decide) (by decide) (by decide), eP _ _ (Ne.symm (o4 27 (by decide)))]
    exact d1 d hd
  · obtain ⟨g1, g2, -⟩ := d2 k' hk'
    refine ⟨by rw [eP _ _ (Ne.symm (o4 _ (by omega)))]; exact g1, ?_, fun b hb' => ?_⟩
    · rcases g2 with g2 | ⟨p1, p2, p3, p4, p5⟩
      · refine Or.inl ⟨g2.1, ?_⟩
        rw [e3 k' (fun e => by subst e; exact o1 g2.1)]
        exact g2.2
      · exact Or.inr ⟨p1, ok' _ _ p2, by rw [en]; exact p3, p4, p5⟩
    · obtain ⟨q, q1, q2⟩ := hb k' hk' b hb'
      refine ⟨q, q1, q2.keep2 (fun a ha hn h8 => ⟨by rw [eL]; exact ha, by rw [eK], by rw [en], ?_, ?_⟩) rfl (fun _ _ => rfl) rfl rfl rfl rfl⟩
      · funext j; exact eI a j (hn _ (by omega))
      · funext j
        exact eP a j (fun e => h8 (by rw [e]; exact o2.2))
end XB
-- the new binding
def bnd3 (A : aS) (c : Nat) (f v : Int32) (a g : Nat) : aS := ((((((cpk (A.setW 4 (10 * c + A.w 3 c) (A.s 10)) (10 * c + A.w 3 c) (A.s 10)).setZ 6 (10 * c + A.w 3 c) f).setZ 7 (10 * c + A.w 3 c) v).setW 8 (10 * c + A.w 3 c) a).setW 9 (10 * c + A.w 3 c) g).setW 3 c (A.w 3 c + 1))
section B3
variable {A : aS} {c a g : Nat} {f v : Int32}
theorem bnd_e : bndA A c f v a g = (bnd3 A c f v a g).setS 10 0 := rfl
theorem bnd_s : (bnd3 A c f v a g).s = A.s := by unfold bnd3; rw [aS.s_setW, aS.s_setW, aS.s_setW, aS.s_setZ, aS.s_setZ, cpk_s, aS.s_setW]
theorem bnd_3 {j : Nat} : (bnd3 A c f v a g).w 3 j = if j = c then A.w 3 c + 1 else A.w 3 j := by
  unfold bnd3
  rw [aS.w_setW, setW_wn (by decide), setW_wn (by decide), aS.w_setZ, aS.w_setZ, cpk_w (by decide), setW_wn (by decide)]
  by_cases h : j = c
  · rw [if_pos ⟨rfl, h⟩, if_pos h]
  · rw [if_neg (fun z => h z.2), if_neg h]
theorem bnd_4 {j : Nat} : (bnd3 A c f v a g).w 4 j = if j = 10 * c + A.w 3 c then A.s 10 else A.w 4 j := by
  unfold bnd3
  rw [setW_wn (by decide), setW_wn (by decide), setW_wn (by decide), aS.w_setZ, aS.w_setZ, cpk_w (by decide), aS.w_setW]
  by_cases h : j = 10 * c + A.w 3 c
  · rw [if_pos ⟨rfl, h⟩, if_pos h]
  · rw [if_neg (fun z => h z.2), if_neg h]
theorem bnd_5 {j : Nat} : (bnd3 A c f v a g).w 5 j = if 4 * (10 * c + A.w 3 c) ≤ j ∧ j < 4 * (10 * c + A.w 3 c) + A.s 10 then A.w 11 (j - 4 * (10 * c + A.w 3 c)) else A.w 5 j := by
  unfold bnd3
  rw [setW_wn (by decide), setW_wn (by decide), setW_wn (by decide), aS.w_setZ, aS.w_setZ, cpk_5, setW_wn (by decide), setW_wn (by decide)]
theorem bnd_8 {j : Nat} : (bnd3 A c f v a g).w 8 j = if j = 10 * c + A.w 3 c then a else A.w 8 j := by
  unfold bnd3
  rw [setW_wn (by decide), setW_wn (by decide), aS.w_setW, aS.w_setZ, aS.w_setZ, cpk_w (by decide), setW_wn (by decide)]
  by_cases h : j = 10 * c + A.w 3 c
  · rw [if_pos ⟨rfl, h⟩, if_pos h]
  · rw [if_neg (fun z => h z.2), if_neg h]
theorem bnd_9 {j : Nat} : (bnd3 A c f v a g).w 9 j = if j = 10 * c + A.w 3 c then g else A.w 9 j := by
  unfold bnd3
  rw [setW_wn (by decide), aS.w_setW, setW_wn (by decide), aS.w_setZ, aS.w_setZ, cpk_w (by decide), setW_wn (by decide)]
  by_cases h : j = 10 * c + A.w 3 c
  · rw [if_pos ⟨rfl, h⟩, if_pos h]
  · rw [if_neg (fun z => h z.2), if_neg h]
theorem bnd_z6 {j : Nat} : (bnd3 A c f v a g).z 6 j = if j = 10 * c + A.w 3 c then f else A.z 6 j := by
  unfold bnd3
  rw [aS.z_setW, aS.z_setW, aS.z_setW, aS.z_setZ, aS.z_setZ, cpk_z, aS.z_setW, if_neg (fun z => absurd z.1 (by decide))]
  by_cases h : j = 10 * c + A.w 3 c
  · rw [if_pos ⟨rfl, h⟩, if_pos h]
  · rw [if_neg (fun z => h z.2), if_neg h]
theorem bnd_z7 {j : Nat} : (bnd3 A c f v a g).z 7 j = if j = 10 * c + A.w 3 c then v else A.z 7 j := by
  unfold bnd3
  rw [aS.z_setW, aS.z_setW, aS.z_setW, aS.z_setZ, aS.z_setZ, cpk_z, aS.z_setW]
  by_cases h : j = 10 * c + A.w 3 c
  · rw [if_pos ⟨rfl, h⟩, if_pos h]
  · rw [if_neg (fun z => h z.2), if_neg h, if_neg (fun z => absurd z.1 (by decide))]
theorem bnd_wn {j : Nat} (h3 : j ≠ 3) (h4 : j ≠ 4) (h5 : j ≠ 5) (h8 : j ≠ 8) (h9 : j ≠ 9) : (bnd3 A c f v a g).w j = A.w j := by
  unfold bnd3
  rw [setW_wn h3, setW_wn h9, setW_wn h8, aS.w_setZ, aS.w_setZ, cpk_w h5, setW_wn h4]
end B3
section XB
variable {e0 : Nat} {c la : Nat → Nat} {A : aS} {S : pS}
theorem RepX.put (h : RepX e0 c la A S) {k q a g : Nat} {f v : Int32} (hk : k < 4) (hn : A.w 3 k < 10) (hr : WFr A) (h10 : A.s 10 ≤ 4) (ho : Own e0 c la S k) (hb : BX c (bnd3 A k f v a g) (10 * k + A.w 3 k) q S) :
    RepX e0 c la (bnd3 A k f v a g) ((S.setP (la k) (A.w 3 k) (some q)).setI (c (22 + k)) 2 (nI (A.w 3 k + 1))) := by
  have hd := h.2.2.2
  refine h.lst hk ho rfl rfl rfl (fun a j ha => I_ne (S := S.setP (la k) (A.w 3 k) (some q)) ha) (by rw [I_eq, bnd_3, if_pos rfl]) (fun a j ha => P_ne (S := S) ha) bnd_s (fun j a b c d e => bnd_wn a b c d e) (fun k' hk' => by rw [bnd_3, if_neg hk']) ?_
  intro k' hk' b hb'
  rw [bnd_3] at hb'
  by_cases e : k' = k ∧ b = A.w 3 k
  · obtain ⟨rfl, rfl⟩ := e
    exact ⟨q, P_eq (S := S), hb⟩
  · have hmk := hr.2.2.1 k' hk'
    have hlt : b < A.w 3 k' := by
      by_cases z : k' = k
      · subst z; rw [if_pos rfl] at hb'; omega
      · rw [if_neg z] at hb'; exact hb'
    have hp : 10 * k' + b ≠ 10 * k + A.w 3 k := fun z => by
      have : k' = k := by omega
      subst this
      exact e ⟨rfl, by omega⟩
    obtain ⟨y, y1, y2⟩ := h.bind hk' hlt
    refine ⟨y, ?_, y2.keep2 (fun a ha _ _ => ⟨ha, rfl, rfl, rfl, rfl⟩) (by rw [bnd_4, if_neg hp]) (fun i hi => ?_) (by rw [bnd_z6, if_neg hp]) (by rw [bnd_z7, if_neg hp]) (by rw [bnd_8, if_neg hp]) (by rw [bnd_9, if_neg hp])⟩
    · show (S.setP (la k) (A.w 3 k) (some q)).P (la k') b = some y
      rw [P_setP, if_neg (fun z => ?_)]
      · exact y1
      · by_cases w : k' = k
        · subst w; exact hp (by omega)
        · exact ho.2.2.2.2 k' hk' w z.1.symm
    · have h4p := hr.2.2.2.1 (10 * k' + b) (by omega)
      rw [bnd_5, if_neg (by omega)]
theorem RepX.bump (h : RepX e0 c la A S) {k : Nat} (hk : k < 4) (y : Int32) : RepX e0 c la A (S.setI (c (22 + k)) 0 y) := by
  refine h.ints rfl rfl rfl rfl (fun a ha => hI1 (by omega) a ha) (fun i hi j h0 => ?_) rfl rfl rfl rfl rfl rfl rfl rfl
  rw [cI_c h.1 (by omega) hi]
  by_cases q : i = 22 + k ∧ j = 0
  · rw [if_pos q]
    obtain ⟨rfl, rfl⟩ := q
    rcases four hk with rfl | rfl | rfl | rfl
    · intro z; exact absurd z (by decide)
    · intro z; exact absurd z (by decide)
    · intro z; exact absurd z (by decide)
    · intro z; exact absurd z (by decide)
  · rw [if_neg q]; exact h0
theorem xx_cond {post : Int32 → pS → Prop} {f v : Int32} (h : RepX e0 c la A S) (h1 : ((-1 ≤ f ∧ f ≤ 5) ∧ (f < 0 ∨ (0 ≤ v ∧ v ≤ 1))) → post 1 S) (h0 : ¬ ((-1 ≤ f ∧ f ≤ 5) ∧ (f < 0 ∨ (0 ≤ v ∧ v ≤ 1))) → post 0 S) : wp_X4_isCondition post (c 32) f v S := by
  unfold wp_X4_isCondition
  refine ⟨fun z => h1 (by subst z; exact ⟨⟨by decide, by decide⟩, Or.inl (by decide)⟩), fun z => ⟨h.ok 32, xx_flg h (fun hf => ⟨fun z => absurd z (by decide), fun _ => ?_⟩) (fun hf => ⟨fun _ => h0 (fun q => ?_), fun z => absurd rfl z⟩)⟩⟩
  · refine xx_btw (fun hv => ⟨fun z => absurd z (by decide), fun _ => h1 ⟨⟨?_, hf.2⟩, Or.inr hv⟩⟩) (fun hv => ⟨fun _ => h0 (fun q => ?_), fun z => absurd rfl z⟩)
    · exact Int32.le_trans (by decide) hf.1
    · rcases q.2 with w | w
      · exact x_ge.mp hf.1 w
      · exact hv w
  · refine hf ⟨?_, q.1.2⟩
    have a := q.1.1
    rw [Int32.le_iff_toInt_le] at a
    have b : f.toInt ≠ -1 := fun e => z (Int32.toInt_inj.mp e)
    rw [Int32.le_iff_toInt_le]
    have c1 : (-1 : Int32).toInt = -1 := rfl
    have c2 : (0 : Int32).toInt = 0 := rfl
    omega
theorem xx_act {post : Int32 → pS → Prop} {a g : Int32} (h : RepX e0 c la A S) (h1 : ((0 ≤ a ∧ a ≤ 5) ∧ (0 ≤ g ∧ g ≤ mostI a)) → post 1 S) (h0 : ¬ ((0 ≤ a ∧ a ≤ 5) ∧ (0 ≤ g ∧ g ≤ mostI a)) → post 0 S) : wp_X4_isAction post (c 32) a g S := by
  unfold wp_X4_isAction
  refine ⟨fun z => ?_, fun z => ?_, fun z => ?_, fun z => ?_, fun z => ?_, fun z => ?_, fun z => h0 (fun q => ?_)⟩
  · subst z
    refine ⟨fun q => h0 (fun w => x_ge.mp w.2.1 q), fun q => ⟨fun q1 => h0 (fun w => (x12 (m := 99) (by decide)).mpr w.2.2 q1), fun q1 => h1 ⟨⟨by decide, by decide⟩, x_ge.mpr q, (x12 (m := 99) (by decide)).mp q1⟩⟩⟩
  · subst z
    exact ⟨h.ok 32, xx_mac h (fun q => ⟨Or.inr rfl, h1 ⟨⟨by decide, by decide⟩, q⟩⟩) (fun q => ⟨Or.inl rfl, h0 (fun w => q w.2)⟩)⟩
  · subst z
    exact ⟨h.ok 32, xx_ctx h (fun q => ⟨Or.inr rfl, h1 ⟨⟨by decide, by decide⟩, q⟩⟩) (fun q => ⟨Or.inl rfl, h0 (fun w => q w.2)⟩)⟩
  · subst z
    refine ⟨fun q => h1 (by subst q; exact ⟨⟨by decide, by decide⟩, by decide, by decide⟩), fun q => h0 (fun w => q ?_)⟩
    have := w.2
    exact Int32.le_antisymm this.2 this.1
  · subst z
    exact ⟨h.ok 32, xx_flg h (fun q => ⟨Or.inr rfl, h1 ⟨⟨by decide, by decide⟩, q⟩⟩) (fun q => ⟨Or.inl rfl, h0 (fun w => q w.2)⟩)⟩
  · subst z
    exact ⟨h.ok 32, xx_flg h (fun q => ⟨Or.inr rfl, h1 ⟨⟨by decide, by decide⟩, q⟩⟩) (fun q => ⟨Or.inl rfl, h0 (fun w => q w.2)⟩)⟩
  · have := kp_out_0_5 z.1 z.2.1 z.2.2.1 z.2.2.2.1 z.2.2.2.2.1 z.2.2.2.2.2
    have q1 := q.1.1
    have q2 := q.1.2
    rw [Int32.le_iff_toInt_le] at q1 q2
    have c1 : (5 : Int32).toInt = 5 := rfl
    have c2 : (0 : Int32).toInt = 0 := rfl
    omega
theorem xq_bind {post : Int32 → pS → Prop} {x f v a g : Int32} (h : RepX e0 c la A S) (hr : WFr A) (h10 : A.s 10 ≤ 4) (hbad : ¬ bOK x f v a g → post (-1) S)
    (h2 : bOK x f v a g → A.s 10 = 0 → post (-2) S) (h3 : bOK x f v a g → A.s 10 ≠ 0 → A.w 3 x.toNatClampNeg = 10 → post (-3) S)
    (hp : bOK x f v a g → A.s 10 ≠ 0 → A.w 3 x.toNatClampNeg ≠ 10 → ∀ la' S', RepX e0 c la' (bndA A x.toNatClampNeg f v a.toNatClampNeg g.toNatClampNeg) S' → post (nI (A.w 3 x.toNatClampNeg)) S') : wp_X4_bind post e0 (c 32) x f v a g S := by
  unfold wp_X4_bind
  refine ⟨h.ok 32, xx_ctx h (fun hx => ⟨fun z => absurd z (by decide), fun _ => ⟨h.ok 32, xx_cond h (fun hf => ⟨fun z => absurd z (by decide), fun _ => ⟨h.ok 32, xx_act h (fun ha => ⟨fun z => absurd z (by decide), fun _ => ?_⟩) (fun ha => ⟨fun _ => hbad (fun q => ha ⟨q.2.2.2.1, q.2.2.2.2⟩), fun z => absurd rfl z⟩)⟩⟩) (fun hf => ⟨fun _ => hbad (fun q => hf ⟨q.2.1, q.2.2.1⟩), fun z => absurd rfl z⟩)⟩⟩) (fun hx => ⟨fun _ => hbad (fun q => hx q.1), fun z => absurd rfl z⟩)⟩
  have hok : bOK x f v a g := ⟨hx, hf.1, hf.2, ha.1, ha.2⟩
  obtain ⟨k, hk, rfl⟩ := x_nat (h := 3) rfl hx
  have hk4 : k < 4 := by omega
  have hmk := hr.2.2.1 k hk4
  obtain ⟨ka, hka, rfl⟩ := x_nat (h := 5) rfl ha.1
  obtain ⟨kg, hkg, rfl⟩ := x_nat (x := g) (h := 99) rfl ⟨ha.2.1, Int32.le_trans ha.2.2 (show mostI (nI ka) ≤ 99 by unfold mostI; split; decide; split; decide; split; decide; split; decide; decide)⟩
  rw [nI_clamp (n := k) (by omega)] at h3 hp
  rw [nI_clamp (n := ka) (by omega), nI_clamp (n := kg) (by omega)] at hp
  have hC := h.okC hk4
  refine ⟨h.ok 32, c 0, h.P 32 0 0, h.ok 0, xr_size (h.rowB h10) ⟨fun z => h2 hok ((nI_eq (b := 0) (by omega) (by decide)).mp z), fun z => ⟨h.ok 32, c 16, h.P 32 4 16, h.ok 16, xl_get h.listC (by omega) (h.getC hk4) ⟨hC.1, c (22 + k), hC.2.1, hC.2.2.1, xl_size hC.2.2.1 hC.2.2.2.2 ⟨fun z1 => ?_, fun z1 => h3 hok (fun w => z (by rw [w]; rfl)) ?_⟩⟩⟩⟩⟩
  · have n0 : A.s 10 ≠ 0 := fun w => z (by rw [w]; rfl)
    have hn : A.w 3 k < 10 := by
      rcases Nat.lt_or_ge (A.w 3 k) 10 with q | q
      · exact q
      · exact absurd z1 (nI_nlt (b := 10) (by omega) (by omega))
    have hp := hp hok n0 (by omega)
    intro q hq S35 e35
    subst e35
    have g1 : Gr S (S.new q 0 0) := Gr.new hq
    have h1 := h.grow g1
    refine ⟨h1.ok 32, c 0, h1.P 32 0 0, h1.ok 0, xr_copy (g1.rr (h.rowB h10)) h10 ?_⟩
    intro r u S41 g41 hr1 hu1 hrr hcp
    have okq : S41.ok q 0 := g41.ok ok_new
    have hqr : r ≠ q := fun e => hr1 (by rw [e]; exact (ok_new (S := S) (k := 0) (n := 0)).1)
    have hqu : u ≠ q := fun e => hu1 (by rw [e]; exact (ok_new (S := S) (k := 0) (n := 0)).1)
    have hr0 : r ∉ S.L := fun e => hr1 (g1 r e).1
    have hu0 : u ∉ S.L := fun e => hu1 (g1 u e).1
    unfold wp_X0_init
    refine ⟨okq, ?_⟩
    intro S2 e2
    subst e2
    intro S4 e4
    subst e4
    intro S6 e6
    subst e6
    intro S8 e8
    subst e8
    intro T eT
    have gT : Gr S T := by subst eT; exact (((((g1.tr g41).setP hq).setI hq).setI hq).setI hq).setI hq
    have hT := h.grow gT
    have hfr : ∀ i, i < 33 → q ≠ c i ∧ r ≠ c i ∧ u ≠ c i := fun i hi => ⟨fun e => hq (by rw [e]; exact (h.1.1 i hi).1), fun e => hr0 (by rw [e]; exact (h.1.1 i hi).1), fun e => hu0 (by rw [e]; exact (h.1.1 i hi).1)⟩
    have hB : BX c (bnd3 A k f v ka kg) (10 * k + A.w 3 k) q T := by
      obtain ⟨r1, r2, r3, r4, r5, r6, r7⟩ := hrr
      subst eT
      refine ⟨r, u, ?_, ?_, ?_, ?_, ?_, ?_, hfr⟩
      · rw [bnd_4, if_pos rfl]
        refine ⟨okq, P_eq (S := S41), r1, (P_ne (S := S41) hqr).trans r2, r3, r4, ?_, r6, r7⟩
        rw [I_ne hqr, I_ne hqr, I_ne hqr, I_ne hqr]; exact r5
      · intro i hi
        rw [bnd_4, if_pos rfl] at hi
        rw [bnd_5, if_pos (by omega), I_ne hqu, I_ne hqu, I_ne hqu, I_ne hqu, show 4 * (10 * k + A.w 3 k) + i - 4 * (10 * k + A.w 3 k) = i by omega]
        show S41.I u i = _
        rw [hcp i hi, (g1 (c 1) (h.ok 1).1).2.2.2.1]
        exact h.X 1 i (by decide) hi
      · rw [bnd_z6, if_pos rfl, I_ne2 (by decide), I_ne2 (by decide), I_ne2 (by decide), I_eq]
      · rw [bnd_z7, if_pos rfl, I_ne2 (by decide), I_ne2 (by decide), I_eq]
      · rw [bnd_8, if_pos rfl, I_ne2 (by decide), I_eq]
      · rw [bnd_9, if_pos rfl, I_eq]
    have okqT : T.ok q 0 := by subst eT; exact okq
    have hCT := hT.okC hk4
    have fin : ∀ la' S46, RepX e0 c la' (bnd3 A k f v ka kg) S46 → (S46.ok (c 32) 4 ∧ ∃ q49, S46.P (c 32) 0 = some q49 ∧ S46.ok q49 3 ∧ wp_X3_clear (fun S52 => (S52.ok (c (22 + k)) 6 ∧ wp_Jx4a65c_size_8abf5 (fun r54 S55 => post (r54 - (1 : Int32)) S55) (c (22 + k)) S52)) q49 S46) := by
      intro la' S46 hF
      have hG : RepX e0 c la' (bndA A k f v ka kg) (S46.setI (c 0) 1 0) := hF.clrB
      have hGC := hG.okC hk4
      refine ⟨hF.ok 32, c 0, hF.P 32 0 0, hF.ok 0, xr_clear (hF.rowB (by rw [bnd_s]; exact h10)) ⟨hGC.2.2.1, xl_size hGC.2.2.1 hGC.2.2.2.2 ?_⟩⟩
      rw [bnd_e, aS.w_setS, bnd_3, if_pos rfl, nI_pred]
      exact hp la' _ hG
    refine ⟨hCT.2.2.1, ?_⟩
    obtain ⟨d1, d2, -⟩ := hT.2.2.2 k hk4
    have hy := hT.bump hk4 (T.I (c (22 + k)) 0 + 1)
    have hBy : BX c (bnd3 A k f v ka kg) (10 * k + A.w 3 k) q (T.setI (c (22 + k)) 0 (T.I (c (22 + k)) 0 + 1)) := hB.keep2 (fun b hb hn _ => ⟨hb, rfl, rfl, by funext j; exact I_ne (hn _ (by omega)), rfl⟩) rfl (fun _ _ => rfl) rfl rfl rfl rfl
    rcases d2 with d2 | d2
    · refine xl_add0 hCT.2.2.1 (by rw [d1, d2.1]) (by rw [hCT.2.2.2.2, d2.2]; rfl) (Or.inl okqT) (fun w hw hwe => ?_)
      have ho := hy.own hk4 d2 hw hwe
      have hw2 : Own e0 c (va_up la k w) (((T.setI (c (22 + k)) 0 (T.I (c (22 + k)) 0 + 1)).new w 8 10).setP (c (22 + k)) 1 (some w)) k := by
        rcases (ho.2.2.2 k hk4).2.1 with z | z
        · rw [va_up_self] at z; exact absurd z.1 hwe
        · exact z
      have hBo : BX c (bnd3 A k f v ka kg) (10 * k + A.w 3 k) q (((T.setI (c (22 + k)) 0 (T.I (c (22 + k)) 0 + 1)).new w 8 10).setP (c (22 + k)) 1 (some w)) := by
        refine hBy.keep2 (fun b hb hn _ => ?_) rfl (fun _ _ => rfl) rfl rfl rfl rfl
        have hg := Gr.new (S := T.setI (c (22 + k)) 0 (T.I (c (22 + k)) 0 + 1)) (q := w) (k := 8) (n := 10) hw b hb
        refine ⟨hg.1, hg.2.1, hg.2.2.1, hg.2.2.2.1, ?_⟩
        rw [← hg.2.2.2.2]
        funext j
        exact P_ne (hn _ (by omega))
      have hF := ho.put hk4 (by omega) hr h10 hw2 hBo
      rw [va_up_self, d2.2] at hF
      exact fin _ _ hF
    · refine xl_add ⟨hCT.2.2.1, d1, d2.2.1, d2.2.2.1, hCT.2.2.2.2, hmk⟩ hn d2.1 (Or.inl okqT) ?_
      exact fin _ _ (hy.put hk4 hn hr h10 d2 hBy)
  · rcases Nat.lt_or_ge (A.w 3 k) 10 with q | q
    · exact absurd (nI_lt (b := 10) q (by decide)) z1
    · omega
-- unbind
theorem RepX.cut {S' : pS} {k u : Nat} (h : RepX e0 c la A S) (hr : WFr A) (hk : k < 4) (hu : u < A.w 3 k) (ho : Own e0 c la S k) (eL : S'.L = S.L) (eK : S'.K = S.K) (en : S'.n = S.n) (eI : ∀ a j, a ≠ c (22 + k) → S'.I a j = S.I a j) (e2 : S'.I (c (22 + k)) 2 = nI (A.w 3 k - 1)) (eP : ∀ a j, a ≠ la k → S'.P a j = S.P a j)
    (hP : ∀ b, b < A.w 3 k - 1 → S'.P (la k) b = S.P (la k) (if u ≤ b then b + 1 else b)) : RepX e0 c la (unbA A k u) S' := by
  have hmk := hr.2.2.1 k hk
  have e3 : ∀ j, (unbA A k u).w 3 j = if j = k then A.w 3 k - 1 else A.w 3 j := fun j => by
    unfold unbA
    rw [shf_wn (by decide) (by decide) (by decide) (by decide), aS.w_setW]
    by_cases z : j = k
    · rw [if_pos ⟨rfl, z⟩, if_pos z]
    · rw [if_neg (fun y => z y.2), if_neg z]
  have ew : ∀ j i, j = 4 ∨ j = 8 ∨ j = 9 → (unbA A k u).w j i = if 10 * k + u ≤ i ∧ i < 10 * k + A.w 3 k - 1 then A.w j (i + 1) else A.w j i := fun j i hj => by
    unfold unbA
    rw [shf_w hj, setW_wn (by omega), show 10 * k + u + (A.w 3 k - 1 - u) = 10 * k + A.w 3 k - 1 by omega]
  have e5 : ∀ i, (unbA A k u).w 5 i = if 4 * (10 * k + u) ≤ i ∧ i < 4 * (10 * k + A.w 3 k - 1) then A.w 5 (i + 4) else A.w 5 i := fun i => by
    unfold unbA
    rw [shf_5, setW_wn (by omega), show 10 * k + u + (A.w 3 k - 1 - u) = 10 * k + A.w 3 k - 1 by omega]
  have ez : ∀ j i, j = 6 ∨ j = 7 → (unbA A k u).z j i = if 10 * k + u ≤ i ∧ i < 10 * k + A.w 3 k - 1 then A.z j (i + 1) else A.z j i := fun j i hj => by
    unfold unbA
    rw [shf_z hj, aS.z_setW, show 10 * k + u + (A.w 3 k - 1 - u) = 10 * k + A.w 3 k - 1 by omega]
  refine h.lst hk ho eL eK en eI (by rw [e2, e3, if_pos rfl]) eP rfl (fun j a b d e f => ?_) (fun k' hk' => by rw [e3, if_neg hk']) ?_
  · unfold unbA
    rw [shf_wn b d e f, setW_wn a]
  intro k' hk' b hb
  have hmk' := hr.2.2.1 k' hk'
  rw [e3] at hb
  by_cases z : k' = k ∧ u ≤ b
  · obtain ⟨rfl, hub⟩ := z
    rw [if_pos rfl] at hb
    obtain ⟨y, y1, y2⟩ := h.bind hk' (b := b + 1) (by omega)
    have h4p := hr.2.2.2.1 (10 * k' + (b + 1)) (by omega)
    refine ⟨y, by rw [hP b hb, if_pos hub]; exact y1, y2.keep2 (fun a ha _ _ => ⟨ha, rfl, rfl, rfl, rfl⟩) ?_ (fun i hi => ?_) ?_ ?_ ?_ ?_⟩
    · rw [ew 4 _ (Or.inl rfl), if_pos (by omega)]; rfl
    · rw [e5, if_pos (by omega)]; congr 1; omega
    · rw [ez 6 _ (Or.inl rfl), if_pos (by omega)]; rfl
    · rw [ez 7 _ (Or.inr rfl), if_pos (by omega)]; rfl
    · rw [ew 8 _ (Or.inr (Or.inl rfl)), if_pos (by omega)]; rfl
    · rw [ew 9 _ (Or.inr (Or.inr rfl)), if_pos (by omega)]; rfl
  · have hlt : b < A.w 3 k' := by
      by_cases w : k' = k
      · subst w; rw [if_pos rfl] at hb; omega
      · rw [if_neg w] at hb; exact hb
    have hn : ¬ (10 * k + u ≤ 10 * k' + b ∧ 10 * k' + b < 10 * k + A.w 3 k - 1) := by
      by_cases w : k' = k
      · subst w
        have : ¬ u ≤ b := fun q => z ⟨rfl, q⟩
        omega
      · omega
    obtain ⟨y, y1, y2⟩ := h.bind hk' hlt
    have h4p := hr.2.2.2.1 (10 * k' + b) (by omega)
    refine ⟨y, ?_, y2.keep2 (fun a ha _ _ => ⟨ha, rfl, rfl, rfl, rfl⟩) ?_ (fun i hi => ?_) ?_ ?_ ?_ ?_⟩
    · by_cases w : k' = k
      · subst w
        rw [if_pos rfl] at hb
        rw [hP b hb, if_neg (fun q => z ⟨rfl, q⟩)]; exact y1
      · rw [eP _ _ (Ne.symm (ho.2.2.2.2 k' hk' w))]; exact y1
    · rw [ew 4 _ (Or.inl rfl), if_neg hn]
    · rw [e5, if_neg (by omega)]
    · rw [ez 6 _ (Or.inl rfl), if_neg hn]
    · rw [ez 7 _ (Or.inr rfl), if_neg hn]
    · rw [ew 8 _ (Or.inr (Or.inl rfl)), if_neg hn]
    · rw [ew 9 _ (Or.inr (Or.inr rfl)), if_neg hn]
theorem xq_unbind {post : Int32 → pS → Prop} {x y : Int32} (h : RepX e0 c la A S) (hr : WFr A) (h0 : ¬ isB A x y → post (-1) S) (hp : isB A x y → ∀ S', RepX e0 c la (unbA A x.toNatClampNeg y.toNatClampNeg) S' → post (nI (A.w 3 x.toNatClampNeg - 1)) S') : wp_X4_unbind post (c 32) x y S := by
  unfold wp_X4_unbind
  refine ⟨h.ok 32, xx_isB h (fun q => ⟨fun z => absurd z (by decide), fun _ => ?_⟩) (fun q => ⟨fun _ => h0 q, fun z => absurd rfl z⟩)⟩
  have hp := hp q
  obtain ⟨q1, q2, q3⟩ := q
  obtain ⟨k, hk, rfl⟩ := x_nat (h := 3) rfl q1
  rw [nI_clamp (n := k) (by omega)] at q3 hp
  have hk4 : k < 4 := by omega
  have hm := hr.2.2.1 k hk4
  obtain ⟨u, hu, rfl⟩ := x_lt_n q2 q3 (by omega)
  rw [nI_clamp (n := u) (by omega)] at hp
  have hC := h.okC hk4
  have hL := h.listB hk4 hm (by omega)
  obtain ⟨d1, d2, d3⟩ := h.2.2.2 k hk4
  have ho : Own e0 c la S k := by
    rcases d2 with d2 | d2
    · exact absurd hu (by omega)
    · exact d2
  refine ⟨h.ok 32, c 16, h.P 32 4 16, h.ok 16, xl_get h.listC (by omega) (h.getC hk4) ⟨hC.1, c (22 + k), hC.2.1, hC.2.2.1, ?_⟩⟩
  have fin : ∀ S', RepX e0 c la (unbA A k u) S' → (S'.ok (c (22 + k)) 6 ∧ wp_Jx4a65c_size_8abf5 (fun r17 S18 => post r17 S18) (c (22 + k)) S') := by
    intro S' hF
    have hFC := hF.okC hk4
    have e3 : (unbA A k u).w 3 k = A.w 3 k - 1 := by
      unfold unbA
      rw [shf_wn (by decide) (by decide) (by decide) (by decide), aS.w_setW, if_pos ⟨rfl, rfl⟩]
    refine ⟨hFC.2.2.1, xl_size hFC.2.2.1 hFC.2.2.2.2 ?_⟩
    rw [e3]
    exact hp S' hF
  obtain ⟨y, y1, y2⟩ := d3 u hu
  have hne := Ne.symm (ho.2.2.2.1 (22 + k) (by omega))
  by_cases e : u = A.w 3 k - 1
  · subst e
    refine xl_remL hL (by omega) y1 (fin _ (h.cut hr hk4 hu ho rfl rfl rfl (fun a j ha => ?_) ?_ (fun a j ha => ?_) (fun b hb => ?_)))
    · exact (I_ne (S := S.setI (c (22 + k)) 0 (S.I (c (22 + k)) 0 + 1)) ha).trans (I_ne ha)
    · exact I_eq (S := S.setI (c (22 + k)) 0 (S.I (c (22 + k)) 0 + 1))
    · exact P_ne (S := S) ha
    · rw [if_neg (by omega)]
      exact P_ne2 (S := S) (by omega)
  · refine xl_rem hL (by omega) y1 (fun j w hw hj => ?_) (fin _ (h.cut hr hk4 hu ho rfl rfl rfl (fun a j ha => ?_) ?_ (fun a j ha => ?_) (fun b hb => ?_)))
    · obtain ⟨w', w1, w2⟩ := d3 j hj
      rw [w1] at hw
      cases hw
      obtain ⟨r, t, hb, -⟩ := w2
      exact hb.1
    · exact (I_ne (S := S.setI (c (22 + k)) 0 (S.I (c (22 + k)) 0 + 1)) ha).trans (I_ne ha)
    · exact I_eq (S := S.setI (c (22 + k)) 0 (S.I (c (22 + k)) 0 + 1))
    · refine (P_ne (S := S.rowP (la k) _) ha).trans ?_
      show va_up S.P (la k) _ a j = S.P a j
      rw [va_up_ne _ _ ha]
    · refine (P_ne2 (S := S.rowP (la k) _) (by omega)).trans ?_
      show va_up S.P (la k) _ (la k) b = _
      rw [va_up_self]
      unfold va_cpy
      by_cases w : u ≤ b
      · rw [if_pos (by omega), if_pos w]
        congr 1; omega
      · rw [if_neg (by omega), if_neg w]
-- shadowedBy
def Zk (A : aS) : Prop := ∀ p, p < 40 → A.z 6 p < 0 → A.z 6 p = -1
theorem keq2_eq {p p2 t t2 : Nat} (ht : ∀ i, i < A.w 4 p → S.I t i = nI (A.w 5 (4 * p + i))) (ht2 : ∀ i, i < A.w 4 p2 → S.I t2 i = nI (A.w 5 (4 * p2 + i))) : ∀ L, L ≤ A.w 4 p → L ≤ A.w 4 p2 → keqS S t t2 L = keq2 A p p2 L := by
  intro L
  induction L with
  | zero => intro _ _; rfl
  | succ L ih =>
    intro h1 h2
    rw [keqS, keq2, ih (by omega) (by omega), ht L (by omega), ht2 L (by omega)]
theorem xq_shL {post : Int32 → pS → Prop} {k b qb : Nat} (h : RepX e0 c la A S) (hr : WFr A) (hz : Zk A) (hk : k < 4) (hb : b < A.w 3 k) (hB : BX c A (10 * k + b) qb S) (hp : post (oI (shB A k b)) S) : ∀ m i, i + m = b → shB A k b = fs (fun i => shd A (10 * k + i) (10 * k + b)) i m → wp_X4_shadowedBy_L39 post (m + 1) (nI b) (c (22 + k)) qb (nI i) S := by
  have hm := hr.2.2.1 k hk
  have hL := h.listB hk hm (by omega)
  intro m
  induction m with
  | zero =>
    intro i hi e
    unfold wp_X4_shadowedBy_L39
    rw [e] at hp
    exact ⟨fun _ => hp, fun z => absurd (nI_le (by omega) (by omega)) z⟩
  | succ m ih =>
    intro i hi e
    rw [fs] at e
    unfold wp_X4_shadowedBy_L39
    obtain ⟨y, y1, r, t, hb1, ht, e1, e2, -⟩ := h.bind hk (b := i) (by omega)
    obtain ⟨r', t', hb2, ht', f1, f2, -⟩ := hB
    refine ⟨fun z => absurd z (nI_ge (by omega) (by omega)), fun _ => ⟨hL.1, xl_get hL (by omega) y1 ⟨hb1.1, xb_shadows hb1 hb2 ?_⟩⟩⟩
    have key : ((decide (A.w 4 (10 * k + i) = A.w 4 (10 * k + b)) && keqS S t t' (A.w 4 (10 * k + b))) && (decide (S.I y 1 = -1) || (decide (S.I y 1 = S.I qb 1) && decide (S.I y 2 = S.I qb 2)))) = shd A (10 * k + i) (10 * k + b) := by
      unfold shd cnd2
      rw [e1, e2, f1, f2]
      have hz' : decide (A.z 6 (10 * k + i) = -1) = decide (A.z 6 (10 * k + i) < 0) := by
        by_cases w : A.z 6 (10 * k + i) < 0
        · rw [decide_eq_true w, decide_eq_true (hz _ (by omega) w)]
        · rw [decide_eq_false w, decide_eq_false (fun q => w (by rw [q]; decide))]
      rw [hz']
      by_cases w : A.w 4 (10 * k + i) = A.w 4 (10 * k + b)
      · rw [keq2_eq ht ht' _ (by omega) (Nat.le_refl _), decide_eq_true w, Bool.true_and, Bool.true_and, Bool.and_comm]
      · rw [decide_eq_false w]; rfl
    rw [key]
    refine ⟨fun z => ?_, fun z => ?_⟩
    · have z := bI_0 z
      rw [if_neg (by rw [z]; decide)] at e
      rw [nI_1]
      exact ih (i + 1) (by omega) e
    · have z := bI_1 z
      rw [if_pos z] at e
      rw [e] at hp
      exact hp
theorem xq_shadow {post : Int32 → pS → Prop} {x y : Int32} (h : RepX e0 c la A S) (hr : WFr A) (hz : Zk A) (h0 : ¬ isB A x y → post (-1) S) (hp : isB A x y → post (oI (shB A x.toNatClampNeg y.toNatClampNeg)) S) : wp_X4_shadowedBy post (c 32) x y S := by
  unfold wp_X4_shadowedBy
  refine ⟨h.ok 32, xx_isB h (fun q => ⟨fun z => absurd z (by decide), fun _ => ?_⟩) (fun q => ⟨fun _ => h0 q, fun z => absurd rfl z⟩)⟩
  have hp := hp q
  obtain ⟨q1, q2, q3⟩ := q
  obtain ⟨k, hk, rfl⟩ := x_nat (h := 3) rfl q1
  rw [nI_clamp (n := k) (by omega)] at q3 hp
  have hk4 : k < 4 := by omega
  have hm := hr.2.2.1 k hk4
  obtain ⟨u, hu, rfl⟩ := x_lt_n q2 q3 (by omega)
  rw [nI_clamp (n := u) (by omega)] at hp
  have hC := h.okC hk4
  have hL := h.listB hk4 hm (by omega)
  obtain ⟨y, y1, y2⟩ := h.bind hk4 hu
  have y0 : S.ok y 0 := by
    obtain ⟨r, t, hb, -⟩ := y2
    exact hb.1
  exact ⟨h.ok 32, c 16, h.P 32 4 16, h.ok 16, xl_get h.listC (by omega) (h.getC hk4) ⟨hC.1, c (22 + k), hC.2.1, hC.2.2.1, xl_get hL hu y1 ⟨y0, u + 1, xq_shL h hr hz hk4 hu y2 hp u 0 (Nat.zero_add _) rfl⟩⟩⟩
end XB
