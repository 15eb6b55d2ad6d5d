/-! THE REFERENCE'S CONSTRUCTOR -/
def mi : Nat → Nat
  | 0 => 1
  | 2 => 2
  | 3 => 3
  | 4 => 4
  | 5 => 5
  | 6 => 6
  | 7 => 7
  | 8 => 8
  | 9 => 9
  | 11 => 10
  | 13 => 11
  | 17 => 12
  | 21 => 13
  | 22 => 14
  | 24 => 15
  | 25 => 16
  | _ => 0
theorem lt_max : ∀ (L : List Nat), ∃ M, ∀ a ∈ L, a < M
  | [] => ⟨0, fun a h => absurd h List.not_mem_nil⟩
  | x :: t => by
    obtain ⟨M, hM⟩ := lt_max t
    refine ⟨M + x + 1, fun a h => ?_⟩
    rcases List.mem_cons.mp h with e | h
    · omega
    · have := hM a h
      omega
theorem toV_A0 (j k : Nat) : (toV A0).a j k = 0 := by
  show (if j = 6 then A0.z 6 k else if j = 7 then A0.z 7 k else nI (A0.w j k)) = 0
  split
  · rfl
  · split <;> rfl
theorem ds_finM {S : pS} {q kk nn : Nat → Nat} {II : Nat → Nat → Int32} {PP : Nat → Nat → Option Nat} {o : Nat} {post : pS → Prop} (h : Ds S 17 q kk nn II PP) (ho : q 0 = o) (hk0 : kk 0 = 5)
    (hs : ∀ j, j < 26 → (kf 5)[j]? = some true → PP 0 j = some (mi j) ∧ kk (mi j) = 7 ∧ nn (mi j) = mlen j ∧ mi j < 17 ∧ 0 < mi j) (hj : ∀ i, i < 26 → ∀ j, j < 26 → (kf 5)[i]? = some true → (kf 5)[j]? = some true → mi i = mi j → i = j)
    (hI : ∀ i, i ≠ 0 → ∀ k, II i k = 0) (h0 : ∀ j, II 0 j = (toV A0).s j) (hp : ∀ (b : Nat → Nat) S', ShM o b S' → view o b S' = toV A0 → post S') : post S := by
  obtain ⟨M, hM⟩ := lt_max S.L
  have h26 : ∀ j, (kf 5)[j]? = some true → j < 26 := fun j e => (List.getElem?_eq_some_iff.mp e).1
  have h1 := h.1
  have hoL : o ∈ S.L := by rw [← ho]; exact (h1 0 (by decide)).1
  obtain ⟨b, hb1, hb2⟩ : ∃ b : Nat → Nat, (∀ j, (kf 5)[j]? = some true → b j = q (mi j)) ∧ ∀ j, ¬ (kf 5)[j]? = some true → b j = M + j := ⟨fun j => if (kf 5)[j]? = some true then q (mi j) else M + j, fun j e => if_pos e, fun j e => if_neg e⟩
  have hlt : ∀ j, (kf 5)[j]? = some true → b j < M := fun j e => by
    rw [hb1 j e]
    exact hM _ (h1 _ (hs j (h26 j e) e).2.2.2.1).1
  have hout : ∀ j, ¬ (kf 5)[j]? = some true → b j ∉ S.L := fun j e z => by
    have := hM _ z
    rw [hb2 j e] at this
    omega
  refine hp b S ⟨⟨hoL, ?_⟩, fun j e => ?_, fun i j e => ?_, fun i e => ?_⟩ (vS.ext (fun j => ?_) (fun j k => ?_))
  · rw [← ho]; exact (h1 0 (by decide)).2.1.trans hk0
  · obtain ⟨s1, s2, s3, s4, s5⟩ := hs j (h26 j e) e
    obtain ⟨a1, a2, a3, a4, a5⟩ := h1 _ s4
    rw [hb1 j e]
    refine ⟨?_, ⟨a1, a2.trans s2⟩, a3.trans s3⟩
    rw [← ho, (h1 0 (by decide)).2.2.2.2 j, s1]; rfl
  · by_cases ei : (kf 5)[i]? = some true
    · by_cases ej : (kf 5)[j]? = some true
      · rw [hb1 i ei, hb1 j ej] at e
        exact hj i (h26 i ei) j (h26 j ej) ei ej (h.2.1 _ _ (hs i (h26 i ei) ei).2.2.2.1 (hs j (h26 j ej) ej).2.2.2.1 e)
      · have := hlt i ei
        rw [e, hb2 j ej] at this
        omega
    · by_cases ej : (kf 5)[j]? = some true
      · have := hlt j ej
        rw [← e, hb2 i ei] at this
        omega
      · rw [hb2 i ei, hb2 j ej] at e
        omega
  · by_cases ei : (kf 5)[i]? = some true
    · rw [hb1 i ei, ← ho] at e
      obtain ⟨s1, s2, s3, s4, s5⟩ := hs i (h26 i ei) ei
      have := h.2.1 _ _ s4 (by decide) e
      omega
    · exact hout i ei (by rw [e]; exact hoL)
  · show S.I o j = (toV A0).s j
    rw [← ho, (h1 0 (by decide)).2.2.2.1 j]
    exact h0 j
  · show S.I (b j) k = (toV A0).a j k
    rw [toV_A0]
    by_cases ei : (kf 5)[j]? = some true
    · obtain ⟨s1, s2, s3, s4, s5⟩ := hs j (h26 j ei) ei
      rw [hb1 j ei, (h1 _ s4).2.2.2.1 k]
      exact hI _ (by omega) k
    · exact h.2.2.2.1 _ (hout j ei) k
set_option maxHeartbeats 4000000 in
set_option maxRecDepth 100000 in
theorem m_init {post : pS → Prop} {o : Nat} (hp : ∀ (b : Nat → Nat) S', ShM o b S' → view o b S' = toV A0 → post S') : wp_X5_init post o (S0.new o 5 0) := by
  have h0 := ds_start (o := o) (e0 := 0) (k := 5)
  unfold wp_X5_init
  intro q1 f1 S e
  subst e
  have h1 := ds_arr (n := (6 : Int32).toNatClampNeg) h0 (by decide) f1
  refine ⟨h1.ok 0 rfl (by decide) rfl, ?_⟩
  intro S e
  subst e
  have h2 := h1.sP 0 0 1 (a := o) (b := q1) rfl rfl (by decide) (Or.inl (by decide))
  intro S e
  subst e
  have h3 := h2.sI 0 1 (a := o) (v := (1 : Int32)) rfl (by decide)
  intro q2 f2 S e
  subst e
  have h4 := ds_arr (n := (4 : Int32).toNatClampNeg) h3 (by decide) f2
  intro S e
  subst e
  have h5 := h4.sP 0 2 2 (a := o) (b := q2) rfl rfl (by decide) (Or.inl (by decide))
  intro q3 f3 S e
  subst e
  have h6 := ds_arr (n := (4 : Int32).toNatClampNeg) h5 (by decide) f3
  intro S e
  subst e
  have h7 := h6.sP 0 3 3 (a := o) (b := q3) rfl rfl (by decide) (Or.inl (by decide))
  intro q4 f4 S e
  subst e
  have h8 := ds_arr (n := (40 : Int32).toNatClampNeg) h7 (by decide) f4
  intro S e
  subst e
  have h9 := h8.sP 0 4 4 (a := o) (b := q4) rfl rfl (by decide) (Or.inl (by decide))
  intro q5 f5 S e
  subst e
  have h10 := ds_arr (n := (160 : Int32).toNatClampNeg) h9 (by decide) f5
  intro S e
  subst e
  have h11 := h10.sP 0 5 5 (a := o) (b := q5) rfl rfl (by decide) (Or.inl (by decide))
  intro q6 f6 S e
  subst e
  have h12 := ds_arr (n := (40 : Int32).toNatClampNeg) h11 (by decide) f6
  intro S e
  subst e
  have h13 := h12.sP 0 6 6 (a := o) (b := q6) rfl rfl (by decide) (Or.inl (by decide))
  intro q7 f7 S e
  subst e
  have h14 := ds_arr (n := (40 : Int32).toNatClampNeg) h13 (by decide) f7
  intro S e
  subst e
  have h15 := h14.sP 0 7 7 (a := o) (b := q7) rfl rfl (by decide) (Or.inl (by decide))
  intro q8 f8 S e
  subst e
  have h16 := ds_arr (n := (40 : Int32).toNatClampNeg) h15 (by decide) f8
  intro S e
  subst e
  have h17 := h16.sP 0 8 8 (a := o) (b := q8) rfl rfl (by decide) (Or.inl (by decide))
  intro q9 f9 S e
  subst e
  have h18 := ds_arr (n := (40 : Int32).toNatClampNeg) h17 (by decide) f9
  intro S e
  subst e
  have h19 := h18.sP 0 9 9 (a := o) (b := q9) rfl rfl (by decide) (Or.inl (by decide))
  intro q10 f10 S e
  subst e
  have h20 := ds_arr (n := (4 : Int32).toNatClampNeg) h19 (by decide) f10
  intro S e
  subst e
  have h21 := h20.sP 0 11 10 (a := o) (b := q10) rfl rfl (by decide) (Or.inl (by decide))
  intro q11 f11 S e
  subst e
  have h22 := ds_arr (n := (5 : Int32).toNatClampNeg) h21 (by decide) f11
  intro S e
  subst e
  have h23 := h22.sP 0 13 11 (a := o) (b := q11) rfl rfl (by decide) (Or.inl (by decide))
  intro S e
  subst e
  have h24 := h23.sI 0 14 (a := o) (v := (10 : Int32)) rfl (by decide)
  intro q12 f12 S e
  subst e
  have h25 := ds_arr (n := (100 : Int32).toNatClampNeg) h24 (by decide) f12
  intro S e
  subst e
  have h26 := h25.sP 0 17 12 (a := o) (b := q12) rfl rfl (by decide) (Or.inl (by decide))
  intro S e
  subst e
  have h27 := h26.sI 0 20 (a := o) (v := (-4 : Int32)) rfl (by decide)
  intro q13 f13 S e
  subst e
  have h28 := ds_arr (n := (4 : Int32).toNatClampNeg) h27 (by decide) f13
  intro S e
  subst e
  have h29 := h28.sP 0 21 13 (a := o) (b := q13) rfl rfl (by decide) (Or.inl (by decide))
  intro q14 f14 S e
  subst e
  have h30 := ds_arr (n := (48 : Int32).toNatClampNeg) h29 (by decide) f14
  intro S e
  subst e
  have h31 := h30.sP 0 22 14 (a := o) (b := q14) rfl rfl (by decide) (Or.inl (by decide))
  intro q15 f15 S e
  subst e
  have h32 := ds_arr (n := (40 : Int32).toNatClampNeg) h31 (by decide) f15
  intro S e
  subst e
  have h33 := h32.sP 0 24 15 (a := o) (b := q15) rfl rfl (by decide) (Or.inl (by decide))
  intro q16 f16 S e
  subst e
  have h34 := ds_arr (n := (40 : Int32).toNatClampNeg) h33 (by decide) f16
  intro S e
  subst e
  have h35 := h34.sP 0 25 16 (a := o) (b := q16) rfl rfl (by decide) (Or.inl (by decide))
  refine ds_finM h35 rfl rfl (by decide) (by decide) (fun i hi k => ?_) (fun j => ?_) hp
  · simp [dsI, va_up, hi]
  · show _ = if j = 20 then recM (A0.s 20) else nI (A0.s j)
    by_cases e20 : j = 20
    · subst e20; rfl
    · rw [if_neg e20]
      by_cases e14 : j = 14
      · subst e14; rfl
      · by_cases e1 : j = 1
        · subst e1; rfl
        · have e : A0.s j = 0 := by show (if j = 1 then 1 else if j = 14 then 10 else if j = 20 then 4 else 0) = 0; rw [if_neg e1, if_neg e14, if_neg e20]
          rw [e]
          simp [dsI, va_up, e20, e14, e1]
          rfl
theorem J_A0 : J A0 0 := by
  refine ⟨⟨⟨⟨⟨by decide, by decide⟩, fun d _ => by show 0 < 4; decide, fun d _ => by show 0 ≤ 10; decide, fun d _ => by show 0 ≤ 4; decide, fun d _ => Or.inr ⟨0, by decide, rfl⟩⟩, fun c b _ hb => absurd hb (Nat.not_lt_zero _), fun m _ => by show 0 ≤ 12; decide, fun m _ => by show 0 < 12; decide, by decide, ⟨by decide, by decide⟩⟩, rfl, rfl, by decide, by decide, fun k hk => absurd hk (Nat.not_lt_zero _), fun h => absurd h (Nat.lt_irrefl _), by decide, fun k hk => absurd hk (Nat.not_lt_zero _), Nat.le_refl _⟩, fun p _ h => absurd h (by show ¬ (0 : Int32) < 0; decide)⟩
