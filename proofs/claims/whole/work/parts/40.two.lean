/-! TWO POOLS beside each other: the class's and the reference's -/
theorem pool_mem (E : EV) {S : pS} {k : Nat} {q : Nat × va_E} (h : (pool E S)[k]? = some q) : q.1 ∈ S.L := by
  obtain ⟨a, ha, e⟩ := List.mem_map.mp (List.mem_of_getElem? h)
  rw [← e]; exact ha
def D2 (E : EV) (A : Nat → Prop) (s : State) (S S2 : pS) (H : Heap) (locs : List Loc) : Prop := WD E A s S H locs ∧ WD E A s S2 H locs ∧ ∀ a, a ∈ S.L → a ∉ S2.L
theorem D2.symm {E : EV} {A : Nat → Prop} {s : State} {S S2 : pS} {H : Heap} {locs : List Loc} (h : D2 E A s S S2 H locs) : D2 E A s S2 S H locs := ⟨h.2.1, h.1, fun a h1 h2 => h.2.2 a h2 h1⟩
theorem WD.lt {E : EV} {A : Nat → Prop} {s : State} {S : pS} {H : Heap} {locs : List Loc} (h : WD E A s S H locs) {a : Nat} (ha : a ∈ S.L) : a < H.size := by
  obtain ⟨k, hk⟩ := pool_get E ha
  exact (h.1 k _ hk).lt
/-- the other pool is kept by a call over this one -/
theorem D2.after {E : EV} {A : Nat → Prop} {s : State} {S S2 S1 : pS} {H H1 : Heap} {locs locs1 : List Loc} (h : D2 E A s S S2 H locs) (hP1 : va_P E.G kcls (pool E S1) H1) (hD1 : va_D (va_A (pool E S) H.size) (pool E S1)) (hfr : ∀ q, va_A (pool E S) H.size q → A q) (hk1 : ∀ q : Nat, q < H.size → ¬ va_A (pool E S) H.size q → H1[q]? = H[q]?) (hS : va_S A s.heap H1 locs1) : D2 E A s S1 S2 H1 locs1 := by
  obtain ⟨h1, h2, h3⟩ := h
  refine ⟨⟨hP1, hD1.weaken (fun _ _ _ h => hfr _ h), hS⟩, ⟨h2.1.kept (fun k q hk => ?_), h2.2.1, hS⟩, fun a ha hb => ?_⟩
  · have hm := pool_mem E hk
    have hl := h2.lt hm
    refine hk1 _ hl (fun z => ?_)
    rcases z with ⟨k', e, z⟩ | z
    · exact h3 _ (pool_mem E z) hm
    · omega
  · have hl := h2.lt hb
    obtain ⟨k, hk⟩ := pool_get E ha
    rcases hD1.2 k _ hk with ⟨k', e, z⟩ | z
    · exact h3 _ (pool_mem E z) hb
    · have z : H.size ≤ a := z
      omega
section KD
variable {p : Program} {l : Launch} {e : Env} {R : Room} {s : State} {m : MethodId} {args : Array Value} {below : List Frame} {meth : Method} {c : Code} {H : Heap} {locs : List Loc} {cells slots : Nat} {Q : State → Prop}
variable {cc : ByteArray} {pc nL : Nat} {ls : Array Slot} {rest : List Value} {A : Nat → Prop} {E : EV} {S S2 : pS} {own : String}
variable {st0 : List Value} {av : Array Value}
theorem k2_calli (F : FX p s m args meth c cc nL own E A) (hW : D2 E A s S S2 H locs) {post : Int32 → pS → Prop} {mc ms c1 s1 : Nat} (hr : va_Run p l e R s m args below meth c H locs cells slots mc ms (F0 m pc ls st0) rest (QI E post (va_A (pool E S) H.size) av) (va_A (pool E S) H.size)) (hc1 : cells + mc ≤ c1) (hs1 : slots + ms ≤ s1)
    (kk : ∀ (r : Int32) (S1 : pS) (H1 : Heap) (locs1 : List Loc), post r S1 → D2 E A s S1 S2 H1 locs1 → W p l e R s m args below meth c H1 locs1 c1 s1 Q (F0 m (pc + 3) ls (.int r :: rest))) : W p l e R s m args below meth c H locs cells slots Q (F0 m pc ls st0) := by
  have hfr := hW.1.free F.2.2.2.2.2.2.2.2.2.1
  refine va_calli hr hW.1.2.2 (fun q _ h => hfr q h) hfr (fun r u t H1 locs1 ht hvm hw hB hz1 hk1 hS => ?_)
  obtain ⟨hP1, hD1⟩ := hB
  rw [ht] at hP1
  exact W.widen hc1 hs1 (kk r u H1 locs1 hw (hW.after hP1 hD1 hfr hk1 hS))
theorem k2_callv (F : FX p s m args meth c cc nL own E A) (hW : D2 E A s S S2 H locs) {post : pS → Prop} {mc ms c1 s1 : Nat} (hr : va_Run p l e R s m args below meth c H locs cells slots mc ms (F0 m pc ls st0) rest (QV E post (va_A (pool E S) H.size) av) (va_A (pool E S) H.size)) (hc1 : cells + mc ≤ c1) (hs1 : slots + ms ≤ s1)
    (kk : ∀ (S1 : pS) (H1 : Heap) (locs1 : List Loc), post S1 → D2 E A s S1 S2 H1 locs1 → W p l e R s m args below meth c H1 locs1 c1 s1 Q (F0 m (pc + 3) ls rest)) : W p l e R s m args below meth c H locs cells slots Q (F0 m pc ls st0) := by
  have hfr := hW.1.free F.2.2.2.2.2.2.2.2.2.1
  refine va_callv hr hW.1.2.2 (fun q _ h => hfr q h) hfr (fun u t H1 locs1 ht hvm hw hB hz1 hk1 hS => ?_)
  obtain ⟨hP1, hD1⟩ := hB
  rw [ht] at hP1
  exact W.widen hc1 hs1 (kk u H1 locs1 hw (hW.after hP1 hD1 hfr hk1 hS))
end KD
/-- a new cell, taken out of the pool in which it was made -/
theorem D2.split {E : EV} {A : Nat → Prop} {s : State} {S : pS} {H : Heap} {locs : List Loc} {q k : Nat} (hq : q ∉ S.L) (h : WD E A s (S.new q k 0) H locs) : D2 E A s (S0.new q k 0) S H locs := by
  have e1 : pool E (S.new q k 0) = pool E S ++ [(q, pf E (S.new q k 0) q)] := (pool_born E (A := A) hq rfl).symm
  have e2 : pool E (S0.new q k 0) = [(q, pf E (S0.new q k 0) q)] := by
    have := (pool_born E (A := A) (S := S0) (a := q) (k := k) (n := 0) (fun z => absurd z List.not_mem_nil) rfl).symm
    rw [this]; rfl
  have e3 : pf E (S0.new q k 0) q = pf E (S.new q k 0) q := by
    refine pf_ext E ?_ ?_ ?_ ?_
    · exact (va_up_self _ _ _).trans (va_up_self _ _ _).symm
    · exact (va_up_self _ _ _).trans (va_up_self _ _ _).symm
    · exact (va_up_self _ _ _).trans (va_up_self _ _ _).symm
    · exact (va_up_self _ _ _).trans (va_up_self _ _ _).symm
  obtain ⟨hP, hD, hS⟩ := h
  have old : ∀ (i : Nat) (x : Nat × va_E), (pool E S)[i]? = some x → (pool E (S.new q k 0))[i]? = some x := fun i x hx => by
    rw [e1, List.getElem?_append_left (List.getElem?_eq_some_iff.mp hx).1]; exact hx
  have last : (pool E (S.new q k 0))[(pool E S).length]? = some (q, pf E (S.new q k 0) q) := by
    rw [e1, List.getElem?_append_right (Nat.le_refl _), Nat.sub_self]; rfl
  refine ⟨⟨fun i x hx => ?_, ⟨fun i j x y hx hy _ => ?_, fun i x hx => ?_⟩, hS⟩, ⟨fun i x hx => hP i x (old i x hx), ⟨fun i j x y hx hy e => hD.1 i j x y (old i x hx) (old j y hy) e, fun i x hx => hD.2 i x (old i x hx)⟩, hS⟩, fun a ha hb => ?_⟩
  · rw [e2] at hx
    have hi : i = 0 := by have := (List.getElem?_eq_some_iff.mp hx).1; simp at this; exact this
    subst hi
    have hx : (q, pf E (S0.new q k 0) q) = x := Option.some.inj hx
    rw [← hx, e3]
    exact hP _ _ last
  · rw [e2] at hx hy
    have hi := (List.getElem?_eq_some_iff.mp hx).1
    have hj := (List.getElem?_eq_some_iff.mp hy).1
    simp at hi hj
    omega
  · rw [e2] at hx
    have hi : i = 0 := by have := (List.getElem?_eq_some_iff.mp hx).1; simp at this; exact this
    subst hi
    have hx : (q, pf E (S0.new q k 0) q) = x := Option.some.inj hx
    rw [← hx]
    show A q
    exact hD.2 _ (q, _) last
  · have ha : a ∈ [] ++ [q] := ha
    rw [List.nil_append, List.mem_singleton] at ha
    exact hq (by rw [← ha]; exact hb)
theorem WD.empty {E : EV} {A : Nat → Prop} {s : State} : WD E A s S0 s.heap [] := by
  have e : pool E S0 = [] := rfl
  refine ⟨?_, ?_, va_S.rf⟩
  · rw [e]; intro k q h; simp at h
  · rw [e]; exact ⟨fun i j p q h => by simp at h, fun k q h => by simp at h⟩
