/-! THE POOL: one world for every method: addresses, the kind of each, lengths, int slots, reference slots -/
def pS : Type := List Nat × (Nat → Nat) × (Nat → Nat) × (Nat → Nat → Int32) × (Nat → Nat → Option Nat)
def pS.L (S : pS) : List Nat := S.1
def pS.K (S : pS) : Nat → Nat := S.2.1
def pS.n (S : pS) : Nat → Nat := S.2.2.1
def pS.I (S : pS) : Nat → Nat → Int32 := S.2.2.2.1
def pS.P (S : pS) : Nat → Nat → Option Nat := S.2.2.2.2
def pS.mk5 (L : List Nat) (K n : Nat → Nat) (I : Nat → Nat → Int32) (P : Nat → Nat → Option Nat) : pS := (L, K, n, I, P)
def pS.setI (S : pS) (a j : Nat) (v : Int32) : pS := pS.mk5 S.L S.K S.n (va_up S.I a (va_up (S.I a) j v)) S.P
def pS.setP (S : pS) (a j : Nat) (v : Option Nat) : pS := pS.mk5 S.L S.K S.n S.I (va_up S.P a (va_up (S.P a) j v))
def pS.rowP (S : pS) (a : Nat) (f : Nat → Option Nat) : pS := pS.mk5 S.L S.K S.n S.I (va_up S.P a f)
def pS.new (S : pS) (a k n : Nat) : pS := pS.mk5 (S.L ++ [a]) (va_up S.K a k) (va_up S.n a n) (va_up S.I a (fun _ => 0)) (va_up S.P a (fun _ => none))
def pS.ok (S : pS) (a k : Nat) : Prop := a ∈ S.L ∧ S.K a = k
def EV : Type := (Nat → ClassId) × (Nat → Nat → Nat) × ClassId × ClassId × Nat
def EV.G (E : EV) : va_G := (E.1, E.2.1)
def EV.cI (E : EV) : ClassId := E.2.2.1
def EV.cO (E : EV) : ClassId := E.2.2.2.1
def EV.e0 (E : EV) : Nat := E.2.2.2.2
def kf : Nat → List Bool
  | 0 => [true, false, false, false, false]
  | 1 => [false, true]
  | 2 => [true, true, false]
  | 3 => [true, false]
  | 4 => [true, true, true, true, true, true, true, true, false, false, false, false, false]
  | 5 => [true, false, true, true, true, true, true, true, true, true, false, true, false, true, false, false, false, true, false, false, false, true, true, false, true, true]
  | 6 => [false, true, false]
  | _ => []
def pfl : List Bool → Nat → (Nat → Int32) → (Nat → Option Nat) → List Value
  | [], _, _, _ => []
  | true :: t, j, I, P => va_rf (P j) :: pfl t (j + 1) I P
  | false :: t, j, I, P => .int (I j) :: pfl t (j + 1) I P
theorem pfl_i : ∀ (fl : List Bool) (o j : Nat) (I : Nat → Int32) (P : Nat → Option Nat), fl[j]? = some false → (pfl fl o I P)[j]? = some (.int (I (o + j)))
  | [], _, j, _, _, h => by simp at h
  | true :: t, o, 0, I, P, h => by simp at h
  | false :: t, o, 0, I, P, h => by simp [pfl]
  | true :: t, o, j + 1, I, P, h => by
    have h' : t[j]? = some false := by simpa using h
    have := pfl_i t (o + 1) j I P h'
    simp only [pfl, List.getElem?_cons_succ, this]
    congr 3; omega
  | false :: t, o, j + 1, I, P, h => by
    have h' : t[j]? = some false := by simpa using h
    have := pfl_i t (o + 1) j I P h'
    simp only [pfl, List.getElem?_cons_succ, this]
    congr 3; omega
theorem pfl_p : ∀ (fl : List Bool) (o j : Nat) (I : Nat → Int32) (P : Nat → Option Nat), fl[j]? = some true → (pfl fl o I P)[j]? = some (va_rf (P (o + j)))
  | [], _, j, _, _, h => by simp at h
  | false :: t, o, 0, I, P, h => by simp at h
  | true :: t, o, 0, I, P, h => by simp [pfl]
  | true :: t, o, j + 1, I, P, h => by
    have h' : t[j]? = some true := by simpa using h
    have := pfl_p t (o + 1) j I P h'
    simp only [pfl, List.getElem?_cons_succ, this]
    congr 3; omega
  | false :: t, o, j + 1, I, P, h => by
    have h' : t[j]? = some true := by simpa using h
    have := pfl_p t (o + 1) j I P h'
    simp only [pfl, List.getElem?_cons_succ, this]
    congr 3; omega
theorem pfl_cong : ∀ (fl : List Bool) (o : Nat) (I I' : Nat → Int32) (P P' : Nat → Option Nat), (∀ k, o ≤ k → I k = I' k) → (∀ k, o ≤ k → P k = P' k) → pfl fl o I P = pfl fl o I' P'
  | [], _, _, _, _, _, _, _ => rfl
  | true :: t, o, I, I', P, P', hi, hp => by
    simp only [pfl, hp o (Nat.le_refl _), pfl_cong t (o + 1) I I' P P' (fun k h => hi k (by omega)) (fun k h => hp k (by omega))]
  | false :: t, o, I, I', P, P', hi, hp => by
    simp only [pfl, hi o (Nat.le_refl _), pfl_cong t (o + 1) I I' P P' (fun k h => hi k (by omega)) (fun k h => hp k (by omega))]
theorem pfl_si : ∀ (fl : List Bool) (o j : Nat) (I : Nat → Int32) (P : Nat → Option Nat) (v : Int32), fl[j]? = some false → (pfl fl o I P).set j (.int v) = pfl fl o (va_up I (o + j) v) P
  | [], _, j, _, _, _, h => by simp at h
  | true :: t, o, 0, I, P, v, h => by simp at h
  | false :: t, o, 0, I, P, v, h => by
    simp only [pfl, List.set_cons_zero, Nat.add_zero, va_up_self]
    rw [pfl_cong t (o + 1) I (va_up I o v) P P (fun k hk => (va_up_ne I v (by omega)).symm) (fun _ _ => rfl)]
  | true :: t, o, j + 1, I, P, v, h => by
    have h' : t[j]? = some false := by simpa using h
    simp only [pfl, List.set_cons_succ, pfl_si t (o + 1) j I P v h', show o + 1 + j = o + (j + 1) by omega]
  | false :: t, o, j + 1, I, P, v, h => by
    have h' : t[j]? = some false := by simpa using h
    simp only [pfl, List.set_cons_succ, pfl_si t (o + 1) j I P v h', show o + 1 + j = o + (j + 1) by omega]
    rw [va_up_ne I v (by omega)]
theorem pfl_sp : ∀ (fl : List Bool) (o j : Nat) (I : Nat → Int32) (P : Nat → Option Nat) (v : Option Nat), fl[j]? = some true → (pfl fl o I P).set j (va_rf v) = pfl fl o I (va_up P (o + j) v)
  | [], _, j, _, _, _, h => by simp at h
  | false :: t, o, 0, I, P, v, h => by simp at h
  | true :: t, o, 0, I, P, v, h => by
    simp only [pfl, List.set_cons_zero, Nat.add_zero, va_up_self]
    rw [pfl_cong t (o + 1) I I P (va_up P o v) (fun _ _ => rfl) (fun k hk => (va_up_ne P v (by omega)).symm)]
  | true :: t, o, j + 1, I, P, v, h => by
    have h' : t[j]? = some true := by simpa using h
    simp only [pfl, List.set_cons_succ, pfl_sp t (o + 1) j I P v h', show o + 1 + j = o + (j + 1) by omega]
    rw [va_up_ne P v (by omega)]
  | false :: t, o, j + 1, I, P, v, h => by
    have h' : t[j]? = some true := by simpa using h
    simp only [pfl, List.set_cons_succ, pfl_sp t (o + 1) j I P v h', show o + 1 + j = o + (j + 1) by omega]
def pf (E : EV) (S : pS) (a : Nat) : va_E := if S.K a < 7 then .inr (S.K a, pfl (kf (S.K a)) 0 (S.I a) (S.P a)) else if S.K a = 7 then .inl (E.cI, S.n a, .inl (S.I a)) else .inl (E.cO, S.n a, .inr (.inr (.inr (.inr (S.P a)))))
def pool (E : EV) (S : pS) : va_W := va_pl S.L (pf E S)
theorem pf_obj (E : EV) {S : pS} {a k : Nat} (h : S.K a = k) (h7 : k < 7) : pf E S a = .inr (k, pfl (kf k) 0 (S.I a) (S.P a)) := by
  unfold pf
  rw [h, if_pos h7]
theorem pf_arr (E : EV) {S : pS} {a : Nat} (h : S.K a = 7) : pf E S a = .inl (E.cI, S.n a, .inl (S.I a)) := by
  unfold pf
  rw [h, if_neg (by decide), if_pos rfl]
theorem pf_row (E : EV) {S : pS} {a : Nat} (h : S.K a = 8) : pf E S a = .inl (E.cO, S.n a, .inr (.inr (.inr (.inr (S.P a))))) := by
  unfold pf
  rw [h, if_neg (by decide), if_neg (by decide)]
theorem pf_ext (E : EV) {S S' : pS} {b : Nat} (hk : S'.K b = S.K b) (hn : S'.n b = S.n b) (hi : S'.I b = S.I b) (hp : S'.P b = S.P b) : pf E S' b = pf E S b := by
  unfold pf
  rw [hk, hn, hi, hp]
theorem pool_get (E : EV) {S : pS} {a : Nat} (h : a ∈ S.L) : ∃ k : Nat, (pool E S)[k]? = some (a, pf E S a) := by
  have h1 := va_pl_get (X := []) (L := S.L) (f := pf E S) h
  rwa [List.nil_append] at h1
theorem pool_put (E : EV) {A : Nat → Prop} {S S' : pS} {a q : Nat} {e : va_E} (hD : va_D A (pool E S)) (ha : a ∈ S.L) (hq : (pool E S)[q]? = some (a, pf E S a)) (hL : S'.L = S.L) (he : pf E S' a = e) (ho : ∀ b, b ≠ a → pf E S' b = pf E S b) : (pool E S).set q (a, e) = pool E S' := by
  have h1 := va_pl_set (X := []) (L := S.L) (f := pf E S) (e := e) (by rw [List.nil_append]; exact hD) ha (by rw [List.nil_append]; exact hq)
  rw [List.nil_append, List.nil_append] at h1
  unfold pool
  rw [h1, hL]
  refine va_pl_congr (fun b => ?_)
  by_cases hb : b = a
  · subst hb; rw [va_up_self, he]
  · rw [va_up_ne _ _ hb, ho b hb]
theorem pool_new (E : EV) {S S' : pS} {a : Nat} {e : va_E} (ha : a ∉ S.L) (hL : S'.L = S.L ++ [a]) (he : pf E S' a = e) (ho : ∀ b, b ≠ a → pf E S' b = pf E S b) : pool E S ++ [(a, e)] = pool E S' := by
  unfold pool
  rw [va_pl_push ha, hL]
  refine va_pl_congr (fun b => ?_)
  by_cases hb : b = a
  · subst hb; rw [va_up_self, he]
  · rw [va_up_ne _ _ hb, ho b hb]
theorem pool_fresh (E : EV) {A : Nat → Prop} {S : pS} {q : Nat} {e : va_E} (hD : va_D A (pool E S ++ [(q, e)])) : q ∉ S.L :=
  va_pl_fresh2 (X := []) (f := pf E S) (e := e) (by rw [List.nil_append]; exact hD)
theorem pool_setI (E : EV) {A : Nat → Prop} {S : pS} {a q k j : Nat} {v : Int32} (hD : va_D A (pool E S)) (ho : S.ok a k) (h7 : k < 7) (hq : (pool E S)[q]? = some (a, pf E S a)) (hf : (kf k)[j]? = some false) :
    (pool E S).set q (a, .inr (k, (pfl (kf k) 0 (S.I a) (S.P a)).set j (.int v))) = pool E (S.setI a j v) := by
  refine pool_put E hD ho.1 hq rfl ?_ (fun b hb => pf_ext E rfl rfl ?_ rfl)
  · rw [pf_obj E (S := S.setI a j v) (k := k) ho.2 h7, pfl_si _ _ _ _ _ _ hf, Nat.zero_add]
    show Sum.inr (k, pfl (kf k) 0 (va_up S.I a (va_up (S.I a) j v) a) (S.P a)) = _
    rw [va_up_self]
  · show va_up S.I a _ b = S.I b
    rw [va_up_ne _ _ hb]
theorem pool_setP (E : EV) {A : Nat → Prop} {S : pS} {a q k j : Nat} {v : Option Nat} (hD : va_D A (pool E S)) (ho : S.ok a k) (h7 : k < 7) (hq : (pool E S)[q]? = some (a, pf E S a)) (hf : (kf k)[j]? = some true) :
    (pool E S).set q (a, .inr (k, (pfl (kf k) 0 (S.I a) (S.P a)).set j (va_rf v))) = pool E (S.setP a j v) := by
  refine pool_put E hD ho.1 hq rfl ?_ (fun b hb => pf_ext E rfl rfl rfl ?_)
  · rw [pf_obj E (S := S.setP a j v) (k := k) ho.2 h7, pfl_sp _ _ _ _ _ _ hf, Nat.zero_add]
    show Sum.inr (k, pfl (kf k) 0 (S.I a) (va_up S.P a (va_up (S.P a) j v) a)) = _
    rw [va_up_self]
  · show va_up S.P a _ b = S.P b
    rw [va_up_ne _ _ hb]
theorem upd_up (f : Nat → Int32) (k : Nat) (v : Int32) : upd f k v = va_up f k v := by
  funext j
  unfold upd va_up
  by_cases h : j = k <;> simp [h]
theorem pool_arrI (E : EV) {A : Nat → Prop} {S : pS} {a q j : Nat} {v : Int32} (hD : va_D A (pool E S)) (ho : S.ok a 7) (hq : (pool E S)[q]? = some (a, pf E S a)) :
    (pool E S).set q (a, .inl (E.cI, S.n a, .inl (upd (S.I a) j v))) = pool E (S.setI a j v) := by
  refine pool_put E hD ho.1 hq rfl ?_ (fun b hb => pf_ext E rfl rfl ?_ rfl)
  · rw [pf_arr E (S := S.setI a j v) ho.2, upd_up]
    show Sum.inl (E.cI, S.n a, Sum.inl (va_up S.I a (va_up (S.I a) j v) a)) = _
    rw [va_up_self]
  · show va_up S.I a _ b = S.I b
    rw [va_up_ne _ _ hb]
theorem pool_rowP (E : EV) {A : Nat → Prop} {S : pS} {a q : Nat} {f : Nat → Option Nat} (hD : va_D A (pool E S)) (ho : S.ok a 8) (hq : (pool E S)[q]? = some (a, pf E S a)) :
    (pool E S).set q (a, .inl (E.cO, S.n a, .inr (.inr (.inr (.inr f))))) = pool E (S.rowP a f) := by
  refine pool_put E hD ho.1 hq rfl ?_ (fun b hb => pf_ext E rfl rfl rfl ?_)
  · rw [pf_row E (S := S.rowP a f) ho.2]
    show Sum.inl (E.cO, S.n a, Sum.inr (Sum.inr (Sum.inr (Sum.inr (va_up S.P a f a))))) = _
    rw [va_up_self]
  · show va_up S.P a _ b = S.P b
    rw [va_up_ne _ _ hb]
theorem pool_born (E : EV) {A : Nat → Prop} {S : pS} {a k n : Nat} {e : va_E} (ha : a ∉ S.L) (he : pf E (S.new a k n) a = e) : pool E S ++ [(a, e)] = pool E (S.new a k n) := by
  refine pool_new E ha rfl he (fun b hb => pf_ext E ?_ ?_ ?_ ?_)
  · exact va_up_ne _ _ hb
  · exact va_up_ne _ _ hb
  · exact va_up_ne _ _ hb
  · exact va_up_ne _ _ hb
