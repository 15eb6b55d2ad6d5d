/-! THE REFERENCE'S OBJECT as a value: its int fields and its arrays, by the field's place -/
def vS : Type := (Nat → Int32) × (Nat → Nat → Int32)
def vS.s (V : vS) : Nat → Int32 := V.1
def vS.a (V : vS) : Nat → Nat → Int32 := V.2
def vS.mk (s : Nat → Int32) (a : Nat → Nat → Int32) : vS := (s, a)
def vS.setS (V : vS) (j : Nat) (v : Int32) : vS := vS.mk (va_up V.s j v) V.a
def vS.setA (V : vS) (j k : Nat) (v : Int32) : vS := vS.mk V.s (va_up V.a j (va_up (V.a j) k v))
def view (o : Nat) (b : Nat → Nat) (S : pS) : vS := vS.mk (S.I o) (fun j => S.I (b j))
def mlen : Nat → Nat
  | 0 => 6
  | 2 => 4
  | 3 => 4
  | 4 => 40
  | 5 => 160
  | 6 => 40
  | 7 => 40
  | 8 => 40
  | 9 => 40
  | 11 => 4
  | 13 => 5
  | 17 => 100
  | 21 => 4
  | 22 => 48
  | 24 => 40
  | 25 => 40
  | _ => 0
def ShM (o : Nat) (b : Nat → Nat) (S : pS) : Prop := S.ok o 5 ∧ (∀ j, (kf 5)[j]? = some true → S.P o j = some (b j) ∧ S.ok (b j) 7 ∧ S.n (b j) = mlen j) ∧ (∀ i j, b i = b j → i = j) ∧ ∀ i, b i ≠ o
theorem view_setS {o : Nat} {b : Nat → Nat} {S : pS} {j : Nat} {v : Int32} (hb : (∀ i j, b i = b j → i = j) ∧ ∀ i, b i ≠ o) : view o b (S.setI o j v) = (view o b S).setS j v := by
  have h1 : (S.setI o j v).I o = va_up (S.I o) j v := va_up_self _ _ _
  have h2 : ∀ i, (S.setI o j v).I (b i) = S.I (b i) := fun i => va_up_ne _ _ (hb.2 i)
  unfold view vS.setS
  rw [h1]
  simp only [h2]
  rfl
theorem view_setA {o : Nat} {b : Nat → Nat} {S : pS} {j k : Nat} {v : Int32} (hb : (∀ i j, b i = b j → i = j) ∧ ∀ i, b i ≠ o) : view o b (S.setI (b j) k v) = (view o b S).setA j k v := by
  have h1 : (S.setI (b j) k v).I o = S.I o := va_up_ne _ _ (fun e => hb.2 j e.symm)
  have h2 : (fun i => (S.setI (b j) k v).I (b i)) = va_up (fun i => S.I (b i)) j (va_up (S.I (b j)) k v) := by
    funext i
    by_cases hi : i = j
    · subst hi
      rw [va_up_self]
      exact va_up_self _ _ _
    · rw [va_up_ne _ _ hi]
      exact va_up_ne _ _ (fun e => hi (hb.1 _ _ e))
  unfold view vS.setA
  rw [h1, h2]
  rfl
theorem vin_of {i : Int32} {n L : Nat} (e : n = L) (h : vp_in i L) : vp_in i n := by rw [e]; exact h
