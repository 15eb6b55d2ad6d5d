/-! THE ABSTRACT STATE: Nat scalars s, Nat arrays w, Int32 arrays z, by the places of the reference's fields -/
def aS : Type := (Nat → Nat) × (Nat → Nat → Nat) × (Nat → Nat → Int32)
def aS.s (A : aS) : Nat → Nat := A.1
def aS.w (A : aS) : Nat → Nat → Nat := A.2.1
def aS.z (A : aS) : Nat → Nat → Int32 := A.2.2
def aS.mk (s : Nat → Nat) (w : Nat → Nat → Nat) (z : Nat → Nat → Int32) : aS := (s, w, z)
def aS.setS (A : aS) (j v : Nat) : aS := aS.mk (va_up A.s j v) A.w A.z
def aS.setW (A : aS) (j k v : Nat) : aS := aS.mk A.s (va_up A.w j (va_up (A.w j) k v)) A.z
def aS.setZ (A : aS) (j k : Nat) (v : Int32) : aS := aS.mk A.s A.w (va_up A.z j (va_up (A.z j) k v))
def recM (r : Nat) : Int32 := if r < 4 then nI r else -4
def toV (A : aS) : vS := vS.mk (fun j => if j = 20 then recM (A.s 20) else nI (A.s j)) (fun j k => if j = 6 then A.z 6 k else if j = 7 then A.z 7 k else nI (A.w j k))
theorem aS.s_setS (A : aS) (j v i : Nat) : (A.setS j v).s i = if i = j then v else A.s i := rfl
theorem aS.w_setS (A : aS) (j v : Nat) : (A.setS j v).w = A.w := rfl
theorem aS.z_setS (A : aS) (j v : Nat) : (A.setS j v).z = A.z := rfl
theorem aS.s_setW (A : aS) (j k v : Nat) : (A.setW j k v).s = A.s := rfl
theorem aS.z_setW (A : aS) (j k v : Nat) : (A.setW j k v).z = A.z := rfl
theorem aS.w_setW (A : aS) (j k v i m : Nat) : (A.setW j k v).w i m = if i = j ∧ m = k then v else A.w i m := by
  show va_up A.w j (va_up (A.w j) k v) i m = _
  unfold va_up
  by_cases h : i = j
  · subst h; simp
  · simp [h]
theorem aS.s_setZ (A : aS) (j k : Nat) (v : Int32) : (A.setZ j k v).s = A.s := rfl
theorem aS.w_setZ (A : aS) (j k : Nat) (v : Int32) : (A.setZ j k v).w = A.w := rfl
theorem aS.z_setZ (A : aS) (j k : Nat) (v : Int32) (i m : Nat) : (A.setZ j k v).z i m = if i = j ∧ m = k then v else A.z i m := by
  show va_up A.z j (va_up (A.z j) k v) i m = _
  unfold va_up
  by_cases h : i = j
  · subst h; simp
  · simp [h]
theorem aS.ext {A B : aS} (h1 : ∀ j, A.s j = B.s j) (h2 : ∀ j k, A.w j k = B.w j k) (h3 : ∀ j k, A.z j k = B.z j k) : A = B := by
  have e1 : A.s = B.s := funext h1
  have e2 : A.w = B.w := funext fun j => funext (h2 j)
  have e3 : A.z = B.z := funext fun j => funext (h3 j)
  exact Prod.ext e1 (Prod.ext e2 e3)
theorem vS.ext {U V : vS} (h1 : ∀ j, U.s j = V.s j) (h2 : ∀ j k, U.a j k = V.a j k) : U = V := Prod.ext (funext h1) (funext fun j => funext (h2 j))
theorem toV_s {A : aS} {j : Nat} (h : j ≠ 20) : (toV A).s j = nI (A.s j) := if_neg h
theorem toV_r {A : aS} : (toV A).s 20 = recM (A.s 20) := rfl
theorem toV_a {A : aS} {j k : Nat} (h6 : j ≠ 6) (h7 : j ≠ 7) : (toV A).a j k = nI (A.w j k) := by
  show (if j = 6 then _ else if j = 7 then _ else _) = _
  rw [if_neg h6, if_neg h7]
theorem toV_setS {A : aS} {j v : Nat} {x : Int32} (h : j ≠ 20) (hx : x = nI v) : (toV A).setS j x = toV (A.setS j v) := by
  subst hx
  refine vS.ext (fun i => ?_) (fun i k => rfl)
  show va_up (toV A).s j (nI v) i = if i = 20 then recM (va_up A.s j v 20) else nI (va_up A.s j v i)
  unfold va_up
  by_cases hi : i = j
  · subst hi; simp [h]
  · rw [if_neg hi]
    by_cases h2 : i = 20
    · subst h2; rw [if_pos rfl, if_neg hi]; rfl
    · rw [if_neg h2, if_neg hi]; exact if_neg h2
theorem toV_setR {A : aS} {v : Nat} {x : Int32} (hx : x = recM v) : (toV A).setS 20 x = toV (A.setS 20 v) := by
  subst hx
  refine vS.ext (fun i => ?_) (fun i k => rfl)
  show va_up (toV A).s 20 (recM v) i = if i = 20 then recM (va_up A.s 20 v 20) else nI (va_up A.s 20 v i)
  unfold va_up
  by_cases hi : i = 20
  · subst hi; simp
  · rw [if_neg hi, if_neg hi, if_neg hi]; exact if_neg hi
theorem toV_setW {A : aS} {j k v : Nat} {x : Int32} (h6 : j ≠ 6) (h7 : j ≠ 7) (hx : x = nI v) : (toV A).setA j k x = toV (A.setW j k v) := by
  subst hx
  refine vS.ext (fun i => rfl) (fun i m => ?_)
  show va_up (toV A).a j (va_up ((toV A).a j) k (nI v)) i m = if i = 6 then A.z 6 m else if i = 7 then A.z 7 m else nI (va_up A.w j (va_up (A.w j) k v) i m)
  unfold va_up
  by_cases hi : i = j
  · subst hi
    rw [if_pos rfl, if_neg h6, if_neg h7, if_pos rfl]
    by_cases hm : m = k
    · rw [if_pos hm, if_pos hm]
    · rw [if_neg hm, if_neg hm]; exact toV_a h6 h7
  · rw [if_neg hi, if_neg hi]; rfl
theorem toV_setZ {A : aS} {j k : Nat} {x : Int32} (h : j = 6 ∨ j = 7) : (toV A).setA j k x = toV (A.setZ j k x) := by
  refine vS.ext (fun i => rfl) (fun i m => ?_)
  show va_up (toV A).a j (va_up ((toV A).a j) k x) i m = if i = 6 then (va_up A.z j (va_up (A.z j) k x)) 6 m else if i = 7 then (va_up A.z j (va_up (A.z j) k x)) 7 m else nI (A.w i m)
  unfold va_up
  rcases h with rfl | rfl
  · by_cases hi : i = 6
    · subst hi; simp only [if_true]
      by_cases hm : m = k
      · rw [if_pos hm, if_pos hm]
      · rw [if_neg hm, if_neg hm]; rfl
    · rw [if_neg hi, if_neg hi]
      by_cases h7 : i = 7
      · subst h7; rfl
      · rw [if_neg h7]; exact toV_a hi h7
  · by_cases hi : i = 7
    · subst hi; simp only [if_true]
      by_cases hm : m = k
      · simp [hm]
      · simp only [if_neg hm]; rfl
    · rw [if_neg hi, if_neg hi]
      by_cases h6 : i = 6
      · subst h6; rfl
      · rw [if_neg h6]; exact toV_a h6 hi
-- numbers
def inR (x lo hi : Int32) : Prop := ¬ x < lo ∧ ¬ hi < x
theorem inR_nat {x : Int32} {hi : Int32} {h : Nat} (hh : hi.toInt = h) (hx : inR x 0 hi) : ∃ n : Nat, n ≤ h ∧ x = nI n := by
  obtain ⟨h1, h2⟩ := hx
  have e1 : ¬ x.toInt < 0 := fun q => h1 (Int32.lt_iff_toInt_lt.mpr q)
  have e2 : ¬ hi.toInt < x.toInt := fun q => h2 (Int32.lt_iff_toInt_lt.mpr q)
  refine ⟨x.toInt.toNat, by omega, ?_⟩
  have h3 : x.toInt.toNat < 2 ^ 31 := by have := x.toInt_lt; omega
  apply Int32.toInt_inj.mp
  rw [nI_toInt h3]
  omega
theorem inR_nI {n h : Nat} {hi : Int32} (hh : hi.toInt = h) (hn : n < 2 ^ 31) : inR (nI n) 0 hi ↔ n ≤ h := by
  have e := nI_toInt hn
  constructor
  · intro q
    have := q.2
    rw [Int32.lt_iff_toInt_lt, e, hh] at this
    omega
  · intro q
    refine ⟨fun z => ?_, fun z => ?_⟩
    · rw [Int32.lt_iff_toInt_lt, e] at z
      have : (0 : Int32).toInt = 0 := rfl
      omega
    · rw [Int32.lt_iff_toInt_lt, e, hh] at z
      omega
theorem nI_lit (n : Nat) : (OfNat.ofNat n : Int32) = nI n := rfl
theorem mv_in {post : Int32 → vS → Prop} {x lo hi : Int32} {V : vS} (h1 : inR x lo hi → post 1 V) (h0 : ¬ inR x lo hi → post 0 V) : wv_X5_in post x lo hi V := by
  unfold wv_X5_in
  refine ⟨fun c => h0 (fun q => q.1 c), fun c => ⟨fun d => h0 (fun q => q.2 d), fun d => h1 ⟨c, d⟩⟩⟩
