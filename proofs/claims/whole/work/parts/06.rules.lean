/-! THE RULES: one for each kind of instruction that touches the pool, calls, entries, returns -/
abbrev kcls : List vw_C := [(RX0, TX0, 5), (RX1, TX1, 2), (RX2, TX2, 3), (RX3, TX3, 2), (RX4, TX4, 13), (RX5, TX5, 26), (RJx4a65c, TJx4a65c, 3)]
def ktys (E : EV) : List (ClassId × FieldType) := [(E.cI, .int), (E.cO, .object "java/lang/Object")]
def TBg : List Cond := lw_tbl.filter goodWord
def nestW : Cond → Bool
  | .fieldLinkNest _ _ _ _ _ _ => true
  | .methodLinkNest _ _ _ _ => true
  | .castable _ _ => true
  | _ => false
def NW (U : State) : Prop := ∀ w ∈ lw_tbl.filter nestW, va_Nw w U
theorem tb_in {w : Cond} (h : w ∈ lw_tbl) (hg : goodWord w = true) : w ∈ TBg := List.mem_filter.mpr ⟨h, hg⟩
theorem NW.warm {s U : State} (hW : s.WarmedH U.vm) (h : NW s) : NW U := by
  intro w hw
  have h1 := h w hw
  have h2 := (List.mem_filter.mp hw).2
  cases w <;> simp only [nestW] at h2 <;> first | exact absurd h2 (by decide) | exact h1.warmF hW | exact h1.warmM hW | exact h1.warmC hW | exact va_Nw.warmF hW h1 | exact va_Nw.warmM hW h1 | exact va_Nw.warmC hW h1
theorem NW.same {s U : State} (hv : s.vm = U.vm) (h : NW s) : NW U := by
  intro w hw
  have h1 := h w hw
  have h2 := (List.mem_filter.mp hw).2
  cases w <;> simp only [nestW] at h2 <;> first | exact absurd h2 (by decide) | exact va_Nw.same rfl hv h1
def ES (E : EV) (A : Nat → Prop) (U : State) (H : Heap) : Prop := va_Z "java/util/ArrayList" "DEFAULTCAPACITY_EMPTY_ELEMENTDATA" "[Ljava/lang/Object;" (.ref E.e0) A U H ∧ va_T (.object "java/lang/Object") E.e0 0 (fun _ => .null) A U H
def PW (E : EV) (S : pS) (sz : Nat) (U : State) : Prop := U.heap.size = sz ∧ va_P E.G kcls (pool E S) U.heap ∧ va_D (fun _ => True) (pool E S) ∧ va_K E.G kcls (ktys E) U ∧ NW U ∧ va_AO "java/lang/Object" U ∧ ES E (va_A (pool E S) sz) U U.heap
theorem pw_blind (E : EV) (S : pS) (sz : Nat) (av : List Value) : FrameBlind (va_Pc av (PW E S sz)) := by
  intro a U g mk q
  obtain ⟨q0, q1, qP, qD, qK, qN, qO, qZ, qT⟩ := q
  exact ⟨q0, q1, qP, qD, va_K.moved (u := U) (U := U.calling g mk a) (Vm.Alike.refl U.vm) qK, NW.same (s := U) (U := U.calling g mk a) rfl qN, va_AO.moved (u := U) (U := U.calling g mk a) (Vm.Alike.refl U.vm) qO, va_Z.moved (u := U) (U := U.calling g mk a) (Vm.Alike.refl U.vm) qZ, va_T.moved (u := U) (U := U.calling g mk a) (Vm.Alike.refl U.vm) qT⟩
def FX (p : Program) (s : State) (m : MethodId) (args : Array Value) (meth : Method) (c : Code) (cc : ByteArray) (nL : Nat) (own : String) (E : EV) (A : Nat → Prop) : Prop :=
  p.tables.exec = Jvm.exec ∧ c.code = cc ∧ c.maxLocals = nL ∧ s.vm.findClass own = some m.cls ∧ (∀ w ∈ TBg, w.before args s = true) ∧ va_K E.G kcls (ktys E) s ∧ NW s ∧ va_AO "java/lang/Object" s ∧ ES E A s s.heap ∧ (∀ q, s.heap.size ≤ q → A q) ∧ meth.locks = false
def WD (E : EV) (A : Nat → Prop) (s : State) (S : pS) (H : Heap) (locs : List Loc) : Prop := va_P E.G kcls (pool E S) H ∧ va_D A (pool E S) ∧ va_S A s.heap H locs
theorem WD.free {E : EV} {A : Nat → Prop} {s : State} {S : pS} {H : Heap} {locs : List Loc} (h : WD E A s S H locs) (hA : ∀ q, s.heap.size ≤ q → A q) : ∀ q, va_A (pool E S) H.size q → A q := by
  intro q hq
  rcases hq with ⟨k, e, hk⟩ | hq
  · exact h.2.1.2 k _ hk
  · exact hA q (Nat.le_trans h.2.2.1 hq)
def PB (E : EV) (A : Nat → Prop) (S : pS) (t : State) : Prop := va_P E.G kcls (pool E S) t.heap ∧ va_D A (pool E S)
def QI (E : EV) (post : Int32 → pS → Prop) : (Nat → Prop) → Array Value → State → Outcome → State → Prop := fun A => va_Qi post (PB E A) A
def QV (E : EV) (post : pS → Prop) : (Nat → Prop) → Array Value → State → Outcome → State → Prop := fun A => va_Qv post (PB E A) A
def QR (E : EV) (post : Nat → pS → Prop) : (Nat → Prop) → Array Value → State → Outcome → State → Prop := fun A => va_Qq (fun r S => ∃ q, r = some q ∧ post q S) (PB E A) A
/-- a contract over the pool -/
def CT (l : Launch) (E : EV) (y : MethodName) (cc : ByteArray) (mL : Nat) (ret : Option FieldType) (rm : Room) (Q : (Nat → Prop) → Array Value → State → Outcome → State → Prop) (av : List Value) (S : pS) : Prop :=
  ∀ sz, Met l y (.code y cc mL ret :: TBg) rm (va_Pc av (PW E S sz)) (Q (va_A (pool E S) sz)) rm.cells rm.slots (va_A (pool E S) sz)
theorem ct_intro {l : Launch} {E : EV} {y : MethodName} {cc : ByteArray} {mL : Nat} {ret : Option FieldType} {rm : Room} {Q : (Nat → Prop) → Array Value → State → Outcome → State → Prop} {av : List Value} {S : pS} (hy : plainFor y = true) (hlen : (lg_sl av).length ≤ mL)
    (body : ∀ (p : Program) (e : Env) (s : State) (m : MethodId) (below : List Frame) (meth : Method) (c : Code) (A : Nat → Prop) (ls : Array Slot), FX p s m av.toArray meth c cc mL y.cls E A → WD E A s S s.heap [] → meth.sig.returnType = ret → meth.name = y.name → lv_has ls mL (lv_args 0 av) →
      W p l e rm s m av.toArray below meth c s.heap [] 0 0 (MQ below (Q A) av.toArray s rm.cells rm.slots A) (F0 m 0 ls [])) : CT l E y cc mL ret rm Q av S := by
  intro sz
  refine va_MetF (cc := cc) (maxL := mL) (ret := ret) hy rfl ?_
  intro p e s m args below meth c s₁ B hml hv
  obtain ⟨rfl, hsz, hP, hD0, hK, hN, hO, hE⟩ := hv
  have hts := atoms_spec (ws := .code y cc mL ret :: TBg) B.pre
  subst hsz
  have hD := hD0.self (sz := s.heap.size)
  have hl := lv_entry av (n := mL) hlen
  rw [lg_entry_eq]
  exact body p e s m below meth c (va_A (pool E S) s.heap.size) _ ⟨B.exec, B.bytes, hml, findClass_of_methodNamed B.named, fun w h => hts w (List.mem_cons_of_mem _ h), hK, hN, hO, hE, fun q h => Or.inr h, B.notSynchronized⟩ ⟨hP, hD, va_S.rf⟩ B.returns (name_of_methodNamed B.named B.method).1 hl
/-- what is fixed of a kind of objects -/
def CB (k : Nat) (C : String) (T : u_T) (N : Nat) (ty : Nat → FieldType) : Prop := k < 7 ∧ kcls[k]? = some (C, T, N) ∧ (∀ w ∈ u_ws C T N, w ∈ TBg) ∧ (∀ j, j < N → parseFieldDescriptor (T j).2.2.1 = some (ty j)) ∧ (∀ a, a < N → ∀ b, b < N → a ≠ b → (T a).2.1 ≠ (T b).2.1) ∧ (kf k).length = N ∧ (∀ j, j < N → defaultValue (ty j) = vp_V (pfl (kf k) 0 (fun _ => 0) (fun _ => none)) j)
theorem pfl_len : ∀ (fl : List Bool) (o : Nat) (I : Nat → Int32) (P : Nat → Option Nat), (pfl fl o I P).length = fl.length
  | [], _, _, _ => rfl
  | true :: t, o, I, P => by simp only [pfl, List.length_cons, pfl_len t]
  | false :: t, o, I, P => by simp only [pfl, List.length_cons, pfl_len t]
section KP
variable {p : Program} {l : Launch} {e : Env} {R : Room} {s : State} {m : MethodId} {args : Array Value} {below : List Frame} {meth : Method} {c : Code} {H : Heap} {locs : List Loc} {cells slots : Nat} {Q : State → Prop}
variable {cc : ByteArray} {pc nL : Nat} {ls : Array Slot} {rest : List Value} {A : Nat → Prop} {E : EV} {S : pS} {own : String} {a k j : Nat} {C : String} {T : u_T} {N : Nat} {ty : Nat → FieldType} {ref host : String} {index : Nat}
theorem kp_geti (F : FX p s m args meth c cc nL own E A) (hW : WD E A s S H locs) (ho : S.ok a k) (hc : CB k C T N ty) (j : Nat) (hf : (kf k)[j]? = some false) (hlink : Cond.fieldLink own index ref (T j).2.1 (T j).2.2.1 ∈ TBg) (hsame : ∀ x, s.fieldFound? (T j).1 (T j).2.1 (T j).2.2.1 = some x → s.fieldFound? ref (T j).2.1 (T j).2.2.1 = some x) (hdg : decode cc pc = .ok (.getfield index, 3))
    (kk : W p l e R s m args below meth c H locs cells slots Q (F0 m (pc + 3) ls (.int (S.I a j) :: rest))) : W p l e R s m args below meth c H locs cells slots Q (F0 m pc ls (.ref a :: rest)) := by
  obtain ⟨hx, hb, -, hown, hts, hK, -⟩ := F
  obtain ⟨h7, hcl, hin, -, -, hlen, -⟩ := hc
  obtain ⟨q, hq⟩ := pool_get E ho.1
  rw [pf_obj E ho.2 h7] at hq
  have hj : j < N := by rw [← hlen]; exact (List.getElem?_eq_some_iff.mp hf).1
  exact va_get hx hb hts hin hown hK hW.1 q hq hcl j hj (hts _ hlink) hsame (by rw [pfl_i _ _ _ _ _ hf, Nat.zero_add]) hdg kk
theorem kp_getp (F : FX p s m args meth c cc nL own E A) (hW : WD E A s S H locs) (ho : S.ok a k) (hc : CB k C T N ty) (j : Nat) (hf : (kf k)[j]? = some true) (hlink : Cond.fieldLink own index ref (T j).2.1 (T j).2.2.1 ∈ TBg) (hsame : ∀ x, s.fieldFound? (T j).1 (T j).2.1 (T j).2.2.1 = some x → s.fieldFound? ref (T j).2.1 (T j).2.2.1 = some x) (hdg : decode cc pc = .ok (.getfield index, 3)) {b : Nat} (hb9 : S.P a j = some b)
    (kk : W p l e R s m args below meth c H locs cells slots Q (F0 m (pc + 3) ls (.ref b :: rest))) : W p l e R s m args below meth c H locs cells slots Q (F0 m pc ls (.ref a :: rest)) := by
  obtain ⟨hx, hb, -, hown, hts, hK, -⟩ := F
  obtain ⟨h7, hcl, hin, -, -, hlen, -⟩ := hc
  obtain ⟨q, hq⟩ := pool_get E ho.1
  rw [pf_obj E ho.2 h7] at hq
  have hj : j < N := by rw [← hlen]; exact (List.getElem?_eq_some_iff.mp hf).1
  exact va_get hx hb hts hin hown hK hW.1 q hq hcl j hj (hts _ hlink) hsame (v := .ref b) (by rw [pfl_p _ _ _ _ _ hf, Nat.zero_add, hb9]; rfl) hdg kk
theorem nw_at {w : Cond} (h : NW s) (hw : w ∈ lw_tbl) (hn : nestW w = true) (ho : w.onTables = true) : w.before args s = true := va_Nw.use ho (h w (List.mem_filter.mpr ⟨hw, hn⟩))
theorem kp_getiN (F : FX p s m args meth c cc nL own E A) (hW : WD E A s S H locs) (ho : S.ok a k) (hc : CB k C T N ty) (j : Nat) (hf : (kf k)[j]? = some false) (hlink : Cond.fieldLinkNest own index ref (T j).2.1 (T j).2.2.1 host ∈ lw_tbl) (hsame : ∀ x, s.fieldFound? (T j).1 (T j).2.1 (T j).2.2.1 = some x → s.fieldFound? ref (T j).2.1 (T j).2.2.1 = some x) (hdg : decode cc pc = .ok (.getfield index, 3))
    (kk : W p l e R s m args below meth c H locs cells slots Q (F0 m (pc + 3) ls (.int (S.I a j) :: rest))) : W p l e R s m args below meth c H locs cells slots Q (F0 m pc ls (.ref a :: rest)) := by
  obtain ⟨hx, hb, -, hown, hts, hK, hN, -⟩ := F
  obtain ⟨h7, hcl, hin, -, -, hlen, -⟩ := hc
  obtain ⟨q, hq⟩ := pool_get E ho.1
  rw [pf_obj E ho.2 h7] at hq
  have hj : j < N := by rw [← hlen]; exact (List.getElem?_eq_some_iff.mp hf).1
  exact va_getN hx hb hts hin hown hK hW.1 q hq hcl j hj (nw_at hN hlink rfl rfl) hsame (by rw [pfl_i _ _ _ _ _ hf, Nat.zero_add]) hdg kk
theorem kp_getpN (F : FX p s m args meth c cc nL own E A) (hW : WD E A s S H locs) (ho : S.ok a k) (hc : CB k C T N ty) (j : Nat) (hf : (kf k)[j]? = some true) (hlink : Cond.fieldLinkNest own index ref (T j).2.1 (T j).2.2.1 host ∈ lw_tbl) (hsame : ∀ x, s.fieldFound? (T j).1 (T j).2.1 (T j).2.2.1 = some x → s.fieldFound? ref (T j).2.1 (T j).2.2.1 = some x) (hdg : decode cc pc = .ok (.getfield index, 3)) {b : Nat} (hb9 : S.P a j = some b)
    (kk : W p l e R s m args below meth c H locs cells slots Q (F0 m (pc + 3) ls (.ref b :: rest))) : W p l e R s m args below meth c H locs cells slots Q (F0 m pc ls (.ref a :: rest)) := by
  obtain ⟨hx, hb, -, hown, hts, hK, hN, -⟩ := F
  obtain ⟨h7, hcl, hin, -, -, hlen, -⟩ := hc
  obtain ⟨q, hq⟩ := pool_get E ho.1
  rw [pf_obj E ho.2 h7] at hq
  have hj : j < N := by rw [← hlen]; exact (List.getElem?_eq_some_iff.mp hf).1
  exact va_getN hx hb hts hin hown hK hW.1 q hq hcl j hj (nw_at hN hlink rfl rfl) hsame (v := .ref b) (by rw [pfl_p _ _ _ _ _ hf, Nat.zero_add, hb9]; rfl) hdg kk
theorem kp_puti (F : FX p s m args meth c cc nL own E A) (hW : WD E A s S H locs) (ho : S.ok a k) (hc : CB k C T N ty) (j : Nat) (hf : (kf k)[j]? = some false) (hlink : Cond.fieldLink own index ref (T j).2.1 (T j).2.2.1 ∈ TBg) (hsame : ∀ x, s.fieldFound? (T j).1 (T j).2.1 (T j).2.2.1 = some x → s.fieldFound? ref (T j).2.1 (T j).2.2.1 = some x) (hfin : (T j).2.2.2 = false) (hti : ty j = .int) (hdg : decode cc pc = .ok (.putfield index, 3)) {v : Int32}
    (kk : ∀ (H1 : Heap) (locs1 : List Loc), WD E A s (S.setI a j v) H1 locs1 → W p l e R s m args below meth c H1 locs1 cells slots Q (F0 m (pc + 3) ls rest)) : W p l e R s m args below meth c H locs cells slots Q (F0 m pc ls (.int v :: .ref a :: rest)) := by
  obtain ⟨hx, hb, -, hown, hts, hK, -⟩ := F
  obtain ⟨h7, hcl, hin, hty, hnm, hlen, -⟩ := hc
  obtain ⟨hP, hD, hS⟩ := hW
  obtain ⟨q, hq⟩ := pool_get E ho.1
  have hq' := hq
  rw [pf_obj E ho.2 h7] at hq
  have hj : j < N := by rw [← hlen]; exact (List.getElem?_eq_some_iff.mp hf).1
  have hd := hty j hj
  rw [hti] at hd
  refine va_put (v := .int v) hx hb hts hin ty hty hnm hown hK hP hD hS q hq hcl j hj (hts _ hlink) hsame hfin hd rfl rfl (by rw [pfl_len, hlen]; exact hj) hdg (fun H1 locs1 h1 h2 h3 => ?_)
  rw [pool_setI E hD ho h7 hq' hf] at h1 h2
  exact kk H1 locs1 ⟨h1, h2, h3⟩
theorem kp_putiN (F : FX p s m args meth c cc nL own E A) (hW : WD E A s S H locs) (ho : S.ok a k) (hc : CB k C T N ty) (j : Nat) (hf : (kf k)[j]? = some false) (hlink : Cond.fieldLinkNest own index ref (T j).2.1 (T j).2.2.1 host ∈ lw_tbl) (hsame : ∀ x, s.fieldFound? (T j).1 (T j).2.1 (T j).2.2.1 = some x → s.fieldFound? ref (T j).2.1 (T j).2.2.1 = some x) (hfin : (T j).2.2.2 = false) (hti : ty j = .int) (hdg : decode cc pc = .ok (.putfield index, 3)) {v : Int32}
    (kk : ∀ (H1 : Heap) (locs1 : List Loc), WD E A s (S.setI a j v) H1 locs1 → W p l e R s m args below meth c H1 locs1 cells slots Q (F0 m (pc + 3) ls rest)) : W p l e R s m args below meth c H locs cells slots Q (F0 m pc ls (.int v :: .ref a :: rest)) := by
  obtain ⟨hx, hb, -, hown, hts, hK, hN, -⟩ := F
  obtain ⟨h7, hcl, hin, hty, hnm, hlen, -⟩ := hc
  obtain ⟨hP, hD, hS⟩ := hW
  obtain ⟨q, hq⟩ := pool_get E ho.1
  have hq' := hq
  rw [pf_obj E ho.2 h7] at hq
  have hj : j < N := by rw [← hlen]; exact (List.getElem?_eq_some_iff.mp hf).1
  have hd := hty j hj
  rw [hti] at hd
  refine va_putN (v := .int v) hx hb hts hin ty hty hnm hown hK hP hD hS q hq hcl j hj (nw_at hN hlink rfl rfl) hsame hfin hd rfl rfl (by rw [pfl_len, hlen]; exact hj) hdg (fun H1 locs1 h1 h2 h3 => ?_)
  rw [pool_setI E hD ho h7 hq' hf] at h1 h2
  exact kk H1 locs1 ⟨h1, h2, h3⟩
theorem kp_putiF (F : FX p s m args meth c cc nL own E A) (hW : WD E A s S H locs) (ho : S.ok a k) (hc : CB k C T N ty) (j : Nat) (hf : (kf k)[j]? = some false) (hlink : Cond.fieldLink own index ref (T j).2.1 (T j).2.2.1 ∈ TBg) (hsame : ∀ x, s.fieldFound? (T j).1 (T j).2.1 (T j).2.2.1 = some x → s.fieldFound? ref (T j).2.1 (T j).2.2.1 = some x) (hfin : (T j).2.2.2 = true) (hin2 : meth.name = "<init>") (hdecl : (T j).1 = own) (hti : ty j = .int) (hdg : decode cc pc = .ok (.putfield index, 3)) {v : Int32}
    (kk : ∀ (H1 : Heap) (locs1 : List Loc), WD E A s (S.setI a j v) H1 locs1 → W p l e R s m args below meth c H1 locs1 cells slots Q (F0 m (pc + 3) ls rest)) : W p l e R s m args below meth c H locs cells slots Q (F0 m pc ls (.int v :: .ref a :: rest)) := by
  obtain ⟨hx, hb, -, hown, hts, hK, -⟩ := F
  obtain ⟨h7, hcl, hin, hty, hnm, hlen, -⟩ := hc
  obtain ⟨hP, hD, hS⟩ := hW
  obtain ⟨q, hq⟩ := pool_get E ho.1
  have hq' := hq
  rw [pf_obj E ho.2 h7] at hq
  have hj : j < N := by rw [← hlen]; exact (List.getElem?_eq_some_iff.mp hf).1
  have hd := hty j hj
  rw [hti] at hd
  refine va_putF (v := .int v) hx hb hts hin ty hty hnm hown hK hP hD hS q hq hcl j hj (hts _ hlink) hsame hfin hin2 hdecl hd rfl rfl (by rw [pfl_len, hlen]; exact hj) hdg (fun H1 locs1 h1 h2 h3 => ?_)
  rw [pool_setI E hD ho h7 hq' hf] at h1 h2
  exact kk H1 locs1 ⟨h1, h2, h3⟩
def isRefTy (t : FieldType) : Prop := (∃ n, t = .object n) ∨ ∃ u, t = .array u
theorem kp_putp (F : FX p s m args meth c cc nL own E A) (hW : WD E A s S H locs) (ho : S.ok a k) (hc : CB k C T N ty) (j : Nat) (hf : (kf k)[j]? = some true) (hlink : Cond.fieldLink own index ref (T j).2.1 (T j).2.2.1 ∈ TBg) (hsame : ∀ x, s.fieldFound? (T j).1 (T j).2.1 (T j).2.2.1 = some x → s.fieldFound? ref (T j).2.1 (T j).2.2.1 = some x) (hfin : (T j).2.2.2 = false) (hti : isRefTy (ty j)) (hdg : decode cc pc = .ok (.putfield index, 3)) {v : Nat}
    (kk : ∀ (H1 : Heap) (locs1 : List Loc), WD E A s (S.setP a j (some v)) H1 locs1 → W p l e R s m args below meth c H1 locs1 cells slots Q (F0 m (pc + 3) ls rest)) : W p l e R s m args below meth c H locs cells slots Q (F0 m pc ls (.ref v :: .ref a :: rest)) := by
  obtain ⟨hx, hb, -, hown, hts, hK, -⟩ := F
  obtain ⟨h7, hcl, hin, hty, hnm, hlen, -⟩ := hc
  obtain ⟨hP, hD, hS⟩ := hW
  obtain ⟨q, hq⟩ := pool_get E ho.1
  have hq' := hq
  rw [pf_obj E ho.2 h7] at hq
  have hj : j < N := by rw [← hlen]; exact (List.getElem?_eq_some_iff.mp hf).1
  have hd := hty j hj
  have hn : narrow (ty j) (.ref v) = .ref v := by rcases hti with ⟨n, h⟩ | ⟨n, h⟩ <;> rw [h] <;> rfl
  have hft : fits (ty j) (.ref v) = true := by rcases hti with ⟨n, h⟩ | ⟨n, h⟩ <;> rw [h] <;> rfl
  refine va_put (v := .ref v) hx hb hts hin ty hty hnm hown hK hP hD hS q hq hcl j hj (hts _ hlink) hsame hfin hd hn hft (by rw [pfl_len, hlen]; exact hj) hdg (fun H1 locs1 h1 h2 h3 => ?_)
  rw [show (.ref v : Value) = va_rf (some v) from rfl, pool_setP E hD ho h7 hq' hf] at h1 h2
  exact kk H1 locs1 ⟨h1, h2, h3⟩
theorem kp_putpF (F : FX p s m args meth c cc nL own E A) (hW : WD E A s S H locs) (ho : S.ok a k) (hc : CB k C T N ty) (j : Nat) (hf : (kf k)[j]? = some true) (hlink : Cond.fieldLink own index ref (T j).2.1 (T j).2.2.1 ∈ TBg) (hsame : ∀ x, s.fieldFound? (T j).1 (T j).2.1 (T j).2.2.1 = some x → s.fieldFound? ref (T j).2.1 (T j).2.2.1 = some x) (hfin : (T j).2.2.2 = true) (hin2 : meth.name = "<init>") (hdecl : (T j).1 = own) (hti : isRefTy (ty j)) (hdg : decode cc pc = .ok (.putfield index, 3)) {v : Nat}
    (kk : ∀ (H1 : Heap) (locs1 : List Loc), WD E A s (S.setP a j (some v)) H1 locs1 → W p l e R s m args below meth c H1 locs1 cells slots Q (F0 m (pc + 3) ls rest)) : W p l e R s m args below meth c H locs cells slots Q (F0 m pc ls (.ref v :: .ref a :: rest)) := by
  obtain ⟨hx, hb, -, hown, hts, hK, -⟩ := F
  obtain ⟨h7, hcl, hin, hty, hnm, hlen, -⟩ := hc
  obtain ⟨hP, hD, hS⟩ := hW
  obtain ⟨q, hq⟩ := pool_get E ho.1
  have hq' := hq
  rw [pf_obj E ho.2 h7] at hq
  have hj : j < N := by rw [← hlen]; exact (List.getElem?_eq_some_iff.mp hf).1
  have hd := hty j hj
  have hn : narrow (ty j) (.ref v) = .ref v := by rcases hti with ⟨n, h⟩ | ⟨n, h⟩ <;> rw [h] <;> rfl
  have hft : fits (ty j) (.ref v) = true := by rcases hti with ⟨n, h⟩ | ⟨n, h⟩ <;> rw [h] <;> rfl
  refine va_putF (v := .ref v) hx hb hts hin ty hty hnm hown hK hP hD hS q hq hcl j hj (hts _ hlink) hsame hfin hin2 hdecl hd hn hft (by rw [pfl_len, hlen]; exact hj) hdg (fun H1 locs1 h1 h2 h3 => ?_)
  rw [show (.ref v : Value) = va_rf (some v) from rfl, pool_setP E hD ho h7 hq' hf] at h1 h2
  exact kk H1 locs1 ⟨h1, h2, h3⟩
-- arrays
theorem kp_iald (F : FX p s m args meth c cc nL own E A) (hW : WD E A s S H locs) (ho : S.ok a 7) {i : Int32} (hin : vp_in i (S.n a)) (hdg : decode cc pc = .ok (.iaload, 1))
    (kk : W p l e R s m args below meth c H locs cells slots Q (F0 m (pc + 1) ls (.int (S.I a i.toNatClampNeg) :: rest))) : W p l e R s m args below meth c H locs cells slots Q (F0 m pc ls (.int i :: .ref a :: rest)) := by
  obtain ⟨hx, hb, -, hown, hts, hK, -⟩ := F
  obtain ⟨q, hq⟩ := pool_get E ho.1
  rw [pf_arr E ho.2] at hq
  exact va_iald hx hb hK hW.1 q 0 hq rfl hin hdg kk
theorem kp_iast (F : FX p s m args meth c cc nL own E A) (hW : WD E A s S H locs) (ho : S.ok a 7) {i x : Int32} (hin : vp_in i (S.n a)) (hdg : decode cc pc = .ok (.iastore, 1))
    (kk : ∀ (H1 : Heap) (locs1 : List Loc), WD E A s (S.setI a i.toNatClampNeg x) H1 locs1 → W p l e R s m args below meth c H1 locs1 cells slots Q (F0 m (pc + 1) ls rest)) : W p l e R s m args below meth c H locs cells slots Q (F0 m pc ls (.int x :: .int i :: .ref a :: rest)) := by
  obtain ⟨hx, hb, -, hown, hts, hK, -⟩ := F
  obtain ⟨hP, hD, hS⟩ := hW
  obtain ⟨q, hq⟩ := pool_get E ho.1
  have hq' := hq
  rw [pf_arr E ho.2] at hq
  refine va_iast hx hb hK hP hD hS q 0 hq rfl hin hdg (fun H1 locs1 h1 h2 h3 => ?_)
  rw [pool_arrI E hD ho hq'] at h1 h2
  exact kk H1 locs1 ⟨h1, h2, h3⟩
theorem kp_ilen (F : FX p s m args meth c cc nL own E A) (hW : WD E A s S H locs) (ho : S.ok a 7) (hdg : decode cc pc = .ok (.arraylength, 1))
    (kk : W p l e R s m args below meth c H locs cells slots Q (F0 m (pc + 1) ls (.int (nI (S.n a)) :: rest))) : W p l e R s m args below meth c H locs cells slots Q (F0 m pc ls (.ref a :: rest)) := by
  obtain ⟨hx, hb, -, hown, hts, hK, -⟩ := F
  obtain ⟨q, hq⟩ := pool_get E ho.1
  rw [pf_arr E ho.2] at hq
  exact va_alen hx hb hK hW.1 q 0 hq (ty := .int) rfl rfl hdg kk
theorem kp_rlen (F : FX p s m args meth c cc nL own E A) (hW : WD E A s S H locs) (ho : S.ok a 8) (hdg : decode cc pc = .ok (.arraylength, 1))
    (kk : W p l e R s m args below meth c H locs cells slots Q (F0 m (pc + 1) ls (.int (nI (S.n a)) :: rest))) : W p l e R s m args below meth c H locs cells slots Q (F0 m pc ls (.ref a :: rest)) := by
  obtain ⟨hx, hb, -, hown, hts, hK, -⟩ := F
  obtain ⟨q, hq⟩ := pool_get E ho.1
  rw [pf_row E ho.2] at hq
  exact va_alen hx hb hK hW.1 q 1 hq (ty := .object "java/lang/Object") rfl rfl hdg kk
theorem kp_elen (F : FX p s m args meth c cc nL own E A) (hW : WD E A s S H locs) (ha : a = E.e0) (hdg : decode cc pc = .ok (.arraylength, 1))
    (kk : W p l e R s m args below meth c H locs cells slots Q (F0 m (pc + 1) ls (.int 0 :: rest))) : W p l e R s m args below meth c H locs cells slots Q (F0 m pc ls (.ref a :: rest)) := by
  obtain ⟨hx, hb, -, hown, hts, hK, -, -, hE, -⟩ := F
  subst ha
  exact va_tlen hx hb hE.2 hW.2.2 rfl hdg kk
theorem kp_rald (F : FX p s m args meth c cc nL own E A) (hW : WD E A s S H locs) (ho : S.ok a 8) {i : Int32} (hin : vp_in i (S.n a)) (hdg : decode cc pc = .ok (.aaload, 1)) {b : Nat} (hb9 : S.P a i.toNatClampNeg = some b)
    (kk : W p l e R s m args below meth c H locs cells slots Q (F0 m (pc + 1) ls (.ref b :: rest))) : W p l e R s m args below meth c H locs cells slots Q (F0 m pc ls (.int i :: .ref a :: rest)) := by
  obtain ⟨hx, hb, -, hown, hts, hK, -⟩ := F
  obtain ⟨q, hq⟩ := pool_get E ho.1
  rw [pf_row E ho.2] at hq
  refine va_aldq hx hb hK hW.1 q 1 hq (C := "java/lang/Object") rfl hin hdg ?_
  rw [hb9]
  exact kk
theorem kp_rast (F : FX p s m args meth c cc nL own E A) (hW : WD E A s S H locs) (ho : S.ok a 8) {b : Nat} (hob : S.ok b k) (hc : CB k C T N ty) (hca : Cond.castable C "java/lang/Object" ∈ lw_tbl) {i : Int32} (hin : vp_in i (S.n a)) (hdg : decode cc pc = .ok (.aastore, 1))
    (kk : ∀ (H1 : Heap) (locs1 : List Loc), WD E A s (S.setP a i.toNatClampNeg (some b)) H1 locs1 → W p l e R s m args below meth c H1 locs1 cells slots Q (F0 m (pc + 1) ls rest)) : W p l e R s m args below meth c H locs cells slots Q (F0 m pc ls (.ref b :: .int i :: .ref a :: rest)) := by
  obtain ⟨hx, hb, -, hown, hts, hK, hN, -⟩ := F
  obtain ⟨hP, hD, hS⟩ := hW
  obtain ⟨h7, hcl, -⟩ := hc
  obtain ⟨q, hq⟩ := pool_get E ho.1
  have hq' := hq
  rw [pf_row E ho.2] at hq
  obtain ⟨qb, hqb⟩ := pool_get E hob.1
  rw [pf_obj E hob.2 h7] at hqb
  refine va_astqO hx hb hK hP hD hS q 1 qb k hq (E := "java/lang/Object") rfl (r := (C, T, N)) (hN _ (List.mem_filter.mpr ⟨hca, rfl⟩)) hqb hcl hin hdg (fun H1 locs1 h1 h2 h3 => ?_)
  rw [pool_rowP E hD ho hq'] at h1 h2
  exact kk H1 locs1 ⟨h1, h2, h3⟩
theorem kp_rastN (F : FX p s m args meth c cc nL own E A) (hW : WD E A s S H locs) (ho : S.ok a 8) {i : Int32} (hin : vp_in i (S.n a)) (hdg : decode cc pc = .ok (.aastore, 1))
    (kk : ∀ (H1 : Heap) (locs1 : List Loc), WD E A s (S.setP a i.toNatClampNeg none) H1 locs1 → W p l e R s m args below meth c H1 locs1 cells slots Q (F0 m (pc + 1) ls rest)) : W p l e R s m args below meth c H locs cells slots Q (F0 m pc ls (.null :: .int i :: .ref a :: rest)) := by
  obtain ⟨hx, hb, -, hown, hts, hK, hN, -⟩ := F
  obtain ⟨hP, hD, hS⟩ := hW
  obtain ⟨q, hq⟩ := pool_get E ho.1
  have hq' := hq
  rw [pf_row E ho.2] at hq
  refine va_astqN hx hb hK hP hD hS q 1 hq (C := "java/lang/Object") rfl hin hdg (fun H1 locs1 h1 h2 h3 => ?_)
  rw [pool_rowP E hD ho hq'] at h1 h2
  exact kk H1 locs1 ⟨h1, h2, h3⟩
-- what is made
theorem kp_new (F : FX p s m args meth c cc nL own E A) (hW : WD E A s S H locs) (hc : CB k C T N ty) (hcl : Cond.classLink own index C ∈ TBg) (hinst : Cond.instantiable C N ∈ TBg) (hini : Cond.initialized C ∈ TBg) (hdg : decode cc pc = .ok (.new index, 3)) {c1 s1 : Nat} (hc1 : cells + 1 ≤ c1) (hs1 : slots + N ≤ s1) (hcr : c1 ≤ R.cells) (hsr : s1 ≤ R.slots)
    (kk : ∀ (q : Nat) (H1 : Heap), q ∉ S.L → WD E A s (S.new q k 0) H1 locs → W p l e R s m args below meth c H1 locs c1 s1 Q (F0 m (pc + 3) ls (.ref q :: rest))) : W p l e R s m args below meth c H locs cells slots Q (F0 m pc ls rest) := by
  obtain ⟨hx, hb, -, hown, hts, hK, hN, -, -, hA, -⟩ := F
  obtain ⟨hP, hD, hS⟩ := hW
  obtain ⟨h7, hk, hin, hty, hnm, hlen, hdef⟩ := hc
  refine va_new (fs := pfl (kf k) 0 (fun _ => 0) (fun _ => none)) hx hb hts hin ty hty hown (hts _ hcl) (hts _ hinst) (hts _ hini) hK hP hD hS hA hk hdef (Nat.le_trans hc1 hcr) (Nat.le_trans hs1 hsr) hdg (fun q H1 h1 h2 h3 => ?_)
  have hq := pool_fresh E h2
  rw [pool_born E (A := A) (n := 0) hq (by
    rw [pf_obj E (S := S.new q k 0) (k := k) (va_up_self _ _ _) h7]
    show Sum.inr (k, pfl (kf k) 0 (va_up S.I q (fun _ => 0) q) (va_up S.P q (fun _ => none) q)) = _
    rw [va_up_self, va_up_self])] at h1 h2
  exact W.widen hc1 hs1 (kk q H1 hq ⟨h1, h2, h3⟩)
theorem kp_newi (F : FX p s m args meth c cc nL own E A) (hW : WD E A s S H locs) (harr : Cond.arrayClass (newarray.typeOf .int) ∈ TBg) {n : Int32} (hn : ¬ n < 0) (hb9 : n.toNatClampNeg ≤ 1000) (hdg : decode cc pc = .ok (.newarray .int, 2)) {c1 s1 : Nat} (hc1 : cells + 1 ≤ c1) (hs1 : slots + n.toNatClampNeg ≤ s1) (hcr : c1 ≤ R.cells) (hsr : s1 ≤ R.slots)
    (kk : ∀ (q : Nat) (H1 : Heap), q ∉ S.L → WD E A s (S.new q 7 n.toNatClampNeg) H1 locs → W p l e R s m args below meth c H1 locs c1 s1 Q (F0 m (pc + 2) ls (.ref q :: rest))) : W p l e R s m args below meth c H locs cells slots Q (F0 m pc ls (.int n :: rest)) := by
  obtain ⟨hx, hb, -, hown, hts, hK, hN, -, -, hA, -⟩ := F
  obtain ⟨hP, hD, hS⟩ := hW
  refine va_newa (atype := .int) (ty := .int) (a0 := (n.toNatClampNeg, .inl (fun _ => 0))) hx hb (hts _ harr) rfl hK hP hD hS hA (fun cA => rfl) hn rfl (by
    have : componentBytes .int = 4 := rfl
    rw [this]; omega) (Nat.le_trans hc1 hcr) (Nat.le_trans hs1 hsr) hdg (fun q cA H1 h0 h1 h2 h3 => ?_)
  have hcA : cA = E.cI := by
    have e1 := (h0.2 2 (cA, .int) rfl).2
    have e2 := (hK.2 0 (E.cI, .int) rfl).2
    exact Option.some.inj (e1.symm.trans e2)
  subst hcA
  have hq := pool_fresh E h2
  rw [pool_born E (A := A) (k := 7) (n := n.toNatClampNeg) hq (by
    rw [pf_arr E (S := S.new q 7 n.toNatClampNeg) (va_up_self _ _ _)]
    show Sum.inl (E.cI, va_up S.n q n.toNatClampNeg q, Sum.inl (va_up S.I q (fun _ => 0) q)) = _
    rw [va_up_self, va_up_self])] at h1 h2
  exact W.widen hc1 hs1 (kk q H1 hq ⟨h1, h2, h3⟩)
theorem kp_newr (F : FX p s m args meth c cc nL own E A) (hW : WD E A s S H locs) (hcl : Cond.classLink own index "java/lang/Object" ∈ TBg) {n : Int32} (hn : ¬ n < 0) (hb9 : n.toNatClampNeg ≤ 1000) (hdg : decode cc pc = .ok (.anewarray index, 3)) {c1 s1 : Nat} (hc1 : cells + 1 ≤ c1) (hs1 : slots + n.toNatClampNeg ≤ s1) (hcr : c1 ≤ R.cells) (hsr : s1 ≤ R.slots)
    (kk : ∀ (q : Nat) (H1 : Heap), q ∉ S.L → q ≠ E.e0 → WD E A s (S.new q 8 n.toNatClampNeg) H1 locs → W p l e R s m args below meth c H1 locs c1 s1 Q (F0 m (pc + 3) ls (.ref q :: rest))) : W p l e R s m args below meth c H locs cells slots Q (F0 m pc ls (.int n :: rest)) := by
  obtain ⟨hx, hb, -, hown, hts, hK, hN, hO, hE, hA, -⟩ := F
  obtain ⟨hP, hD, hS⟩ := hW
  refine va_newq (C := "java/lang/Object") hx hb hown (hts _ hcl) hO hK hP hD hS hA hn rfl (by omega) (Nat.le_trans hc1 hcr) (Nat.le_trans hs1 hsr) hdg (fun q cA H1 h0 h1 h2 h3 => ?_)
  have hcA : cA = E.cO := by
    obtain ⟨-, -, -, -, -, e1⟩ := (h0.2 2 (cA, .object "java/lang/Object") rfl).2
    obtain ⟨-, -, -, -, -, e2⟩ := (hK.2 1 (E.cO, .object "java/lang/Object") rfl).2
    exact Option.some.inj (e1.symm.trans e2)
  subst hcA
  have hq := pool_fresh E h2
  rw [pool_born E (A := A) (k := 8) (n := n.toNatClampNeg) hq (by
    rw [pf_row E (S := S.new q 8 n.toNatClampNeg) (va_up_self _ _ _)]
    show Sum.inl (E.cO, va_up S.n q n.toNatClampNeg q, Sum.inr (Sum.inr (Sum.inr (Sum.inr (va_up S.P q (fun _ => none) q))))) = _
    rw [va_up_self, va_up_self])] at h1 h2
  have hqA : A q := by
    obtain ⟨k, hk⟩ := pool_get E (S := S.new q 8 n.toNatClampNeg) (a := q) (List.mem_append_right _ (List.mem_singleton.mpr rfl))
    exact h2.2 k _ hk
  exact W.widen hc1 hs1 (kk q H1 hq (fun e => hE.2.out (e ▸ hqA)) ⟨h1, h2, h3⟩)
end KP
