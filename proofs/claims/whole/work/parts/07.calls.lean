/-! CALLS, RETURNS and the rest -/
def notMH (y : MethodName) (n : Nat) : Prop := y.cls ≠ "java/lang/invoke/MethodHandle" ∧ y.cls ≠ "java/lang/invoke/VarHandle" ∧ (parseMethodDescriptor y.desc).map (fun d => d.parameters.length) = some n
/-- what is fixed of a callee: virtual, static, constructor -/
def CFV (y : MethodName) (cb : ByteArray) (mL : Nat) (ret : Option FieldType) (n : Nat) : Prop := Cond.instanceMethod y ∈ TBg ∧ Cond.selects y.cls y y ∈ TBg ∧ Cond.initialized y.cls ∈ TBg ∧ Cond.code y cb mL ret ∈ TBg ∧ notMH y n
def CFS (y : MethodName) (cb : ByteArray) (mL : Nat) (ret : Option FieldType) (n : Nat) : Prop := Cond.static y ∈ TBg ∧ Cond.initialized y.cls ∈ TBg ∧ Cond.code y cb mL ret ∈ TBg ∧ notMH y n
def CFI (y : MethodName) (cb : ByteArray) (mL : Nat) (n : Nat) : Prop := Cond.instanceMethod y ∈ TBg ∧ Cond.initialized y.cls ∈ TBg ∧ Cond.code y cb mL none ∈ TBg ∧ y.name = "<init>" ∧ notMH y n
theorem tb_good {w : Cond} (h : w ∈ TBg) : w ∈ TBg ∧ ((w.onTables && w.keeps) = true ∨ ∃ ty, w = .arrayClass ty) := ⟨h, good_of_word (List.mem_filter.mp h).2⟩
theorem tb_goodIn {w : Cond} (h : w ∈ TBg) : GoodIn TBg (w :: TBg) := by
  intro v hv
  rcases List.mem_cons.mp hv with rfl | hv
  · exact tb_good h
  · exact tb_good hv
section KC
variable {p : Program} {l : Launch} {e : Env} {R : Room} {s : State} {m : MethodId} {args : Array Value} {below : List Frame} {meth : Method} {c : Code} {H : Heap} {locs : List Loc} {cells slots : Nat} {Q : State → Prop}
variable {cc : ByteArray} {pc nL : Nat} {ls : Array Slot} {rest : List Value} {A : Nat → Prop} {E : EV} {S : pS} {own : String} {a k j : Nat} {C : String} {T : u_T} {N : Nat} {ty : Nat → FieldType} {ref host : String} {index : Nat}
variable {y : MethodName} {cb : ByteArray} {mL n : Nat} {ret : Option FieldType} {rm : Room} {QQ : (Nat → Prop) → Array Value → State → Outcome → State → Prop} {As : List Value} {b : Nat}
theorem kp_pw (F : FX p s m args meth c cc nL own E A) (hW : WD E A s S H locs) {U : State} (hU : U.heap = H) (hWm : s.WarmedH U.vm) : PW E S H.size U := by
  obtain ⟨hx, hb, hml, hown, hts, hK, hN, hO, hE, hA, -⟩ := F
  have hfr := hW.free hA
  obtain ⟨hP, hD, hS⟩ := hW
  refine ⟨by rw [hU], by rw [hU]; exact hP, hD.weaken (fun _ _ _ _ => trivial), va_K.moved hWm.alike hK, hN.warm hWm, va_AO.moved hWm.alike hO, ?_, ?_⟩
  · rw [hU]; exact va_Z.moved hWm.alike ((hE.1.kept (H1 := H) hS.2.1).narrow hfr)
  · rw [hU]; exact va_T.moved hWm.alike ((hE.2.kept (H1 := H) hS.2.1).narrow hfr)
theorem kp_recv (F : FX p s m args meth c cc nL own E A) (hW : WD E A s S H locs) (ho : S.ok b k) (hc : CB k C T N ty) : ∃ cell : Cell, H[b]? = some cell ∧ cell.vm.isStatics = false ∧ s.vm.findClass C = some cell.cls := by
  obtain ⟨hx, hb, hml, hown, hts, hK, -⟩ := F
  obtain ⟨h7, hcl, -⟩ := hc
  obtain ⟨q, hq⟩ := pool_get E ho.1
  rw [pf_obj E ho.2 h7] at hq
  exact va_recv hK hW.1 hcl hq
theorem kp_runV (F : FX p s m args meth c cc nL own E A) (hW : WD E A s S H locs) (hM : CT l E y cb mL ret rm QQ (.ref b :: As) S) (ho : S.ok b k) (hc : CB k C T N ty) (hyc : y.cls = C) (hf : CFV y cb mL ret n) (hlink : Cond.methodLink own index y ∈ TBg) (hn : As.length = n) (hls : ls.size = nL) (hR : rm.frames + 1 ≤ R.frames ∧ 8 + (mL + 11) + rm.locals ≤ R.locals) (hrest : (rest.map fun v => v.category).sum ≤ 8) (hdg : decode cc pc = .ok (.invokevirtual index, 3)) (hfit : cells + rm.cells ≤ R.cells ∧ slots + rm.slots ≤ R.slots) :
    va_Run p l e R s m args below meth c H locs cells slots rm.cells rm.slots (F0 m pc ls (As.reverse ++ .ref b :: rest)) rest (QQ (va_A (pool E S) H.size) (Value.ref b :: As).toArray) (va_A (pool E S) H.size) := by
  have hrecv := kp_recv F hW ho hc
  have hpw := fun U hU hWm => kp_pw (U := U) F hW hU hWm
  obtain ⟨hx, hb, hml, hown, hts, hK, hN, hO, hE, hA, -⟩ := F
  obtain ⟨f1, f2, f3, f4, f5⟩ := hf
  subst hyc
  have hG : GoodIn TBg (wsV own index y.cls y (.code y cb mL ret :: TBg)) := by
    intro w hw
    unfold wsV at hw
    rcases List.mem_append.mp hw with hw | hw
    · simp only [List.mem_cons, List.not_mem_nil, or_false] at hw
      rcases hw with rfl | rfl | rfl | rfl
      · exact tb_good hlink
      · exact tb_good f1
      · exact tb_good f2
      · exact tb_good f3
    · exact tb_goodIn f4 w hw
  exact va_runV ⟨hx, hb, hml, hown, hts⟩ (hM H.size) (cwV n hts hG rfl rfl rfl ⟨rfl, f5⟩ hR) ⟨pw_blind E S H.size _, hrecv, fun U hU hWm => ⟨rfl, hpw U hU hWm⟩⟩ rfl hn hls rfl (lv_room hrest) hdg hfit
theorem kp_runVN (F : FX p s m args meth c cc nL own E A) (hW : WD E A s S H locs) (hM : CT l E y cb mL ret rm QQ (.ref b :: As) S) (ho : S.ok b k) (hc : CB k C T N ty) (hyc : y.cls = C) (hf : CFV y cb mL ret n) (hlink : Cond.methodLinkNest own index y host ∈ lw_tbl) (hn : As.length = n) (hls : ls.size = nL) (hR : rm.frames + 1 ≤ R.frames ∧ 8 + (mL + 11) + rm.locals ≤ R.locals) (hrest : (rest.map fun v => v.category).sum ≤ 8) (hdg : decode cc pc = .ok (.invokevirtual index, 3)) (hfit : cells + rm.cells ≤ R.cells ∧ slots + rm.slots ≤ R.slots) :
    va_Run p l e R s m args below meth c H locs cells slots rm.cells rm.slots (F0 m pc ls (As.reverse ++ .ref b :: rest)) rest (QQ (va_A (pool E S) H.size) (Value.ref b :: As).toArray) (va_A (pool E S) H.size) := by
  have hrecv := kp_recv F hW ho hc
  have hpw := fun U hU hWm => kp_pw (U := U) F hW hU hWm
  obtain ⟨hx, hb, hml, hown, hts, hK, hN, hO, hE, hA, -⟩ := F
  obtain ⟨f1, f2, f3, f4, f5⟩ := hf
  subst hyc
  exact va_runVN ⟨hx, hb, hml, hown, hts⟩ (hM H.size) ⟨va_cnB n hts (tb_goodIn f4) rfl rfl rfl (hN _ (List.mem_filter.mpr ⟨hlink, rfl⟩)) (hts _ f3) f5 hR, hts _ f1, hts _ f2⟩ ⟨pw_blind E S H.size _, hrecv, fun U hU hWm => ⟨rfl, hpw U hU hWm⟩⟩ rfl hn hls rfl (lv_room hrest) hdg hfit
theorem kp_runS (F : FX p s m args meth c cc nL own E A) (hW : WD E A s S H locs) (hM : CT l E y cb mL ret rm QQ As S) (hf : CFS y cb mL ret n) (hlink : Cond.methodLink own index y ∈ TBg) (hn : As.length = n) (hls : ls.size = nL) (hR : rm.frames + 1 ≤ R.frames ∧ 8 + (mL + 11) + rm.locals ≤ R.locals) (hrest : (rest.map fun v => v.category).sum ≤ 8) (hdg : decode cc pc = .ok (.invokestatic index, 3)) (hfit : cells + rm.cells ≤ R.cells ∧ slots + rm.slots ≤ R.slots) :
    va_Run p l e R s m args below meth c H locs cells slots rm.cells rm.slots (F0 m pc ls (As.reverse ++ rest)) rest (QQ (va_A (pool E S) H.size) As.toArray) (va_A (pool E S) H.size) := by
  have hpw := fun U hU hWm => kp_pw (U := U) F hW hU hWm
  obtain ⟨hx, hb, hml, hown, hts, hK, hN, hO, hE, hA, -⟩ := F
  obtain ⟨f1, f3, f4, f5⟩ := hf
  have hG : GoodIn TBg (va_wsS own index y (.code y cb mL ret :: TBg)) := by
    intro w hw
    unfold va_wsS at hw
    rcases List.mem_append.mp hw with hw | hw
    · simp only [List.mem_cons, List.not_mem_nil, or_false] at hw
      rcases hw with rfl | rfl | rfl
      · exact tb_good hlink
      · exact tb_good f1
      · exact tb_good f3
    · exact tb_goodIn f4 w hw
  exact va_runS ⟨hx, hb, hml, hown, hts⟩ (hM H.size) (va_cwS n hts hG rfl rfl rfl f5 hR) ⟨pw_blind E S H.size _, fun U hU hWm => ⟨rfl, hpw U hU hWm⟩⟩ rfl hn hls rfl (lv_room hrest) hdg hfit
theorem kp_runI (F : FX p s m args meth c cc nL own E A) (hW : WD E A s S H locs) (hM : CT l E y cb mL none rm QQ (.ref b :: As) S) (hf : CFI y cb mL n) (hlink : Cond.methodLink own index y ∈ TBg) (hn : As.length = n) (hls : ls.size = nL) (hR : rm.frames + 1 ≤ R.frames ∧ 8 + (mL + 11) + rm.locals ≤ R.locals) (hrest : (rest.map fun v => v.category).sum ≤ 8) (hdg : decode cc pc = .ok (.invokespecial index, 3)) (hfit : cells + rm.cells ≤ R.cells ∧ slots + rm.slots ≤ R.slots) :
    va_Run p l e R s m args below meth c H locs cells slots rm.cells rm.slots (F0 m pc ls (As.reverse ++ .ref b :: rest)) rest (QQ (va_A (pool E S) H.size) (Value.ref b :: As).toArray) (va_A (pool E S) H.size) := by
  have hpw := fun U hU hWm => kp_pw (U := U) F hW hU hWm
  obtain ⟨hx, hb, hml, hown, hts, hK, hN, hO, hE, hA, -⟩ := F
  obtain ⟨f1, f3, f4, f6, f5⟩ := hf
  exact va_runI ⟨hx, hb, hml, hown, hts⟩ (hM H.size) (cwI n hts (tb_goodIn f4) rfl rfl rfl (hts _ f3) (hts _ hlink) (hts _ f1) f6 f5 hR) ⟨pw_blind E S H.size _, fun U hU hWm => ⟨rfl, hpw U hU hWm⟩⟩ rfl hn hls rfl (lv_room hrest) hdg hfit
theorem kp_runIN (F : FX p s m args meth c cc nL own E A) (hW : WD E A s S H locs) (hM : CT l E y cb mL none rm QQ (.ref b :: As) S) (hf : CFI y cb mL n) (hlink : Cond.methodLinkNest own index y host ∈ lw_tbl) (hn : As.length = n) (hls : ls.size = nL) (hR : rm.frames + 1 ≤ R.frames ∧ 8 + (mL + 11) + rm.locals ≤ R.locals) (hrest : (rest.map fun v => v.category).sum ≤ 8) (hdg : decode cc pc = .ok (.invokespecial index, 3)) (hfit : cells + rm.cells ≤ R.cells ∧ slots + rm.slots ≤ R.slots) :
    va_Run p l e R s m args below meth c H locs cells slots rm.cells rm.slots (F0 m pc ls (As.reverse ++ .ref b :: rest)) rest (QQ (va_A (pool E S) H.size) (Value.ref b :: As).toArray) (va_A (pool E S) H.size) := by
  have hpw := fun U hU hWm => kp_pw (U := U) F hW hU hWm
  obtain ⟨hx, hb, hml, hown, hts, hK, hN, hO, hE, hA, -⟩ := F
  obtain ⟨f1, f3, f4, f6, f5⟩ := hf
  exact va_runIN ⟨hx, hb, hml, hown, hts⟩ (hM H.size) ⟨va_cnB n hts (tb_goodIn f4) rfl rfl rfl (hN _ (List.mem_filter.mpr ⟨hlink, rfl⟩)) (hts _ f3) f5 hR, f6, hts _ f1⟩ ⟨pw_blind E S H.size _, fun U hU hWm => ⟨rfl, hpw U hU hWm⟩⟩ rfl hn hls rfl (lv_room hrest) hdg hfit
variable {st0 : List Value} {av : Array Value}
theorem kp_calli (F : FX p s m args meth c cc nL own E A) (hW : WD E A s S H locs) {post : Int32 → pS → Prop} {mc ms c1 s1 : Nat} (hr : va_Run p l e R s m args below meth c H locs cells slots mc ms (F0 m pc ls st0) rest (QI E post (va_A (pool E S) H.size) av) (va_A (pool E S) H.size)) (hc1 : cells + mc ≤ c1) (hs1 : slots + ms ≤ s1)
    (kk : ∀ (r : Int32) (S1 : pS) (H1 : Heap) (locs1 : List Loc), post r S1 → WD E A s S1 H1 locs1 → W p l e R s m args below meth c H1 locs1 c1 s1 Q (F0 m (pc + 3) ls (.int r :: rest))) : W p l e R s m args below meth c H locs cells slots Q (F0 m pc ls st0) := by
  have hfr := hW.free F.2.2.2.2.2.2.2.2.2.1
  refine va_calli hr hW.2.2 (fun q _ h => hfr q h) hfr (fun r u t H1 locs1 ht hvm hw hB hz1 hk1 hS => ?_)
  obtain ⟨hP1, hD1⟩ := hB
  rw [ht] at hP1
  exact W.widen hc1 hs1 (kk r u H1 locs1 hw ⟨hP1, hD1.weaken (fun _ _ _ h => hfr _ h), hS⟩)
theorem kp_callv (F : FX p s m args meth c cc nL own E A) (hW : WD E A s S H locs) {post : pS → Prop} {mc ms c1 s1 : Nat} (hr : va_Run p l e R s m args below meth c H locs cells slots mc ms (F0 m pc ls st0) rest (QV E post (va_A (pool E S) H.size) av) (va_A (pool E S) H.size)) (hc1 : cells + mc ≤ c1) (hs1 : slots + ms ≤ s1)
    (kk : ∀ (S1 : pS) (H1 : Heap) (locs1 : List Loc), post S1 → WD E A s S1 H1 locs1 → W p l e R s m args below meth c H1 locs1 c1 s1 Q (F0 m (pc + 3) ls rest)) : W p l e R s m args below meth c H locs cells slots Q (F0 m pc ls st0) := by
  have hfr := hW.free F.2.2.2.2.2.2.2.2.2.1
  refine va_callv hr hW.2.2 (fun q _ h => hfr q h) hfr (fun u t H1 locs1 ht hvm hw hB hz1 hk1 hS => ?_)
  obtain ⟨hP1, hD1⟩ := hB
  rw [ht] at hP1
  exact W.widen hc1 hs1 (kk u H1 locs1 hw ⟨hP1, hD1.weaken (fun _ _ _ h => hfr _ h), hS⟩)
theorem kp_callr (F : FX p s m args meth c cc nL own E A) (hW : WD E A s S H locs) {post : Nat → pS → Prop} {mc ms c1 s1 : Nat} (hr : va_Run p l e R s m args below meth c H locs cells slots mc ms (F0 m pc ls st0) rest (QR E post (va_A (pool E S) H.size) av) (va_A (pool E S) H.size)) (hc1 : cells + mc ≤ c1) (hs1 : slots + ms ≤ s1)
    (kk : ∀ (r : Nat) (S1 : pS) (H1 : Heap) (locs1 : List Loc), post r S1 → WD E A s S1 H1 locs1 → W p l e R s m args below meth c H1 locs1 c1 s1 Q (F0 m (pc + 3) ls (.ref r :: rest))) : W p l e R s m args below meth c H locs cells slots Q (F0 m pc ls st0) := by
  have hfr := hW.free F.2.2.2.2.2.2.2.2.2.1
  refine va_callq hr hW.2.2 (fun q _ h => hfr q h) hfr (fun r u t H1 locs1 ht hvm hw hB hz1 hk1 hS => ?_)
  obtain ⟨hP1, hD1⟩ := hB
  rw [ht] at hP1
  obtain ⟨q, rfl, hw⟩ := hw
  exact W.widen hc1 hs1 (kk q u H1 locs1 hw ⟨hP1, hD1.weaken (fun _ _ _ h => hfr _ h), hS⟩)
-- returns
variable {mc ms : Nat}
theorem kp_reti (F : FX p s m args meth c cc nL own E A) (hW : WD E A s S H locs) (hr : meth.sig.returnType = some .int) {post : Int32 → pS → Prop} {v : Int32} (hp : post v S) (hc : cells ≤ mc) (hs : slots ≤ ms) (hdg : decode cc pc = .ok (.ireturn, 1)) : W p l e R s m args below meth c H locs cells slots (MQ below (QI E post A) args s mc ms A) (F0 m pc ls [.int v]) := by
  obtain ⟨hx, hb, -, -, -, -, -, -, -, -, hlk⟩ := F
  obtain ⟨hP, hD, hS⟩ := hW
  exact W.widen hc hs (W.iret hx hb hr (fun t ht hWm => ⟨⟨v, S, rfl, hp, by rw [ht]; exact hP, hD⟩, hS.F ht⟩) hS.2.2 hdg hlk)
theorem kp_retz (F : FX p s m args meth c cc nL own E A) (hW : WD E A s S H locs) (hr : meth.sig.returnType = some .boolean) {post : Int32 → pS → Prop} {v : Int32} (hv : v = 0 ∨ v = 1) (hp : post v S) (hc : cells ≤ mc) (hs : slots ≤ ms) (hdg : decode cc pc = .ok (.ireturn, 1)) : W p l e R s m args below meth c H locs cells slots (MQ below (QI E post A) args s mc ms A) (F0 m pc ls [.int v]) := by
  obtain ⟨hx, hb, -, -, -, -, -, -, -, -, hlk⟩ := F
  obtain ⟨hP, hD, hS⟩ := hW
  exact W.widen hc hs (W.zret hx hb hr (by rcases hv with rfl | rfl <;> rfl) (fun t ht hWm => ⟨⟨v, S, rfl, hp, by rw [ht]; exact hP, hD⟩, hS.F ht⟩) hS.2.2 hdg hlk)
theorem kp_retv (F : FX p s m args meth c cc nL own E A) (hW : WD E A s S H locs) (hr : meth.sig.returnType = none) {post : pS → Prop} (hp : post S) (hc : cells ≤ mc) (hs : slots ≤ ms) (hdg : decode cc pc = .ok (.return_, 1)) : W p l e R s m args below meth c H locs cells slots (MQ below (QV E post A) args s mc ms A) (F0 m pc ls []) := by
  obtain ⟨hx, hb, -, -, -, -, -, -, -, -, hlk⟩ := F
  obtain ⟨hP, hD, hS⟩ := hW
  exact W.widen hc hs (W.vret hx hb hr (fun t ht hWm => ⟨⟨S, rfl, hp, by rw [ht]; exact hP, hD⟩, hS.F ht⟩) hS.2.2 hdg hlk)
theorem kp_retr (F : FX p s m args meth c cc nL own E A) (hW : WD E A s S H locs) {rt : FieldType} (hr : meth.sig.returnType = some rt) (hrt : isRefTy rt) {post : Nat → pS → Prop} {v : Nat} (hp : post v S) (hc : cells ≤ mc) (hs : slots ≤ ms) (hdg : decode cc pc = .ok (.areturn, 1)) : W p l e R s m args below meth c H locs cells slots (MQ below (QR E post A) args s mc ms A) (F0 m pc ls [.ref v]) := by
  obtain ⟨hx, hb, -, -, -, -, -, -, -, -, hlk⟩ := F
  obtain ⟨hP, hD, hS⟩ := hW
  exact W.widen hc hs (W.aret hx hb hr hrt (Or.inr ⟨v, rfl⟩) (fun t ht hWm => ⟨⟨some v, S, rfl, ⟨v, rfl, hp⟩, by rw [ht]; exact hP, hD⟩, hS.F ht⟩) hS.2.2 hdg hlk)
-- the rest
theorem kp_cast (F : FX p s m args meth c cc nL own E A) (hW : WD E A s S H locs) (ho : S.ok a k) (hc : CB k C T N ty) (hcl : Cond.classLink own index C ∈ TBg) (hdg : decode cc pc = .ok (.checkcast index, 3))
    (kk : W p l e R s m args below meth c H locs cells slots Q (F0 m (pc + 3) ls (.ref a :: rest))) : W p l e R s m args below meth c H locs cells slots Q (F0 m pc ls (.ref a :: rest)) := by
  have hrecv := kp_recv F hW ho hc
  obtain ⟨hx, hb, hml, hown, hts, hK, hN, hO, hE, hA, -⟩ := F
  exact va_castE hx hb hown (hts _ hcl) hrecv hdg kk
theorem kp_gets (F : FX p s m args meth c cc nL own E A) (hW : WD E A s S H locs) (hlink : Cond.fieldLink own index "java/util/ArrayList" "DEFAULTCAPACITY_EMPTY_ELEMENTDATA" "[Ljava/lang/Object;" ∈ TBg) (hdg : decode cc pc = .ok (.getstatic index, 3))
    (kk : W p l e R s m args below meth c H locs cells slots Q (F0 m (pc + 3) ls (.ref E.e0 :: rest))) : W p l e R s m args below meth c H locs cells slots Q (F0 m pc ls rest) := by
  obtain ⟨hx, hb, hml, hown, hts, hK, hN, hO, hE, hA, -⟩ := F
  exact va_gets hx hb hE.1 hW.2.2 hown (hts _ hlink) (fun _ h => h) hdg kk
theorem kp_oinit (F : FX p s m args meth c cc nL own E A) (hls : ls.size = nL) (hlink : Cond.methodLink own index Lib.objectInit ∈ TBg) (hinst : Cond.instanceMethod Lib.objectInit ∈ TBg) (hcode : Cond.code Lib.objectInit ⟨#[0xb1]⟩ 1 none ∈ TBg) (hdg : decode cc pc = .ok (.invokespecial index, 3)) (hfr : 1 ≤ R.frames) (hlo : (rest.map fun v => v.category).sum + 12 ≤ R.locals)
    (kk : W p l e R s m args below meth c H locs cells slots Q (F0 m (pc + 3) ls rest)) : W p l e R s m args below meth c H locs cells slots Q (F0 m pc ls (.ref a :: rest)) := by
  obtain ⟨hx, hb, hml, hown, hts, hK, hN, hO, hE, hA, -⟩ := F
  exact W.objInit hx hb hown (hts _ hlink) (hts _ hinst) (hts _ hcode) rfl (by rw [hml]; exact hls) rfl hdg hfr (by
    have : 2 * (F0 m pc ls (.ref a :: rest)).monitorRoom = 0 := rfl
    rw [this, Nat.zero_add]; exact hlo) kk
theorem kp_copy (F : FX p s m args meth c cc nL own E A) (hW : WD E A s S H locs) (hls : ls.size = nL) (hlink : Cond.methodLink own index arraycopyName ∈ TBg) (hnat : Cond.native arraycopyName ∈ TBg) (hstat : Cond.static arraycopyName ∈ TBg) (hini : Cond.initialized "java/lang/System" ∈ TBg) (ho : S.ok a 8) {sp dp n : Int32} (h1 : ¬ sp < 0) (h2 : ¬ dp < 0) (h3 : ¬ n < 0) (h4 : sp.toNatClampNeg + n.toNatClampNeg ≤ S.n a) (h5 : dp.toNatClampNeg + n.toNatClampNeg ≤ S.n a) (hob : ∀ i : Nat, i < n.toNatClampNeg → ∀ y : Nat, S.P a (sp.toNatClampNeg + i) = some y → S.ok y k) (hc : CB k C T N ty) (hca : Cond.castable C "java/lang/Object" ∈ lw_tbl)
    (hfr : 1 ≤ R.frames) (hlo : (rest.map fun v => v.category).sum + (nativeFrameWords "java/lang/System" "arraycopy" 5 + 11) ≤ R.locals) (hdg : decode cc pc = .ok (.invokestatic index, 3))
    (kk : ∀ (H1 : Heap) (locs1 : List Loc), WD E A s (S.rowP a (va_cpy (S.P a) (S.P a) sp.toNatClampNeg dp.toNatClampNeg n.toNatClampNeg)) H1 locs1 → W p l e R s m args below meth c H1 locs1 cells slots Q (F0 m (pc + 3) ls rest)) : W p l e R s m args below meth c H locs cells slots Q (F0 m pc ls (.int n :: .int dp :: .ref a :: .int sp :: .ref a :: rest)) := by
  have hrecv := fun y (hy : S.ok y k) => kp_recv F hW hy hc
  obtain ⟨hx, hb, hml, hown, hts, hK, hN, hO, hE, hA, -⟩ := F
  obtain ⟨hP, hD, hS⟩ := hW
  obtain ⟨q, hq⟩ := pool_get E ho.1
  have hq' := hq
  rw [pf_row E ho.2] at hq
  refine va_copyq (C := C) hx hb (by rw [hml]; exact hls.symm) hown (hts _ hlink) (hts _ hnat) (hts _ hstat) (hts _ hini) hK hP hD hS q q 1 1 hq hq rfl rfl h1 h2 h3 h4 h5 (fun i hi y hy => hrecv y (hob i hi y hy)) ?_ hfr hlo hdg (fun H1 locs1 g1 g2 g3 => ?_)
  · intro comp c0 e1 e2
    exact vb_asgC (hN _ (List.mem_filter.mpr ⟨hca, rfl⟩)) comp c0 e1 e2
  · rw [pool_rowP E hD ho hq'] at g1 g2
    exact kk H1 locs1 ⟨g1, g2, g3⟩
end KC
