/-! switches, stores of any element, what is new -/
theorem ok_new {S : pS} {q k n : Nat} : (S.new q k n).ok q k := ⟨List.mem_append_right _ (List.mem_singleton.mpr rfl), va_up_self _ _ _⟩
theorem ok_old {S : pS} {q k n a k2 : Nat} (f : q ∉ S.L) (h : S.ok a k2) : (S.new q k n).ok a k2 := ⟨List.mem_append_left _ h.1, by
  have hne : a ≠ q := fun e => by subst e; exact f h.1
  show va_up S.K q k a = k2
  rw [va_up_ne _ _ hne, h.2]⟩
section KT
variable {p : Program} {l : Launch} {e : Env} {R : Room} {s : State} {m : MethodId} {args : Array Value} {below : List Frame} {meth : Method} {c : Code} {H : Heap} {locs : List Loc} {cells slots : Nat} {Q : State → Prop}
variable {cc : ByteArray} {pc nL : Nat} {ls : Array Slot} {rest : List Value} {A : Nat → Prop} {E : EV} {S : pS} {own : String} {a : Nat}
theorem kp_tab (hx : p.tables.exec = Jvm.exec) (hb : c.code = cc) {dflt lo hi : Int} {offs : Array Int} {len : Nat} {x v : Int32} {off : Int} {tgt : Nat} (hdg : decode cc pc = .ok (.tableswitch dflt lo hi offs, len)) (hv : x = v) (h1 : ¬ v.toInt < lo) (h2 : ¬ hi < v.toInt) (ho : offs[(v.toInt - lo).toNat]? = some off) (ht : (pc : Int) + off = (tgt : Int))
    (k : W p l e R s m args below meth c H locs cells slots Q (F0 m tgt ls rest)) : W p l e R s m args below meth c H locs cells slots Q (F0 m pc ls (.int x :: rest)) := by
  subst hv
  exact lv_tableIn hx hb hdg h1 h2 ho ht k
theorem kp_tabD (hx : p.tables.exec = Jvm.exec) (hb : c.code = cc) {dflt lo hi : Int} {offs : Array Int} {len : Nat} {x : Int32} {tgt : Nat} (hdg : decode cc pc = .ok (.tableswitch dflt lo hi offs, len)) (h : x.toInt < lo ∨ hi < x.toInt) (ht : (pc : Int) + dflt = (tgt : Int))
    (k : W p l e R s m args below meth c H locs cells slots Q (F0 m tgt ls rest)) : W p l e R s m args below meth c H locs cells slots Q (F0 m pc ls (.int x :: rest)) := lv_tableOut hx hb hdg h ht k
theorem kp_ne {x v : Int32} (h : ¬ x = v) : x.toInt ≠ v.toInt := fun e => h (Int32.toInt_inj.mp e)
theorem kp_rastK (F : FX p s m args meth c cc nL own E A) (hW : WD E A s S H locs) (ho : S.ok a 8) {b : Nat} (hob : S.ok b 0 ∨ S.ok b 1 ∨ S.ok b 3) {i : Int32} (hin : vp_in i (S.n a)) (hdg : decode cc pc = .ok (.aastore, 1))
    (kk : ∀ (H1 : Heap) (locs1 : List Loc), WD E A s (S.setP a i.toNatClampNeg (some b)) H1 locs1 → W p l e R s m args below meth c H1 locs1 cells slots Q (F0 m (pc + 1) ls rest)) : W p l e R s m args below meth c H locs cells slots Q (F0 m pc ls (.ref b :: .int i :: .ref a :: rest)) := by
  rcases hob with h | h | h
  · exact kp_rast F hW ho h cbX0 tw_713 hin hdg kk
  · exact kp_rast F hW ho h cbX1 tw_710 hin hdg kk
  · exact kp_rast F hW ho h cbX3 tw_708 hin hdg kk
end KT
theorem kp_out_0_5 {x : Int32} (h0 : ¬ x = 0) (h1 : ¬ x = 1) (h2 : ¬ x = 2) (h3 : ¬ x = 3) (h4 : ¬ x = 4) (h5 : ¬ x = 5) : x.toInt < 0 ∨ (5 : Int) < x.toInt := by
  have e0 : x.toInt ≠ 0 := kp_ne h0
  have e1 : x.toInt ≠ 1 := kp_ne h1
  have e2 : x.toInt ≠ 2 := kp_ne h2
  have e3 : x.toInt ≠ 3 := kp_ne h3
  have e4 : x.toInt ≠ 4 := kp_ne h4
  have e5 : x.toInt ≠ 5 := kp_ne h5
  omega
theorem kp_out_1_3 {x : Int32} (h1 : ¬ x = 1) (h2 : ¬ x = 2) (h3 : ¬ x = 3) : x.toInt < 1 ∨ (3 : Int) < x.toInt := by
  have e1 : x.toInt ≠ 1 := kp_ne h1
  have e2 : x.toInt ≠ 2 := kp_ne h2
  have e3 : x.toInt ≠ 3 := kp_ne h3
  omega
theorem kp_out_0_3 {x : Int32} (h0 : ¬ x = 0) (h1 : ¬ x = 1) (h2 : ¬ x = 2) (h3 : ¬ x = 3) : x.toInt < 0 ∨ (3 : Int) < x.toInt := by
  have e0 : x.toInt ≠ 0 := kp_ne h0
  have e1 : x.toInt ≠ 1 := kp_ne h1
  have e2 : x.toInt ≠ 2 := kp_ne h2
  have e3 : x.toInt ≠ 3 := kp_ne h3
  omega
theorem kp_out_0_22 {x : Int32} (h0 : ¬ x = 0) (h1 : ¬ x = 1) (h2 : ¬ x = 2) (h3 : ¬ x = 3) (h4 : ¬ x = 4) (h5 : ¬ x = 5) (h6 : ¬ x = 6) (h7 : ¬ x = 7) (h8 : ¬ x = 8) (h9 : ¬ x = 9) (h10 : ¬ x = 10) (h11 : ¬ x = 11) (h12 : ¬ x = 12) (h13 : ¬ x = 13) (h14 : ¬ x = 14) (h15 : ¬ x = 15) (h16 : ¬ x = 16) (h17 : ¬ x = 17) (h18 : ¬ x = 18) (h19 : ¬ x = 19) (h20 : ¬ x = 20) (h21 : ¬ x = 21) (h22 : ¬ x = 22) : x.toInt < 0 ∨ (22 : Int) < x.toInt := by
  have e0 : x.toInt ≠ 0 := kp_ne h0
  have e1 : x.toInt ≠ 1 := kp_ne h1
  have e2 : x.toInt ≠ 2 := kp_ne h2
  have e3 : x.toInt ≠ 3 := kp_ne h3
  have e4 : x.toInt ≠ 4 := kp_ne h4
  have e5 : x.toInt ≠ 5 := kp_ne h5
  have e6 : x.toInt ≠ 6 := kp_ne h6
  have e7 : x.toInt ≠ 7 := kp_ne h7
  have e8 : x.toInt ≠ 8 := kp_ne h8
  have e9 : x.toInt ≠ 9 := kp_ne h9
  have e10 : x.toInt ≠ 10 := kp_ne h10
  have e11 : x.toInt ≠ 11 := kp_ne h11
  have e12 : x.toInt ≠ 12 := kp_ne h12
  have e13 : x.toInt ≠ 13 := kp_ne h13
  have e14 : x.toInt ≠ 14 := kp_ne h14
  have e15 : x.toInt ≠ 15 := kp_ne h15
  have e16 : x.toInt ≠ 16 := kp_ne h16
  have e17 : x.toInt ≠ 17 := kp_ne h17
  have e18 : x.toInt ≠ 18 := kp_ne h18
  have e19 : x.toInt ≠ 19 := kp_ne h19
  have e20 : x.toInt ≠ 20 := kp_ne h20
  have e21 : x.toInt ≠ 21 := kp_ne h21
  have e22 : x.toInt ≠ 22 := kp_ne h22
  omega
