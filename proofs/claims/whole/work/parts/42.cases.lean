/-! THE LAW, case by case: the call on the class, the call on the reference, the answers alike -/
section LAW
variable {p : Program} {l : Launch} {e : Env} {s : State} {m : MethodId} {below : List Frame} {meth : Method} {c : Code} {H : Heap} {locs : List Loc} {cells slots : Nat} {Q : State → Prop} {ls : Array Slot}
variable {E : EV} {SX SM : pS} {b L i o R : Nat} {xs : Nat → Int32} {cx la bm : Nat → Nat} {A : aS}
/-- what stands at the law's loop -/
def LK (E : EV) (s : State) (cx la bm : Nat → Nat) (o : Nat) (A : aS) (R : Nat) (SX SM : pS) (H : Heap) (locs : List Loc) : Prop := D2 E (fun q => s.heap.size ≤ q) s SX SM H locs ∧ RepX E.e0 cx la A SX ∧ ShM o bm SM ∧ view o bm SM = toV A ∧ J A R
theorem vin_i {k : Nat} (hi : i + 6 ≤ L) (hL : L ≤ 3072) (hk : k < 6) {v : Int32} (hv : v = nI k) : vp_in (nI i + v) L := by
  subst hv
  rw [nI_add]
  exact vp_in_nI (by omega) (by omega)
set_option maxHeartbeats 4000000 in
set_option maxRecDepth 100000 in
theorem law_c0 (F : FX p s m #[Value.ref b] meth c code 4 R_law E (fun q => s.heap.size ≤ q)) (hX : va_X b L xs s s.heap) (hbl : b < s.heap.size) (hL : L ≤ 3072) (hi : i + 6 ≤ L) (hR : R < 1000000000) (hl : lv_has ls 4 [(0, .ref b), (1, .ref (cx 32)), (2, .ref o), (3, .int (nI i))]) (hc : cells + 4 ≤ room_1.cells) (hs : slots + 21 ≤ room_1.slots) (hK : LK E s cx la bm o A R SX SM H locs)
    (kk : ∀ A' la' SX' SM' H1 locs1, LK E s cx la' bm o A' (R + 1001000) SX' SM' H1 locs1 → W p l e room_1 s m #[Value.ref b] below meth c H1 locs1 (cells + 4) (slots + 21) Q (F0 m 679 ls [])) : W p l e room_1 s m #[Value.ref b] below meth c H locs cells slots Q (F0 m 140 ls []) := by
  obtain ⟨hD, hrx, hsm, hvw, hJ⟩ := hK
  obtain ⟨r, A', hJ', hX', hM'⟩ := du_append (e0 := E.e0) (c := cx) (x := (xs (nI i + 1).toNatClampNeg)) hJ hR
  have hx := F.1
  have hb := F.2.1
  have hbA : ¬ (fun q => s.heap.size ≤ q) b := fun z => Nat.not_le.mpr hbl z
  have hS := hD.1.2.2
  refine lv_aload_n hx hb dL_law_140 rfl (lv_at hl 1 rfl) ?_
  refine lv_aload_n hx hb dL_law_141 rfl (lv_at hl 0 rfl) ?_
  refine lv_iload_n hx hb dL_law_142 rfl (lv_at hl 3 rfl) ?_
  refine lv_iconst (v := 1) hx hb dL_law_143 (by decide) ?_
  refine lv_iadd hx hb dL_law_144 ?_
  refine va_sld hx hb hX hbl hbA hS (vin_i (k := 1) hi hL (by decide) rfl) dL_law_145 ?_
  refine k2_calli (c1 := cells + 4) (s1 := slots + 21) F hD (kp_runV (As := [.int (xs (nI i + 1).toNatClampNeg)]) (rest := []) F hD.1 (ct_X4_appendKey l E _ _ _ (hX' la SX (fun r1 S1 => r1 = r ∧ ∃ la', RepX E.e0 cx la' A' S1) hrx (fun la' S' z => ⟨rfl, la', z⟩))) (hrx.ok 32) cbX4 rfl cf_X4_appendKey tw_219 rfl hl.1 ⟨Nat.le_of_ble_eq_true rfl, Nat.le_of_ble_eq_true rfl⟩ (Nat.le_of_ble_eq_true rfl) dL_law_146 ⟨Nat.le_trans (Nat.add_le_add_left (show rm_X4_appendKey.cells ≤ 4 from Nat.le_of_ble_eq_true rfl) _) hc, Nat.le_trans (Nat.add_le_add_left (show rm_X4_appendKey.slots ≤ 21 from Nat.le_of_ble_eq_true rfl) _) hs⟩) (Nat.add_le_add_left (show rm_X4_appendKey.cells ≤ 4 from Nat.le_of_ble_eq_true rfl) _) (Nat.add_le_add_left (show rm_X4_appendKey.slots ≤ 21 from Nat.le_of_ble_eq_true rfl) _) (fun r1 S1 H locs hp hD => ?_)
  obtain ⟨e1, la1, hrx1⟩ := hp
  have hS := hD.1.2.2
  refine lv_aload_n hx hb dL_law_149 rfl (lv_at hl 2 rfl) ?_
  refine lv_aload_n hx hb dL_law_150 rfl (lv_at hl 0 rfl) ?_
  refine lv_iload_n hx hb dL_law_151 rfl (lv_at hl 3 rfl) ?_
  refine lv_iconst (v := 1) hx hb dL_law_152 (by decide) ?_
  refine lv_iadd hx hb dL_law_153 ?_
  refine va_sld hx hb hX hbl hbA hS (vin_i (k := 1) hi hL (by decide) rfl) dL_law_154 ?_
  refine k2_calli (c1 := cells + 4) (s1 := slots + 21) F hD.symm (kp_runV (As := [.int (xs (nI i + 1).toNatClampNeg)]) (rest := [.int r1]) F hD.2.1 (ct_X5_appendKey l E _ _ _ (hM' o bm SM (fun r2 S2 => r2 = r ∧ ShM o bm S2 ∧ view o bm S2 = toV A') hsm hvw (fun S' z1 z2 => ⟨rfl, z1, z2⟩))) hsm.1 cbX5 rfl cf_X5_appendKey tw_561 rfl hl.1 ⟨Nat.le_of_ble_eq_true rfl, Nat.le_of_ble_eq_true rfl⟩ (Nat.le_of_ble_eq_true rfl) dL_law_155 ⟨hc, hs⟩) (Nat.le_refl _) (Nat.le_refl _) (fun r2 S2 H locs hp hD => ?_)
  obtain ⟨e2, hsm2, hvw2⟩ := hp
  refine lv_icmp_eq (tgt := 679) hx hb dL_law_158 (by decide) (fun _ => ?_) (fun z => absurd (e1.trans e2.symm) z)
  exact kk A' la1 S1 S2 H locs ⟨hD.symm, hrx1, hsm2, hvw2, hJ'⟩
set_option maxHeartbeats 4000000 in
set_option maxRecDepth 100000 in
theorem law_c1 (F : FX p s m #[Value.ref b] meth c code 4 R_law E (fun q => s.heap.size ≤ q)) (hX : va_X b L xs s s.heap) (hbl : b < s.heap.size) (hL : L ≤ 3072) (hi : i + 6 ≤ L) (hR : R < 1000000000) (hl : lv_has ls 4 [(0, .ref b), (1, .ref (cx 32)), (2, .ref o), (3, .int (nI i))]) (hc : cells + 4 ≤ room_1.cells) (hs : slots + 21 ≤ room_1.slots) (hK : LK E s cx la bm o A R SX SM H locs)
    (kk : ∀ A' la' SX' SM' H1 locs1, LK E s cx la' bm o A' (R + 1001000) SX' SM' H1 locs1 → W p l e room_1 s m #[Value.ref b] below meth c H1 locs1 (cells + 4) (slots + 21) Q (F0 m 679 ls [])) : W p l e room_1 s m #[Value.ref b] below meth c H locs cells slots Q (F0 m 163 ls []) := by
  obtain ⟨hD, hrx, hsm, hvw, hJ⟩ := hK
  obtain ⟨r, A', hJ', hX', hM'⟩ := du_clear (e0 := E.e0) (c := cx)  hJ hR
  have hx := F.1
  have hb := F.2.1
  have hbA : ¬ (fun q => s.heap.size ≤ q) b := fun z => Nat.not_le.mpr hbl z
  have hS := hD.1.2.2
  refine lv_aload_n hx hb dL_law_163 rfl (lv_at hl 1 rfl) ?_
  refine k2_calli (c1 := cells + 4) (s1 := slots + 21) F hD (kp_runV (As := []) (rest := []) F hD.1 (ct_X4_clearKeys l E _ _ (hX' la SX (fun r1 S1 => r1 = r ∧ ∃ la', RepX E.e0 cx la' A' S1) hrx (fun la' S' z => ⟨rfl, la', z⟩))) (hrx.ok 32) cbX4 rfl cf_X4_clearKeys tw_238 rfl hl.1 ⟨Nat.le_of_ble_eq_true rfl, Nat.le_of_ble_eq_true rfl⟩ (Nat.le_of_ble_eq_true rfl) dL_law_164 ⟨Nat.le_trans (Nat.add_le_add_left (show rm_X4_clearKeys.cells ≤ 4 from Nat.le_of_ble_eq_true rfl) _) hc, Nat.le_trans (Nat.add_le_add_left (show rm_X4_clearKeys.slots ≤ 21 from Nat.le_of_ble_eq_true rfl) _) hs⟩) (Nat.add_le_add_left (show rm_X4_clearKeys.cells ≤ 4 from Nat.le_of_ble_eq_true rfl) _) (Nat.add_le_add_left (show rm_X4_clearKeys.slots ≤ 21 from Nat.le_of_ble_eq_true rfl) _) (fun r1 S1 H locs hp hD => ?_)
  obtain ⟨e1, la1, hrx1⟩ := hp
  have hS := hD.1.2.2
  refine lv_aload_n hx hb dL_law_167 rfl (lv_at hl 2 rfl) ?_
  refine k2_calli (c1 := cells + 4) (s1 := slots + 21) F hD.symm (kp_runV (As := []) (rest := [.int r1]) F hD.2.1 (ct_X5_clearKeys l E _ _ (hM' o bm SM (fun r2 S2 => r2 = r ∧ ShM o bm S2 ∧ view o bm S2 = toV A') hsm hvw (fun S' z1 z2 => ⟨rfl, z1, z2⟩))) hsm.1 cbX5 rfl cf_X5_clearKeys tw_568 rfl hl.1 ⟨Nat.le_of_ble_eq_true rfl, Nat.le_of_ble_eq_true rfl⟩ (Nat.le_of_ble_eq_true rfl) dL_law_168 ⟨hc, hs⟩) (Nat.le_refl _) (Nat.le_refl _) (fun r2 S2 H locs hp hD => ?_)
  obtain ⟨e2, hsm2, hvw2⟩ := hp
  refine lv_icmp_eq (tgt := 679) hx hb dL_law_171 (by decide) (fun _ => ?_) (fun z => absurd (e1.trans e2.symm) z)
  exact kk A' la1 S1 S2 H locs ⟨hD.symm, hrx1, hsm2, hvw2, hJ'⟩
set_option maxHeartbeats 4000000 in
set_option maxRecDepth 100000 in
theorem law_c2 (F : FX p s m #[Value.ref b] meth c code 4 R_law E (fun q => s.heap.size ≤ q)) (hX : va_X b L xs s s.heap) (hbl : b < s.heap.size) (hL : L ≤ 3072) (hi : i + 6 ≤ L) (hR : R < 1000000000) (hl : lv_has ls 4 [(0, .ref b), (1, .ref (cx 32)), (2, .ref o), (3, .int (nI i))]) (hc : cells + 4 ≤ room_1.cells) (hs : slots + 21 ≤ room_1.slots) (hK : LK E s cx la bm o A R SX SM H locs)
    (kk : ∀ A' la' SX' SM' H1 locs1, LK E s cx la' bm o A' (R + 1001000) SX' SM' H1 locs1 → W p l e room_1 s m #[Value.ref b] below meth c H1 locs1 (cells + 4) (slots + 21) Q (F0 m 679 ls [])) : W p l e room_1 s m #[Value.ref b] below meth c H locs cells slots Q (F0 m 176 ls []) := by
  obtain ⟨hD, hrx, hsm, hvw, hJ⟩ := hK
  obtain ⟨r, A', hJ', hX', hM'⟩ := du_bind (e0 := E.e0) (c := cx) (x := (xs (nI i + 1).toNatClampNeg)) (f := (xs (nI i + 2).toNatClampNeg)) (v := (xs (nI i + 3).toNatClampNeg)) (a := (xs (nI i + 4).toNatClampNeg)) (g := (xs (nI i + 5).toNatClampNeg)) hJ
  have hx := F.1
  have hb := F.2.1
  have hbA : ¬ (fun q => s.heap.size ≤ q) b := fun z => Nat.not_le.mpr hbl z
  have hS := hD.1.2.2
  refine lv_aload_n hx hb dL_law_176 rfl (lv_at hl 1 rfl) ?_
  refine lv_aload_n hx hb dL_law_177 rfl (lv_at hl 0 rfl) ?_
  refine lv_iload_n hx hb dL_law_178 rfl (lv_at hl 3 rfl) ?_
  refine lv_iconst (v := 1) hx hb dL_law_179 (by decide) ?_
  refine lv_iadd hx hb dL_law_180 ?_
  refine va_sld hx hb hX hbl hbA hS (vin_i (k := 1) hi hL (by decide) rfl) dL_law_181 ?_
  refine lv_aload_n hx hb dL_law_182 rfl (lv_at hl 0 rfl) ?_
  refine lv_iload_n hx hb dL_law_183 rfl (lv_at hl 3 rfl) ?_
  refine lv_iconst (v := 2) hx hb dL_law_184 (by decide) ?_
  refine lv_iadd hx hb dL_law_185 ?_
  refine va_sld hx hb hX hbl hbA hS (vin_i (k := 2) hi hL (by decide) rfl) dL_law_186 ?_
  refine lv_aload_n hx hb dL_law_187 rfl (lv_at hl 0 rfl) ?_
  refine lv_iload_n hx hb dL_law_188 rfl (lv_at hl 3 rfl) ?_
  refine lv_iconst (v := 3) hx hb dL_law_189 (by decide) ?_
  refine lv_iadd hx hb dL_law_190 ?_
  refine va_sld hx hb hX hbl hbA hS (vin_i (k := 3) hi hL (by decide) rfl) dL_law_191 ?_
  refine lv_aload_n hx hb dL_law_192 rfl (lv_at hl 0 rfl) ?_
  refine lv_iload_n hx hb dL_law_193 rfl (lv_at hl 3 rfl) ?_
  refine lv_iconst (v := 4) hx hb dL_law_194 (by decide) ?_
  refine lv_iadd hx hb dL_law_195 ?_
  refine va_sld hx hb hX hbl hbA hS (vin_i (k := 4) hi hL (by decide) rfl) dL_law_196 ?_
  refine lv_aload_n hx hb dL_law_197 rfl (lv_at hl 0 rfl) ?_
  refine lv_iload_n hx hb dL_law_198 rfl (lv_at hl 3 rfl) ?_
  refine lv_iconst (v := 5) hx hb dL_law_199 (by decide) ?_
  refine lv_iadd hx hb dL_law_200 ?_
  refine va_sld hx hb hX hbl hbA hS (vin_i (k := 5) hi hL (by decide) rfl) dL_law_201 ?_
  refine k2_calli (c1 := cells + 4) (s1 := slots + 21) F hD (kp_runV (As := [.int (xs (nI i + 1).toNatClampNeg), .int (xs (nI i + 2).toNatClampNeg), .int (xs (nI i + 3).toNatClampNeg), .int (xs (nI i + 4).toNatClampNeg), .int (xs (nI i + 5).toNatClampNeg)]) (rest := []) F hD.1 (ct_X4_bind l E _ _ _ _ _ _ _ (hX' la SX (fun r1 S1 => r1 = r ∧ ∃ la', RepX E.e0 cx la' A' S1) hrx (fun la' S' z => ⟨rfl, la', z⟩))) (hrx.ok 32) cbX4 rfl cf_X4_bind tw_246 rfl hl.1 ⟨Nat.le_of_ble_eq_true rfl, Nat.le_of_ble_eq_true rfl⟩ (Nat.le_of_ble_eq_true rfl) dL_law_202 ⟨Nat.le_trans (Nat.add_le_add_left (show rm_X4_bind.cells ≤ 4 from Nat.le_of_ble_eq_true rfl) _) hc, Nat.le_trans (Nat.add_le_add_left (show rm_X4_bind.slots ≤ 21 from Nat.le_of_ble_eq_true rfl) _) hs⟩) (Nat.add_le_add_left (show rm_X4_bind.cells ≤ 4 from Nat.le_of_ble_eq_true rfl) _) (Nat.add_le_add_left (show rm_X4_bind.slots ≤ 21 from Nat.le_of_ble_eq_true rfl) _) (fun r1 S1 H locs hp hD => ?_)
  obtain ⟨e1, la1, hrx1⟩ := hp
  have hS := hD.1.2.2
  refine lv_aload_n hx hb dL_law_205 rfl (lv_at hl 2 rfl) ?_
  refine lv_aload_n hx hb dL_law_206 rfl (lv_at hl 0 rfl) ?_
  refine lv_iload_n hx hb dL_law_207 rfl (lv_at hl 3 rfl) ?_
  refine lv_iconst (v := 1) hx hb dL_law_208 (by decide) ?_
  refine lv_iadd hx hb dL_law_209 ?_
  refine va_sld hx hb hX hbl hbA hS (vin_i (k := 1) hi hL (by decide) rfl) dL_law_210 ?_
  refine lv_aload_n hx hb dL_law_211 rfl (lv_at hl 0 rfl) ?_
  refine lv_iload_n hx hb dL_law_212 rfl (lv_at hl 3 rfl) ?_
  refine lv_iconst (v := 2) hx hb dL_law_213 (by decide) ?_
  refine lv_iadd hx hb dL_law_214 ?_
  refine va_sld hx hb hX hbl hbA hS (vin_i (k := 2) hi hL (by decide) rfl) dL_law_215 ?_
  refine lv_aload_n hx hb dL_law_216 rfl (lv_at hl 0 rfl) ?_
  refine lv_iload_n hx hb dL_law_217 rfl (lv_at hl 3 rfl) ?_
  refine lv_iconst (v := 3) hx hb dL_law_218 (by decide) ?_
  refine lv_iadd hx hb dL_law_219 ?_
  refine va_sld hx hb hX hbl hbA hS (vin_i (k := 3) hi hL (by decide) rfl) dL_law_220 ?_
  refine lv_aload_n hx hb dL_law_221 rfl (lv_at hl 0 rfl) ?_
  refine lv_iload_n hx hb dL_law_222 rfl (lv_at hl 3 rfl) ?_
  refine lv_iconst (v := 4) hx hb dL_law_223 (by decide) ?_
  refine lv_iadd hx hb dL_law_224 ?_
  refine va_sld hx hb hX hbl hbA hS (vin_i (k := 4) hi hL (by decide) rfl) dL_law_225 ?_
  refine lv_aload_n hx hb dL_law_226 rfl (lv_at hl 0 rfl) ?_
  refine lv_iload_n hx hb dL_law_227 rfl (lv_at hl 3 rfl) ?_
  refine lv_iconst (v := 5) hx hb dL_law_228 (by decide) ?_
  refine lv_iadd hx hb dL_law_229 ?_
  refine va_sld hx hb hX hbl hbA hS (vin_i (k := 5) hi hL (by decide) rfl) dL_law_230 ?_
  refine k2_calli (c1 := cells + 4) (s1 := slots + 21) F hD.symm (kp_runV (As := [.int (xs (nI i + 1).toNatClampNeg), .int (xs (nI i + 2).toNatClampNeg), .int (xs (nI i + 3).toNatClampNeg), .int (xs (nI i + 4).toNatClampNeg), .int (xs (nI i + 5).toNatClampNeg)]) (rest := [.int r1]) F hD.2.1 (ct_X5_bind l E _ _ _ _ _ _ _ (hM' o bm SM (fun r2 S2 => r2 = r ∧ ShM o bm S2 ∧ view o bm S2 = toV A') hsm hvw (fun S' z1 z2 => ⟨rfl, z1, z2⟩))) hsm.1 cbX5 rfl cf_X5_bind tw_572 rfl hl.1 ⟨Nat.le_of_ble_eq_true rfl, Nat.le_of_ble_eq_true rfl⟩ (Nat.le_of_ble_eq_true rfl) dL_law_231 ⟨hc, hs⟩) (Nat.le_refl _) (Nat.le_refl _) (fun r2 S2 H locs hp hD => ?_)
  obtain ⟨e2, hsm2, hvw2⟩ := hp
  refine lv_icmp_eq (tgt := 679) hx hb dL_law_234 (by decide) (fun _ => ?_) (fun z => absurd (e1.trans e2.symm) z)
  exact kk A' la1 S1 S2 H locs ⟨hD.symm, hrx1, hsm2, hvw2, hJ'⟩
set_option maxHeartbeats 4000000 in
set_option maxRecDepth 100000 in
theorem law_c3 (F : FX p s m #[Value.ref b] meth c code 4 R_law E (fun q => s.heap.size ≤ q)) (hX : va_X b L xs s s.heap) (hbl : b < s.heap.size) (hL : L ≤ 3072) (hi : i + 6 ≤ L) (hR : R < 1000000000) (hl : lv_has ls 4 [(0, .ref b), (1, .ref (cx 32)), (2, .ref o), (3, .int (nI i))]) (hc : cells + 4 ≤ room_1.cells) (hs : slots + 21 ≤ room_1.slots) (hK : LK E s cx la bm o A R SX SM H locs)
    (kk : ∀ A' la' SX' SM' H1 locs1, LK E s cx la' bm o A' (R + 1001000) SX' SM' H1 locs1 → W p l e room_1 s m #[Value.ref b] below meth c H1 locs1 (cells + 4) (slots + 21) Q (F0 m 679 ls [])) : W p l e room_1 s m #[Value.ref b] below meth c H locs cells slots Q (F0 m 239 ls []) := by
  obtain ⟨hD, hrx, hsm, hvw, hJ⟩ := hK
  obtain ⟨r, A', hJ', hX', hM'⟩ := du_unbind (e0 := E.e0) (c := cx) (x := (xs (nI i + 1).toNatClampNeg)) (y := (xs (nI i + 2).toNatClampNeg)) hJ
  have hx := F.1
  have hb := F.2.1
  have hbA : ¬ (fun q => s.heap.size ≤ q) b := fun z => Nat.not_le.mpr hbl z
  have hS := hD.1.2.2
  refine lv_aload_n hx hb dL_law_239 rfl (lv_at hl 1 rfl) ?_
  refine lv_aload_n hx hb dL_law_240 rfl (lv_at hl 0 rfl) ?_
  refine lv_iload_n hx hb dL_law_241 rfl (lv_at hl 3 rfl) ?_
  refine lv_iconst (v := 1) hx hb dL_law_242 (by decide) ?_
  refine lv_iadd hx hb dL_law_243 ?_
  refine va_sld hx hb hX hbl hbA hS (vin_i (k := 1) hi hL (by decide) rfl) dL_law_244 ?_
  refine lv_aload_n hx hb dL_law_245 rfl (lv_at hl 0 rfl) ?_
  refine lv_iload_n hx hb dL_law_246 rfl (lv_at hl 3 rfl) ?_
  refine lv_iconst (v := 2) hx hb dL_law_247 (by decide) ?_
  refine lv_iadd hx hb dL_law_248 ?_
  refine va_sld hx hb hX hbl hbA hS (vin_i (k := 2) hi hL (by decide) rfl) dL_law_249 ?_
  refine k2_calli (c1 := cells + 4) (s1 := slots + 21) F hD (kp_runV (As := [.int (xs (nI i + 1).toNatClampNeg), .int (xs (nI i + 2).toNatClampNeg)]) (rest := []) F hD.1 (ct_X4_unbind l E _ _ _ _ (hX' la SX (fun r1 S1 => r1 = r ∧ ∃ la', RepX E.e0 cx la' A' S1) hrx (fun la' S' z => ⟨rfl, la', z⟩))) (hrx.ok 32) cbX4 rfl cf_X4_unbind tw_300 rfl hl.1 ⟨Nat.le_of_ble_eq_true rfl, Nat.le_of_ble_eq_true rfl⟩ (Nat.le_of_ble_eq_true rfl) dL_law_250 ⟨Nat.le_trans (Nat.add_le_add_left (show rm_X4_unbind.cells ≤ 4 from Nat.le_of_ble_eq_true rfl) _) hc, Nat.le_trans (Nat.add_le_add_left (show rm_X4_unbind.slots ≤ 21 from Nat.le_of_ble_eq_true rfl) _) hs⟩) (Nat.add_le_add_left (show rm_X4_unbind.cells ≤ 4 from Nat.le_of_ble_eq_true rfl) _) (Nat.add_le_add_left (show rm_X4_unbind.slots ≤ 21 from Nat.le_of_ble_eq_true rfl) _) (fun r1 S1 H locs hp hD => ?_)
  obtain ⟨e1, la1, hrx1⟩ := hp
  have hS := hD.1.2.2
  refine lv_aload_n hx hb dL_law_253 rfl (lv_at hl 2 rfl) ?_
  refine lv_aload_n hx hb dL_law_254 rfl (lv_at hl 0 rfl) ?_
  refine lv_iload_n hx hb dL_law_255 rfl (lv_at hl 3 rfl) ?_
  refine lv_iconst (v := 1) hx hb dL_law_256 (by decide) ?_
  refine lv_iadd hx hb dL_law_257 ?_
  refine va_sld hx hb hX hbl hbA hS (vin_i (k := 1) hi hL (by decide) rfl) dL_law_258 ?_
  refine lv_aload_n hx hb dL_law_259 rfl (lv_at hl 0 rfl) ?_
  refine lv_iload_n hx hb dL_law_260 rfl (lv_at hl 3 rfl) ?_
  refine lv_iconst (v := 2) hx hb dL_law_261 (by decide) ?_
  refine lv_iadd hx hb dL_law_262 ?_
  refine va_sld hx hb hX hbl hbA hS (vin_i (k := 2) hi hL (by decide) rfl) dL_law_263 ?_
  refine k2_calli (c1 := cells + 4) (s1 := slots + 21) F hD.symm (kp_runV (As := [.int (xs (nI i + 1).toNatClampNeg), .int (xs (nI i + 2).toNatClampNeg)]) (rest := [.int r1]) F hD.2.1 (ct_X5_unbind l E _ _ _ _ (hM' o bm SM (fun r2 S2 => r2 = r ∧ ShM o bm S2 ∧ view o bm S2 = toV A') hsm hvw (fun S' z1 z2 => ⟨rfl, z1, z2⟩))) hsm.1 cbX5 rfl cf_X5_unbind tw_579 rfl hl.1 ⟨Nat.le_of_ble_eq_true rfl, Nat.le_of_ble_eq_true rfl⟩ (Nat.le_of_ble_eq_true rfl) dL_law_264 ⟨hc, hs⟩) (Nat.le_refl _) (Nat.le_refl _) (fun r2 S2 H locs hp hD => ?_)
  obtain ⟨e2, hsm2, hvw2⟩ := hp
  refine lv_icmp_eq (tgt := 679) hx hb dL_law_267 (by decide) (fun _ => ?_) (fun z => absurd (e1.trans e2.symm) z)
  exact kk A' la1 S1 S2 H locs ⟨hD.symm, hrx1, hsm2, hvw2, hJ'⟩
set_option maxHeartbeats 4000000 in
set_option maxRecDepth 100000 in
theorem law_c4 (F : FX p s m #[Value.ref b] meth c code 4 R_law E (fun q => s.heap.size ≤ q)) (hX : va_X b L xs s s.heap) (hbl : b < s.heap.size) (hL : L ≤ 3072) (hi : i + 6 ≤ L) (hR : R < 1000000000) (hl : lv_has ls 4 [(0, .ref b), (1, .ref (cx 32)), (2, .ref o), (3, .int (nI i))]) (hc : cells + 4 ≤ room_1.cells) (hs : slots + 21 ≤ room_1.slots) (hK : LK E s cx la bm o A R SX SM H locs)
    (kk : ∀ A' la' SX' SM' H1 locs1, LK E s cx la' bm o A' (R + 1001000) SX' SM' H1 locs1 → W p l e room_1 s m #[Value.ref b] below meth c H1 locs1 (cells + 4) (slots + 21) Q (F0 m 679 ls [])) : W p l e room_1 s m #[Value.ref b] below meth c H locs cells slots Q (F0 m 272 ls []) := by
  obtain ⟨hD, hrx, hsm, hvw, hJ⟩ := hK
  obtain ⟨r, A', hJ', hX', hM'⟩ := du_count (e0 := E.e0) (c := cx) (x := (xs (nI i + 1).toNatClampNeg)) hJ hR
  have hx := F.1
  have hb := F.2.1
  have hbA : ¬ (fun q => s.heap.size ≤ q) b := fun z => Nat.not_le.mpr hbl z
  have hS := hD.1.2.2
  refine lv_aload_n hx hb dL_law_272 rfl (lv_at hl 1 rfl) ?_
  refine lv_aload_n hx hb dL_law_273 rfl (lv_at hl 0 rfl) ?_
  refine lv_iload_n hx hb dL_law_274 rfl (lv_at hl 3 rfl) ?_
  refine lv_iconst (v := 1) hx hb dL_law_275 (by decide) ?_
  refine lv_iadd hx hb dL_law_276 ?_
  refine va_sld hx hb hX hbl hbA hS (vin_i (k := 1) hi hL (by decide) rfl) dL_law_277 ?_
  refine k2_calli (c1 := cells + 4) (s1 := slots + 21) F hD (kp_runV (As := [.int (xs (nI i + 1).toNatClampNeg)]) (rest := []) F hD.1 (ct_X4_bindingCount l E _ _ _ (hX' la SX (fun r1 S1 => r1 = r ∧ ∃ la', RepX E.e0 cx la' A' S1) hrx (fun la' S' z => ⟨rfl, la', z⟩))) (hrx.ok 32) cbX4 rfl cf_X4_bindingCount tw_317 rfl hl.1 ⟨Nat.le_of_ble_eq_true rfl, Nat.le_of_ble_eq_true rfl⟩ (Nat.le_of_ble_eq_true rfl) dL_law_278 ⟨Nat.le_trans (Nat.add_le_add_left (show rm_X4_bindingCount.cells ≤ 4 from Nat.le_of_ble_eq_true rfl) _) hc, Nat.le_trans (Nat.add_le_add_left (show rm_X4_bindingCount.slots ≤ 21 from Nat.le_of_ble_eq_true rfl) _) hs⟩) (Nat.add_le_add_left (show rm_X4_bindingCount.cells ≤ 4 from Nat.le_of_ble_eq_true rfl) _) (Nat.add_le_add_left (show rm_X4_bindingCount.slots ≤ 21 from Nat.le_of_ble_eq_true rfl) _) (fun r1 S1 H locs hp hD => ?_)
  obtain ⟨e1, la1, hrx1⟩ := hp
  have hS := hD.1.2.2
  refine lv_aload_n hx hb dL_law_281 rfl (lv_at hl 2 rfl) ?_
  refine lv_aload_n hx hb dL_law_282 rfl (lv_at hl 0 rfl) ?_
  refine lv_iload_n hx hb dL_law_283 rfl (lv_at hl 3 rfl) ?_
  refine lv_iconst (v := 1) hx hb dL_law_284 (by decide) ?_
  refine lv_iadd hx hb dL_law_285 ?_
  refine va_sld hx hb hX hbl hbA hS (vin_i (k := 1) hi hL (by decide) rfl) dL_law_286 ?_
  refine k2_calli (c1 := cells + 4) (s1 := slots + 21) F hD.symm (kp_runV (As := [.int (xs (nI i + 1).toNatClampNeg)]) (rest := [.int r1]) F hD.2.1 (ct_X5_bindingCount l E _ _ _ (hM' o bm SM (fun r2 S2 => r2 = r ∧ ShM o bm S2 ∧ view o bm S2 = toV A') hsm hvw (fun S' z1 z2 => ⟨rfl, z1, z2⟩))) hsm.1 cbX5 rfl cf_X5_bindingCount tw_587 rfl hl.1 ⟨Nat.le_of_ble_eq_true rfl, Nat.le_of_ble_eq_true rfl⟩ (Nat.le_of_ble_eq_true rfl) dL_law_287 ⟨hc, hs⟩) (Nat.le_refl _) (Nat.le_refl _) (fun r2 S2 H locs hp hD => ?_)
  obtain ⟨e2, hsm2, hvw2⟩ := hp
  refine lv_icmp_eq (tgt := 679) hx hb dL_law_290 (by decide) (fun _ => ?_) (fun z => absurd (e1.trans e2.symm) z)
  exact kk A' la1 S1 S2 H locs ⟨hD.symm, hrx1, hsm2, hvw2, hJ'⟩
set_option maxHeartbeats 4000000 in
set_option maxRecDepth 100000 in
theorem law_c5 (F : FX p s m #[Value.ref b] meth c code 4 R_law E (fun q => s.heap.size ≤ q)) (hX : va_X b L xs s s.heap) (hbl : b < s.heap.size) (hL : L ≤ 3072) (hi : i + 6 ≤ L) (hR : R < 1000000000) (hl : lv_has ls 4 [(0, .ref b), (1, .ref (cx 32)), (2, .ref o), (3, .int (nI i))]) (hc : cells + 4 ≤ room_1.cells) (hs : slots + 21 ≤ room_1.slots) (hK : LK E s cx la bm o A R SX SM H locs)
    (kk : ∀ A' la' SX' SM' H1 locs1, LK E s cx la' bm o A' (R + 1001000) SX' SM' H1 locs1 → W p l e room_1 s m #[Value.ref b] below meth c H1 locs1 (cells + 4) (slots + 21) Q (F0 m 679 ls [])) : W p l e room_1 s m #[Value.ref b] below meth c H locs cells slots Q (F0 m 295 ls []) := by
  obtain ⟨hD, hrx, hsm, hvw, hJ⟩ := hK
  obtain ⟨r, A', hJ', hX', hM'⟩ := du_shadow (e0 := E.e0) (c := cx) (x := (xs (nI i + 1).toNatClampNeg)) (y := (xs (nI i + 2).toNatClampNeg)) hJ
  have hx := F.1
  have hb := F.2.1
  have hbA : ¬ (fun q => s.heap.size ≤ q) b := fun z => Nat.not_le.mpr hbl z
  have hS := hD.1.2.2
  refine lv_aload_n hx hb dL_law_295 rfl (lv_at hl 1 rfl) ?_
  refine lv_aload_n hx hb dL_law_296 rfl (lv_at hl 0 rfl) ?_
  refine lv_iload_n hx hb dL_law_297 rfl (lv_at hl 3 rfl) ?_
  refine lv_iconst (v := 1) hx hb dL_law_298 (by decide) ?_
  refine lv_iadd hx hb dL_law_299 ?_
  refine va_sld hx hb hX hbl hbA hS (vin_i (k := 1) hi hL (by decide) rfl) dL_law_300 ?_
  refine lv_aload_n hx hb dL_law_301 rfl (lv_at hl 0 rfl) ?_
  refine lv_iload_n hx hb dL_law_302 rfl (lv_at hl 3 rfl) ?_
  refine lv_iconst (v := 2) hx hb dL_law_303 (by decide) ?_
  refine lv_iadd hx hb dL_law_304 ?_
  refine va_sld hx hb hX hbl hbA hS (vin_i (k := 2) hi hL (by decide) rfl) dL_law_305 ?_
  refine k2_calli (c1 := cells + 4) (s1 := slots + 21) F hD (kp_runV (As := [.int (xs (nI i + 1).toNatClampNeg), .int (xs (nI i + 2).toNatClampNeg)]) (rest := []) F hD.1 (ct_X4_shadowedBy l E _ _ _ _ (hX' la SX (fun r1 S1 => r1 = r ∧ ∃ la', RepX E.e0 cx la' A' S1) hrx (fun la' S' z => ⟨rfl, la', z⟩))) (hrx.ok 32) cbX4 rfl cf_X4_shadowedBy tw_321 rfl hl.1 ⟨Nat.le_of_ble_eq_true rfl, Nat.le_of_ble_eq_true rfl⟩ (Nat.le_of_ble_eq_true rfl) dL_law_306 ⟨Nat.le_trans (Nat.add_le_add_left (show rm_X4_shadowedBy.cells ≤ 4 from Nat.le_of_ble_eq_true rfl) _) hc, Nat.le_trans (Nat.add_le_add_left (show rm_X4_shadowedBy.slots ≤ 21 from Nat.le_of_ble_eq_true rfl) _) hs⟩) (Nat.add_le_add_left (show rm_X4_shadowedBy.cells ≤ 4 from Nat.le_of_ble_eq_true rfl) _) (Nat.add_le_add_left (show rm_X4_shadowedBy.slots ≤ 21 from Nat.le_of_ble_eq_true rfl) _) (fun r1 S1 H locs hp hD => ?_)
  obtain ⟨e1, la1, hrx1⟩ := hp
  have hS := hD.1.2.2
  refine lv_aload_n hx hb dL_law_309 rfl (lv_at hl 2 rfl) ?_
  refine lv_aload_n hx hb dL_law_310 rfl (lv_at hl 0 rfl) ?_
  refine lv_iload_n hx hb dL_law_311 rfl (lv_at hl 3 rfl) ?_
  refine lv_iconst (v := 1) hx hb dL_law_312 (by decide) ?_
  refine lv_iadd hx hb dL_law_313 ?_
  refine va_sld hx hb hX hbl hbA hS (vin_i (k := 1) hi hL (by decide) rfl) dL_law_314 ?_
  refine lv_aload_n hx hb dL_law_315 rfl (lv_at hl 0 rfl) ?_
  refine lv_iload_n hx hb dL_law_316 rfl (lv_at hl 3 rfl) ?_
  refine lv_iconst (v := 2) hx hb dL_law_317 (by decide) ?_
  refine lv_iadd hx hb dL_law_318 ?_
  refine va_sld hx hb hX hbl hbA hS (vin_i (k := 2) hi hL (by decide) rfl) dL_law_319 ?_
  refine k2_calli (c1 := cells + 4) (s1 := slots + 21) F hD.symm (kp_runV (As := [.int (xs (nI i + 1).toNatClampNeg), .int (xs (nI i + 2).toNatClampNeg)]) (rest := [.int r1]) F hD.2.1 (ct_X5_shadowedBy l E _ _ _ _ (hM' o bm SM (fun r2 S2 => r2 = r ∧ ShM o bm S2 ∧ view o bm S2 = toV A') hsm hvw (fun S' z1 z2 => ⟨rfl, z1, z2⟩))) hsm.1 cbX5 rfl cf_X5_shadowedBy tw_591 rfl hl.1 ⟨Nat.le_of_ble_eq_true rfl, Nat.le_of_ble_eq_true rfl⟩ (Nat.le_of_ble_eq_true rfl) dL_law_320 ⟨hc, hs⟩) (Nat.le_refl _) (Nat.le_refl _) (fun r2 S2 H locs hp hD => ?_)
  obtain ⟨e2, hsm2, hvw2⟩ := hp
  refine lv_icmp_eq (tgt := 679) hx hb dL_law_323 (by decide) (fun _ => ?_) (fun z => absurd (e1.trans e2.symm) z)
  exact kk A' la1 S1 S2 H locs ⟨hD.symm, hrx1, hsm2, hvw2, hJ'⟩
set_option maxHeartbeats 4000000 in
set_option maxRecDepth 100000 in
theorem law_c6 (F : FX p s m #[Value.ref b] meth c code 4 R_law E (fun q => s.heap.size ≤ q)) (hX : va_X b L xs s s.heap) (hbl : b < s.heap.size) (hL : L ≤ 3072) (hi : i + 6 ≤ L) (hR : R < 1000000000) (hl : lv_has ls 4 [(0, .ref b), (1, .ref (cx 32)), (2, .ref o), (3, .int (nI i))]) (hc : cells + 4 ≤ room_1.cells) (hs : slots + 21 ≤ room_1.slots) (hK : LK E s cx la bm o A R SX SM H locs)
    (kk : ∀ A' la' SX' SM' H1 locs1, LK E s cx la' bm o A' (R + 1001000) SX' SM' H1 locs1 → W p l e room_1 s m #[Value.ref b] below meth c H1 locs1 (cells + 4) (slots + 21) Q (F0 m 679 ls [])) : W p l e room_1 s m #[Value.ref b] below meth c H locs cells slots Q (F0 m 328 ls []) := by
  obtain ⟨hD, hrx, hsm, hvw, hJ⟩ := hK
  obtain ⟨r, A', hJ', hX', hM'⟩ := du_press (e0 := E.e0) (c := cx) (x := (xs (nI i + 1).toNatClampNeg)) hJ hR
  have hx := F.1
  have hb := F.2.1
  have hbA : ¬ (fun q => s.heap.size ≤ q) b := fun z => Nat.not_le.mpr hbl z
  have hS := hD.1.2.2
  refine lv_aload_n hx hb dL_law_328 rfl (lv_at hl 1 rfl) ?_
  refine lv_aload_n hx hb dL_law_329 rfl (lv_at hl 0 rfl) ?_
  refine lv_iload_n hx hb dL_law_330 rfl (lv_at hl 3 rfl) ?_
  refine lv_iconst (v := 1) hx hb dL_law_331 (by decide) ?_
  refine lv_iadd hx hb dL_law_332 ?_
  refine va_sld hx hb hX hbl hbA hS (vin_i (k := 1) hi hL (by decide) rfl) dL_law_333 ?_
  refine k2_calli (c1 := cells + 4) (s1 := slots + 21) F hD (kp_runV (As := [.int (xs (nI i + 1).toNatClampNeg)]) (rest := []) F hD.1 (ct_X4_press l E _ _ _ (hX' la SX (fun r1 S1 => r1 = r ∧ ∃ la', RepX E.e0 cx la' A' S1) hrx (fun la' S' z => ⟨rfl, la', z⟩))) (hrx.ok 32) cbX4 rfl cf_X4_press tw_338 rfl hl.1 ⟨Nat.le_of_ble_eq_true rfl, Nat.le_of_ble_eq_true rfl⟩ (Nat.le_of_ble_eq_true rfl) dL_law_334 ⟨Nat.le_trans (Nat.add_le_add_left (show rm_X4_press.cells ≤ 4 from Nat.le_of_ble_eq_true rfl) _) hc, Nat.le_trans (Nat.add_le_add_left (show rm_X4_press.slots ≤ 21 from Nat.le_of_ble_eq_true rfl) _) hs⟩) (Nat.add_le_add_left (show rm_X4_press.cells ≤ 4 from Nat.le_of_ble_eq_true rfl) _) (Nat.add_le_add_left (show rm_X4_press.slots ≤ 21 from Nat.le_of_ble_eq_true rfl) _) (fun r1 S1 H locs hp hD => ?_)
  obtain ⟨e1, la1, hrx1⟩ := hp
  have hS := hD.1.2.2
  refine lv_aload_n hx hb dL_law_337 rfl (lv_at hl 2 rfl) ?_
  refine lv_aload_n hx hb dL_law_338 rfl (lv_at hl 0 rfl) ?_
  refine lv_iload_n hx hb dL_law_339 rfl (lv_at hl 3 rfl) ?_
  refine lv_iconst (v := 1) hx hb dL_law_340 (by decide) ?_
  refine lv_iadd hx hb dL_law_341 ?_
  refine va_sld hx hb hX hbl hbA hS (vin_i (k := 1) hi hL (by decide) rfl) dL_law_342 ?_
  refine k2_calli (c1 := cells + 4) (s1 := slots + 21) F hD.symm (kp_runV (As := [.int (xs (nI i + 1).toNatClampNeg)]) (rest := [.int r1]) F hD.2.1 (ct_X5_press l E _ _ _ (hM' o bm SM (fun r2 S2 => r2 = r ∧ ShM o bm S2 ∧ view o bm S2 = toV A') hsm hvw (fun S' z1 z2 => ⟨rfl, z1, z2⟩))) hsm.1 cbX5 rfl cf_X5_press tw_595 rfl hl.1 ⟨Nat.le_of_ble_eq_true rfl, Nat.le_of_ble_eq_true rfl⟩ (Nat.le_of_ble_eq_true rfl) dL_law_343 ⟨hc, hs⟩) (Nat.le_refl _) (Nat.le_refl _) (fun r2 S2 H locs hp hD => ?_)
  obtain ⟨e2, hsm2, hvw2⟩ := hp
  refine lv_icmp_eq (tgt := 679) hx hb dL_law_346 (by decide) (fun _ => ?_) (fun z => absurd (e1.trans e2.symm) z)
  exact kk A' la1 S1 S2 H locs ⟨hD.symm, hrx1, hsm2, hvw2, hJ'⟩
set_option maxHeartbeats 4000000 in
set_option maxRecDepth 100000 in
theorem law_c7 (F : FX p s m #[Value.ref b] meth c code 4 R_law E (fun q => s.heap.size ≤ q)) (hX : va_X b L xs s s.heap) (hbl : b < s.heap.size) (hL : L ≤ 3072) (hi : i + 6 ≤ L) (hR : R < 1000000000) (hl : lv_has ls 4 [(0, .ref b), (1, .ref (cx 32)), (2, .ref o), (3, .int (nI i))]) (hc : cells + 4 ≤ room_1.cells) (hs : slots + 21 ≤ room_1.slots) (hK : LK E s cx la bm o A R SX SM H locs)
    (kk : ∀ A' la' SX' SM' H1 locs1, LK E s cx la' bm o A' (R + 1001000) SX' SM' H1 locs1 → W p l e room_1 s m #[Value.ref b] below meth c H1 locs1 (cells + 4) (slots + 21) Q (F0 m 679 ls [])) : W p l e room_1 s m #[Value.ref b] below meth c H locs cells slots Q (F0 m 351 ls []) := by
  obtain ⟨hD, hrx, hsm, hvw, hJ⟩ := hK
  obtain ⟨r, A', hJ', hX', hM'⟩ := du_tick (e0 := E.e0) (c := cx) (x := (xs (nI i + 1).toNatClampNeg)) hJ hR
  have hx := F.1
  have hb := F.2.1
  have hbA : ¬ (fun q => s.heap.size ≤ q) b := fun z => Nat.not_le.mpr hbl z
  have hS := hD.1.2.2
  refine lv_aload_n hx hb dL_law_351 rfl (lv_at hl 1 rfl) ?_
  refine lv_aload_n hx hb dL_law_352 rfl (lv_at hl 0 rfl) ?_
  refine lv_iload_n hx hb dL_law_353 rfl (lv_at hl 3 rfl) ?_
  refine lv_iconst (v := 1) hx hb dL_law_354 (by decide) ?_
  refine lv_iadd hx hb dL_law_355 ?_
  refine va_sld hx hb hX hbl hbA hS (vin_i (k := 1) hi hL (by decide) rfl) dL_law_356 ?_
  refine k2_calli (c1 := cells + 4) (s1 := slots + 21) F hD (kp_runV (As := [.int (xs (nI i + 1).toNatClampNeg)]) (rest := []) F hD.1 (ct_X4_tick l E _ _ _ (hX' la SX (fun r1 S1 => r1 = r ∧ ∃ la', RepX E.e0 cx la' A' S1) hrx (fun la' S' z => ⟨rfl, la', z⟩))) (hrx.ok 32) cbX4 rfl cf_X4_tick tw_403 rfl hl.1 ⟨Nat.le_of_ble_eq_true rfl, Nat.le_of_ble_eq_true rfl⟩ (Nat.le_of_ble_eq_true rfl) dL_law_357 ⟨Nat.le_trans (Nat.add_le_add_left (show rm_X4_tick.cells ≤ 4 from Nat.le_of_ble_eq_true rfl) _) hc, Nat.le_trans (Nat.add_le_add_left (show rm_X4_tick.slots ≤ 21 from Nat.le_of_ble_eq_true rfl) _) hs⟩) (Nat.add_le_add_left (show rm_X4_tick.cells ≤ 4 from Nat.le_of_ble_eq_true rfl) _) (Nat.add_le_add_left (show rm_X4_tick.slots ≤ 21 from Nat.le_of_ble_eq_true rfl) _) (fun r1 S1 H locs hp hD => ?_)
  obtain ⟨e1, la1, hrx1⟩ := hp
  have hS := hD.1.2.2
  refine lv_aload_n hx hb dL_law_360 rfl (lv_at hl 2 rfl) ?_
  refine lv_aload_n hx hb dL_law_361 rfl (lv_at hl 0 rfl) ?_
  refine lv_iload_n hx hb dL_law_362 rfl (lv_at hl 3 rfl) ?_
  refine lv_iconst (v := 1) hx hb dL_law_363 (by decide) ?_
  refine lv_iadd hx hb dL_law_364 ?_
  refine va_sld hx hb hX hbl hbA hS (vin_i (k := 1) hi hL (by decide) rfl) dL_law_365 ?_
  refine k2_calli (c1 := cells + 4) (s1 := slots + 21) F hD.symm (kp_runV (As := [.int (xs (nI i + 1).toNatClampNeg)]) (rest := [.int r1]) F hD.2.1 (ct_X5_tick l E _ _ _ (hM' o bm SM (fun r2 S2 => r2 = r ∧ ShM o bm S2 ∧ view o bm S2 = toV A') hsm hvw (fun S' z1 z2 => ⟨rfl, z1, z2⟩))) hsm.1 cbX5 rfl cf_X5_tick tw_639 rfl hl.1 ⟨Nat.le_of_ble_eq_true rfl, Nat.le_of_ble_eq_true rfl⟩ (Nat.le_of_ble_eq_true rfl) dL_law_366 ⟨hc, hs⟩) (Nat.le_refl _) (Nat.le_refl _) (fun r2 S2 H locs hp hD => ?_)
  obtain ⟨e2, hsm2, hvw2⟩ := hp
  refine lv_icmp_eq (tgt := 679) hx hb dL_law_369 (by decide) (fun _ => ?_) (fun z => absurd (e1.trans e2.symm) z)
  exact kk A' la1 S1 S2 H locs ⟨hD.symm, hrx1, hsm2, hvw2, hJ'⟩
set_option maxHeartbeats 4000000 in
set_option maxRecDepth 100000 in
theorem law_c8 (F : FX p s m #[Value.ref b] meth c code 4 R_law E (fun q => s.heap.size ≤ q)) (hX : va_X b L xs s s.heap) (hbl : b < s.heap.size) (hL : L ≤ 3072) (hi : i + 6 ≤ L) (hR : R < 1000000000) (hl : lv_has ls 4 [(0, .ref b), (1, .ref (cx 32)), (2, .ref o), (3, .int (nI i))]) (hc : cells + 4 ≤ room_1.cells) (hs : slots + 21 ≤ room_1.slots) (hK : LK E s cx la bm o A R SX SM H locs)
    (kk : ∀ A' la' SX' SM' H1 locs1, LK E s cx la' bm o A' (R + 1001000) SX' SM' H1 locs1 → W p l e room_1 s m #[Value.ref b] below meth c H1 locs1 (cells + 4) (slots + 21) Q (F0 m 679 ls [])) : W p l e room_1 s m #[Value.ref b] below meth c H locs cells slots Q (F0 m 374 ls []) := by
  obtain ⟨hD, hrx, hsm, hvw, hJ⟩ := hK
  obtain ⟨r, A', hJ', hX', hM'⟩ := du_timeout (e0 := E.e0) (c := cx) (x := (xs (nI i + 1).toNatClampNeg)) hJ hR
  have hx := F.1
  have hb := F.2.1
  have hbA : ¬ (fun q => s.heap.size ≤ q) b := fun z => Nat.not_le.mpr hbl z
  have hS := hD.1.2.2
  refine lv_aload_n hx hb dL_law_374 rfl (lv_at hl 1 rfl) ?_
  refine lv_aload_n hx hb dL_law_375 rfl (lv_at hl 0 rfl) ?_
  refine lv_iload_n hx hb dL_law_376 rfl (lv_at hl 3 rfl) ?_
  refine lv_iconst (v := 1) hx hb dL_law_377 (by decide) ?_
  refine lv_iadd hx hb dL_law_378 ?_
  refine va_sld hx hb hX hbl hbA hS (vin_i (k := 1) hi hL (by decide) rfl) dL_law_379 ?_
  refine k2_calli (c1 := cells + 4) (s1 := slots + 21) F hD (kp_runV (As := [.int (xs (nI i + 1).toNatClampNeg)]) (rest := []) F hD.1 (ct_X4_setTimeout l E _ _ _ (hX' la SX (fun r1 S1 => r1 = r ∧ ∃ la', RepX E.e0 cx la' A' S1) hrx (fun la' S' z => ⟨rfl, la', z⟩))) (hrx.ok 32) cbX4 rfl cf_X4_setTimeout tw_407 rfl hl.1 ⟨Nat.le_of_ble_eq_true rfl, Nat.le_of_ble_eq_true rfl⟩ (Nat.le_of_ble_eq_true rfl) dL_law_380 ⟨Nat.le_trans (Nat.add_le_add_left (show rm_X4_setTimeout.cells ≤ 4 from Nat.le_of_ble_eq_true rfl) _) hc, Nat.le_trans (Nat.add_le_add_left (show rm_X4_setTimeout.slots ≤ 21 from Nat.le_of_ble_eq_true rfl) _) hs⟩) (Nat.add_le_add_left (show rm_X4_setTimeout.cells ≤ 4 from Nat.le_of_ble_eq_true rfl) _) (Nat.add_le_add_left (show rm_X4_setTimeout.slots ≤ 21 from Nat.le_of_ble_eq_true rfl) _) (fun r1 S1 H locs hp hD => ?_)
  obtain ⟨e1, la1, hrx1⟩ := hp
  have hS := hD.1.2.2
  refine lv_aload_n hx hb dL_law_383 rfl (lv_at hl 2 rfl) ?_
  refine lv_aload_n hx hb dL_law_384 rfl (lv_at hl 0 rfl) ?_
  refine lv_iload_n hx hb dL_law_385 rfl (lv_at hl 3 rfl) ?_
  refine lv_iconst (v := 1) hx hb dL_law_386 (by decide) ?_
  refine lv_iadd hx hb dL_law_387 ?_
  refine va_sld hx hb hX hbl hbA hS (vin_i (k := 1) hi hL (by decide) rfl) dL_law_388 ?_
  refine k2_calli (c1 := cells + 4) (s1 := slots + 21) F hD.symm (kp_runV (As := [.int (xs (nI i + 1).toNatClampNeg)]) (rest := [.int r1]) F hD.2.1 (ct_X5_setTimeout l E _ _ _ (hM' o bm SM (fun r2 S2 => r2 = r ∧ ShM o bm S2 ∧ view o bm S2 = toV A') hsm hvw (fun S' z1 z2 => ⟨rfl, z1, z2⟩))) hsm.1 cbX5 rfl cf_X5_setTimeout tw_643 rfl hl.1 ⟨Nat.le_of_ble_eq_true rfl, Nat.le_of_ble_eq_true rfl⟩ (Nat.le_of_ble_eq_true rfl) dL_law_389 ⟨hc, hs⟩) (Nat.le_refl _) (Nat.le_refl _) (fun r2 S2 H locs hp hD => ?_)
  obtain ⟨e2, hsm2, hvw2⟩ := hp
  refine lv_icmp_eq (tgt := 679) hx hb dL_law_392 (by decide) (fun _ => ?_) (fun z => absurd (e1.trans e2.symm) z)
  exact kk A' la1 S1 S2 H locs ⟨hD.symm, hrx1, hsm2, hvw2, hJ'⟩
set_option maxHeartbeats 4000000 in
set_option maxRecDepth 100000 in
theorem law_c9 (F : FX p s m #[Value.ref b] meth c code 4 R_law E (fun q => s.heap.size ≤ q)) (hX : va_X b L xs s s.heap) (hbl : b < s.heap.size) (hL : L ≤ 3072) (hi : i + 6 ≤ L) (hR : R < 1000000000) (hl : lv_has ls 4 [(0, .ref b), (1, .ref (cx 32)), (2, .ref o), (3, .int (nI i))]) (hc : cells + 4 ≤ room_1.cells) (hs : slots + 21 ≤ room_1.slots) (hK : LK E s cx la bm o A R SX SM H locs)
    (kk : ∀ A' la' SX' SM' H1 locs1, LK E s cx la' bm o A' (R + 1001000) SX' SM' H1 locs1 → W p l e room_1 s m #[Value.ref b] below meth c H1 locs1 (cells + 4) (slots + 21) Q (F0 m 679 ls [])) : W p l e room_1 s m #[Value.ref b] below meth c H locs cells slots Q (F0 m 397 ls []) := by
  obtain ⟨hD, hrx, hsm, hvw, hJ⟩ := hK
  obtain ⟨r, A', hJ', hX', hM'⟩ := du_setFlag (e0 := E.e0) (c := cx) (x := (xs (nI i + 1).toNatClampNeg)) (y := (xs (nI i + 2).toNatClampNeg)) hJ hR
  have hx := F.1
  have hb := F.2.1
  have hbA : ¬ (fun q => s.heap.size ≤ q) b := fun z => Nat.not_le.mpr hbl z
  have hS := hD.1.2.2
  refine lv_aload_n hx hb dL_law_397 rfl (lv_at hl 1 rfl) ?_
  refine lv_aload_n hx hb dL_law_398 rfl (lv_at hl 0 rfl) ?_
  refine lv_iload_n hx hb dL_law_399 rfl (lv_at hl 3 rfl) ?_
  refine lv_iconst (v := 1) hx hb dL_law_400 (by decide) ?_
  refine lv_iadd hx hb dL_law_401 ?_
  refine va_sld hx hb hX hbl hbA hS (vin_i (k := 1) hi hL (by decide) rfl) dL_law_402 ?_
  refine lv_aload_n hx hb dL_law_403 rfl (lv_at hl 0 rfl) ?_
  refine lv_iload_n hx hb dL_law_404 rfl (lv_at hl 3 rfl) ?_
  refine lv_iconst (v := 2) hx hb dL_law_405 (by decide) ?_
  refine lv_iadd hx hb dL_law_406 ?_
  refine va_sld hx hb hX hbl hbA hS (vin_i (k := 2) hi hL (by decide) rfl) dL_law_407 ?_
  refine k2_calli (c1 := cells + 4) (s1 := slots + 21) F hD (kp_runV (As := [.int (xs (nI i + 1).toNatClampNeg), .int (xs (nI i + 2).toNatClampNeg)]) (rest := []) F hD.1 (ct_X4_setFlag l E _ _ _ _ (hX' la SX (fun r1 S1 => r1 = r ∧ ∃ la', RepX E.e0 cx la' A' S1) hrx (fun la' S' z => ⟨rfl, la', z⟩))) (hrx.ok 32) cbX4 rfl cf_X4_setFlag tw_411 rfl hl.1 ⟨Nat.le_of_ble_eq_true rfl, Nat.le_of_ble_eq_true rfl⟩ (Nat.le_of_ble_eq_true rfl) dL_law_408 ⟨Nat.le_trans (Nat.add_le_add_left (show rm_X4_setFlag.cells ≤ 4 from Nat.le_of_ble_eq_true rfl) _) hc, Nat.le_trans (Nat.add_le_add_left (show rm_X4_setFlag.slots ≤ 21 from Nat.le_of_ble_eq_true rfl) _) hs⟩) (Nat.add_le_add_left (show rm_X4_setFlag.cells ≤ 4 from Nat.le_of_ble_eq_true rfl) _) (Nat.add_le_add_left (show rm_X4_setFlag.slots ≤ 21 from Nat.le_of_ble_eq_true rfl) _) (fun r1 S1 H locs hp hD => ?_)
  obtain ⟨e1, la1, hrx1⟩ := hp
  have hS := hD.1.2.2
  refine lv_aload_n hx hb dL_law_411 rfl (lv_at hl 2 rfl) ?_
  refine lv_aload_n hx hb dL_law_412 rfl (lv_at hl 0 rfl) ?_
  refine lv_iload_n hx hb dL_law_413 rfl (lv_at hl 3 rfl) ?_
  refine lv_iconst (v := 1) hx hb dL_law_414 (by decide) ?_
  refine lv_iadd hx hb dL_law_415 ?_
  refine va_sld hx hb hX hbl hbA hS (vin_i (k := 1) hi hL (by decide) rfl) dL_law_416 ?_
  refine lv_aload_n hx hb dL_law_417 rfl (lv_at hl 0 rfl) ?_
  refine lv_iload_n hx hb dL_law_418 rfl (lv_at hl 3 rfl) ?_
  refine lv_iconst (v := 2) hx hb dL_law_419 (by decide) ?_
  refine lv_iadd hx hb dL_law_420 ?_
  refine va_sld hx hb hX hbl hbA hS (vin_i (k := 2) hi hL (by decide) rfl) dL_law_421 ?_
  refine k2_calli (c1 := cells + 4) (s1 := slots + 21) F hD.symm (kp_runV (As := [.int (xs (nI i + 1).toNatClampNeg), .int (xs (nI i + 2).toNatClampNeg)]) (rest := [.int r1]) F hD.2.1 (ct_X5_setFlag l E _ _ _ _ (hM' o bm SM (fun r2 S2 => r2 = r ∧ ShM o bm S2 ∧ view o bm S2 = toV A') hsm hvw (fun S' z1 z2 => ⟨rfl, z1, z2⟩))) hsm.1 cbX5 rfl cf_X5_setFlag tw_647 rfl hl.1 ⟨Nat.le_of_ble_eq_true rfl, Nat.le_of_ble_eq_true rfl⟩ (Nat.le_of_ble_eq_true rfl) dL_law_422 ⟨hc, hs⟩) (Nat.le_refl _) (Nat.le_refl _) (fun r2 S2 H locs hp hD => ?_)
  obtain ⟨e2, hsm2, hvw2⟩ := hp
  refine lv_icmp_eq (tgt := 679) hx hb dL_law_425 (by decide) (fun _ => ?_) (fun z => absurd (e1.trans e2.symm) z)
  exact kk A' la1 S1 S2 H locs ⟨hD.symm, hrx1, hsm2, hvw2, hJ'⟩
set_option maxHeartbeats 4000000 in
set_option maxRecDepth 100000 in
theorem law_c10 (F : FX p s m #[Value.ref b] meth c code 4 R_law E (fun q => s.heap.size ≤ q)) (hX : va_X b L xs s s.heap) (hbl : b < s.heap.size) (hL : L ≤ 3072) (hi : i + 6 ≤ L) (hR : R < 1000000000) (hl : lv_has ls 4 [(0, .ref b), (1, .ref (cx 32)), (2, .ref o), (3, .int (nI i))]) (hc : cells + 4 ≤ room_1.cells) (hs : slots + 21 ≤ room_1.slots) (hK : LK E s cx la bm o A R SX SM H locs)
    (kk : ∀ A' la' SX' SM' H1 locs1, LK E s cx la' bm o A' (R + 1001000) SX' SM' H1 locs1 → W p l e room_1 s m #[Value.ref b] below meth c H1 locs1 (cells + 4) (slots + 21) Q (F0 m 679 ls [])) : W p l e room_1 s m #[Value.ref b] below meth c H locs cells slots Q (F0 m 430 ls []) := by
  obtain ⟨hD, hrx, hsm, hvw, hJ⟩ := hK
  obtain ⟨r, A', hJ', hX', hM'⟩ := du_plen (e0 := E.e0) (c := cx)  hJ hR
  have hx := F.1
  have hb := F.2.1
  have hbA : ¬ (fun q => s.heap.size ≤ q) b := fun z => Nat.not_le.mpr hbl z
  have hS := hD.1.2.2
  refine lv_aload_n hx hb dL_law_430 rfl (lv_at hl 1 rfl) ?_
  refine k2_calli (c1 := cells + 4) (s1 := slots + 21) F hD (kp_runV (As := []) (rest := []) F hD.1 (ct_X4_pendingLength l E _ _ (hX' la SX (fun r1 S1 => r1 = r ∧ ∃ la', RepX E.e0 cx la' A' S1) hrx (fun la' S' z => ⟨rfl, la', z⟩))) (hrx.ok 32) cbX4 rfl cf_X4_pendingLength tw_412 rfl hl.1 ⟨Nat.le_of_ble_eq_true rfl, Nat.le_of_ble_eq_true rfl⟩ (Nat.le_of_ble_eq_true rfl) dL_law_431 ⟨Nat.le_trans (Nat.add_le_add_left (show rm_X4_pendingLength.cells ≤ 4 from Nat.le_of_ble_eq_true rfl) _) hc, Nat.le_trans (Nat.add_le_add_left (show rm_X4_pendingLength.slots ≤ 21 from Nat.le_of_ble_eq_true rfl) _) hs⟩) (Nat.add_le_add_left (show rm_X4_pendingLength.cells ≤ 4 from Nat.le_of_ble_eq_true rfl) _) (Nat.add_le_add_left (show rm_X4_pendingLength.slots ≤ 21 from Nat.le_of_ble_eq_true rfl) _) (fun r1 S1 H locs hp hD => ?_)
  obtain ⟨e1, la1, hrx1⟩ := hp
  have hS := hD.1.2.2
  refine lv_aload_n hx hb dL_law_434 rfl (lv_at hl 2 rfl) ?_
  refine k2_calli (c1 := cells + 4) (s1 := slots + 21) F hD.symm (kp_runV (As := []) (rest := [.int r1]) F hD.2.1 (ct_X5_pendingLength l E _ _ (hM' o bm SM (fun r2 S2 => r2 = r ∧ ShM o bm S2 ∧ view o bm S2 = toV A') hsm hvw (fun S' z1 z2 => ⟨rfl, z1, z2⟩))) hsm.1 cbX5 rfl cf_X5_pendingLength tw_651 rfl hl.1 ⟨Nat.le_of_ble_eq_true rfl, Nat.le_of_ble_eq_true rfl⟩ (Nat.le_of_ble_eq_true rfl) dL_law_435 ⟨hc, hs⟩) (Nat.le_refl _) (Nat.le_refl _) (fun r2 S2 H locs hp hD => ?_)
  obtain ⟨e2, hsm2, hvw2⟩ := hp
  refine lv_icmp_eq (tgt := 679) hx hb dL_law_438 (by decide) (fun _ => ?_) (fun z => absurd (e1.trans e2.symm) z)
  exact kk A' la1 S1 S2 H locs ⟨hD.symm, hrx1, hsm2, hvw2, hJ'⟩
set_option maxHeartbeats 4000000 in
set_option maxRecDepth 100000 in
theorem law_c11 (F : FX p s m #[Value.ref b] meth c code 4 R_law E (fun q => s.heap.size ≤ q)) (hX : va_X b L xs s s.heap) (hbl : b < s.heap.size) (hL : L ≤ 3072) (hi : i + 6 ≤ L) (hR : R < 1000000000) (hl : lv_has ls 4 [(0, .ref b), (1, .ref (cx 32)), (2, .ref o), (3, .int (nI i))]) (hc : cells + 4 ≤ room_1.cells) (hs : slots + 21 ≤ room_1.slots) (hK : LK E s cx la bm o A R SX SM H locs)
    (kk : ∀ A' la' SX' SM' H1 locs1, LK E s cx la' bm o A' (R + 1001000) SX' SM' H1 locs1 → W p l e room_1 s m #[Value.ref b] below meth c H1 locs1 (cells + 4) (slots + 21) Q (F0 m 679 ls [])) : W p l e room_1 s m #[Value.ref b] below meth c H locs cells slots Q (F0 m 443 ls []) := by
  obtain ⟨hD, hrx, hsm, hvw, hJ⟩ := hK
  obtain ⟨r, A', hJ', hX', hM'⟩ := du_pkey (e0 := E.e0) (c := cx) (x := (xs (nI i + 1).toNatClampNeg)) hJ hR
  have hx := F.1
  have hb := F.2.1
  have hbA : ¬ (fun q => s.heap.size ≤ q) b := fun z => Nat.not_le.mpr hbl z
  have hS := hD.1.2.2
  refine lv_aload_n hx hb dL_law_443 rfl (lv_at hl 1 rfl) ?_
  refine lv_aload_n hx hb dL_law_444 rfl (lv_at hl 0 rfl) ?_
  refine lv_iload_n hx hb dL_law_445 rfl (lv_at hl 3 rfl) ?_
  refine lv_iconst (v := 1) hx hb dL_law_446 (by decide) ?_
  refine lv_iadd hx hb dL_law_447 ?_
  refine va_sld hx hb hX hbl hbA hS (vin_i (k := 1) hi hL (by decide) rfl) dL_law_448 ?_
  refine k2_calli (c1 := cells + 4) (s1 := slots + 21) F hD (kp_runV (As := [.int (xs (nI i + 1).toNatClampNeg)]) (rest := []) F hD.1 (ct_X4_pendingKey l E _ _ _ (hX' la SX (fun r1 S1 => r1 = r ∧ ∃ la', RepX E.e0 cx la' A' S1) hrx (fun la' S' z => ⟨rfl, la', z⟩))) (hrx.ok 32) cbX4 rfl cf_X4_pendingKey tw_416 rfl hl.1 ⟨Nat.le_of_ble_eq_true rfl, Nat.le_of_ble_eq_true rfl⟩ (Nat.le_of_ble_eq_true rfl) dL_law_449 ⟨Nat.le_trans (Nat.add_le_add_left (show rm_X4_pendingKey.cells ≤ 4 from Nat.le_of_ble_eq_true rfl) _) hc, Nat.le_trans (Nat.add_le_add_left (show rm_X4_pendingKey.slots ≤ 21 from Nat.le_of_ble_eq_true rfl) _) hs⟩) (Nat.add_le_add_left (show rm_X4_pendingKey.cells ≤ 4 from Nat.le_of_ble_eq_true rfl) _) (Nat.add_le_add_left (show rm_X4_pendingKey.slots ≤ 21 from Nat.le_of_ble_eq_true rfl) _) (fun r1 S1 H locs hp hD => ?_)
  obtain ⟨e1, la1, hrx1⟩ := hp
  have hS := hD.1.2.2
  refine lv_aload_n hx hb dL_law_452 rfl (lv_at hl 2 rfl) ?_
  refine lv_aload_n hx hb dL_law_453 rfl (lv_at hl 0 rfl) ?_
  refine lv_iload_n hx hb dL_law_454 rfl (lv_at hl 3 rfl) ?_
  refine lv_iconst (v := 1) hx hb dL_law_455 (by decide) ?_
  refine lv_iadd hx hb dL_law_456 ?_
  refine va_sld hx hb hX hbl hbA hS (vin_i (k := 1) hi hL (by decide) rfl) dL_law_457 ?_
  refine k2_calli (c1 := cells + 4) (s1 := slots + 21) F hD.symm (kp_runV (As := [.int (xs (nI i + 1).toNatClampNeg)]) (rest := [.int r1]) F hD.2.1 (ct_X5_pendingKey l E _ _ _ (hM' o bm SM (fun r2 S2 => r2 = r ∧ ShM o bm S2 ∧ view o bm S2 = toV A') hsm hvw (fun S' z1 z2 => ⟨rfl, z1, z2⟩))) hsm.1 cbX5 rfl cf_X5_pendingKey tw_655 rfl hl.1 ⟨Nat.le_of_ble_eq_true rfl, Nat.le_of_ble_eq_true rfl⟩ (Nat.le_of_ble_eq_true rfl) dL_law_458 ⟨hc, hs⟩) (Nat.le_refl _) (Nat.le_refl _) (fun r2 S2 H locs hp hD => ?_)
  obtain ⟨e2, hsm2, hvw2⟩ := hp
  refine lv_icmp_eq (tgt := 679) hx hb dL_law_461 (by decide) (fun _ => ?_) (fun z => absurd (e1.trans e2.symm) z)
  exact kk A' la1 S1 S2 H locs ⟨hD.symm, hrx1, hsm2, hvw2, hJ'⟩
set_option maxHeartbeats 4000000 in
set_option maxRecDepth 100000 in
theorem law_c12 (F : FX p s m #[Value.ref b] meth c code 4 R_law E (fun q => s.heap.size ≤ q)) (hX : va_X b L xs s s.heap) (hbl : b < s.heap.size) (hL : L ≤ 3072) (hi : i + 6 ≤ L) (hR : R < 1000000000) (hl : lv_has ls 4 [(0, .ref b), (1, .ref (cx 32)), (2, .ref o), (3, .int (nI i))]) (hc : cells + 4 ≤ room_1.cells) (hs : slots + 21 ≤ room_1.slots) (hK : LK E s cx la bm o A R SX SM H locs)
    (kk : ∀ A' la' SX' SM' H1 locs1, LK E s cx la' bm o A' (R + 1001000) SX' SM' H1 locs1 → W p l e room_1 s m #[Value.ref b] below meth c H1 locs1 (cells + 4) (slots + 21) Q (F0 m 679 ls [])) : W p l e room_1 s m #[Value.ref b] below meth c H locs cells slots Q (F0 m 466 ls []) := by
  obtain ⟨hD, hrx, hsm, hvw, hJ⟩ := hK
  obtain ⟨r, A', hJ', hX', hM'⟩ := du_rem (e0 := E.e0) (c := cx)  hJ hR
  have hx := F.1
  have hb := F.2.1
  have hbA : ¬ (fun q => s.heap.size ≤ q) b := fun z => Nat.not_le.mpr hbl z
  have hS := hD.1.2.2
  refine lv_aload_n hx hb dL_law_466 rfl (lv_at hl 1 rfl) ?_
  refine k2_calli (c1 := cells + 4) (s1 := slots + 21) F hD (kp_runV (As := []) (rest := []) F hD.1 (ct_X4_remainingTime l E _ _ (hX' la SX (fun r1 S1 => r1 = r ∧ ∃ la', RepX E.e0 cx la' A' S1) hrx (fun la' S' z => ⟨rfl, la', z⟩))) (hrx.ok 32) cbX4 rfl cf_X4_remainingTime tw_420 rfl hl.1 ⟨Nat.le_of_ble_eq_true rfl, Nat.le_of_ble_eq_true rfl⟩ (Nat.le_of_ble_eq_true rfl) dL_law_467 ⟨Nat.le_trans (Nat.add_le_add_left (show rm_X4_remainingTime.cells ≤ 4 from Nat.le_of_ble_eq_true rfl) _) hc, Nat.le_trans (Nat.add_le_add_left (show rm_X4_remainingTime.slots ≤ 21 from Nat.le_of_ble_eq_true rfl) _) hs⟩) (Nat.add_le_add_left (show rm_X4_remainingTime.cells ≤ 4 from Nat.le_of_ble_eq_true rfl) _) (Nat.add_le_add_left (show rm_X4_remainingTime.slots ≤ 21 from Nat.le_of_ble_eq_true rfl) _) (fun r1 S1 H locs hp hD => ?_)
  obtain ⟨e1, la1, hrx1⟩ := hp
  have hS := hD.1.2.2
  refine lv_aload_n hx hb dL_law_470 rfl (lv_at hl 2 rfl) ?_
  refine k2_calli (c1 := cells + 4) (s1 := slots + 21) F hD.symm (kp_runV (As := []) (rest := [.int r1]) F hD.2.1 (ct_X5_remainingTime l E _ _ (hM' o bm SM (fun r2 S2 => r2 = r ∧ ShM o bm S2 ∧ view o bm S2 = toV A') hsm hvw (fun S' z1 z2 => ⟨rfl, z1, z2⟩))) hsm.1 cbX5 rfl cf_X5_remainingTime tw_659 rfl hl.1 ⟨Nat.le_of_ble_eq_true rfl, Nat.le_of_ble_eq_true rfl⟩ (Nat.le_of_ble_eq_true rfl) dL_law_471 ⟨hc, hs⟩) (Nat.le_refl _) (Nat.le_refl _) (fun r2 S2 H locs hp hD => ?_)
  obtain ⟨e2, hsm2, hvw2⟩ := hp
  refine lv_icmp_eq (tgt := 679) hx hb dL_law_474 (by decide) (fun _ => ?_) (fun z => absurd (e1.trans e2.symm) z)
  exact kk A' la1 S1 S2 H locs ⟨hD.symm, hrx1, hsm2, hvw2, hJ'⟩
set_option maxHeartbeats 4000000 in
set_option maxRecDepth 100000 in
theorem law_c13 (F : FX p s m #[Value.ref b] meth c code 4 R_law E (fun q => s.heap.size ≤ q)) (hX : va_X b L xs s s.heap) (hbl : b < s.heap.size) (hL : L ≤ 3072) (hi : i + 6 ≤ L) (hR : R < 1000000000) (hl : lv_has ls 4 [(0, .ref b), (1, .ref (cx 32)), (2, .ref o), (3, .int (nI i))]) (hc : cells + 4 ≤ room_1.cells) (hs : slots + 21 ≤ room_1.slots) (hK : LK E s cx la bm o A R SX SM H locs)
    (kk : ∀ A' la' SX' SM' H1 locs1, LK E s cx la' bm o A' (R + 1001000) SX' SM' H1 locs1 → W p l e room_1 s m #[Value.ref b] below meth c H1 locs1 (cells + 4) (slots + 21) Q (F0 m 679 ls [])) : W p l e room_1 s m #[Value.ref b] below meth c H locs cells slots Q (F0 m 479 ls []) := by
  obtain ⟨hD, hrx, hsm, hvw, hJ⟩ := hK
  obtain ⟨r, A', hJ', hX', hM'⟩ := du_pbind (e0 := E.e0) (c := cx)  hJ hR
  have hx := F.1
  have hb := F.2.1
  have hbA : ¬ (fun q => s.heap.size ≤ q) b := fun z => Nat.not_le.mpr hbl z
  have hS := hD.1.2.2
  refine lv_aload_n hx hb dL_law_479 rfl (lv_at hl 1 rfl) ?_
  refine k2_calli (c1 := cells + 4) (s1 := slots + 21) F hD (kp_runV (As := []) (rest := []) F hD.1 (ct_X4_pendingBinding l E _ _ (hX' la SX (fun r1 S1 => r1 = r ∧ ∃ la', RepX E.e0 cx la' A' S1) hrx (fun la' S' z => ⟨rfl, la', z⟩))) (hrx.ok 32) cbX4 rfl cf_X4_pendingBinding tw_424 rfl hl.1 ⟨Nat.le_of_ble_eq_true rfl, Nat.le_of_ble_eq_true rfl⟩ (Nat.le_of_ble_eq_true rfl) dL_law_480 ⟨Nat.le_trans (Nat.add_le_add_left (show rm_X4_pendingBinding.cells ≤ 4 from Nat.le_of_ble_eq_true rfl) _) hc, Nat.le_trans (Nat.add_le_add_left (show rm_X4_pendingBinding.slots ≤ 21 from Nat.le_of_ble_eq_true rfl) _) hs⟩) (Nat.add_le_add_left (show rm_X4_pendingBinding.cells ≤ 4 from Nat.le_of_ble_eq_true rfl) _) (Nat.add_le_add_left (show rm_X4_pendingBinding.slots ≤ 21 from Nat.le_of_ble_eq_true rfl) _) (fun r1 S1 H locs hp hD => ?_)
  obtain ⟨e1, la1, hrx1⟩ := hp
  have hS := hD.1.2.2
  refine lv_aload_n hx hb dL_law_483 rfl (lv_at hl 2 rfl) ?_
  refine k2_calli (c1 := cells + 4) (s1 := slots + 21) F hD.symm (kp_runV (As := []) (rest := [.int r1]) F hD.2.1 (ct_X5_pendingBinding l E _ _ (hM' o bm SM (fun r2 S2 => r2 = r ∧ ShM o bm S2 ∧ view o bm S2 = toV A') hsm hvw (fun S' z1 z2 => ⟨rfl, z1, z2⟩))) hsm.1 cbX5 rfl cf_X5_pendingBinding tw_663 rfl hl.1 ⟨Nat.le_of_ble_eq_true rfl, Nat.le_of_ble_eq_true rfl⟩ (Nat.le_of_ble_eq_true rfl) dL_law_484 ⟨hc, hs⟩) (Nat.le_refl _) (Nat.le_refl _) (fun r2 S2 H locs hp hD => ?_)
  obtain ⟨e2, hsm2, hvw2⟩ := hp
  refine lv_icmp_eq (tgt := 679) hx hb dL_law_487 (by decide) (fun _ => ?_) (fun z => absurd (e1.trans e2.symm) z)
  exact kk A' la1 S1 S2 H locs ⟨hD.symm, hrx1, hsm2, hvw2, hJ'⟩
set_option maxHeartbeats 4000000 in
set_option maxRecDepth 100000 in
theorem law_c14 (F : FX p s m #[Value.ref b] meth c code 4 R_law E (fun q => s.heap.size ≤ q)) (hX : va_X b L xs s s.heap) (hbl : b < s.heap.size) (hL : L ≤ 3072) (hi : i + 6 ≤ L) (hR : R < 1000000000) (hl : lv_has ls 4 [(0, .ref b), (1, .ref (cx 32)), (2, .ref o), (3, .int (nI i))]) (hc : cells + 4 ≤ room_1.cells) (hs : slots + 21 ≤ room_1.slots) (hK : LK E s cx la bm o A R SX SM H locs)
    (kk : ∀ A' la' SX' SM' H1 locs1, LK E s cx la' bm o A' (R + 1001000) SX' SM' H1 locs1 → W p l e room_1 s m #[Value.ref b] below meth c H1 locs1 (cells + 4) (slots + 21) Q (F0 m 679 ls [])) : W p l e room_1 s m #[Value.ref b] below meth c H locs cells slots Q (F0 m 492 ls []) := by
  obtain ⟨hD, hrx, hsm, hvw, hJ⟩ := hK
  obtain ⟨r, A', hJ', hX', hM'⟩ := du_flag (e0 := E.e0) (c := cx) (x := (xs (nI i + 1).toNatClampNeg)) hJ hR
  have hx := F.1
  have hb := F.2.1
  have hbA : ¬ (fun q => s.heap.size ≤ q) b := fun z => Nat.not_le.mpr hbl z
  have hS := hD.1.2.2
  refine lv_aload_n hx hb dL_law_492 rfl (lv_at hl 1 rfl) ?_
  refine lv_aload_n hx hb dL_law_493 rfl (lv_at hl 0 rfl) ?_
  refine lv_iload_n hx hb dL_law_494 rfl (lv_at hl 3 rfl) ?_
  refine lv_iconst (v := 1) hx hb dL_law_495 (by decide) ?_
  refine lv_iadd hx hb dL_law_496 ?_
  refine va_sld hx hb hX hbl hbA hS (vin_i (k := 1) hi hL (by decide) rfl) dL_law_497 ?_
  refine k2_calli (c1 := cells + 4) (s1 := slots + 21) F hD (kp_runV (As := [.int (xs (nI i + 1).toNatClampNeg)]) (rest := []) F hD.1 (ct_X4_flag l E _ _ _ (hX' la SX (fun r1 S1 => r1 = r ∧ ∃ la', RepX E.e0 cx la' A' S1) hrx (fun la' S' z => ⟨rfl, la', z⟩))) (hrx.ok 32) cbX4 rfl cf_X4_flag tw_428 rfl hl.1 ⟨Nat.le_of_ble_eq_true rfl, Nat.le_of_ble_eq_true rfl⟩ (Nat.le_of_ble_eq_true rfl) dL_law_498 ⟨Nat.le_trans (Nat.add_le_add_left (show rm_X4_flag.cells ≤ 4 from Nat.le_of_ble_eq_true rfl) _) hc, Nat.le_trans (Nat.add_le_add_left (show rm_X4_flag.slots ≤ 21 from Nat.le_of_ble_eq_true rfl) _) hs⟩) (Nat.add_le_add_left (show rm_X4_flag.cells ≤ 4 from Nat.le_of_ble_eq_true rfl) _) (Nat.add_le_add_left (show rm_X4_flag.slots ≤ 21 from Nat.le_of_ble_eq_true rfl) _) (fun r1 S1 H locs hp hD => ?_)
  obtain ⟨e1, la1, hrx1⟩ := hp
  have hS := hD.1.2.2
  refine lv_aload_n hx hb dL_law_501 rfl (lv_at hl 2 rfl) ?_
  refine lv_aload_n hx hb dL_law_502 rfl (lv_at hl 0 rfl) ?_
  refine lv_iload_n hx hb dL_law_503 rfl (lv_at hl 3 rfl) ?_
  refine lv_iconst (v := 1) hx hb dL_law_504 (by decide) ?_
  refine lv_iadd hx hb dL_law_505 ?_
  refine va_sld hx hb hX hbl hbA hS (vin_i (k := 1) hi hL (by decide) rfl) dL_law_506 ?_
  refine k2_calli (c1 := cells + 4) (s1 := slots + 21) F hD.symm (kp_runV (As := [.int (xs (nI i + 1).toNatClampNeg)]) (rest := [.int r1]) F hD.2.1 (ct_X5_flag l E _ _ _ (hM' o bm SM (fun r2 S2 => r2 = r ∧ ShM o bm S2 ∧ view o bm S2 = toV A') hsm hvw (fun S' z1 z2 => ⟨rfl, z1, z2⟩))) hsm.1 cbX5 rfl cf_X5_flag tw_667 rfl hl.1 ⟨Nat.le_of_ble_eq_true rfl, Nat.le_of_ble_eq_true rfl⟩ (Nat.le_of_ble_eq_true rfl) dL_law_507 ⟨hc, hs⟩) (Nat.le_refl _) (Nat.le_refl _) (fun r2 S2 H locs hp hD => ?_)
  obtain ⟨e2, hsm2, hvw2⟩ := hp
  refine lv_icmp_eq (tgt := 679) hx hb dL_law_510 (by decide) (fun _ => ?_) (fun z => absurd (e1.trans e2.symm) z)
  exact kk A' la1 S1 S2 H locs ⟨hD.symm, hrx1, hsm2, hvw2, hJ'⟩
set_option maxHeartbeats 4000000 in
set_option maxRecDepth 100000 in
theorem law_c15 (F : FX p s m #[Value.ref b] meth c code 4 R_law E (fun q => s.heap.size ≤ q)) (hX : va_X b L xs s s.heap) (hbl : b < s.heap.size) (hL : L ≤ 3072) (hi : i + 6 ≤ L) (hR : R < 1000000000) (hl : lv_has ls 4 [(0, .ref b), (1, .ref (cx 32)), (2, .ref o), (3, .int (nI i))]) (hc : cells + 4 ≤ room_1.cells) (hs : slots + 21 ≤ room_1.slots) (hK : LK E s cx la bm o A R SX SM H locs)
    (kk : ∀ A' la' SX' SM' H1 locs1, LK E s cx la' bm o A' (R + 1001000) SX' SM' H1 locs1 → W p l e room_1 s m #[Value.ref b] below meth c H1 locs1 (cells + 4) (slots + 21) Q (F0 m 679 ls [])) : W p l e room_1 s m #[Value.ref b] below meth c H locs cells slots Q (F0 m 515 ls []) := by
  obtain ⟨hD, hrx, hsm, hvw, hJ⟩ := hK
  obtain ⟨r, A', hJ', hX', hM'⟩ := du_ssize (e0 := E.e0) (c := cx)  hJ hR
  have hx := F.1
  have hb := F.2.1
  have hbA : ¬ (fun q => s.heap.size ≤ q) b := fun z => Nat.not_le.mpr hbl z
  have hS := hD.1.2.2
  refine lv_aload_n hx hb dL_law_515 rfl (lv_at hl 1 rfl) ?_
  refine k2_calli (c1 := cells + 4) (s1 := slots + 21) F hD (kp_runV (As := []) (rest := []) F hD.1 (ct_X4_stackSize l E _ _ (hX' la SX (fun r1 S1 => r1 = r ∧ ∃ la', RepX E.e0 cx la' A' S1) hrx (fun la' S' z => ⟨rfl, la', z⟩))) (hrx.ok 32) cbX4 rfl cf_X4_stackSize tw_432 rfl hl.1 ⟨Nat.le_of_ble_eq_true rfl, Nat.le_of_ble_eq_true rfl⟩ (Nat.le_of_ble_eq_true rfl) dL_law_516 ⟨Nat.le_trans (Nat.add_le_add_left (show rm_X4_stackSize.cells ≤ 4 from Nat.le_of_ble_eq_true rfl) _) hc, Nat.le_trans (Nat.add_le_add_left (show rm_X4_stackSize.slots ≤ 21 from Nat.le_of_ble_eq_true rfl) _) hs⟩) (Nat.add_le_add_left (show rm_X4_stackSize.cells ≤ 4 from Nat.le_of_ble_eq_true rfl) _) (Nat.add_le_add_left (show rm_X4_stackSize.slots ≤ 21 from Nat.le_of_ble_eq_true rfl) _) (fun r1 S1 H locs hp hD => ?_)
  obtain ⟨e1, la1, hrx1⟩ := hp
  have hS := hD.1.2.2
  refine lv_aload_n hx hb dL_law_519 rfl (lv_at hl 2 rfl) ?_
  refine k2_calli (c1 := cells + 4) (s1 := slots + 21) F hD.symm (kp_runV (As := []) (rest := [.int r1]) F hD.2.1 (ct_X5_stackSize l E _ _ (hM' o bm SM (fun r2 S2 => r2 = r ∧ ShM o bm S2 ∧ view o bm S2 = toV A') hsm hvw (fun S' z1 z2 => ⟨rfl, z1, z2⟩))) hsm.1 cbX5 rfl cf_X5_stackSize tw_671 rfl hl.1 ⟨Nat.le_of_ble_eq_true rfl, Nat.le_of_ble_eq_true rfl⟩ (Nat.le_of_ble_eq_true rfl) dL_law_520 ⟨hc, hs⟩) (Nat.le_refl _) (Nat.le_refl _) (fun r2 S2 H locs hp hD => ?_)
  obtain ⟨e2, hsm2, hvw2⟩ := hp
  refine lv_icmp_eq (tgt := 679) hx hb dL_law_523 (by decide) (fun _ => ?_) (fun z => absurd (e1.trans e2.symm) z)
  exact kk A' la1 S1 S2 H locs ⟨hD.symm, hrx1, hsm2, hvw2, hJ'⟩
set_option maxHeartbeats 4000000 in
set_option maxRecDepth 100000 in
theorem law_c16 (F : FX p s m #[Value.ref b] meth c code 4 R_law E (fun q => s.heap.size ≤ q)) (hX : va_X b L xs s s.heap) (hbl : b < s.heap.size) (hL : L ≤ 3072) (hi : i + 6 ≤ L) (hR : R < 1000000000) (hl : lv_has ls 4 [(0, .ref b), (1, .ref (cx 32)), (2, .ref o), (3, .int (nI i))]) (hc : cells + 4 ≤ room_1.cells) (hs : slots + 21 ≤ room_1.slots) (hK : LK E s cx la bm o A R SX SM H locs)
    (kk : ∀ A' la' SX' SM' H1 locs1, LK E s cx la' bm o A' (R + 1001000) SX' SM' H1 locs1 → W p l e room_1 s m #[Value.ref b] below meth c H1 locs1 (cells + 4) (slots + 21) Q (F0 m 679 ls [])) : W p l e room_1 s m #[Value.ref b] below meth c H locs cells slots Q (F0 m 528 ls []) := by
  obtain ⟨hD, hrx, hsm, hvw, hJ⟩ := hK
  obtain ⟨r, A', hJ', hX', hM'⟩ := du_sctx (e0 := E.e0) (c := cx) (x := (xs (nI i + 1).toNatClampNeg)) hJ hR
  have hx := F.1
  have hb := F.2.1
  have hbA : ¬ (fun q => s.heap.size ≤ q) b := fun z => Nat.not_le.mpr hbl z
  have hS := hD.1.2.2
  refine lv_aload_n hx hb dL_law_528 rfl (lv_at hl 1 rfl) ?_
  refine lv_aload_n hx hb dL_law_529 rfl (lv_at hl 0 rfl) ?_
  refine lv_iload_n hx hb dL_law_530 rfl (lv_at hl 3 rfl) ?_
  refine lv_iconst (v := 1) hx hb dL_law_531 (by decide) ?_
  refine lv_iadd hx hb dL_law_532 ?_
  refine va_sld hx hb hX hbl hbA hS (vin_i (k := 1) hi hL (by decide) rfl) dL_law_533 ?_
  refine k2_calli (c1 := cells + 4) (s1 := slots + 21) F hD (kp_runV (As := [.int (xs (nI i + 1).toNatClampNeg)]) (rest := []) F hD.1 (ct_X4_stackContext l E _ _ _ (hX' la SX (fun r1 S1 => r1 = r ∧ ∃ la', RepX E.e0 cx la' A' S1) hrx (fun la' S' z => ⟨rfl, la', z⟩))) (hrx.ok 32) cbX4 rfl cf_X4_stackContext tw_436 rfl hl.1 ⟨Nat.le_of_ble_eq_true rfl, Nat.le_of_ble_eq_true rfl⟩ (Nat.le_of_ble_eq_true rfl) dL_law_534 ⟨Nat.le_trans (Nat.add_le_add_left (show rm_X4_stackContext.cells ≤ 4 from Nat.le_of_ble_eq_true rfl) _) hc, Nat.le_trans (Nat.add_le_add_left (show rm_X4_stackContext.slots ≤ 21 from Nat.le_of_ble_eq_true rfl) _) hs⟩) (Nat.add_le_add_left (show rm_X4_stackContext.cells ≤ 4 from Nat.le_of_ble_eq_true rfl) _) (Nat.add_le_add_left (show rm_X4_stackContext.slots ≤ 21 from Nat.le_of_ble_eq_true rfl) _) (fun r1 S1 H locs hp hD => ?_)
  obtain ⟨e1, la1, hrx1⟩ := hp
  have hS := hD.1.2.2
  refine lv_aload_n hx hb dL_law_537 rfl (lv_at hl 2 rfl) ?_
  refine lv_aload_n hx hb dL_law_538 rfl (lv_at hl 0 rfl) ?_
  refine lv_iload_n hx hb dL_law_539 rfl (lv_at hl 3 rfl) ?_
  refine lv_iconst (v := 1) hx hb dL_law_540 (by decide) ?_
  refine lv_iadd hx hb dL_law_541 ?_
  refine va_sld hx hb hX hbl hbA hS (vin_i (k := 1) hi hL (by decide) rfl) dL_law_542 ?_
  refine k2_calli (c1 := cells + 4) (s1 := slots + 21) F hD.symm (kp_runV (As := [.int (xs (nI i + 1).toNatClampNeg)]) (rest := [.int r1]) F hD.2.1 (ct_X5_stackContext l E _ _ _ (hM' o bm SM (fun r2 S2 => r2 = r ∧ ShM o bm S2 ∧ view o bm S2 = toV A') hsm hvw (fun S' z1 z2 => ⟨rfl, z1, z2⟩))) hsm.1 cbX5 rfl cf_X5_stackContext tw_675 rfl hl.1 ⟨Nat.le_of_ble_eq_true rfl, Nat.le_of_ble_eq_true rfl⟩ (Nat.le_of_ble_eq_true rfl) dL_law_543 ⟨hc, hs⟩) (Nat.le_refl _) (Nat.le_refl _) (fun r2 S2 H locs hp hD => ?_)
  obtain ⟨e2, hsm2, hvw2⟩ := hp
  refine lv_icmp_eq (tgt := 679) hx hb dL_law_546 (by decide) (fun _ => ?_) (fun z => absurd (e1.trans e2.symm) z)
  exact kk A' la1 S1 S2 H locs ⟨hD.symm, hrx1, hsm2, hvw2, hJ'⟩
set_option maxHeartbeats 4000000 in
set_option maxRecDepth 100000 in
theorem law_c17 (F : FX p s m #[Value.ref b] meth c code 4 R_law E (fun q => s.heap.size ≤ q)) (hX : va_X b L xs s s.heap) (hbl : b < s.heap.size) (hL : L ≤ 3072) (hi : i + 6 ≤ L) (hR : R < 1000000000) (hl : lv_has ls 4 [(0, .ref b), (1, .ref (cx 32)), (2, .ref o), (3, .int (nI i))]) (hc : cells + 4 ≤ room_1.cells) (hs : slots + 21 ≤ room_1.slots) (hK : LK E s cx la bm o A R SX SM H locs)
    (kk : ∀ A' la' SX' SM' H1 locs1, LK E s cx la' bm o A' (R + 1001000) SX' SM' H1 locs1 → W p l e room_1 s m #[Value.ref b] below meth c H1 locs1 (cells + 4) (slots + 21) Q (F0 m 679 ls [])) : W p l e room_1 s m #[Value.ref b] below meth c H locs cells slots Q (F0 m 551 ls []) := by
  obtain ⟨hD, hrx, hsm, hvw, hJ⟩ := hK
  obtain ⟨r, A', hJ', hX', hM'⟩ := du_start (e0 := E.e0) (c := cx) (x := (xs (nI i + 1).toNatClampNeg)) hJ hR
  have hx := F.1
  have hb := F.2.1
  have hbA : ¬ (fun q => s.heap.size ≤ q) b := fun z => Nat.not_le.mpr hbl z
  have hS := hD.1.2.2
  refine lv_aload_n hx hb dL_law_551 rfl (lv_at hl 1 rfl) ?_
  refine lv_aload_n hx hb dL_law_552 rfl (lv_at hl 0 rfl) ?_
  refine lv_iload_n hx hb dL_law_553 rfl (lv_at hl 3 rfl) ?_
  refine lv_iconst (v := 1) hx hb dL_law_554 (by decide) ?_
  refine lv_iadd hx hb dL_law_555 ?_
  refine va_sld hx hb hX hbl hbA hS (vin_i (k := 1) hi hL (by decide) rfl) dL_law_556 ?_
  refine k2_calli (c1 := cells + 4) (s1 := slots + 21) F hD (kp_runV (As := [.int (xs (nI i + 1).toNatClampNeg)]) (rest := []) F hD.1 (ct_X4_startRecording l E _ _ _ (hX' la SX (fun r1 S1 => r1 = r ∧ ∃ la', RepX E.e0 cx la' A' S1) hrx (fun la' S' z => ⟨rfl, la', z⟩))) (hrx.ok 32) cbX4 rfl cf_X4_startRecording tw_440 rfl hl.1 ⟨Nat.le_of_ble_eq_true rfl, Nat.le_of_ble_eq_true rfl⟩ (Nat.le_of_ble_eq_true rfl) dL_law_557 ⟨Nat.le_trans (Nat.add_le_add_left (show rm_X4_startRecording.cells ≤ 4 from Nat.le_of_ble_eq_true rfl) _) hc, Nat.le_trans (Nat.add_le_add_left (show rm_X4_startRecording.slots ≤ 21 from Nat.le_of_ble_eq_true rfl) _) hs⟩) (Nat.add_le_add_left (show rm_X4_startRecording.cells ≤ 4 from Nat.le_of_ble_eq_true rfl) _) (Nat.add_le_add_left (show rm_X4_startRecording.slots ≤ 21 from Nat.le_of_ble_eq_true rfl) _) (fun r1 S1 H locs hp hD => ?_)
  obtain ⟨e1, la1, hrx1⟩ := hp
  have hS := hD.1.2.2
  refine lv_aload_n hx hb dL_law_560 rfl (lv_at hl 2 rfl) ?_
  refine lv_aload_n hx hb dL_law_561 rfl (lv_at hl 0 rfl) ?_
  refine lv_iload_n hx hb dL_law_562 rfl (lv_at hl 3 rfl) ?_
  refine lv_iconst (v := 1) hx hb dL_law_563 (by decide) ?_
  refine lv_iadd hx hb dL_law_564 ?_
  refine va_sld hx hb hX hbl hbA hS (vin_i (k := 1) hi hL (by decide) rfl) dL_law_565 ?_
  refine k2_calli (c1 := cells + 4) (s1 := slots + 21) F hD.symm (kp_runV (As := [.int (xs (nI i + 1).toNatClampNeg)]) (rest := [.int r1]) F hD.2.1 (ct_X5_startRecording l E _ _ _ (hM' o bm SM (fun r2 S2 => r2 = r ∧ ShM o bm S2 ∧ view o bm S2 = toV A') hsm hvw (fun S' z1 z2 => ⟨rfl, z1, z2⟩))) hsm.1 cbX5 rfl cf_X5_startRecording tw_679 rfl hl.1 ⟨Nat.le_of_ble_eq_true rfl, Nat.le_of_ble_eq_true rfl⟩ (Nat.le_of_ble_eq_true rfl) dL_law_566 ⟨hc, hs⟩) (Nat.le_refl _) (Nat.le_refl _) (fun r2 S2 H locs hp hD => ?_)
  obtain ⟨e2, hsm2, hvw2⟩ := hp
  refine lv_icmp_eq (tgt := 679) hx hb dL_law_569 (by decide) (fun _ => ?_) (fun z => absurd (e1.trans e2.symm) z)
  exact kk A' la1 S1 S2 H locs ⟨hD.symm, hrx1, hsm2, hvw2, hJ'⟩
set_option maxHeartbeats 4000000 in
set_option maxRecDepth 100000 in
theorem law_c18 (F : FX p s m #[Value.ref b] meth c code 4 R_law E (fun q => s.heap.size ≤ q)) (hX : va_X b L xs s s.heap) (hbl : b < s.heap.size) (hL : L ≤ 3072) (hi : i + 6 ≤ L) (hR : R < 1000000000) (hl : lv_has ls 4 [(0, .ref b), (1, .ref (cx 32)), (2, .ref o), (3, .int (nI i))]) (hc : cells + 4 ≤ room_1.cells) (hs : slots + 21 ≤ room_1.slots) (hK : LK E s cx la bm o A R SX SM H locs)
    (kk : ∀ A' la' SX' SM' H1 locs1, LK E s cx la' bm o A' (R + 1001000) SX' SM' H1 locs1 → W p l e room_1 s m #[Value.ref b] below meth c H1 locs1 (cells + 4) (slots + 21) Q (F0 m 679 ls [])) : W p l e room_1 s m #[Value.ref b] below meth c H locs cells slots Q (F0 m 574 ls []) := by
  obtain ⟨hD, hrx, hsm, hvw, hJ⟩ := hK
  obtain ⟨r, A', hJ', hX', hM'⟩ := du_stop (e0 := E.e0) (c := cx)  hJ hR
  have hx := F.1
  have hb := F.2.1
  have hbA : ¬ (fun q => s.heap.size ≤ q) b := fun z => Nat.not_le.mpr hbl z
  have hS := hD.1.2.2
  refine lv_aload_n hx hb dL_law_574 rfl (lv_at hl 1 rfl) ?_
  refine k2_calli (c1 := cells + 4) (s1 := slots + 21) F hD (kp_runV (As := []) (rest := []) F hD.1 (ct_X4_stopRecording l E _ _ (hX' la SX (fun r1 S1 => r1 = r ∧ ∃ la', RepX E.e0 cx la' A' S1) hrx (fun la' S' z => ⟨rfl, la', z⟩))) (hrx.ok 32) cbX4 rfl cf_X4_stopRecording tw_444 rfl hl.1 ⟨Nat.le_of_ble_eq_true rfl, Nat.le_of_ble_eq_true rfl⟩ (Nat.le_of_ble_eq_true rfl) dL_law_575 ⟨Nat.le_trans (Nat.add_le_add_left (show rm_X4_stopRecording.cells ≤ 4 from Nat.le_of_ble_eq_true rfl) _) hc, Nat.le_trans (Nat.add_le_add_left (show rm_X4_stopRecording.slots ≤ 21 from Nat.le_of_ble_eq_true rfl) _) hs⟩) (Nat.add_le_add_left (show rm_X4_stopRecording.cells ≤ 4 from Nat.le_of_ble_eq_true rfl) _) (Nat.add_le_add_left (show rm_X4_stopRecording.slots ≤ 21 from Nat.le_of_ble_eq_true rfl) _) (fun r1 S1 H locs hp hD => ?_)
  obtain ⟨e1, la1, hrx1⟩ := hp
  have hS := hD.1.2.2
  refine lv_aload_n hx hb dL_law_578 rfl (lv_at hl 2 rfl) ?_
  refine k2_calli (c1 := cells + 4) (s1 := slots + 21) F hD.symm (kp_runV (As := []) (rest := [.int r1]) F hD.2.1 (ct_X5_stopRecording l E _ _ (hM' o bm SM (fun r2 S2 => r2 = r ∧ ShM o bm S2 ∧ view o bm S2 = toV A') hsm hvw (fun S' z1 z2 => ⟨rfl, z1, z2⟩))) hsm.1 cbX5 rfl cf_X5_stopRecording tw_683 rfl hl.1 ⟨Nat.le_of_ble_eq_true rfl, Nat.le_of_ble_eq_true rfl⟩ (Nat.le_of_ble_eq_true rfl) dL_law_579 ⟨hc, hs⟩) (Nat.le_refl _) (Nat.le_refl _) (fun r2 S2 H locs hp hD => ?_)
  obtain ⟨e2, hsm2, hvw2⟩ := hp
  refine lv_icmp_eq (tgt := 679) hx hb dL_law_582 (by decide) (fun _ => ?_) (fun z => absurd (e1.trans e2.symm) z)
  exact kk A' la1 S1 S2 H locs ⟨hD.symm, hrx1, hsm2, hvw2, hJ'⟩
set_option maxHeartbeats 4000000 in
set_option maxRecDepth 100000 in
theorem law_c19 (F : FX p s m #[Value.ref b] meth c code 4 R_law E (fun q => s.heap.size ≤ q)) (hX : va_X b L xs s s.heap) (hbl : b < s.heap.size) (hL : L ≤ 3072) (hi : i + 6 ≤ L) (hR : R < 1000000000) (hl : lv_has ls 4 [(0, .ref b), (1, .ref (cx 32)), (2, .ref o), (3, .int (nI i))]) (hc : cells + 4 ≤ room_1.cells) (hs : slots + 21 ≤ room_1.slots) (hK : LK E s cx la bm o A R SX SM H locs)
    (kk : ∀ A' la' SX' SM' H1 locs1, LK E s cx la' bm o A' (R + 1001000) SX' SM' H1 locs1 → W p l e room_1 s m #[Value.ref b] below meth c H1 locs1 (cells + 4) (slots + 21) Q (F0 m 679 ls [])) : W p l e room_1 s m #[Value.ref b] below meth c H locs cells slots Q (F0 m 587 ls []) := by
  obtain ⟨hD, hrx, hsm, hvw, hJ⟩ := hK
  obtain ⟨r, A', hJ', hX', hM'⟩ := du_mkey (e0 := E.e0) (c := cx) (x := (xs (nI i + 1).toNatClampNeg)) (y := (xs (nI i + 2).toNatClampNeg)) hJ hR
  have hx := F.1
  have hb := F.2.1
  have hbA : ¬ (fun q => s.heap.size ≤ q) b := fun z => Nat.not_le.mpr hbl z
  have hS := hD.1.2.2
  refine lv_aload_n hx hb dL_law_587 rfl (lv_at hl 1 rfl) ?_
  refine lv_aload_n hx hb dL_law_588 rfl (lv_at hl 0 rfl) ?_
  refine lv_iload_n hx hb dL_law_589 rfl (lv_at hl 3 rfl) ?_
  refine lv_iconst (v := 1) hx hb dL_law_590 (by decide) ?_
  refine lv_iadd hx hb dL_law_591 ?_
  refine va_sld hx hb hX hbl hbA hS (vin_i (k := 1) hi hL (by decide) rfl) dL_law_592 ?_
  refine lv_aload_n hx hb dL_law_593 rfl (lv_at hl 0 rfl) ?_
  refine lv_iload_n hx hb dL_law_594 rfl (lv_at hl 3 rfl) ?_
  refine lv_iconst (v := 2) hx hb dL_law_595 (by decide) ?_
  refine lv_iadd hx hb dL_law_596 ?_
  refine va_sld hx hb hX hbl hbA hS (vin_i (k := 2) hi hL (by decide) rfl) dL_law_597 ?_
  refine k2_calli (c1 := cells + 4) (s1 := slots + 21) F hD (kp_runV (As := [.int (xs (nI i + 1).toNatClampNeg), .int (xs (nI i + 2).toNatClampNeg)]) (rest := []) F hD.1 (ct_X4_macroKey l E _ _ _ _ (hX' la SX (fun r1 S1 => r1 = r ∧ ∃ la', RepX E.e0 cx la' A' S1) hrx (fun la' S' z => ⟨rfl, la', z⟩))) (hrx.ok 32) cbX4 rfl cf_X4_macroKey tw_448 rfl hl.1 ⟨Nat.le_of_ble_eq_true rfl, Nat.le_of_ble_eq_true rfl⟩ (Nat.le_of_ble_eq_true rfl) dL_law_598 ⟨Nat.le_trans (Nat.add_le_add_left (show rm_X4_macroKey.cells ≤ 4 from Nat.le_of_ble_eq_true rfl) _) hc, Nat.le_trans (Nat.add_le_add_left (show rm_X4_macroKey.slots ≤ 21 from Nat.le_of_ble_eq_true rfl) _) hs⟩) (Nat.add_le_add_left (show rm_X4_macroKey.cells ≤ 4 from Nat.le_of_ble_eq_true rfl) _) (Nat.add_le_add_left (show rm_X4_macroKey.slots ≤ 21 from Nat.le_of_ble_eq_true rfl) _) (fun r1 S1 H locs hp hD => ?_)
  obtain ⟨e1, la1, hrx1⟩ := hp
  have hS := hD.1.2.2
  refine lv_aload_n hx hb dL_law_601 rfl (lv_at hl 2 rfl) ?_
  refine lv_aload_n hx hb dL_law_602 rfl (lv_at hl 0 rfl) ?_
  refine lv_iload_n hx hb dL_law_603 rfl (lv_at hl 3 rfl) ?_
  refine lv_iconst (v := 1) hx hb dL_law_604 (by decide) ?_
  refine lv_iadd hx hb dL_law_605 ?_
  refine va_sld hx hb hX hbl hbA hS (vin_i (k := 1) hi hL (by decide) rfl) dL_law_606 ?_
  refine lv_aload_n hx hb dL_law_607 rfl (lv_at hl 0 rfl) ?_
  refine lv_iload_n hx hb dL_law_608 rfl (lv_at hl 3 rfl) ?_
  refine lv_iconst (v := 2) hx hb dL_law_609 (by decide) ?_
  refine lv_iadd hx hb dL_law_610 ?_
  refine va_sld hx hb hX hbl hbA hS (vin_i (k := 2) hi hL (by decide) rfl) dL_law_611 ?_
  refine k2_calli (c1 := cells + 4) (s1 := slots + 21) F hD.symm (kp_runV (As := [.int (xs (nI i + 1).toNatClampNeg), .int (xs (nI i + 2).toNatClampNeg)]) (rest := [.int r1]) F hD.2.1 (ct_X5_macroKey l E _ _ _ _ (hM' o bm SM (fun r2 S2 => r2 = r ∧ ShM o bm S2 ∧ view o bm S2 = toV A') hsm hvw (fun S' z1 z2 => ⟨rfl, z1, z2⟩))) hsm.1 cbX5 rfl cf_X5_macroKey tw_687 rfl hl.1 ⟨Nat.le_of_ble_eq_true rfl, Nat.le_of_ble_eq_true rfl⟩ (Nat.le_of_ble_eq_true rfl) dL_law_612 ⟨hc, hs⟩) (Nat.le_refl _) (Nat.le_refl _) (fun r2 S2 H locs hp hD => ?_)
  obtain ⟨e2, hsm2, hvw2⟩ := hp
  refine lv_icmp_eq (tgt := 679) hx hb dL_law_615 (by decide) (fun _ => ?_) (fun z => absurd (e1.trans e2.symm) z)
  exact kk A' la1 S1 S2 H locs ⟨hD.symm, hrx1, hsm2, hvw2, hJ'⟩
set_option maxHeartbeats 4000000 in
set_option maxRecDepth 100000 in
theorem law_c20 (F : FX p s m #[Value.ref b] meth c code 4 R_law E (fun q => s.heap.size ≤ q)) (hX : va_X b L xs s s.heap) (hbl : b < s.heap.size) (hL : L ≤ 3072) (hi : i + 6 ≤ L) (hR : R < 1000000000) (hl : lv_has ls 4 [(0, .ref b), (1, .ref (cx 32)), (2, .ref o), (3, .int (nI i))]) (hc : cells + 4 ≤ room_1.cells) (hs : slots + 21 ≤ room_1.slots) (hK : LK E s cx la bm o A R SX SM H locs)
    (kk : ∀ A' la' SX' SM' H1 locs1, LK E s cx la' bm o A' (R + 1001000) SX' SM' H1 locs1 → W p l e room_1 s m #[Value.ref b] below meth c H1 locs1 (cells + 4) (slots + 21) Q (F0 m 679 ls [])) : W p l e room_1 s m #[Value.ref b] below meth c H locs cells slots Q (F0 m 620 ls []) := by
  obtain ⟨hD, hrx, hsm, hvw, hJ⟩ := hK
  obtain ⟨r, A', hJ', hX', hM'⟩ := du_rcount (e0 := E.e0) (c := cx)  hJ hR
  have hx := F.1
  have hb := F.2.1
  have hbA : ¬ (fun q => s.heap.size ≤ q) b := fun z => Nat.not_le.mpr hbl z
  have hS := hD.1.2.2
  refine lv_aload_n hx hb dL_law_620 rfl (lv_at hl 1 rfl) ?_
  refine k2_calli (c1 := cells + 4) (s1 := slots + 21) F hD (kp_runV (As := []) (rest := []) F hD.1 (ct_X4_reportCount l E _ _ (hX' la SX (fun r1 S1 => r1 = r ∧ ∃ la', RepX E.e0 cx la' A' S1) hrx (fun la' S' z => ⟨rfl, la', z⟩))) (hrx.ok 32) cbX4 rfl cf_X4_reportCount tw_452 rfl hl.1 ⟨Nat.le_of_ble_eq_true rfl, Nat.le_of_ble_eq_true rfl⟩ (Nat.le_of_ble_eq_true rfl) dL_law_621 ⟨Nat.le_trans (Nat.add_le_add_left (show rm_X4_reportCount.cells ≤ 4 from Nat.le_of_ble_eq_true rfl) _) hc, Nat.le_trans (Nat.add_le_add_left (show rm_X4_reportCount.slots ≤ 21 from Nat.le_of_ble_eq_true rfl) _) hs⟩) (Nat.add_le_add_left (show rm_X4_reportCount.cells ≤ 4 from Nat.le_of_ble_eq_true rfl) _) (Nat.add_le_add_left (show rm_X4_reportCount.slots ≤ 21 from Nat.le_of_ble_eq_true rfl) _) (fun r1 S1 H locs hp hD => ?_)
  obtain ⟨e1, la1, hrx1⟩ := hp
  have hS := hD.1.2.2
  refine lv_aload_n hx hb dL_law_624 rfl (lv_at hl 2 rfl) ?_
  refine k2_calli (c1 := cells + 4) (s1 := slots + 21) F hD.symm (kp_runV (As := []) (rest := [.int r1]) F hD.2.1 (ct_X5_reportCount l E _ _ (hM' o bm SM (fun r2 S2 => r2 = r ∧ ShM o bm S2 ∧ view o bm S2 = toV A') hsm hvw (fun S' z1 z2 => ⟨rfl, z1, z2⟩))) hsm.1 cbX5 rfl cf_X5_reportCount tw_691 rfl hl.1 ⟨Nat.le_of_ble_eq_true rfl, Nat.le_of_ble_eq_true rfl⟩ (Nat.le_of_ble_eq_true rfl) dL_law_625 ⟨hc, hs⟩) (Nat.le_refl _) (Nat.le_refl _) (fun r2 S2 H locs hp hD => ?_)
  obtain ⟨e2, hsm2, hvw2⟩ := hp
  refine lv_icmp_eq (tgt := 679) hx hb dL_law_628 (by decide) (fun _ => ?_) (fun z => absurd (e1.trans e2.symm) z)
  exact kk A' la1 S1 S2 H locs ⟨hD.symm, hrx1, hsm2, hvw2, hJ'⟩
set_option maxHeartbeats 4000000 in
set_option maxRecDepth 100000 in
theorem law_c21 (F : FX p s m #[Value.ref b] meth c code 4 R_law E (fun q => s.heap.size ≤ q)) (hX : va_X b L xs s s.heap) (hbl : b < s.heap.size) (hL : L ≤ 3072) (hi : i + 6 ≤ L) (hR : R < 1000000000) (hl : lv_has ls 4 [(0, .ref b), (1, .ref (cx 32)), (2, .ref o), (3, .int (nI i))]) (hc : cells + 4 ≤ room_1.cells) (hs : slots + 21 ≤ room_1.slots) (hK : LK E s cx la bm o A R SX SM H locs)
    (kk : ∀ A' la' SX' SM' H1 locs1, LK E s cx la' bm o A' (R + 1001000) SX' SM' H1 locs1 → W p l e room_1 s m #[Value.ref b] below meth c H1 locs1 (cells + 4) (slots + 21) Q (F0 m 679 ls [])) : W p l e room_1 s m #[Value.ref b] below meth c H locs cells slots Q (F0 m 633 ls []) := by
  obtain ⟨hD, hrx, hsm, hvw, hJ⟩ := hK
  obtain ⟨r, A', hJ', hX', hM'⟩ := du_kind (e0 := E.e0) (c := cx) (x := (xs (nI i + 1).toNatClampNeg)) hJ hR
  have hx := F.1
  have hb := F.2.1
  have hbA : ¬ (fun q => s.heap.size ≤ q) b := fun z => Nat.not_le.mpr hbl z
  have hS := hD.1.2.2
  refine lv_aload_n hx hb dL_law_633 rfl (lv_at hl 1 rfl) ?_
  refine lv_aload_n hx hb dL_law_634 rfl (lv_at hl 0 rfl) ?_
  refine lv_iload_n hx hb dL_law_635 rfl (lv_at hl 3 rfl) ?_
  refine lv_iconst (v := 1) hx hb dL_law_636 (by decide) ?_
  refine lv_iadd hx hb dL_law_637 ?_
  refine va_sld hx hb hX hbl hbA hS (vin_i (k := 1) hi hL (by decide) rfl) dL_law_638 ?_
  refine k2_calli (c1 := cells + 4) (s1 := slots + 21) F hD (kp_runV (As := [.int (xs (nI i + 1).toNatClampNeg)]) (rest := []) F hD.1 (ct_X4_reportKind l E _ _ _ (hX' la SX (fun r1 S1 => r1 = r ∧ ∃ la', RepX E.e0 cx la' A' S1) hrx (fun la' S' z => ⟨rfl, la', z⟩))) (hrx.ok 32) cbX4 rfl cf_X4_reportKind tw_456 rfl hl.1 ⟨Nat.le_of_ble_eq_true rfl, Nat.le_of_ble_eq_true rfl⟩ (Nat.le_of_ble_eq_true rfl) dL_law_639 ⟨Nat.le_trans (Nat.add_le_add_left (show rm_X4_reportKind.cells ≤ 4 from Nat.le_of_ble_eq_true rfl) _) hc, Nat.le_trans (Nat.add_le_add_left (show rm_X4_reportKind.slots ≤ 21 from Nat.le_of_ble_eq_true rfl) _) hs⟩) (Nat.add_le_add_left (show rm_X4_reportKind.cells ≤ 4 from Nat.le_of_ble_eq_true rfl) _) (Nat.add_le_add_left (show rm_X4_reportKind.slots ≤ 21 from Nat.le_of_ble_eq_true rfl) _) (fun r1 S1 H locs hp hD => ?_)
  obtain ⟨e1, la1, hrx1⟩ := hp
  have hS := hD.1.2.2
  refine lv_aload_n hx hb dL_law_642 rfl (lv_at hl 2 rfl) ?_
  refine lv_aload_n hx hb dL_law_643 rfl (lv_at hl 0 rfl) ?_
  refine lv_iload_n hx hb dL_law_644 rfl (lv_at hl 3 rfl) ?_
  refine lv_iconst (v := 1) hx hb dL_law_645 (by decide) ?_
  refine lv_iadd hx hb dL_law_646 ?_
  refine va_sld hx hb hX hbl hbA hS (vin_i (k := 1) hi hL (by decide) rfl) dL_law_647 ?_
  refine k2_calli (c1 := cells + 4) (s1 := slots + 21) F hD.symm (kp_runV (As := [.int (xs (nI i + 1).toNatClampNeg)]) (rest := [.int r1]) F hD.2.1 (ct_X5_reportKind l E _ _ _ (hM' o bm SM (fun r2 S2 => r2 = r ∧ ShM o bm S2 ∧ view o bm S2 = toV A') hsm hvw (fun S' z1 z2 => ⟨rfl, z1, z2⟩))) hsm.1 cbX5 rfl cf_X5_reportKind tw_695 rfl hl.1 ⟨Nat.le_of_ble_eq_true rfl, Nat.le_of_ble_eq_true rfl⟩ (Nat.le_of_ble_eq_true rfl) dL_law_648 ⟨hc, hs⟩) (Nat.le_refl _) (Nat.le_refl _) (fun r2 S2 H locs hp hD => ?_)
  obtain ⟨e2, hsm2, hvw2⟩ := hp
  refine lv_icmp_eq (tgt := 679) hx hb dL_law_651 (by decide) (fun _ => ?_) (fun z => absurd (e1.trans e2.symm) z)
  exact kk A' la1 S1 S2 H locs ⟨hD.symm, hrx1, hsm2, hvw2, hJ'⟩
set_option maxHeartbeats 4000000 in
set_option maxRecDepth 100000 in
theorem law_c22 (F : FX p s m #[Value.ref b] meth c code 4 R_law E (fun q => s.heap.size ≤ q)) (hX : va_X b L xs s s.heap) (hbl : b < s.heap.size) (hL : L ≤ 3072) (hi : i + 6 ≤ L) (hR : R < 1000000000) (hl : lv_has ls 4 [(0, .ref b), (1, .ref (cx 32)), (2, .ref o), (3, .int (nI i))]) (hc : cells + 4 ≤ room_1.cells) (hs : slots + 21 ≤ room_1.slots) (hK : LK E s cx la bm o A R SX SM H locs)
    (kk : ∀ A' la' SX' SM' H1 locs1, LK E s cx la' bm o A' (R + 1001000) SX' SM' H1 locs1 → W p l e room_1 s m #[Value.ref b] below meth c H1 locs1 (cells + 4) (slots + 21) Q (F0 m 679 ls [])) : W p l e room_1 s m #[Value.ref b] below meth c H locs cells slots Q (F0 m 656 ls []) := by
  obtain ⟨hD, hrx, hsm, hvw, hJ⟩ := hK
  obtain ⟨r, A', hJ', hX', hM'⟩ := du_arg (e0 := E.e0) (c := cx) (x := (xs (nI i + 1).toNatClampNeg)) hJ hR
  have hx := F.1
  have hb := F.2.1
  have hbA : ¬ (fun q => s.heap.size ≤ q) b := fun z => Nat.not_le.mpr hbl z
  have hS := hD.1.2.2
  refine lv_aload_n hx hb dL_law_656 rfl (lv_at hl 1 rfl) ?_
  refine lv_aload_n hx hb dL_law_657 rfl (lv_at hl 0 rfl) ?_
  refine lv_iload_n hx hb dL_law_658 rfl (lv_at hl 3 rfl) ?_
  refine lv_iconst (v := 1) hx hb dL_law_659 (by decide) ?_
  refine lv_iadd hx hb dL_law_660 ?_
  refine va_sld hx hb hX hbl hbA hS (vin_i (k := 1) hi hL (by decide) rfl) dL_law_661 ?_
  refine k2_calli (c1 := cells + 4) (s1 := slots + 21) F hD (kp_runV (As := [.int (xs (nI i + 1).toNatClampNeg)]) (rest := []) F hD.1 (ct_X4_reportArgument l E _ _ _ (hX' la SX (fun r1 S1 => r1 = r ∧ ∃ la', RepX E.e0 cx la' A' S1) hrx (fun la' S' z => ⟨rfl, la', z⟩))) (hrx.ok 32) cbX4 rfl cf_X4_reportArgument tw_468 rfl hl.1 ⟨Nat.le_of_ble_eq_true rfl, Nat.le_of_ble_eq_true rfl⟩ (Nat.le_of_ble_eq_true rfl) dL_law_662 ⟨Nat.le_trans (Nat.add_le_add_left (show rm_X4_reportArgument.cells ≤ 4 from Nat.le_of_ble_eq_true rfl) _) hc, Nat.le_trans (Nat.add_le_add_left (show rm_X4_reportArgument.slots ≤ 21 from Nat.le_of_ble_eq_true rfl) _) hs⟩) (Nat.add_le_add_left (show rm_X4_reportArgument.cells ≤ 4 from Nat.le_of_ble_eq_true rfl) _) (Nat.add_le_add_left (show rm_X4_reportArgument.slots ≤ 21 from Nat.le_of_ble_eq_true rfl) _) (fun r1 S1 H locs hp hD => ?_)
  obtain ⟨e1, la1, hrx1⟩ := hp
  have hS := hD.1.2.2
  refine lv_aload_n hx hb dL_law_665 rfl (lv_at hl 2 rfl) ?_
  refine lv_aload_n hx hb dL_law_666 rfl (lv_at hl 0 rfl) ?_
  refine lv_iload_n hx hb dL_law_667 rfl (lv_at hl 3 rfl) ?_
  refine lv_iconst (v := 1) hx hb dL_law_668 (by decide) ?_
  refine lv_iadd hx hb dL_law_669 ?_
  refine va_sld hx hb hX hbl hbA hS (vin_i (k := 1) hi hL (by decide) rfl) dL_law_670 ?_
  refine k2_calli (c1 := cells + 4) (s1 := slots + 21) F hD.symm (kp_runV (As := [.int (xs (nI i + 1).toNatClampNeg)]) (rest := [.int r1]) F hD.2.1 (ct_X5_reportArgument l E _ _ _ (hM' o bm SM (fun r2 S2 => r2 = r ∧ ShM o bm S2 ∧ view o bm S2 = toV A') hsm hvw (fun S' z1 z2 => ⟨rfl, z1, z2⟩))) hsm.1 cbX5 rfl cf_X5_reportArgument tw_703 rfl hl.1 ⟨Nat.le_of_ble_eq_true rfl, Nat.le_of_ble_eq_true rfl⟩ (Nat.le_of_ble_eq_true rfl) dL_law_671 ⟨hc, hs⟩) (Nat.le_refl _) (Nat.le_refl _) (fun r2 S2 H locs hp hD => ?_)
  obtain ⟨e2, hsm2, hvw2⟩ := hp
  refine lv_icmp_eq (tgt := 679) hx hb dL_law_674 (by decide) (fun _ => ?_) (fun z => absurd (e1.trans e2.symm) z)
  exact kk A' la1 S1 S2 H locs ⟨hD.symm, hrx1, hsm2, hvw2, hJ'⟩
end LAW
