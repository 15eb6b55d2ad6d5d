/-! THE LAW, its loop and its start -/
theorem law_gt {i L : Nat} (hi : i < 4000) (hL : L ≤ 3072) : nI L - 6 < nI i ↔ L < i + 6 := by
  rw [Int32.lt_iff_toInt_lt, nI_toInt (by omega), show (6 : Int32) = nI 6 from rfl, Int32.toInt_sub, nI_toInt (by omega), nI_toInt (by omega), Int.bmod_eq_of_le (by omega) (by omega)]
  omega
set_option maxHeartbeats 4000000 in
set_option maxRecDepth 100000 in
theorem law_loop {p : Program} {l : Launch} {e : Env} {s : State} {m : MethodId} {below : List Frame} {meth : Method} {c : Code} {E : EV} {b L o : Nat} {xs : Nat → Int32} {cx bm : Nat → Nat} (F : FX p s m #[Value.ref b] meth c code 4 R_law E (fun q => s.heap.size ≤ q)) (hr : meth.sig.returnType = ret) (hX : va_X b L xs s s.heap) (hbl : b < s.heap.size) (hL : L ≤ 3072) :
    ∀ (k n : Nat) (A : aS) (la : Nat → Nat) (SX SM : pS) (H : Heap) (locs : List Loc) (ls : Array Slot), n + k = 513 → 6 * n ≤ 3072 → LK E s cx la bm o A (1001000 * n) SX SM H locs → lv_has ls 4 [(0, .ref b), (1, .ref (cx 32)), (2, .ref o), (3, .int (nI (6 * n)))] →
      W p l e room_1 s m #[Value.ref b] below meth c H locs (56 + 4 * n) (1196 + 21 * n) (lw_Z below #[Value.ref b] s) (F0 m 18 ls []) := by
  have hx := F.1
  have hb := F.2.1
  have hlk := F.2.2.2.2.2.2.2.2.2.2
  have hbA : ¬ (fun q => s.heap.size ≤ q) b := fun z => Nat.not_le.mpr hbl z
  intro k
  induction k with
  | zero => intro n A la SX SM H locs ls h1 h2; omega
  | succ k ih =>
    intro n A la SX SM H locs ls hn h6 hK hl
    have hS := hK.1.1.2.2
    refine lv_iload_n hx hb dL_law_18 rfl (lv_at hl 3 rfl) ?_
    refine lv_aload_n hx hb dL_law_19 rfl (lv_at hl 0 rfl) ?_
    refine va_slen hx hb hX hbl hbA hS dL_law_20 ?_
    refine lv_bipush (v := 6) hx hb dL_law_21 (by decide) ?_
    refine lv_isub hx hb dL_law_23 ?_
    refine lv_icmp_gt (tgt := 685) hx hb dL_law_24 (by decide) (fun g => ?_) (fun g => ?_)
    · refine lv_iconst (v := 1) hx hb dL_law_685 (by decide) ?_
      refine va_forget (fun q hq => hS.2.2 q hq) ?_
      refine W.widen (k := 600000) (n := 7302250) (by omega) (by omega) ?_
      exact lw_ret hx hb hr hlk dL_law_686
    · have hi : 6 * n + 6 ≤ L := by
        have g : ¬ nI L - 6 < nI (6 * n) := g
        rw [law_gt (by omega) hL] at g
        omega
      have hR : 1001000 * n < 1000000000 := by omega
      have hc : 56 + 4 * n + 4 ≤ room_1.cells := Nat.le_trans (show 56 + 4 * n + 4 ≤ 3000 by omega) (Nat.le_of_ble_eq_true rfl)
      have hs : 1196 + 21 * n + 21 ≤ room_1.slots := Nat.le_trans (show 1196 + 21 * n + 21 ≤ 20000 by omega) (Nat.le_of_ble_eq_true rfl)
      have kk : ∀ A' la' SX' SM' H1 locs1, LK E s cx la' bm o A' (1001000 * n + 1001000) SX' SM' H1 locs1 → W p l e room_1 s m #[Value.ref b] below meth c H1 locs1 (56 + 4 * n + 4) (1196 + 21 * n + 21) (lw_Z below #[Value.ref b] s) (F0 m 679 ls []) := by
        intro A' la' SX' SM' H1 locs1 hK'
        refine lv_iinc (v := nI (6 * (n + 1))) (lv' := [(3, .int (nI (6 * (n + 1)))), (0, .ref b), (1, .ref (cx 32)), (2, .ref o)]) hx hb dL_law_679 hl (k := 3) rfl (show nI (6 * n) + nI 6 = nI (6 * n + 6) from nI_add _ _) (by decide) rfl (fun ls hl => ?_)
        refine lv_goto (tgt := 18) hx hb dL_law_682 (by decide) ?_
        have := ih (n + 1) A' la' SX' SM' H1 locs1 ls (by omega) (by omega) (by rw [show 1001000 * (n + 1) = 1001000 * n + 1001000 by omega]; exact hK') (lv_sub hl [1, 2, 3, 0] rfl)
        exact this
      refine lv_aload_n hx hb dL_law_27 rfl (lv_at hl 0 rfl) ?_
      refine lv_iload_n hx hb dL_law_28 rfl (lv_at hl 3 rfl) ?_
      refine va_sld hx hb hX hbl hbA hS (vp_in_nI (by omega) (by omega)) dL_law_29 ?_
      refine lv_bipush (v := 31) hx hb dL_law_30 (by decide) ?_
      refine lv_iand hx hb dL_law_32 ?_
      obtain ⟨j, hj, ej⟩ := pk_andE (xs (nI (6 * n)).toNatClampNeg) (m := 31) 5 (by decide)
      rw [ej]
      have hj : j < 32 := hj
      rcases (show j = 0 ∨ j = 1 ∨ j = 2 ∨ j = 3 ∨ j = 4 ∨ j = 5 ∨ j = 6 ∨ j = 7 ∨ j = 8 ∨ j = 9 ∨ j = 10 ∨ j = 11 ∨ j = 12 ∨ j = 13 ∨ j = 14 ∨ j = 15 ∨ j = 16 ∨ j = 17 ∨ j = 18 ∨ j = 19 ∨ j = 20 ∨ j = 21 ∨ j = 22 ∨ 22 < j by omega) with rfl | rfl | rfl | rfl | rfl | rfl | rfl | rfl | rfl | rfl | rfl | rfl | rfl | rfl | rfl | rfl | rfl | rfl | rfl | rfl | rfl | rfl | rfl | hj2
      · refine kp_tab (v := nI 0) (off := 107) (tgt := 140) hx hb dL_law_33 rfl (by decide) (by decide) (by decide) (by decide) ?_
        exact law_c0 F hX hbl hL hi hR hl hc hs hK kk
      · refine kp_tab (v := nI 1) (off := 130) (tgt := 163) hx hb dL_law_33 rfl (by decide) (by decide) (by decide) (by decide) ?_
        exact law_c1 F hX hbl hL hi hR hl hc hs hK kk
      · refine kp_tab (v := nI 2) (off := 143) (tgt := 176) hx hb dL_law_33 rfl (by decide) (by decide) (by decide) (by decide) ?_
        exact law_c2 F hX hbl hL hi hR hl hc hs hK kk
      · refine kp_tab (v := nI 3) (off := 206) (tgt := 239) hx hb dL_law_33 rfl (by decide) (by decide) (by decide) (by decide) ?_
        exact law_c3 F hX hbl hL hi hR hl hc hs hK kk
      · refine kp_tab (v := nI 4) (off := 239) (tgt := 272) hx hb dL_law_33 rfl (by decide) (by decide) (by decide) (by decide) ?_
        exact law_c4 F hX hbl hL hi hR hl hc hs hK kk
      · refine kp_tab (v := nI 5) (off := 262) (tgt := 295) hx hb dL_law_33 rfl (by decide) (by decide) (by decide) (by decide) ?_
        exact law_c5 F hX hbl hL hi hR hl hc hs hK kk
      · refine kp_tab (v := nI 6) (off := 295) (tgt := 328) hx hb dL_law_33 rfl (by decide) (by decide) (by decide) (by decide) ?_
        exact law_c6 F hX hbl hL hi hR hl hc hs hK kk
      · refine kp_tab (v := nI 7) (off := 318) (tgt := 351) hx hb dL_law_33 rfl (by decide) (by decide) (by decide) (by decide) ?_
        exact law_c7 F hX hbl hL hi hR hl hc hs hK kk
      · refine kp_tab (v := nI 8) (off := 341) (tgt := 374) hx hb dL_law_33 rfl (by decide) (by decide) (by decide) (by decide) ?_
        exact law_c8 F hX hbl hL hi hR hl hc hs hK kk
      · refine kp_tab (v := nI 9) (off := 364) (tgt := 397) hx hb dL_law_33 rfl (by decide) (by decide) (by decide) (by decide) ?_
        exact law_c9 F hX hbl hL hi hR hl hc hs hK kk
      · refine kp_tab (v := nI 10) (off := 397) (tgt := 430) hx hb dL_law_33 rfl (by decide) (by decide) (by decide) (by decide) ?_
        exact law_c10 F hX hbl hL hi hR hl hc hs hK kk
      · refine kp_tab (v := nI 11) (off := 410) (tgt := 443) hx hb dL_law_33 rfl (by decide) (by decide) (by decide) (by decide) ?_
        exact law_c11 F hX hbl hL hi hR hl hc hs hK kk
      · refine kp_tab (v := nI 12) (off := 433) (tgt := 466) hx hb dL_law_33 rfl (by decide) (by decide) (by decide) (by decide) ?_
        exact law_c12 F hX hbl hL hi hR hl hc hs hK kk
      · refine kp_tab (v := nI 13) (off := 446) (tgt := 479) hx hb dL_law_33 rfl (by decide) (by decide) (by decide) (by decide) ?_
        exact law_c13 F hX hbl hL hi hR hl hc hs hK kk
      · refine kp_tab (v := nI 14) (off := 459) (tgt := 492) hx hb dL_law_33 rfl (by decide) (by decide) (by decide) (by decide) ?_
        exact law_c14 F hX hbl hL hi hR hl hc hs hK kk
      · refine kp_tab (v := nI 15) (off := 482) (tgt := 515) hx hb dL_law_33 rfl (by decide) (by decide) (by decide) (by decide) ?_
        exact law_c15 F hX hbl hL hi hR hl hc hs hK kk
      · refine kp_tab (v := nI 16) (off := 495) (tgt := 528) hx hb dL_law_33 rfl (by decide) (by decide) (by decide) (by decide) ?_
        exact law_c16 F hX hbl hL hi hR hl hc hs hK kk
      · refine kp_tab (v := nI 17) (off := 518) (tgt := 551) hx hb dL_law_33 rfl (by decide) (by decide) (by decide) (by decide) ?_
        exact law_c17 F hX hbl hL hi hR hl hc hs hK kk
      · refine kp_tab (v := nI 18) (off := 541) (tgt := 574) hx hb dL_law_33 rfl (by decide) (by decide) (by decide) (by decide) ?_
        exact law_c18 F hX hbl hL hi hR hl hc hs hK kk
      · refine kp_tab (v := nI 19) (off := 554) (tgt := 587) hx hb dL_law_33 rfl (by decide) (by decide) (by decide) (by decide) ?_
        exact law_c19 F hX hbl hL hi hR hl hc hs hK kk
      · refine kp_tab (v := nI 20) (off := 587) (tgt := 620) hx hb dL_law_33 rfl (by decide) (by decide) (by decide) (by decide) ?_
        exact law_c20 F hX hbl hL hi hR hl hc hs hK kk
      · refine kp_tab (v := nI 21) (off := 600) (tgt := 633) hx hb dL_law_33 rfl (by decide) (by decide) (by decide) (by decide) ?_
        exact law_c21 F hX hbl hL hi hR hl hc hs hK kk
      · refine kp_tab (v := nI 22) (off := 623) (tgt := 656) hx hb dL_law_33 rfl (by decide) (by decide) (by decide) (by decide) ?_
        exact law_c22 F hX hbl hL hi hR hl hc hs hK kk
      · refine kp_tabD (tgt := 679) hx hb dL_law_33 (Or.inr (by rw [nI_toInt (by omega)]; omega)) (by decide) ?_
        refine W.widen (k := 56 + 4 * n + 4) (n := 1196 + 21 * n + 21) (by omega) (by omega) ?_
        obtain ⟨k1, k2, k3, k4, k5⟩ := hK
        exact kk A la SX SM H locs ⟨k1, k2, k3, k4, k5.up⟩
set_option maxHeartbeats 4000000 in
set_option maxRecDepth 100000 in
/-- THE LAW, from its entry -/
theorem whole_start {p : Program} {e : Env} {s : State} {m : MethodId} {below : List Frame} {meth : Method} {c : Code} (l : Launch) (hflags : l.flags = flags0) {b L : Nat} {xs : Nat → Int32} (hL : L ≤ 3072) (C0 : lw_At p s m meth c b L xs) : W p l e room_1 s m #[Value.ref b] below meth c s.heap [] 0 0 (lw_Z below #[Value.ref b] s) (entryFrame m ([Value.ref b] : List Value).toArray 4) := by
  obtain ⟨E, F⟩ := law_env C0
  obtain ⟨hx, hb, hr, hml, hown, hts, hX, hbl, hlocks, hgv⟩ := C0
  have hl := lv_entry ([.ref b]) (n := 4) (Nat.le_of_ble_eq_true rfl)
  rw [lg_entry_eq]
  generalize (lg_sl ([.ref b]) ++ List.replicate (4 - (lg_sl ([.ref b])).length) Slot.unset).toArray = ls at hl ⊢
  have hl : lv_has ls 4 [(0, .ref b)] := hl
  have hW : WD E (fun q => s.heap.size ≤ q) s S0 s.heap [] := WD.empty
  refine kp_new (c1 := 1) (s1 := 13) F hW cbX4 tw_16 tw_17 tw_1 dL_law_0 (Nat.le_of_ble_eq_true rfl) (Nat.le_of_ble_eq_true rfl) (Nat.le_of_ble_eq_true rfl) (Nat.le_of_ble_eq_true rfl) (fun q H _ hW => ?_)
  refine lv_dup hx hb dL_law_3 rfl ?_
  refine kp_callv (c1 := 39) (s1 := 555) F hW (kp_runI (As := []) (rest := [.ref q]) F hW (ct_X4_init l E _ _ (x_init (post := fun S1 => ∃ cx, cx 32 = q ∧ RepX E.e0 cx (fun _ => E.e0) A0 S1) (fun cx S' h1 h2 => ⟨cx, h1, h2⟩))) cf_X4_init tw_18 rfl hl.1 ⟨Nat.le_of_ble_eq_true rfl, Nat.le_of_ble_eq_true rfl⟩ (Nat.le_of_ble_eq_true rfl) dL_law_4 ⟨Nat.le_of_ble_eq_true rfl, Nat.le_of_ble_eq_true rfl⟩) (Nat.le_of_ble_eq_true rfl) (Nat.le_of_ble_eq_true rfl) (fun SX H locs hp hW1 => ?_)
  obtain ⟨cx, ec, hrx⟩ := hp
  subst ec
  clear hW
  refine lv_astore_n (lv' := [(1, .ref (cx 32)), (0, .ref b)]) hx hb dL_law_7 rfl hl (by decide) rfl (fun ls hl => ?_)
  refine kp_new (c1 := 40) (s1 := 581) F hW1 cbX5 tw_476 tw_477 tw_14 dL_law_8 (Nat.le_of_ble_eq_true rfl) (Nat.le_of_ble_eq_true rfl) (Nat.le_of_ble_eq_true rfl) (Nat.le_of_ble_eq_true rfl) (fun o H hq hW => ?_)
  have hD := D2.split hq hW
  refine lv_dup hx hb dL_law_11 rfl ?_
  refine k2_callv (c1 := 56) (s1 := 1196) F hD (kp_runI (As := []) (rest := [.ref o]) F hD.1 (ct_X5_init l E _ _ (m_init (post := fun S1 => ∃ bm, ShM o bm S1 ∧ view o bm S1 = toV A0) (fun bm S' h1 h2 => ⟨bm, h1, h2⟩))) cf_X5_init tw_478 rfl hl.1 ⟨Nat.le_of_ble_eq_true rfl, Nat.le_of_ble_eq_true rfl⟩ (Nat.le_of_ble_eq_true rfl) dL_law_12 ⟨Nat.le_of_ble_eq_true rfl, Nat.le_of_ble_eq_true rfl⟩) (Nat.le_of_ble_eq_true rfl) (Nat.le_of_ble_eq_true rfl) (fun SM H locs hp hD => ?_)
  obtain ⟨bm, hsm, hvw⟩ := hp
  refine lv_astore_n (lv' := [(2, .ref o), (1, .ref (cx 32)), (0, .ref b)]) hx hb dL_law_15 rfl hl (by decide) rfl (fun ls hl => ?_)
  refine lv_iconst (v := 0) hx hb dL_law_16 (by decide) ?_
  refine lv_istore_n (lv' := [(3, .int 0), (2, .ref o), (1, .ref (cx 32)), (0, .ref b)]) hx hb dL_law_17 rfl hl (by decide) rfl (fun ls hl => ?_)
  exact law_loop F hr hX hbl hL 513 0 A0 (fun _ => E.e0) SX SM H locs ls (by decide) (by decide) ⟨hD.symm, hrx, hsm, hvw, J_A0⟩ (lv_sub hl [3, 2, 1, 0] rfl)
