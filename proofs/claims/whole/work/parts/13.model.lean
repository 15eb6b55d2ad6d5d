def wp_X5_init (post : pS → Prop) (o : Nat) (S : pS) : Prop :=
  (∀ q1, q1 ∉ S.L → ∀ S3, S3 = S.new q1 7 (6 : Int32).toNatClampNeg → S3.ok o 5 ∧ ∀ S6, S6 = S3.setP o 0 (some q1) → ∀ S8, S8 = S6.setI o 1 (1 : Int32) → ∀ q9, q9 ∉ S8.L → ∀ S11, S11 = S8.new q9 7 (4 : Int32).toNatClampNeg → ∀ S15, S15 = S11.setP o 2 (some q9) → ∀ q16, q16 ∉ S15.L → ∀ S18, S18 = S15.new q16 7 (4 : Int32).toNatClampNeg → ∀ S22, S22 = S18.setP o 3 (some q16) → ∀ q23, q23 ∉ S22.L → ∀ S25, S25 = S22.new q23 7 (40 : Int32).toNatClampNeg → ∀ S29, S29 = S25.setP o 4 (some q23) → ∀ q30, q30 ∉ S29.L → ∀ S32, S32 = S29.new q30 7 (160 : Int32).toNatClampNeg → ∀ S36, S36 = S32.setP o 5 (some q30) → ∀ q37, q37 ∉ S36.L → ∀ S39, S39 = S36.new q37 7 (40 : Int32).toNatClampNeg → ∀ S43, S43 = S39.setP o 6 (some q37) → ∀ q44, q44 ∉ S43.L → ∀ S46, S46 = S43.new q44 7 (40 : Int32).toNatClampNeg → ∀ S50, S50 = S46.setP o 7 (some q44) → ∀ q51, q51 ∉ S50.L → ∀ S53, S53 = S50.new q51 7 (40 : Int32).toNatClampNeg → ∀ S57, S57 = S53.setP o 8 (some q51) → ∀ q58, q58 ∉ S57.L → ∀ S60, S60 = S57.new q58 7 (40 : Int32).toNatClampNeg → ∀ S64, S64 = S60.setP o 9 (some q58) → ∀ q65, q65 ∉ S64.L → ∀ S67, S67 = S64.new q65 7 (4 : Int32).toNatClampNeg → ∀ S71, S71 = S67.setP o 11 (some q65) → ∀ q72, q72 ∉ S71.L → ∀ S74, S74 = S71.new q72 7 (5 : Int32).toNatClampNeg → ∀ S78, S78 = S74.setP o 13 (some q72) → ∀ S80, S80 = S78.setI o 14 (10 : Int32) → ∀ q81, q81 ∉ S80.L → ∀ S83, S83 = S80.new q81 7 (100 : Int32).toNatClampNeg → ∀ S87, S87 = S83.setP o 17 (some q81) → ∀ S89, S89 = S87.setI o 20 (-4 : Int32) → ∀ q90, q90 ∉ S89.L → ∀ S92, S92 = S89.new q90 7 (4 : Int32).toNatClampNeg → ∀ S96, S96 = S92.setP o 21 (some q90) → ∀ q97, q97 ∉ S96.L → ∀ S99, S99 = S96.new q97 7 (48 : Int32).toNatClampNeg → ∀ S103, S103 = S99.setP o 22 (some q97) → ∀ q104, q104 ∉ S103.L → ∀ S106, S106 = S103.new q104 7 (40 : Int32).toNatClampNeg → ∀ S110, S110 = S106.setP o 24 (some q104) → ∀ q111, q111 ∉ S110.L → ∀ S113, S113 = S110.new q111 7 (40 : Int32).toNatClampNeg → ∀ S117, S117 = S113.setP o 25 (some q111) → post S117)
def rm_X5_init : Room := { frames := 1, cells := 16, slots := 615, locals := 20 }
set_option maxHeartbeats 4000000 in
set_option maxRecDepth 100000 in
theorem ct_X5_init (l : Launch) (E : EV) {post : pS → Prop} (o : Nat) (S : pS) (h : wp_X5_init post o S) : CT l E yX5_init cX5_init 1 none rm_X5_init (QV E post) [.ref o] S := by
  refine ct_intro (by decide +kernel) (Nat.le_of_ble_eq_true rfl) ?_
  intro p e s m below meth c A ls F hW hr hnm hl
  have hx := F.1
  have hb := F.2.1
  unfold wp_X5_init at h
  have hl : lv_has ls 1 [(0, .ref o)] := hl
  refine lv_aload_n hx hb dX5_init_0 rfl (lv_at hl 0 rfl) ?_
  refine kp_oinit F hl.1 tw_481 tw_22 tw_23 dX5_init_1 (by decide) (Nat.le_of_ble_eq_true rfl) ?_
  refine lv_aload_n hx hb dX5_init_4 rfl (lv_at hl 0 rfl) ?_
  refine lv_bipush (v := 6) hx hb dX5_init_5 (by decide) ?_
  refine kp_newi (c1 := 1) (s1 := 6) F hW tw_40 (by decide) (by decide) dX5_init_7 (by decide) (by decide) (by decide) (by decide) (fun q1 H f2 hW => ?_)
  obtain ⟨S3, hS3⟩ : ∃ z, z = S.new q1 7 (6 : Int32).toNatClampNeg := ⟨_, rfl⟩
  rw [← hS3] at hW
  have h := h q1 f2 S3 hS3
  have g4 : S3.ok q1 7 := by rw [hS3]; exact ok_new
  obtain ⟨g5, h⟩ := h
  obtain ⟨S6, hS6⟩ : ∃ z, z = S3.setP o 0 (some q1) := ⟨_, rfl⟩
  have h := h S6 hS6
  refine kp_putpF F hW g5 cbX5 0 rfl tw_482 (fun _ h9 => h9) rfl hnm rfl (Or.inr ⟨_, rfl⟩) dX5_init_9 (fun H locs hW => ?_)
  rw [← hS6] at hW
  refine lv_aload_n hx hb dX5_init_12 rfl (lv_at hl 0 rfl) ?_
  refine lv_iconst (v := 1) hx hb dX5_init_13 (by decide) ?_
  have g7 : S6.ok o 5 := by rw [hS6]; exact g5
  obtain ⟨S8, hS8⟩ : ∃ z, z = S6.setI o 1 (1 : Int32) := ⟨_, rfl⟩
  have h := h S8 hS8
  refine kp_puti F hW g7 cbX5 1 rfl tw_483 (fun _ h9 => h9) rfl rfl dX5_init_14 (fun H locs hW => ?_)
  rw [← hS8] at hW
  refine lv_aload_n hx hb dX5_init_17 rfl (lv_at hl 0 rfl) ?_
  refine lv_iconst (v := 4) hx hb dX5_init_18 (by decide) ?_
  refine kp_newi (c1 := 2) (s1 := 10) F hW tw_40 (by decide) (by decide) dX5_init_19 (by decide) (by decide) (by decide) (by decide) (fun q9 H f10 hW => ?_)
  obtain ⟨S11, hS11⟩ : ∃ z, z = S8.new q9 7 (4 : Int32).toNatClampNeg := ⟨_, rfl⟩
  rw [← hS11] at hW
  have h := h q9 f10 S11 hS11
  have g12 : S11.ok q9 7 := by rw [hS11]; exact ok_new
  have g13 : S8.ok o 5 := by rw [hS8]; exact g7
  have g14 : S11.ok o 5 := by rw [hS11]; exact ok_old f10 g13
  obtain ⟨S15, hS15⟩ : ∃ z, z = S11.setP o 2 (some q9) := ⟨_, rfl⟩
  have h := h S15 hS15
  refine kp_putpF F hW g14 cbX5 2 rfl tw_484 (fun _ h9 => h9) rfl hnm rfl (Or.inr ⟨_, rfl⟩) dX5_init_21 (fun H locs hW => ?_)
  rw [← hS15] at hW
  refine lv_aload_n hx hb dX5_init_24 rfl (lv_at hl 0 rfl) ?_
  refine lv_iconst (v := 4) hx hb dX5_init_25 (by decide) ?_
  refine kp_newi (c1 := 3) (s1 := 14) F hW tw_40 (by decide) (by decide) dX5_init_26 (by decide) (by decide) (by decide) (by decide) (fun q16 H f17 hW => ?_)
  obtain ⟨S18, hS18⟩ : ∃ z, z = S15.new q16 7 (4 : Int32).toNatClampNeg := ⟨_, rfl⟩
  rw [← hS18] at hW
  have h := h q16 f17 S18 hS18
  have g19 : S18.ok q16 7 := by rw [hS18]; exact ok_new
  have g20 : S15.ok o 5 := by rw [hS15]; exact g14
  have g21 : S18.ok o 5 := by rw [hS18]; exact ok_old f17 g20
  obtain ⟨S22, hS22⟩ : ∃ z, z = S18.setP o 3 (some q16) := ⟨_, rfl⟩
  have h := h S22 hS22
  refine kp_putpF F hW g21 cbX5 3 rfl tw_485 (fun _ h9 => h9) rfl hnm rfl (Or.inr ⟨_, rfl⟩) dX5_init_28 (fun H locs hW => ?_)
  rw [← hS22] at hW
  refine lv_aload_n hx hb dX5_init_31 rfl (lv_at hl 0 rfl) ?_
  refine lv_bipush (v := 40) hx hb dX5_init_32 (by decide) ?_
  refine kp_newi (c1 := 4) (s1 := 54) F hW tw_40 (by decide) (by decide) dX5_init_34 (by decide) (by decide) (by decide) (by decide) (fun q23 H f24 hW => ?_)
  obtain ⟨S25, hS25⟩ : ∃ z, z = S22.new q23 7 (40 : Int32).toNatClampNeg := ⟨_, rfl⟩
  rw [← hS25] at hW
  have h := h q23 f24 S25 hS25
  have g26 : S25.ok q23 7 := by rw [hS25]; exact ok_new
  have g27 : S22.ok o 5 := by rw [hS22]; exact g21
  have g28 : S25.ok o 5 := by rw [hS25]; exact ok_old f24 g27
  obtain ⟨S29, hS29⟩ : ∃ z, z = S25.setP o 4 (some q23) := ⟨_, rfl⟩
  have h := h S29 hS29
  refine kp_putpF F hW g28 cbX5 4 rfl tw_486 (fun _ h9 => h9) rfl hnm rfl (Or.inr ⟨_, rfl⟩) dX5_init_36 (fun H locs hW => ?_)
  rw [← hS29] at hW
  refine lv_aload_n hx hb dX5_init_39 rfl (lv_at hl 0 rfl) ?_
  refine lv_sipush (v := 160) hx hb dX5_init_40 (by decide) ?_
  refine kp_newi (c1 := 5) (s1 := 214) F hW tw_40 (by decide) (by decide) dX5_init_43 (by decide) (by decide) (by decide) (by decide) (fun q30 H f31 hW => ?_)
  obtain ⟨S32, hS32⟩ : ∃ z, z = S29.new q30 7 (160 : Int32).toNatClampNeg := ⟨_, rfl⟩
  rw [← hS32] at hW
  have h := h q30 f31 S32 hS32
  have g33 : S32.ok q30 7 := by rw [hS32]; exact ok_new
  have g34 : S29.ok o 5 := by rw [hS29]; exact g28
  have g35 : S32.ok o 5 := by rw [hS32]; exact ok_old f31 g34
  obtain ⟨S36, hS36⟩ : ∃ z, z = S32.setP o 5 (some q30) := ⟨_, rfl⟩
  have h := h S36 hS36
  refine kp_putpF F hW g35 cbX5 5 rfl tw_487 (fun _ h9 => h9) rfl hnm rfl (Or.inr ⟨_, rfl⟩) dX5_init_45 (fun H locs hW => ?_)
  rw [← hS36] at hW
  refine lv_aload_n hx hb dX5_init_48 rfl (lv_at hl 0 rfl) ?_
  refine lv_bipush (v := 40) hx hb dX5_init_49 (by decide) ?_
  refine kp_newi (c1 := 6) (s1 := 254) F hW tw_40 (by decide) (by decide) dX5_init_51 (by decide) (by decide) (by decide) (by decide) (fun q37 H f38 hW => ?_)
  obtain ⟨S39, hS39⟩ : ∃ z, z = S36.new q37 7 (40 : Int32).toNatClampNeg := ⟨_, rfl⟩
  rw [← hS39] at hW
  have h := h q37 f38 S39 hS39
  have g40 : S39.ok q37 7 := by rw [hS39]; exact ok_new
  have g41 : S36.ok o 5 := by rw [hS36]; exact g35
  have g42 : S39.ok o 5 := by rw [hS39]; exact ok_old f38 g41
  obtain ⟨S43, hS43⟩ : ∃ z, z = S39.setP o 6 (some q37) := ⟨_, rfl⟩
  have h := h S43 hS43
  refine kp_putpF F hW g42 cbX5 6 rfl tw_488 (fun _ h9 => h9) rfl hnm rfl (Or.inr ⟨_, rfl⟩) dX5_init_53 (fun H locs hW => ?_)
  rw [← hS43] at hW
  refine lv_aload_n hx hb dX5_init_56 rfl (lv_at hl 0 rfl) ?_
  refine lv_bipush (v := 40) hx hb dX5_init_57 (by decide) ?_
  refine kp_newi (c1 := 7) (s1 := 294) F hW tw_40 (by decide) (by decide) dX5_init_59 (by decide) (by decide) (by decide) (by decide) (fun q44 H f45 hW => ?_)
  obtain ⟨S46, hS46⟩ : ∃ z, z = S43.new q44 7 (40 : Int32).toNatClampNeg := ⟨_, rfl⟩
  rw [← hS46] at hW
  have h := h q44 f45 S46 hS46
  have g47 : S46.ok q44 7 := by rw [hS46]; exact ok_new
  have g48 : S43.ok o 5 := by rw [hS43]; exact g42
  have g49 : S46.ok o 5 := by rw [hS46]; exact ok_old f45 g48
  obtain ⟨S50, hS50⟩ : ∃ z, z = S46.setP o 7 (some q44) := ⟨_, rfl⟩
  have h := h S50 hS50
  refine kp_putpF F hW g49 cbX5 7 rfl tw_489 (fun _ h9 => h9) rfl hnm rfl (Or.inr ⟨_, rfl⟩) dX5_init_61 (fun H locs hW => ?_)
  rw [← hS50] at hW
  refine lv_aload_n hx hb dX5_init_64 rfl (lv_at hl 0 rfl) ?_
  refine lv_bipush (v := 40) hx hb dX5_init_65 (by decide) ?_
  refine kp_newi (c1 := 8) (s1 := 334) F hW tw_40 (by decide) (by decide) dX5_init_67 (by decide) (by decide) (by decide) (by decide) (fun q51 H f52 hW => ?_)
  obtain ⟨S53, hS53⟩ : ∃ z, z = S50.new q51 7 (40 : Int32).toNatClampNeg := ⟨_, rfl⟩
  rw [← hS53] at hW
  have h := h q51 f52 S53 hS53
  have g54 : S53.ok q51 7 := by rw [hS53]; exact ok_new
  have g55 : S50.ok o 5 := by rw [hS50]; exact g49
  have g56 : S53.ok o 5 := by rw [hS53]; exact ok_old f52 g55
  obtain ⟨S57, hS57⟩ : ∃ z, z = S53.setP o 8 (some q51) := ⟨_, rfl⟩
  have h := h S57 hS57
  refine kp_putpF F hW g56 cbX5 8 rfl tw_490 (fun _ h9 => h9) rfl hnm rfl (Or.inr ⟨_, rfl⟩) dX5_init_69 (fun H locs hW => ?_)
  rw [← hS57] at hW
  refine lv_aload_n hx hb dX5_init_72 rfl (lv_at hl 0 rfl) ?_
  refine lv_bipush (v := 40) hx hb dX5_init_73 (by decide) ?_
  refine kp_newi (c1 := 9) (s1 := 374) F hW tw_40 (by decide) (by decide) dX5_init_75 (by decide) (by decide) (by decide) (by decide) (fun q58 H f59 hW => ?_)
  obtain ⟨S60, hS60⟩ : ∃ z, z = S57.new q58 7 (40 : Int32).toNatClampNeg := ⟨_, rfl⟩
  rw [← hS60] at hW
  have h := h q58 f59 S60 hS60
  have g61 : S60.ok q58 7 := by rw [hS60]; exact ok_new
  have g62 : S57.ok o 5 := by rw [hS57]; exact g56
  have g63 : S60.ok o 5 := by rw [hS60]; exact ok_old f59 g62
  obtain ⟨S64, hS64⟩ : ∃ z, z = S60.setP o 9 (some q58) := ⟨_, rfl⟩
  have h := h S64 hS64
  refine kp_putpF F hW g63 cbX5 9 rfl tw_491 (fun _ h9 => h9) rfl hnm rfl (Or.inr ⟨_, rfl⟩) dX5_init_77 (fun H locs hW => ?_)
  rw [← hS64] at hW
  refine lv_aload_n hx hb dX5_init_80 rfl (lv_at hl 0 rfl) ?_
  refine lv_iconst (v := 4) hx hb dX5_init_81 (by decide) ?_
  refine kp_newi (c1 := 10) (s1 := 378) F hW tw_40 (by decide) (by decide) dX5_init_82 (by decide) (by decide) (by decide) (by decide) (fun q65 H f66 hW => ?_)
  obtain ⟨S67, hS67⟩ : ∃ z, z = S64.new q65 7 (4 : Int32).toNatClampNeg := ⟨_, rfl⟩
  rw [← hS67] at hW
  have h := h q65 f66 S67 hS67
  have g68 : S67.ok q65 7 := by rw [hS67]; exact ok_new
  have g69 : S64.ok o 5 := by rw [hS64]; exact g63
  have g70 : S67.ok o 5 := by rw [hS67]; exact ok_old f66 g69
  obtain ⟨S71, hS71⟩ : ∃ z, z = S67.setP o 11 (some q65) := ⟨_, rfl⟩
  have h := h S71 hS71
  refine kp_putpF F hW g70 cbX5 11 rfl tw_493 (fun _ h9 => h9) rfl hnm rfl (Or.inr ⟨_, rfl⟩) dX5_init_84 (fun H locs hW => ?_)
  rw [← hS71] at hW
  refine lv_aload_n hx hb dX5_init_87 rfl (lv_at hl 0 rfl) ?_
  refine lv_iconst (v := 5) hx hb dX5_init_88 (by decide) ?_
  refine kp_newi (c1 := 11) (s1 := 383) F hW tw_40 (by decide) (by decide) dX5_init_89 (by decide) (by decide) (by decide) (by decide) (fun q72 H f73 hW => ?_)
  obtain ⟨S74, hS74⟩ : ∃ z, z = S71.new q72 7 (5 : Int32).toNatClampNeg := ⟨_, rfl⟩
  rw [← hS74] at hW
  have h := h q72 f73 S74 hS74
  have g75 : S74.ok q72 7 := by rw [hS74]; exact ok_new
  have g76 : S71.ok o 5 := by rw [hS71]; exact g70
  have g77 : S74.ok o 5 := by rw [hS74]; exact ok_old f73 g76
  obtain ⟨S78, hS78⟩ : ∃ z, z = S74.setP o 13 (some q72) := ⟨_, rfl⟩
  have h := h S78 hS78
  refine kp_putpF F hW g77 cbX5 13 rfl tw_495 (fun _ h9 => h9) rfl hnm rfl (Or.inr ⟨_, rfl⟩) dX5_init_91 (fun H locs hW => ?_)
  rw [← hS78] at hW
  refine lv_aload_n hx hb dX5_init_94 rfl (lv_at hl 0 rfl) ?_
  refine lv_bipush (v := 10) hx hb dX5_init_95 (by decide) ?_
  have g79 : S78.ok o 5 := by rw [hS78]; exact g77
  obtain ⟨S80, hS80⟩ : ∃ z, z = S78.setI o 14 (10 : Int32) := ⟨_, rfl⟩
  have h := h S80 hS80
  refine kp_puti F hW g79 cbX5 14 rfl tw_496 (fun _ h9 => h9) rfl rfl dX5_init_97 (fun H locs hW => ?_)
  rw [← hS80] at hW
  refine lv_aload_n hx hb dX5_init_100 rfl (lv_at hl 0 rfl) ?_
  refine lv_bipush (v := 100) hx hb dX5_init_101 (by decide) ?_
  refine kp_newi (c1 := 12) (s1 := 483) F hW tw_40 (by decide) (by decide) dX5_init_103 (by decide) (by decide) (by decide) (by decide) (fun q81 H f82 hW => ?_)
  obtain ⟨S83, hS83⟩ : ∃ z, z = S80.new q81 7 (100 : Int32).toNatClampNeg := ⟨_, rfl⟩
  rw [← hS83] at hW
  have h := h q81 f82 S83 hS83
  have g84 : S83.ok q81 7 := by rw [hS83]; exact ok_new
  have g85 : S80.ok o 5 := by rw [hS80]; exact g79
  have g86 : S83.ok o 5 := by rw [hS83]; exact ok_old f82 g85
  obtain ⟨S87, hS87⟩ : ∃ z, z = S83.setP o 17 (some q81) := ⟨_, rfl⟩
  have h := h S87 hS87
  refine kp_putpF F hW g86 cbX5 17 rfl tw_499 (fun _ h9 => h9) rfl hnm rfl (Or.inr ⟨_, rfl⟩) dX5_init_105 (fun H locs hW => ?_)
  rw [← hS87] at hW
  refine lv_aload_n hx hb dX5_init_108 rfl (lv_at hl 0 rfl) ?_
  refine lv_bipush (v := (-4)) hx hb dX5_init_109 (by decide) ?_
  have g88 : S87.ok o 5 := by rw [hS87]; exact g86
  obtain ⟨S89, hS89⟩ : ∃ z, z = S87.setI o 20 (-4 : Int32) := ⟨_, rfl⟩
  have h := h S89 hS89
  refine kp_puti F hW g88 cbX5 20 rfl tw_502 (fun _ h9 => h9) rfl rfl dX5_init_111 (fun H locs hW => ?_)
  rw [← hS89] at hW
  refine lv_aload_n hx hb dX5_init_114 rfl (lv_at hl 0 rfl) ?_
  refine lv_iconst (v := 4) hx hb dX5_init_115 (by decide) ?_
  refine kp_newi (c1 := 13) (s1 := 487) F hW tw_40 (by decide) (by decide) dX5_init_116 (by decide) (by decide) (by decide) (by decide) (fun q90 H f91 hW => ?_)
  obtain ⟨S92, hS92⟩ : ∃ z, z = S89.new q90 7 (4 : Int32).toNatClampNeg := ⟨_, rfl⟩
  rw [← hS92] at hW
  have h := h q90 f91 S92 hS92
  have g93 : S92.ok q90 7 := by rw [hS92]; exact ok_new
  have g94 : S89.ok o 5 := by rw [hS89]; exact g88
  have g95 : S92.ok o 5 := by rw [hS92]; exact ok_old f91 g94
  obtain ⟨S96, hS96⟩ : ∃ z, z = S92.setP o 21 (some q90) := ⟨_, rfl⟩
  have h := h S96 hS96
  refine kp_putpF F hW g95 cbX5 21 rfl tw_503 (fun _ h9 => h9) rfl hnm rfl (Or.inr ⟨_, rfl⟩) dX5_init_118 (fun H locs hW => ?_)
  rw [← hS96] at hW
  refine lv_aload_n hx hb dX5_init_121 rfl (lv_at hl 0 rfl) ?_
  refine lv_bipush (v := 48) hx hb dX5_init_122 (by decide) ?_
  refine kp_newi (c1 := 14) (s1 := 535) F hW tw_40 (by decide) (by decide) dX5_init_124 (by decide) (by decide) (by decide) (by decide) (fun q97 H f98 hW => ?_)
  obtain ⟨S99, hS99⟩ : ∃ z, z = S96.new q97 7 (48 : Int32).toNatClampNeg := ⟨_, rfl⟩
  rw [← hS99] at hW
  have h := h q97 f98 S99 hS99
  have g100 : S99.ok q97 7 := by rw [hS99]; exact ok_new
  have g101 : S96.ok o 5 := by rw [hS96]; exact g95
  have g102 : S99.ok o 5 := by rw [hS99]; exact ok_old f98 g101
  obtain ⟨S103, hS103⟩ : ∃ z, z = S99.setP o 22 (some q97) := ⟨_, rfl⟩
  have h := h S103 hS103
  refine kp_putpF F hW g102 cbX5 22 rfl tw_504 (fun _ h9 => h9) rfl hnm rfl (Or.inr ⟨_, rfl⟩) dX5_init_126 (fun H locs hW => ?_)
  rw [← hS103] at hW
  refine lv_aload_n hx hb dX5_init_129 rfl (lv_at hl 0 rfl) ?_
  refine lv_bipush (v := 40) hx hb dX5_init_130 (by decide) ?_
  refine kp_newi (c1 := 15) (s1 := 575) F hW tw_40 (by decide) (by decide) dX5_init_132 (by decide) (by decide) (by decide) (by decide) (fun q104 H f105 hW => ?_)
  obtain ⟨S106, hS106⟩ : ∃ z, z = S103.new q104 7 (40 : Int32).toNatClampNeg := ⟨_, rfl⟩
  rw [← hS106] at hW
  have h := h q104 f105 S106 hS106
  have g107 : S106.ok q104 7 := by rw [hS106]; exact ok_new
  have g108 : S103.ok o 5 := by rw [hS103]; exact g102
  have g109 : S106.ok o 5 := by rw [hS106]; exact ok_old f105 g108
  obtain ⟨S110, hS110⟩ : ∃ z, z = S106.setP o 24 (some q104) := ⟨_, rfl⟩
  have h := h S110 hS110
  refine kp_putpF F hW g109 cbX5 24 rfl tw_506 (fun _ h9 => h9) rfl hnm rfl (Or.inr ⟨_, rfl⟩) dX5_init_134 (fun H locs hW => ?_)
  rw [← hS110] at hW
  refine lv_aload_n hx hb dX5_init_137 rfl (lv_at hl 0 rfl) ?_
  refine lv_bipush (v := 40) hx hb dX5_init_138 (by decide) ?_
  refine kp_newi (c1 := 16) (s1 := 615) F hW tw_40 (by decide) (by decide) dX5_init_140 (by decide) (by decide) (by decide) (by decide) (fun q111 H f112 hW => ?_)
  obtain ⟨S113, hS113⟩ : ∃ z, z = S110.new q111 7 (40 : Int32).toNatClampNeg := ⟨_, rfl⟩
  rw [← hS113] at hW
  have h := h q111 f112 S113 hS113
  have g114 : S113.ok q111 7 := by rw [hS113]; exact ok_new
  have g115 : S110.ok o 5 := by rw [hS110]; exact g109
  have g116 : S113.ok o 5 := by rw [hS113]; exact ok_old f112 g115
  obtain ⟨S117, hS117⟩ : ∃ z, z = S113.setP o 25 (some q111) := ⟨_, rfl⟩
  have h := h S117 hS117
  refine kp_putpF F hW g116 cbX5 25 rfl tw_507 (fun _ h9 => h9) rfl hnm rfl (Or.inr ⟨_, rfl⟩) dX5_init_142 (fun H locs hW => ?_)
  rw [← hS117] at hW
  exact kp_retv F hW hr h (by decide) (by decide) dX5_init_145
def wp_X5_in (post : Int32 → pS → Prop) (a1 : Int32) (a2 : Int32) (a3 : Int32) (S : pS) : Prop :=
  ((a1 < a2 → post (0 : Int32) S) ∧ (¬ (a1 < a2) → ((a3 < a1 → post (0 : Int32) S) ∧ (¬ (a3 < a1) → post (1 : Int32) S))))
def rm_X5_in : Room := { frames := 0, cells := 0, slots := 0, locals := 0 }
set_option maxHeartbeats 4000000 in
set_option maxRecDepth 100000 in
theorem ct_X5_in (l : Launch) (E : EV) {post : Int32 → pS → Prop} (a1 : Int32) (a2 : Int32) (a3 : Int32) (S : pS) (h : wp_X5_in post a1 a2 a3 S) : CT l E yX5_in cX5_in 3 (some .boolean) rm_X5_in (QI E post) [.int a1, .int a2, .int a3] S := by
  refine ct_intro (by decide +kernel) (Nat.le_of_ble_eq_true rfl) ?_
  intro p e s m below meth c A ls F hW hr hnm hl
  have hx := F.1
  have hb := F.2.1
  unfold wp_X5_in at h
  have hl : lv_has ls 3 [(0, .int a1), (1, .int a2), (2, .int a3)] := hl
  refine lv_iload_n hx hb dX5_in_0 rfl (lv_at hl 0 rfl) ?_
  refine lv_iload_n hx hb dX5_in_1 rfl (lv_at hl 1 rfl) ?_
  refine lv_icmp_lt (tgt := 14) hx hb dX5_in_2 (by decide) (fun c1 => ?_) (fun c1 => ?_)
  · have h := h.1 c1
    refine lv_iconst (v := 0) hx hb dX5_in_14 (by decide) ?_
    exact kp_retz F hW hr (Or.inl rfl) h (by decide) (by decide) dX5_in_15
  · have h := h.2 c1
    refine lv_iload_n hx hb dX5_in_5 rfl (lv_at hl 0 rfl) ?_
    refine lv_iload_n hx hb dX5_in_6 rfl (lv_at hl 2 rfl) ?_
    refine lv_icmp_gt (tgt := 14) hx hb dX5_in_7 (by decide) (fun c2 => ?_) (fun c2 => ?_)
    · have h := h.1 c2
      refine lv_iconst (v := 0) hx hb dX5_in_14 (by decide) ?_
      exact kp_retz F hW hr (Or.inl rfl) h (by decide) (by decide) dX5_in_15
    · have h := h.2 c2
      refine lv_iconst (v := 1) hx hb dX5_in_10 (by decide) ?_
      refine lv_goto (tgt := 15) hx hb dX5_in_11 (by decide) ?_
      exact kp_retz F hW hr (Or.inr rfl) h (by decide) (by decide) dX5_in_15
def wp_X5_appendKey (post : Int32 → pS → Prop) (o : Nat) (a1 : Int32) (S : pS) : Prop :=
  (wp_X5_in (fun r1 S2 => ((r1 = 0 → post (-1 : Int32) S2) ∧ (¬ (r1 = 0) → (S2.ok o 5 ∧ (((S2.I o 10) = (4 : Int32) → post (-3 : Int32) S2) ∧ (¬ ((S2.I o 10) = (4 : Int32)) → (∃ q6, S2.P o 11 = some q6 ∧ S2.ok q6 7 ∧ vp_in (S2.I o 10) (S2.n q6) ∧ ∀ S10, S10 = S2.setI q6 (S2.I o 10).toNatClampNeg a1 → ∀ S12, S12 = S10.setI o 10 ((S10.I o 10) + (1 : Int32)) → post (S12.I o 10) S12))))))) a1 (0 : Int32) (11 : Int32) S)
def rm_X5_appendKey : Room := { frames := 1, cells := 0, slots := 0, locals := 22 }
set_option maxHeartbeats 4000000 in
set_option maxRecDepth 100000 in
theorem ct_X5_appendKey (l : Launch) (E : EV) {post : Int32 → pS → Prop} (o : Nat) (a1 : Int32) (S : pS) (h : wp_X5_appendKey post o a1 S) : CT l E yX5_appendKey cX5_appendKey 2 (some .int) rm_X5_appendKey (QI E post) [.ref o, .int a1] S := by
  refine ct_intro (by decide +kernel) (Nat.le_of_ble_eq_true rfl) ?_
  intro p e s m below meth c A ls F hW hr hnm hl
  have hx := F.1
  have hb := F.2.1
  unfold wp_X5_appendKey at h
  have hl : lv_has ls 2 [(0, .ref o), (1, .int a1)] := hl
  refine lv_iload_n hx hb dX5_appendKey_0 rfl (lv_at hl 1 rfl) ?_
  refine lv_iconst (v := 0) hx hb dX5_appendKey_1 (by decide) ?_
  refine lv_bipush (v := 11) hx hb dX5_appendKey_2 (by decide) ?_
  refine kp_calli (c1 := 0) (s1 := 0) F hW (kp_runS (As := [.int a1, .int (0 : Int32), .int (11 : Int32)]) (rest := []) F hW (ct_X5_in l E _ _ _ _ h) cf_X5_in tw_565 rfl hl.1 ⟨by decide, by decide⟩ (Nat.le_of_ble_eq_true rfl) dX5_appendKey_4 ⟨by decide, by decide⟩) (by decide) (by decide) (fun r1 S2 H locs h hW => ?_)
  refine lv_if_ne (tgt := 12) hx hb dX5_appendKey_7 (by decide) (fun c3 => ?_) (fun c3 => ?_)
  · have h := h.2 c3
    refine lv_aload_n hx hb dX5_appendKey_12 rfl (lv_at hl 0 rfl) ?_
    obtain ⟨g4, h⟩ := h
    refine kp_geti F hW g4 cbX5 10 rfl tw_492 (fun _ h9 => h9) dX5_appendKey_13 ?_
    refine lv_iconst (v := 4) hx hb dX5_appendKey_16 (by decide) ?_
    refine lv_icmp_ne (tgt := 23) hx hb dX5_appendKey_17 (by decide) (fun c5 => ?_) (fun c5 => ?_)
    · have h := h.2 c5
      refine lv_aload_n hx hb dX5_appendKey_23 rfl (lv_at hl 0 rfl) ?_
      obtain ⟨q6, p7, h⟩ := h
      refine kp_getp F hW g4 cbX5 11 rfl tw_493 (fun _ h9 => h9) dX5_appendKey_24 p7 ?_
      refine lv_aload_n hx hb dX5_appendKey_27 rfl (lv_at hl 0 rfl) ?_
      refine kp_geti F hW g4 cbX5 10 rfl tw_492 (fun _ h9 => h9) dX5_appendKey_28 ?_
      refine lv_iload_n hx hb dX5_appendKey_31 rfl (lv_at hl 1 rfl) ?_
      obtain ⟨g8, h⟩ := h
      obtain ⟨b9, h⟩ := h
      obtain ⟨S10, hS10⟩ : ∃ z, z = S2.setI q6 (S2.I o 10).toNatClampNeg a1 := ⟨_, rfl⟩
      have h := h S10 hS10
      refine kp_iast F hW g8 b9 dX5_appendKey_32 (fun H locs hW => ?_)
      rw [← hS10] at hW
      refine lv_aload_n hx hb dX5_appendKey_33 rfl (lv_at hl 0 rfl) ?_
      refine lv_dup hx hb dX5_appendKey_34 rfl ?_
      have g11 : S10.ok o 5 := by rw [hS10]; exact g4
      refine kp_geti F hW g11 cbX5 10 rfl tw_492 (fun _ h9 => h9) dX5_appendKey_35 ?_
      refine lv_iconst (v := 1) hx hb dX5_appendKey_38 (by decide) ?_
      refine lv_iadd hx hb dX5_appendKey_39 ?_
      obtain ⟨S12, hS12⟩ : ∃ z, z = S10.setI o 10 ((S10.I o 10) + (1 : Int32)) := ⟨_, rfl⟩
      have h := h S12 hS12
      refine kp_puti F hW g11 cbX5 10 rfl tw_492 (fun _ h9 => h9) rfl rfl dX5_appendKey_40 (fun H locs hW => ?_)
      rw [← hS12] at hW
      refine lv_aload_n hx hb dX5_appendKey_43 rfl (lv_at hl 0 rfl) ?_
      have g13 : S12.ok o 5 := by rw [hS12]; exact g11
      refine kp_geti F hW g13 cbX5 10 rfl tw_492 (fun _ h9 => h9) dX5_appendKey_44 ?_
      exact kp_reti F hW hr h (by decide) (by decide) dX5_appendKey_47
    · have h := h.1 c5
      refine lv_bipush (v := (-3)) hx hb dX5_appendKey_20 (by decide) ?_
      exact kp_reti F hW hr h (by decide) (by decide) dX5_appendKey_22
  · have h := h.1 c3
    refine lv_iconst (v := (-1)) hx hb dX5_appendKey_10 (by decide) ?_
    exact kp_reti F hW hr h (by decide) (by decide) dX5_appendKey_11
def wp_X5_clearKeys (post : Int32 → pS → Prop) (o : Nat) (S : pS) : Prop :=
  (S.ok o 5 ∧ ∀ S2, S2 = S.setI o 10 (0 : Int32) → post (S.I o 10) S2)
def rm_X5_clearKeys : Room := { frames := 0, cells := 0, slots := 0, locals := 0 }
set_option maxHeartbeats 4000000 in
set_option maxRecDepth 100000 in
theorem ct_X5_clearKeys (l : Launch) (E : EV) {post : Int32 → pS → Prop} (o : Nat) (S : pS) (h : wp_X5_clearKeys post o S) : CT l E yX5_clearKeys cX5_clearKeys 2 (some .int) rm_X5_clearKeys (QI E post) [.ref o] S := by
  refine ct_intro (by decide +kernel) (Nat.le_of_ble_eq_true rfl) ?_
  intro p e s m below meth c A ls F hW hr hnm hl
  have hx := F.1
  have hb := F.2.1
  unfold wp_X5_clearKeys at h
  have hl : lv_has ls 2 [(0, .ref o)] := hl
  refine lv_aload_n hx hb dX5_clearKeys_0 rfl (lv_at hl 0 rfl) ?_
  obtain ⟨g1, h⟩ := h
  refine kp_geti F hW g1 cbX5 10 rfl tw_492 (fun _ h9 => h9) dX5_clearKeys_1 ?_
  refine lv_istore_n (lv' := [(1, .int (S.I o 10)), (0, .ref o)]) hx hb dX5_clearKeys_4 rfl hl (by decide) rfl (fun ls hl => ?_)
  refine lv_aload_n hx hb dX5_clearKeys_5 rfl (lv_at hl 1 rfl) ?_
  refine lv_iconst (v := 0) hx hb dX5_clearKeys_6 (by decide) ?_
  obtain ⟨S2, hS2⟩ : ∃ z, z = S.setI o 10 (0 : Int32) := ⟨_, rfl⟩
  have h := h S2 hS2
  refine kp_puti F hW g1 cbX5 10 rfl tw_492 (fun _ h9 => h9) rfl rfl dX5_clearKeys_7 (fun H locs hW => ?_)
  rw [← hS2] at hW
  refine lv_iload_n hx hb dX5_clearKeys_10 rfl (lv_at hl 0 rfl) ?_
  exact kp_reti F hW hr h (by decide) (by decide) dX5_clearKeys_11
def wp_X5_most (post : Int32 → pS → Prop) (a1 : Int32) (S : pS) : Prop :=
  ((a1 = 0 → post (99 : Int32) S) ∧ (a1 = 1 → post (3 : Int32) S) ∧ (a1 = 2 → post (3 : Int32) S) ∧ (a1 = 3 → post (0 : Int32) S) ∧ (¬ a1 = 0 ∧ ¬ a1 = 1 ∧ ¬ a1 = 2 ∧ ¬ a1 = 3 → post (5 : Int32) S))
def rm_X5_most : Room := { frames := 0, cells := 0, slots := 0, locals := 0 }
set_option maxHeartbeats 4000000 in
set_option maxRecDepth 100000 in
theorem ct_X5_most (l : Launch) (E : EV) {post : Int32 → pS → Prop} (a1 : Int32) (S : pS) (h : wp_X5_most post a1 S) : CT l E yX5_most cX5_most 1 (some .int) rm_X5_most (QI E post) [.int a1] S := by
  refine ct_intro (by decide +kernel) (Nat.le_of_ble_eq_true rfl) ?_
  intro p e s m below meth c A ls F hW hr hnm hl
  have hx := F.1
  have hb := F.2.1
  unfold wp_X5_most at h
  have hl : lv_has ls 1 [(0, .int a1)] := hl
  refine lv_iload_n hx hb dX5_most_0 rfl (lv_at hl 0 rfl) ?_
  by_cases c1 : a1 = 0
  · have h := h.1 c1
    refine kp_tab (v := 0) (off := 31) (tgt := 32) hx hb dX5_most_1 c1 (by decide) (by decide) (by decide) (by decide) ?_
    refine lv_bipush (v := 99) hx hb dX5_most_32 (by decide) ?_
    exact kp_reti F hW hr h (by decide) (by decide) dX5_most_34
  by_cases c2 : a1 = 1
  · have h := h.2.1 c2
    refine kp_tab (v := 1) (off := 34) (tgt := 35) hx hb dX5_most_1 c2 (by decide) (by decide) (by decide) (by decide) ?_
    refine lv_iconst (v := 3) hx hb dX5_most_35 (by decide) ?_
    exact kp_reti F hW hr h (by decide) (by decide) dX5_most_36
  by_cases c3 : a1 = 2
  · have h := h.2.2.1 c3
    refine kp_tab (v := 2) (off := 34) (tgt := 35) hx hb dX5_most_1 c3 (by decide) (by decide) (by decide) (by decide) ?_
    refine lv_iconst (v := 3) hx hb dX5_most_35 (by decide) ?_
    exact kp_reti F hW hr h (by decide) (by decide) dX5_most_36
  by_cases c4 : a1 = 3
  · have h := h.2.2.2.1 c4
    refine kp_tab (v := 3) (off := 36) (tgt := 37) hx hb dX5_most_1 c4 (by decide) (by decide) (by decide) (by decide) ?_
    refine lv_iconst (v := 0) hx hb dX5_most_37 (by decide) ?_
    exact kp_reti F hW hr h (by decide) (by decide) dX5_most_38
  have h := h.2.2.2.2 ⟨c1, c2, c3, c4⟩
  refine kp_tabD (tgt := 39) hx hb dX5_most_1 (kp_out_0_3 c1 c2 c3 c4) (by decide) ?_
  refine lv_iconst (v := 5) hx hb dX5_most_39 (by decide) ?_
  exact kp_reti F hW hr h (by decide) (by decide) dX5_most_40
def wp_X5_bind_L120 (post : Int32 → pS → Prop) : Nat → Nat → Int32 → Int32 → Int32 → Int32 → Int32 → Int32 → Int32 → pS → Prop
  | 0, _, _, _, _, _, _, _, _, _ => False
  | n + 1, v0, v1, v2, v3, v4, v5, v7, v8, S =>
  (S.ok v0 5 ∧ (((S.I v0 10) ≤ v8 → (∃ q31, S.P v0 6 = some q31 ∧ S.ok q31 7 ∧ vp_in v7 (S.n q31) ∧ ∀ S35, S35 = S.setI q31 v7.toNatClampNeg v2 → ∃ q37, S35.P v0 7 = some q37 ∧ S35.ok q37 7 ∧ vp_in v7 (S35.n q37) ∧ ∀ S41, S41 = S35.setI q37 v7.toNatClampNeg v3 → ∃ q43, S41.P v0 8 = some q43 ∧ S41.ok q43 7 ∧ vp_in v7 (S41.n q43) ∧ ∀ S47, S47 = S41.setI q43 v7.toNatClampNeg v4 → ∃ q49, S47.P v0 9 = some q49 ∧ S47.ok q49 7 ∧ vp_in v7 (S47.n q49) ∧ ∀ S53, S53 = S47.setI q49 v7.toNatClampNeg v5 → ∃ q55, S53.P v0 3 = some q55 ∧ S53.ok q55 7 ∧ vp_in v1 (S53.n q55) ∧ vp_in v1 (S53.n q55) ∧ ∀ S60, S60 = S53.setI q55 v1.toNatClampNeg ((S53.I q55 v1.toNatClampNeg) + (1 : Int32)) → ∀ S62, S62 = S60.setI v0 10 (0 : Int32) → vp_in v1 (S62.n q55) ∧ post ((S62.I q55 v1.toNatClampNeg) - (1 : Int32)) S62)) ∧ (¬ ((S.I v0 10) ≤ v8) → (∃ q69, S.P v0 5 = some q69 ∧ ∃ q71, S.P v0 11 = some q71 ∧ S.ok q71 7 ∧ vp_in v8 (S.n q71) ∧ S.ok q69 7 ∧ vp_in (((4 : Int32) * v7) + v8) (S.n q69) ∧ ∀ S77, S77 = S.setI q69 (((4 : Int32) * v7) + v8).toNatClampNeg (S.I q71 v8.toNatClampNeg) → wp_X5_bind_L120 post n v0 v1 v2 v3 v4 v5 v7 (v8 + 1) S77))))
def wp_X5_bind (post : Int32 → pS → Prop) (o : Nat) (a1 : Int32) (a2 : Int32) (a3 : Int32) (a4 : Int32) (a5 : Int32) (S : pS) : Prop :=
  (wp_X5_in (fun r1 S2 => ((r1 = 0 → post (-1 : Int32) S2) ∧ (¬ (r1 = 0) → (wp_X5_in (fun r4 S5 => ((r4 = 0 → post (-1 : Int32) S5) ∧ (¬ (r4 = 0) → ((a2 < 0 → (wp_X5_in (fun r8 S9 => ((r8 = 0 → post (-1 : Int32) S9) ∧ (¬ (r8 = 0) → (wp_X5_most (fun r11 S12 => (wp_X5_in (fun r13 S14 => ((r13 = 0 → post (-1 : Int32) S14) ∧ (¬ (r13 = 0) → (S14.ok o 5 ∧ (((S14.I o 10) = 0 → post (-2 : Int32) S14) ∧ (¬ ((S14.I o 10) = 0) → (∃ q18, S14.P o 3 = some q18 ∧ S14.ok q18 7 ∧ vp_in a1 (S14.n q18) ∧ (((S14.I q18 a1.toNatClampNeg) = (10 : Int32) → post (-3 : Int32) S14) ∧ (¬ ((S14.I q18 a1.toNatClampNeg) = (10 : Int32)) → (vp_in a1 (S14.n q18) ∧ ∃ q24, S14.P o 4 = some q24 ∧ S14.ok q24 7 ∧ vp_in (((10 : Int32) * a1) + (S14.I q18 a1.toNatClampNeg)) (S14.n q24) ∧ ∀ S28, S28 = S14.setI q24 (((10 : Int32) * a1) + (S14.I q18 a1.toNatClampNeg)).toNatClampNeg (S14.I o 10) → (∃ n120, wp_X5_bind_L120 post n120 o a1 a2 a3 a4 a5 (((10 : Int32) * a1) + (S14.I q18 a1.toNatClampNeg)) (0 : Int32) S28))))))))))) a5 (0 : Int32) r11 S12)) a4 S9)))) a4 (0 : Int32) (5 : Int32) S5)) ∧ (¬ (a2 < 0) → (wp_X5_in (fun r78 S79 => ((r78 = 0 → post (-1 : Int32) S79) ∧ (¬ (r78 = 0) → (wp_X5_in (fun r81 S82 => ((r81 = 0 → post (-1 : Int32) S82) ∧ (¬ (r81 = 0) → (wp_X5_most (fun r84 S85 => (wp_X5_in (fun r86 S87 => ((r86 = 0 → post (-1 : Int32) S87) ∧ (¬ (r86 = 0) → (S87.ok o 5 ∧ (((S87.I o 10) = 0 → post (-2 : Int32) S87) ∧ (¬ ((S87.I o 10) = 0) → (∃ q91, S87.P o 3 = some q91 ∧ S87.ok q91 7 ∧ vp_in a1 (S87.n q91) ∧ (((S87.I q91 a1.toNatClampNeg) = (10 : Int32) → post (-3 : Int32) S87) ∧ (¬ ((S87.I q91 a1.toNatClampNeg) = (10 : Int32)) → (vp_in a1 (S87.n q91) ∧ ∃ q97, S87.P o 4 = some q97 ∧ S87.ok q97 7 ∧ vp_in (((10 : Int32) * a1) + (S87.I q91 a1.toNatClampNeg)) (S87.n q97) ∧ ∀ S101, S101 = S87.setI q97 (((10 : Int32) * a1) + (S87.I q91 a1.toNatClampNeg)).toNatClampNeg (S87.I o 10) → (∃ n120, wp_X5_bind_L120 post n120 o a1 a2 a3 a4 a5 (((10 : Int32) * a1) + (S87.I q91 a1.toNatClampNeg)) (0 : Int32) S101))))))))))) a5 (0 : Int32) r84 S85)) a4 S82)))) a4 (0 : Int32) (5 : Int32) S79)))) a3 (0 : Int32) (1 : Int32) S5)))))) a2 (-1 : Int32) (5 : Int32) S2)))) a1 (0 : Int32) (3 : Int32) S)
def rm_X5_bind : Room := { frames := 1, cells := 0, slots := 0, locals := 22 }
set_option maxHeartbeats 4000000 in
set_option maxRecDepth 100000 in
theorem wk_X5_bind_L120 {l : Launch} {p : Program} {e : Env} {s : State} {m : MethodId} {args : Array Value} {below : List Frame} {meth : Method} {c : Code} {A : Nat → Prop} {E : EV} {post : Int32 → pS → Prop} (F : FX p s m args meth c cX5_bind 9 yX5_bind.cls E A) (hr : meth.sig.returnType = (some .int)) :
    ∀ (n : Nat) (v0 : Nat) (v1 : Int32) (v2 : Int32) (v3 : Int32) (v4 : Int32) (v5 : Int32) (v7 : Int32) (v8 : Int32) (S : pS) (H : Heap) (locs : List Loc) (ls : Array Slot), wp_X5_bind_L120 post n v0 v1 v2 v3 v4 v5 v7 v8 S → WD E A s S H locs → lv_has ls 9 [(0, .ref v0), (1, .int v1), (2, .int v2), (3, .int v3), (4, .int v4), (5, .int v5), (7, .int v7), (8, .int v8)] → W p l e rm_X5_bind s m args below meth c H locs 0 0 (MQ below (QI E post A) args s rm_X5_bind.cells rm_X5_bind.slots A) (F0 m 120 ls []) := by
  have hx := F.1
  have hb := F.2.1
  intro n
  induction n with
  | zero =>
    intro v0 v1 v2 v3 v4 v5 v7 v8 S H locs ls h hW hl
    exact h.elim
  | succ n ih =>
    intro v0 v1 v2 v3 v4 v5 v7 v8 S H locs ls h hW hl
    unfold wp_X5_bind_L120 at h
    refine lv_iload hx hb dX5_bind_120 (lv_at hl 7 rfl) ?_
    refine lv_aload_n hx hb dX5_bind_122 rfl (lv_at hl 0 rfl) ?_
    obtain ⟨g29, h⟩ := h
    refine kp_geti F hW g29 cbX5 10 rfl tw_492 (fun _ h9 => h9) dX5_bind_123 ?_
    refine lv_icmp_ge (tgt := 154) hx hb dX5_bind_126 (by decide) (fun c30 => ?_) (fun c30 => ?_)
    · have h := h.1 c30
      refine lv_aload_n hx hb dX5_bind_154 rfl (lv_at hl 0 rfl) ?_
      obtain ⟨q31, p32, h⟩ := h
      refine kp_getp F hW g29 cbX5 6 rfl tw_488 (fun _ h9 => h9) dX5_bind_155 p32 ?_
      refine lv_iload hx hb dX5_bind_158 (lv_at hl 6 rfl) ?_
      refine lv_iload_n hx hb dX5_bind_160 rfl (lv_at hl 2 rfl) ?_
      obtain ⟨g33, h⟩ := h
      obtain ⟨b34, h⟩ := h
      obtain ⟨S35, hS35⟩ : ∃ z, z = S.setI q31 v7.toNatClampNeg v2 := ⟨_, rfl⟩
      have h := h S35 hS35
      refine kp_iast F hW g33 b34 dX5_bind_161 (fun H locs hW => ?_)
      rw [← hS35] at hW
      refine lv_aload_n hx hb dX5_bind_162 rfl (lv_at hl 0 rfl) ?_
      have g36 : S35.ok v0 5 := by rw [hS35]; exact g29
      obtain ⟨q37, p38, h⟩ := h
      refine kp_getp F hW g36 cbX5 7 rfl tw_489 (fun _ h9 => h9) dX5_bind_163 p38 ?_
      refine lv_iload hx hb dX5_bind_166 (lv_at hl 6 rfl) ?_
      refine lv_iload_n hx hb dX5_bind_168 rfl (lv_at hl 3 rfl) ?_
      obtain ⟨g39, h⟩ := h
      obtain ⟨b40, h⟩ := h
      obtain ⟨S41, hS41⟩ : ∃ z, z = S35.setI q37 v7.toNatClampNeg v3 := ⟨_, rfl⟩
      have h := h S41 hS41
      refine kp_iast F hW g39 b40 dX5_bind_169 (fun H locs hW => ?_)
      rw [← hS41] at hW
      refine lv_aload_n hx hb dX5_bind_170 rfl (lv_at hl 0 rfl) ?_
      have g42 : S41.ok v0 5 := by rw [hS41]; exact g36
      obtain ⟨q43, p44, h⟩ := h
      refine kp_getp F hW g42 cbX5 8 rfl tw_490 (fun _ h9 => h9) dX5_bind_171 p44 ?_
      refine lv_iload hx hb dX5_bind_174 (lv_at hl 6 rfl) ?_
      refine lv_iload hx hb dX5_bind_176 (lv_at hl 4 rfl) ?_
      obtain ⟨g45, h⟩ := h
      obtain ⟨b46, h⟩ := h
      obtain ⟨S47, hS47⟩ : ∃ z, z = S41.setI q43 v7.toNatClampNeg v4 := ⟨_, rfl⟩
      have h := h S47 hS47
      refine kp_iast F hW g45 b46 dX5_bind_178 (fun H locs hW => ?_)
      rw [← hS47] at hW
      refine lv_aload_n hx hb dX5_bind_179 rfl (lv_at hl 0 rfl) ?_
      have g48 : S47.ok v0 5 := by rw [hS47]; exact g42
      obtain ⟨q49, p50, h⟩ := h
      refine kp_getp F hW g48 cbX5 9 rfl tw_491 (fun _ h9 => h9) dX5_bind_180 p50 ?_
      refine lv_iload hx hb dX5_bind_183 (lv_at hl 6 rfl) ?_
      refine lv_iload hx hb dX5_bind_185 (lv_at hl 5 rfl) ?_
      obtain ⟨g51, h⟩ := h
      obtain ⟨b52, h⟩ := h
      obtain ⟨S53, hS53⟩ : ∃ z, z = S47.setI q49 v7.toNatClampNeg v5 := ⟨_, rfl⟩
      have h := h S53 hS53
      refine kp_iast F hW g51 b52 dX5_bind_187 (fun H locs hW => ?_)
      rw [← hS53] at hW
      refine lv_aload_n hx hb dX5_bind_188 rfl (lv_at hl 0 rfl) ?_
      have g54 : S53.ok v0 5 := by rw [hS53]; exact g48
      obtain ⟨q55, p56, h⟩ := h
      refine kp_getp F hW g54 cbX5 3 rfl tw_485 (fun _ h9 => h9) dX5_bind_189 p56 ?_
      refine lv_iload_n hx hb dX5_bind_192 rfl (lv_at hl 1 rfl) ?_
      refine lv_dup2_11 hx hb dX5_bind_193 rfl rfl ?_
      obtain ⟨g57, h⟩ := h
      obtain ⟨b58, h⟩ := h
      refine kp_iald F hW g57 b58 dX5_bind_194 ?_
      refine lv_iconst (v := 1) hx hb dX5_bind_195 (by decide) ?_
      refine lv_iadd hx hb dX5_bind_196 ?_
      obtain ⟨b59, h⟩ := h
      obtain ⟨S60, hS60⟩ : ∃ z, z = S53.setI q55 v1.toNatClampNeg ((S53.I q55 v1.toNatClampNeg) + (1 : Int32)) := ⟨_, rfl⟩
      have h := h S60 hS60
      refine kp_iast F hW g57 b59 dX5_bind_197 (fun H locs hW => ?_)
      rw [← hS60] at hW
      refine lv_aload_n hx hb dX5_bind_198 rfl (lv_at hl 0 rfl) ?_
      refine lv_iconst (v := 0) hx hb dX5_bind_199 (by decide) ?_
      have g61 : S60.ok v0 5 := by rw [hS60]; exact g54
      obtain ⟨S62, hS62⟩ : ∃ z, z = S60.setI v0 10 (0 : Int32) := ⟨_, rfl⟩
      have h := h S62 hS62
      refine kp_puti F hW g61 cbX5 10 rfl tw_492 (fun _ h9 => h9) rfl rfl dX5_bind_200 (fun H locs hW => ?_)
      rw [← hS62] at hW
      refine lv_aload_n hx hb dX5_bind_203 rfl (lv_at hl 0 rfl) ?_
      have g63 : S62.ok v0 5 := by rw [hS62]; exact g61
      have p64 : S60.P v0 3 = some q55 := by rw [hS60]; exact p56
      have p65 : S62.P v0 3 = some q55 := by rw [hS62]; exact p64
      refine kp_getp F hW g63 cbX5 3 rfl tw_485 (fun _ h9 => h9) dX5_bind_204 p65 ?_
      refine lv_iload_n hx hb dX5_bind_207 rfl (lv_at hl 1 rfl) ?_
      have g66 : S60.ok q55 7 := by rw [hS60]; exact g57
      have g67 : S62.ok q55 7 := by rw [hS62]; exact g66
      obtain ⟨b68, h⟩ := h
      refine kp_iald F hW g67 b68 dX5_bind_208 ?_
      refine lv_iconst (v := 1) hx hb dX5_bind_209 (by decide) ?_
      refine lv_isub hx hb dX5_bind_210 ?_
      exact kp_reti F hW hr h (by decide) (by decide) dX5_bind_211
    · have h := h.2 c30
      refine lv_aload_n hx hb dX5_bind_129 rfl (lv_at hl 0 rfl) ?_
      obtain ⟨q69, p70, h⟩ := h
      refine kp_getp F hW g29 cbX5 5 rfl tw_487 (fun _ h9 => h9) dX5_bind_130 p70 ?_
      refine lv_iconst (v := 4) hx hb dX5_bind_133 (by decide) ?_
      refine lv_iload hx hb dX5_bind_134 (lv_at hl 6 rfl) ?_
      refine lv_imul hx hb dX5_bind_136 ?_
      refine lv_iload hx hb dX5_bind_137 (lv_at hl 7 rfl) ?_
      refine lv_iadd hx hb dX5_bind_139 ?_
      refine lv_aload_n hx hb dX5_bind_140 rfl (lv_at hl 0 rfl) ?_
      obtain ⟨q71, p72, h⟩ := h
      refine kp_getp F hW g29 cbX5 11 rfl tw_493 (fun _ h9 => h9) dX5_bind_141 p72 ?_
      refine lv_iload hx hb dX5_bind_144 (lv_at hl 7 rfl) ?_
      obtain ⟨g73, h⟩ := h
      obtain ⟨b74, h⟩ := h
      refine kp_iald F hW g73 b74 dX5_bind_146 ?_
      obtain ⟨g75, h⟩ := h
      obtain ⟨b76, h⟩ := h
      obtain ⟨S77, hS77⟩ : ∃ z, z = S.setI q69 (((4 : Int32) * v7) + v8).toNatClampNeg (S.I q71 v8.toNatClampNeg) := ⟨_, rfl⟩
      have h := h S77 hS77
      refine kp_iast F hW g75 b76 dX5_bind_147 (fun H locs hW => ?_)
      rw [← hS77] at hW
      refine lv_iinc (v := (v8 + 1)) (lv' := [(8, .int (v8 + 1)), (0, .ref v0), (1, .int v1), (2, .int v2), (3, .int v3), (4, .int v4), (5, .int v5), (7, .int v7)]) hx hb dX5_bind_148 hl (k := 7) rfl (by rfl) (by decide) rfl (fun ls hl => ?_)
      refine lv_goto (tgt := 120) hx hb dX5_bind_151 (by decide) ?_
      exact ih _ _ _ _ _ _ _ _ _ _ _ _ h hW (lv_sub hl [1, 2, 3, 4, 5, 6, 7, 0] rfl)
set_option maxHeartbeats 4000000 in
set_option maxRecDepth 100000 in
theorem ct_X5_bind (l : Launch) (E : EV) {post : Int32 → pS → Prop} (o : Nat) (a1 : Int32) (a2 : Int32) (a3 : Int32) (a4 : Int32) (a5 : Int32) (S : pS) (h : wp_X5_bind post o a1 a2 a3 a4 a5 S) : CT l E yX5_bind cX5_bind 9 (some .int) rm_X5_bind (QI E post) [.ref o, .int a1, .int a2, .int a3, .int a4, .int a5] S := by
  refine ct_intro (by decide +kernel) (Nat.le_of_ble_eq_true rfl) ?_
  intro p e s m below meth c A ls F hW hr hnm hl
  have hx := F.1
  have hb := F.2.1
  unfold wp_X5_bind at h
  have hl : lv_has ls 9 [(0, .ref o), (1, .int a1), (2, .int a2), (3, .int a3), (4, .int a4), (5, .int a5)] := hl
  refine lv_iload_n hx hb dX5_bind_0 rfl (lv_at hl 1 rfl) ?_
  refine lv_iconst (v := 0) hx hb dX5_bind_1 (by decide) ?_
  refine lv_iconst (v := 3) hx hb dX5_bind_2 (by decide) ?_
  refine kp_calli (c1 := 0) (s1 := 0) F hW (kp_runS (As := [.int a1, .int (0 : Int32), .int (3 : Int32)]) (rest := []) F hW (ct_X5_in l E _ _ _ _ h) cf_X5_in tw_565 rfl hl.1 ⟨by decide, by decide⟩ (Nat.le_of_ble_eq_true rfl) dX5_bind_3 ⟨by decide, by decide⟩) (by decide) (by decide) (fun r1 S2 H locs h hW => ?_)
  refine lv_if_eq (tgt := 59) hx hb dX5_bind_6 (by decide) (fun c3 => ?_) (fun c3 => ?_)
  · have h := h.1 c3
    refine lv_iconst (v := 0) hx hb dX5_bind_59 (by decide) ?_
    refine lv_istore (lv' := [(6, .int (0 : Int32)), (0, .ref o), (1, .int a1), (2, .int a2), (3, .int a3), (4, .int a4), (5, .int a5)]) hx hb dX5_bind_60 hl (by decide) rfl (fun ls hl => ?_)
    refine lv_iload hx hb dX5_bind_62 (lv_at hl 0 rfl) ?_
    refine lv_if_ne (tgt := 69) hx hb dX5_bind_64 (by decide) (fun c9 => absurd c9 (by decide)) (fun _ => ?_)
    refine lv_iconst (v := (-1)) hx hb dX5_bind_67 (by decide) ?_
    exact kp_reti F hW hr h (by decide) (by decide) dX5_bind_68
  · have h := h.2 c3
    refine lv_iload_n hx hb dX5_bind_9 rfl (lv_at hl 2 rfl) ?_
    refine lv_iconst (v := (-1)) hx hb dX5_bind_10 (by decide) ?_
    refine lv_iconst (v := 5) hx hb dX5_bind_11 (by decide) ?_
    refine kp_calli (c1 := 0) (s1 := 0) F hW (kp_runS (As := [.int a2, .int (-1 : Int32), .int (5 : Int32)]) (rest := []) F hW (ct_X5_in l E _ _ _ _ h) cf_X5_in tw_565 rfl hl.1 ⟨by decide, by decide⟩ (Nat.le_of_ble_eq_true rfl) dX5_bind_12 ⟨by decide, by decide⟩) (by decide) (by decide) (fun r4 S5 H locs h hW => ?_)
    refine lv_if_eq (tgt := 59) hx hb dX5_bind_15 (by decide) (fun c6 => ?_) (fun c6 => ?_)
    · have h := h.1 c6
      refine lv_iconst (v := 0) hx hb dX5_bind_59 (by decide) ?_
      refine lv_istore (lv' := [(6, .int (0 : Int32)), (0, .ref o), (1, .int a1), (2, .int a2), (3, .int a3), (4, .int a4), (5, .int a5)]) hx hb dX5_bind_60 hl (by decide) rfl (fun ls hl => ?_)
      refine lv_iload hx hb dX5_bind_62 (lv_at hl 0 rfl) ?_
      refine lv_if_ne (tgt := 69) hx hb dX5_bind_64 (by decide) (fun c9 => absurd c9 (by decide)) (fun _ => ?_)
      refine lv_iconst (v := (-1)) hx hb dX5_bind_67 (by decide) ?_
      exact kp_reti F hW hr h (by decide) (by decide) dX5_bind_68
    · have h := h.2 c6
      refine lv_iload_n hx hb dX5_bind_18 rfl (lv_at hl 2 rfl) ?_
      refine lv_if_lt (tgt := 31) hx hb dX5_bind_19 (by decide) (fun c7 => ?_) (fun c7 => ?_)
      · have h := h.1 c7
        refine lv_iload hx hb dX5_bind_31 (lv_at hl 4 rfl) ?_
        refine lv_iconst (v := 0) hx hb dX5_bind_33 (by decide) ?_
        refine lv_iconst (v := 5) hx hb dX5_bind_34 (by decide) ?_
        refine kp_calli (c1 := 0) (s1 := 0) F hW (kp_runS (As := [.int a4, .int (0 : Int32), .int (5 : Int32)]) (rest := []) F hW (ct_X5_in l E _ _ _ _ h) cf_X5_in tw_565 rfl hl.1 ⟨by decide, by decide⟩ (Nat.le_of_ble_eq_true rfl) dX5_bind_35 ⟨by decide, by decide⟩) (by decide) (by decide) (fun r8 S9 H locs h hW => ?_)
        refine lv_if_eq (tgt := 59) hx hb dX5_bind_38 (by decide) (fun c10 => ?_) (fun c10 => ?_)
        · have h := h.1 c10
          refine lv_iconst (v := 0) hx hb dX5_bind_59 (by decide) ?_
          refine lv_istore (lv' := [(6, .int (0 : Int32)), (0, .ref o), (1, .int a1), (2, .int a2), (3, .int a3), (4, .int a4), (5, .int a5)]) hx hb dX5_bind_60 hl (by decide) rfl (fun ls hl => ?_)
          refine lv_iload hx hb dX5_bind_62 (lv_at hl 0 rfl) ?_
          refine lv_if_ne (tgt := 69) hx hb dX5_bind_64 (by decide) (fun c9 => absurd c9 (by decide)) (fun _ => ?_)
          refine lv_iconst (v := (-1)) hx hb dX5_bind_67 (by decide) ?_
          exact kp_reti F hW hr h (by decide) (by decide) dX5_bind_68
        · have h := h.2 c10
          refine lv_iload hx hb dX5_bind_41 (lv_at hl 5 rfl) ?_
          refine lv_iconst (v := 0) hx hb dX5_bind_43 (by decide) ?_
          refine lv_iload hx hb dX5_bind_44 (lv_at hl 4 rfl) ?_
          refine kp_calli (c1 := 0) (s1 := 0) F hW (kp_runS (As := [.int a4]) (rest := [.int (0 : Int32), .int a5]) F hW (ct_X5_most l E _ _ h) cf_X5_most tw_576 rfl hl.1 ⟨by decide, by decide⟩ (Nat.le_of_ble_eq_true rfl) dX5_bind_46 ⟨by decide, by decide⟩) (by decide) (by decide) (fun r11 S12 H locs h hW => ?_)
          refine kp_calli (c1 := 0) (s1 := 0) F hW (kp_runS (As := [.int a5, .int (0 : Int32), .int r11]) (rest := []) F hW (ct_X5_in l E _ _ _ _ h) cf_X5_in tw_565 rfl hl.1 ⟨by decide, by decide⟩ (Nat.le_of_ble_eq_true rfl) dX5_bind_49 ⟨by decide, by decide⟩) (by decide) (by decide) (fun r13 S14 H locs h hW => ?_)
          refine lv_if_eq (tgt := 59) hx hb dX5_bind_52 (by decide) (fun c15 => ?_) (fun c15 => ?_)
          · have h := h.1 c15
            refine lv_iconst (v := 0) hx hb dX5_bind_59 (by decide) ?_
            refine lv_istore (lv' := [(6, .int (0 : Int32)), (0, .ref o), (1, .int a1), (2, .int a2), (3, .int a3), (4, .int a4), (5, .int a5)]) hx hb dX5_bind_60 hl (by decide) rfl (fun ls hl => ?_)
            refine lv_iload hx hb dX5_bind_62 (lv_at hl 0 rfl) ?_
            refine lv_if_ne (tgt := 69) hx hb dX5_bind_64 (by decide) (fun c9 => absurd c9 (by decide)) (fun _ => ?_)
            refine lv_iconst (v := (-1)) hx hb dX5_bind_67 (by decide) ?_
            exact kp_reti F hW hr h (by decide) (by decide) dX5_bind_68
          · have h := h.2 c15
            refine lv_iconst (v := 1) hx hb dX5_bind_55 (by decide) ?_
            refine lv_goto (tgt := 60) hx hb dX5_bind_56 (by decide) ?_
            refine lv_istore (lv' := [(6, .int (1 : Int32)), (0, .ref o), (1, .int a1), (2, .int a2), (3, .int a3), (4, .int a4), (5, .int a5)]) hx hb dX5_bind_60 hl (by decide) rfl (fun ls hl => ?_)
            refine lv_iload hx hb dX5_bind_62 (lv_at hl 0 rfl) ?_
            refine lv_if_ne (tgt := 69) hx hb dX5_bind_64 (by decide) (fun _ => ?_) (fun c9 => absurd c9 (by decide))
            refine lv_aload_n hx hb dX5_bind_69 rfl (lv_at hl 1 rfl) ?_
            obtain ⟨g16, h⟩ := h
            refine kp_geti F hW g16 cbX5 10 rfl tw_492 (fun _ h9 => h9) dX5_bind_70 ?_
            refine lv_if_ne (tgt := 79) hx hb dX5_bind_73 (by decide) (fun c17 => ?_) (fun c17 => ?_)
            · have h := h.2 c17
              refine lv_aload_n hx hb dX5_bind_79 rfl (lv_at hl 1 rfl) ?_
              obtain ⟨q18, p19, h⟩ := h
              refine kp_getp F hW g16 cbX5 3 rfl tw_485 (fun _ h9 => h9) dX5_bind_80 p19 ?_
              refine lv_iload_n hx hb dX5_bind_83 rfl (lv_at hl 2 rfl) ?_
              obtain ⟨g20, h⟩ := h
              obtain ⟨b21, h⟩ := h
              refine kp_iald F hW g20 b21 dX5_bind_84 ?_
              refine lv_bipush (v := 10) hx hb dX5_bind_85 (by decide) ?_
              refine lv_icmp_ne (tgt := 93) hx hb dX5_bind_87 (by decide) (fun c22 => ?_) (fun c22 => ?_)
              · have h := h.2 c22
                refine lv_bipush (v := 10) hx hb dX5_bind_93 (by decide) ?_
                refine lv_iload_n hx hb dX5_bind_95 rfl (lv_at hl 2 rfl) ?_
                refine lv_imul hx hb dX5_bind_96 ?_
                refine lv_aload_n hx hb dX5_bind_97 rfl (lv_at hl 1 rfl) ?_
                refine kp_getp F hW g16 cbX5 3 rfl tw_485 (fun _ h9 => h9) dX5_bind_98 p19 ?_
                refine lv_iload_n hx hb dX5_bind_101 rfl (lv_at hl 2 rfl) ?_
                obtain ⟨b23, h⟩ := h
                refine kp_iald F hW g20 b23 dX5_bind_102 ?_
                refine lv_iadd hx hb dX5_bind_103 ?_
                refine lv_istore (lv' := [(7, .int (((10 : Int32) * a1) + (S14.I q18 a1.toNatClampNeg))), (6, .int (1 : Int32)), (0, .ref o), (1, .int a1), (2, .int a2), (3, .int a3), (4, .int a4), (5, .int a5)]) hx hb dX5_bind_104 hl (by decide) rfl (fun ls hl => ?_)
                refine lv_aload_n hx hb dX5_bind_106 rfl (lv_at hl 2 rfl) ?_
                obtain ⟨q24, p25, h⟩ := h
                refine kp_getp F hW g16 cbX5 4 rfl tw_486 (fun _ h9 => h9) dX5_bind_107 p25 ?_
                refine lv_iload hx hb dX5_bind_110 (lv_at hl 0 rfl) ?_
                refine lv_aload_n hx hb dX5_bind_112 rfl (lv_at hl 2 rfl) ?_
                refine kp_geti F hW g16 cbX5 10 rfl tw_492 (fun _ h9 => h9) dX5_bind_113 ?_
                obtain ⟨g26, h⟩ := h
                obtain ⟨b27, h⟩ := h
                obtain ⟨S28, hS28⟩ : ∃ z, z = S14.setI q24 (((10 : Int32) * a1) + (S14.I q18 a1.toNatClampNeg)).toNatClampNeg (S14.I o 10) := ⟨_, rfl⟩
                have h := h S28 hS28
                refine kp_iast F hW g26 b27 dX5_bind_116 (fun H locs hW => ?_)
                rw [← hS28] at hW
                refine lv_iconst (v := 0) hx hb dX5_bind_117 (by decide) ?_
                refine lv_istore (lv' := [(8, .int (0 : Int32)), (7, .int (((10 : Int32) * a1) + (S14.I q18 a1.toNatClampNeg))), (6, .int (1 : Int32)), (0, .ref o), (1, .int a1), (2, .int a2), (3, .int a3), (4, .int a4), (5, .int a5)]) hx hb dX5_bind_118 hl (by decide) rfl (fun ls hl => ?_)
                obtain ⟨n9, h⟩ := h
                exact wk_X5_bind_L120 F hr n9 _ _ _ _ _ _ _ _ _ _ _ _ h hW (lv_sub hl [3, 4, 5, 6, 7, 8, 1, 0] rfl)
              · have h := h.1 c22
                refine lv_bipush (v := (-3)) hx hb dX5_bind_90 (by decide) ?_
                exact kp_reti F hW hr h (by decide) (by decide) dX5_bind_92
            · have h := h.1 c17
              refine lv_bipush (v := (-2)) hx hb dX5_bind_76 (by decide) ?_
              exact kp_reti F hW hr h (by decide) (by decide) dX5_bind_78
      · have h := h.2 c7
        refine lv_iload_n hx hb dX5_bind_22 rfl (lv_at hl 3 rfl) ?_
        refine lv_iconst (v := 0) hx hb dX5_bind_23 (by decide) ?_
        refine lv_iconst (v := 1) hx hb dX5_bind_24 (by decide) ?_
        refine kp_calli (c1 := 0) (s1 := 0) F hW (kp_runS (As := [.int a3, .int (0 : Int32), .int (1 : Int32)]) (rest := []) F hW (ct_X5_in l E _ _ _ _ h) cf_X5_in tw_565 rfl hl.1 ⟨by decide, by decide⟩ (Nat.le_of_ble_eq_true rfl) dX5_bind_25 ⟨by decide, by decide⟩) (by decide) (by decide) (fun r78 S79 H locs h hW => ?_)
        refine lv_if_eq (tgt := 59) hx hb dX5_bind_28 (by decide) (fun c80 => ?_) (fun c80 => ?_)
        · have h := h.1 c80
          refine lv_iconst (v := 0) hx hb dX5_bind_59 (by decide) ?_
          refine lv_istore (lv' := [(6, .int (0 : Int32)), (0, .ref o), (1, .int a1), (2, .int a2), (3, .int a3), (4, .int a4), (5, .int a5)]) hx hb dX5_bind_60 hl (by decide) rfl (fun ls hl => ?_)
          refine lv_iload hx hb dX5_bind_62 (lv_at hl 0 rfl) ?_
          refine lv_if_ne (tgt := 69) hx hb dX5_bind_64 (by decide) (fun c9 => absurd c9 (by decide)) (fun _ => ?_)
          refine lv_iconst (v := (-1)) hx hb dX5_bind_67 (by decide) ?_
          exact kp_reti F hW hr h (by decide) (by decide) dX5_bind_68
        · have h := h.2 c80
          refine lv_iload hx hb dX5_bind_31 (lv_at hl 4 rfl) ?_
          refine lv_iconst (v := 0) hx hb dX5_bind_33 (by decide) ?_
          refine lv_iconst (v := 5) hx hb dX5_bind_34 (by decide) ?_
          refine kp_calli (c1 := 0) (s1 := 0) F hW (kp_runS (As := [.int a4, .int (0 : Int32), .int (5 : Int32)]) (rest := []) F hW (ct_X5_in l E _ _ _ _ h) cf_X5_in tw_565 rfl hl.1 ⟨by decide, by decide⟩ (Nat.le_of_ble_eq_true rfl) dX5_bind_35 ⟨by decide, by decide⟩) (by decide) (by decide) (fun r81 S82 H locs h hW => ?_)
          refine lv_if_eq (tgt := 59) hx hb dX5_bind_38 (by decide) (fun c83 => ?_) (fun c83 => ?_)
          · have h := h.1 c83
            refine lv_iconst (v := 0) hx hb dX5_bind_59 (by decide) ?_
            refine lv_istore (lv' := [(6, .int (0 : Int32)), (0, .ref o), (1, .int a1), (2, .int a2), (3, .int a3), (4, .int a4), (5, .int a5)]) hx hb dX5_bind_60 hl (by decide) rfl (fun ls hl => ?_)
            refine lv_iload hx hb dX5_bind_62 (lv_at hl 0 rfl) ?_
            refine lv_if_ne (tgt := 69) hx hb dX5_bind_64 (by decide) (fun c9 => absurd c9 (by decide)) (fun _ => ?_)
            refine lv_iconst (v := (-1)) hx hb dX5_bind_67 (by decide) ?_
            exact kp_reti F hW hr h (by decide) (by decide) dX5_bind_68
          · have h := h.2 c83
            refine lv_iload hx hb dX5_bind_41 (lv_at hl 5 rfl) ?_
            refine lv_iconst (v := 0) hx hb dX5_bind_43 (by decide) ?_
            refine lv_iload hx hb dX5_bind_44 (lv_at hl 4 rfl) ?_
            refine kp_calli (c1 := 0) (s1 := 0) F hW (kp_runS (As := [.int a4]) (rest := [.int (0 : Int32), .int a5]) F hW (ct_X5_most l E _ _ h) cf_X5_most tw_576 rfl hl.1 ⟨by decide, by decide⟩ (Nat.le_of_ble_eq_true rfl) dX5_bind_46 ⟨by decide, by decide⟩) (by decide) (by decide) (fun r84 S85 H locs h hW => ?_)
            refine kp_calli (c1 := 0) (s1 := 0) F hW (kp_runS (As := [.int a5, .int (0 : Int32), .int r84]) (rest := []) F hW (ct_X5_in l E _ _ _ _ h) cf_X5_in tw_565 rfl hl.1 ⟨by decide, by decide⟩ (Nat.le_of_ble_eq_true rfl) dX5_bind_49 ⟨by decide, by decide⟩) (by decide) (by decide) (fun r86 S87 H locs h hW => ?_)
            refine lv_if_eq (tgt := 59) hx hb dX5_bind_52 (by decide) (fun c88 => ?_) (fun c88 => ?_)
            · have h := h.1 c88
              refine lv_iconst (v := 0) hx hb dX5_bind_59 (by decide) ?_
              refine lv_istore (lv' := [(6, .int (0 : Int32)), (0, .ref o), (1, .int a1), (2, .int a2), (3, .int a3), (4, .int a4), (5, .int a5)]) hx hb dX5_bind_60 hl (by decide) rfl (fun ls hl => ?_)
              refine lv_iload hx hb dX5_bind_62 (lv_at hl 0 rfl) ?_
              refine lv_if_ne (tgt := 69) hx hb dX5_bind_64 (by decide) (fun c9 => absurd c9 (by decide)) (fun _ => ?_)
              refine lv_iconst (v := (-1)) hx hb dX5_bind_67 (by decide) ?_
              exact kp_reti F hW hr h (by decide) (by decide) dX5_bind_68
            · have h := h.2 c88
              refine lv_iconst (v := 1) hx hb dX5_bind_55 (by decide) ?_
              refine lv_goto (tgt := 60) hx hb dX5_bind_56 (by decide) ?_
              refine lv_istore (lv' := [(6, .int (1 : Int32)), (0, .ref o), (1, .int a1), (2, .int a2), (3, .int a3), (4, .int a4), (5, .int a5)]) hx hb dX5_bind_60 hl (by decide) rfl (fun ls hl => ?_)
              refine lv_iload hx hb dX5_bind_62 (lv_at hl 0 rfl) ?_
              refine lv_if_ne (tgt := 69) hx hb dX5_bind_64 (by decide) (fun _ => ?_) (fun c9 => absurd c9 (by decide))
              refine lv_aload_n hx hb dX5_bind_69 rfl (lv_at hl 1 rfl) ?_
              obtain ⟨g89, h⟩ := h
              refine kp_geti F hW g89 cbX5 10 rfl tw_492 (fun _ h9 => h9) dX5_bind_70 ?_
              refine lv_if_ne (tgt := 79) hx hb dX5_bind_73 (by decide) (fun c90 => ?_) (fun c90 => ?_)
              · have h := h.2 c90
                refine lv_aload_n hx hb dX5_bind_79 rfl (lv_at hl 1 rfl) ?_
                obtain ⟨q91, p92, h⟩ := h
                refine kp_getp F hW g89 cbX5 3 rfl tw_485 (fun _ h9 => h9) dX5_bind_80 p92 ?_
                refine lv_iload_n hx hb dX5_bind_83 rfl (lv_at hl 2 rfl) ?_
                obtain ⟨g93, h⟩ := h
                obtain ⟨b94, h⟩ := h
                refine kp_iald F hW g93 b94 dX5_bind_84 ?_
                refine lv_bipush (v := 10) hx hb dX5_bind_85 (by decide) ?_
                refine lv_icmp_ne (tgt := 93) hx hb dX5_bind_87 (by decide) (fun c95 => ?_) (fun c95 => ?_)
                · have h := h.2 c95
                  refine lv_bipush (v := 10) hx hb dX5_bind_93 (by decide) ?_
                  refine lv_iload_n hx hb dX5_bind_95 rfl (lv_at hl 2 rfl) ?_
                  refine lv_imul hx hb dX5_bind_96 ?_
                  refine lv_aload_n hx hb dX5_bind_97 rfl (lv_at hl 1 rfl) ?_
                  refine kp_getp F hW g89 cbX5 3 rfl tw_485 (fun _ h9 => h9) dX5_bind_98 p92 ?_
                  refine lv_iload_n hx hb dX5_bind_101 rfl (lv_at hl 2 rfl) ?_
                  obtain ⟨b96, h⟩ := h
                  refine kp_iald F hW g93 b96 dX5_bind_102 ?_
                  refine lv_iadd hx hb dX5_bind_103 ?_
                  refine lv_istore (lv' := [(7, .int (((10 : Int32) * a1) + (S87.I q91 a1.toNatClampNeg))), (6, .int (1 : Int32)), (0, .ref o), (1, .int a1), (2, .int a2), (3, .int a3), (4, .int a4), (5, .int a5)]) hx hb dX5_bind_104 hl (by decide) rfl (fun ls hl => ?_)
                  refine lv_aload_n hx hb dX5_bind_106 rfl (lv_at hl 2 rfl) ?_
                  obtain ⟨q97, p98, h⟩ := h
                  refine kp_getp F hW g89 cbX5 4 rfl tw_486 (fun _ h9 => h9) dX5_bind_107 p98 ?_
                  refine lv_iload hx hb dX5_bind_110 (lv_at hl 0 rfl) ?_
                  refine lv_aload_n hx hb dX5_bind_112 rfl (lv_at hl 2 rfl) ?_
                  refine kp_geti F hW g89 cbX5 10 rfl tw_492 (fun _ h9 => h9) dX5_bind_113 ?_
                  obtain ⟨g99, h⟩ := h
                  obtain ⟨b100, h⟩ := h
                  obtain ⟨S101, hS101⟩ : ∃ z, z = S87.setI q97 (((10 : Int32) * a1) + (S87.I q91 a1.toNatClampNeg)).toNatClampNeg (S87.I o 10) := ⟨_, rfl⟩
                  have h := h S101 hS101
                  refine kp_iast F hW g99 b100 dX5_bind_116 (fun H locs hW => ?_)
                  rw [← hS101] at hW
                  refine lv_iconst (v := 0) hx hb dX5_bind_117 (by decide) ?_
                  refine lv_istore (lv' := [(8, .int (0 : Int32)), (7, .int (((10 : Int32) * a1) + (S87.I q91 a1.toNatClampNeg))), (6, .int (1 : Int32)), (0, .ref o), (1, .int a1), (2, .int a2), (3, .int a3), (4, .int a4), (5, .int a5)]) hx hb dX5_bind_118 hl (by decide) rfl (fun ls hl => ?_)
                  obtain ⟨n9, h⟩ := h
                  exact wk_X5_bind_L120 F hr n9 _ _ _ _ _ _ _ _ _ _ _ _ h hW (lv_sub hl [3, 4, 5, 6, 7, 8, 1, 0] rfl)
                · have h := h.1 c95
                  refine lv_bipush (v := (-3)) hx hb dX5_bind_90 (by decide) ?_
                  exact kp_reti F hW hr h (by decide) (by decide) dX5_bind_92
              · have h := h.1 c90
                refine lv_bipush (v := (-2)) hx hb dX5_bind_76 (by decide) ?_
                exact kp_reti F hW hr h (by decide) (by decide) dX5_bind_78
def wp_X5_isBinding (post : Int32 → pS → Prop) (o : Nat) (a1 : Int32) (a2 : Int32) (S : pS) : Prop :=
  (wp_X5_in (fun r1 S2 => ((r1 = 0 → post (0 : Int32) S2) ∧ (¬ (r1 = 0) → (S2.ok o 5 ∧ ∃ q5, S2.P o 3 = some q5 ∧ S2.ok q5 7 ∧ vp_in a1 (S2.n q5) ∧ wp_X5_in (fun r9 S10 => ((r9 = 0 → post (0 : Int32) S10) ∧ (¬ (r9 = 0) → post (1 : Int32) S10))) a2 (0 : Int32) ((S2.I q5 a1.toNatClampNeg) - (1 : Int32)) S2)))) a1 (0 : Int32) (3 : Int32) S)
def rm_X5_isBinding : Room := { frames := 1, cells := 0, slots := 0, locals := 22 }
set_option maxHeartbeats 4000000 in
set_option maxRecDepth 100000 in
theorem ct_X5_isBinding (l : Launch) (E : EV) {post : Int32 → pS → Prop} (o : Nat) (a1 : Int32) (a2 : Int32) (S : pS) (h : wp_X5_isBinding post o a1 a2 S) : CT l E yX5_isBinding cX5_isBinding 3 (some .boolean) rm_X5_isBinding (QI E post) [.ref o, .int a1, .int a2] S := by
  refine ct_intro (by decide +kernel) (Nat.le_of_ble_eq_true rfl) ?_
  intro p e s m below meth c A ls F hW hr hnm hl
  have hx := F.1
  have hb := F.2.1
  unfold wp_X5_isBinding at h
  have hl : lv_has ls 3 [(0, .ref o), (1, .int a1), (2, .int a2)] := hl
  refine lv_iload_n hx hb dX5_isBinding_0 rfl (lv_at hl 1 rfl) ?_
  refine lv_iconst (v := 0) hx hb dX5_isBinding_1 (by decide) ?_
  refine lv_iconst (v := 3) hx hb dX5_isBinding_2 (by decide) ?_
  refine kp_calli (c1 := 0) (s1 := 0) F hW (kp_runS (As := [.int a1, .int (0 : Int32), .int (3 : Int32)]) (rest := []) F hW (ct_X5_in l E _ _ _ _ h) cf_X5_in tw_565 rfl hl.1 ⟨by decide, by decide⟩ (Nat.le_of_ble_eq_true rfl) dX5_isBinding_3 ⟨by decide, by decide⟩) (by decide) (by decide) (fun r1 S2 H locs h hW => ?_)
  refine lv_if_eq (tgt := 29) hx hb dX5_isBinding_6 (by decide) (fun c3 => ?_) (fun c3 => ?_)
  · have h := h.1 c3
    refine lv_iconst (v := 0) hx hb dX5_isBinding_29 (by decide) ?_
    exact kp_retz F hW hr (Or.inl rfl) h (by decide) (by decide) dX5_isBinding_30
  · have h := h.2 c3
    refine lv_iload_n hx hb dX5_isBinding_9 rfl (lv_at hl 2 rfl) ?_
    refine lv_iconst (v := 0) hx hb dX5_isBinding_10 (by decide) ?_
    refine lv_aload_n hx hb dX5_isBinding_11 rfl (lv_at hl 0 rfl) ?_
    obtain ⟨g4, h⟩ := h
    obtain ⟨q5, p6, h⟩ := h
    refine kp_getp F hW g4 cbX5 3 rfl tw_485 (fun _ h9 => h9) dX5_isBinding_12 p6 ?_
    refine lv_iload_n hx hb dX5_isBinding_15 rfl (lv_at hl 1 rfl) ?_
    obtain ⟨g7, h⟩ := h
    obtain ⟨b8, h⟩ := h
    refine kp_iald F hW g7 b8 dX5_isBinding_16 ?_
    refine lv_iconst (v := 1) hx hb dX5_isBinding_17 (by decide) ?_
    refine lv_isub hx hb dX5_isBinding_18 ?_
    refine kp_calli (c1 := 0) (s1 := 0) F hW (kp_runS (As := [.int a2, .int (0 : Int32), .int ((S2.I q5 a1.toNatClampNeg) - (1 : Int32))]) (rest := []) F hW (ct_X5_in l E _ _ _ _ h) cf_X5_in tw_565 rfl hl.1 ⟨by decide, by decide⟩ (Nat.le_of_ble_eq_true rfl) dX5_isBinding_19 ⟨by decide, by decide⟩) (by decide) (by decide) (fun r9 S10 H locs h hW => ?_)
    refine lv_if_eq (tgt := 29) hx hb dX5_isBinding_22 (by decide) (fun c11 => ?_) (fun c11 => ?_)
    · have h := h.1 c11
      refine lv_iconst (v := 0) hx hb dX5_isBinding_29 (by decide) ?_
      exact kp_retz F hW hr (Or.inl rfl) h (by decide) (by decide) dX5_isBinding_30
    · have h := h.2 c11
      refine lv_iconst (v := 1) hx hb dX5_isBinding_25 (by decide) ?_
      refine lv_goto (tgt := 30) hx hb dX5_isBinding_26 (by decide) ?_
      exact kp_retz F hW hr (Or.inr rfl) h (by decide) (by decide) dX5_isBinding_30
def wp_X5_unbind_L116 (post : Int32 → pS → Prop) (k28 : Nat → Int32 → Int32 → pS → Prop) : Nat → Nat → Int32 → Int32 → Int32 → pS → Prop
  | 0, _, _, _, _, _ => False
  | n + 1, v0, v1, v3, v4, S =>
  (((4 : Int32) ≤ v4 → k28 v0 v1 (v3 + 1) S) ∧ (¬ ((4 : Int32) ≤ v4) → (S.ok v0 5 ∧ ∃ q55, S.P v0 5 = some q55 ∧ S.ok q55 7 ∧ vp_in ((((4 : Int32) * v3) + (4 : Int32)) + v4) (S.n q55) ∧ vp_in (((4 : Int32) * v3) + v4) (S.n q55) ∧ ∀ S60, S60 = S.setI q55 (((4 : Int32) * v3) + v4).toNatClampNeg (S.I q55 ((((4 : Int32) * v3) + (4 : Int32)) + v4).toNatClampNeg) → wp_X5_unbind_L116 post k28 n v0 v1 v3 (v4 + 1) S60)))
def wp_X5_unbind_L28 (post : Int32 → pS → Prop) : Nat → Nat → Int32 → Int32 → pS → Prop
  | 0, _, _, _, _ => False
  | n + 1, v0, v1, v3, S =>
  (S.ok v0 5 ∧ ∃ q13, S.P v0 3 = some q13 ∧ S.ok q13 7 ∧ vp_in v1 (S.n q13) ∧ (((((10 : Int32) * v1) + (S.I q13 v1.toNatClampNeg)) ≤ v3 → (vp_in v1 (S.n q13) ∧ post (S.I q13 v1.toNatClampNeg) S)) ∧ (¬ ((((10 : Int32) * v1) + (S.I q13 v1.toNatClampNeg)) ≤ v3) → (∃ q19, S.P v0 4 = some q19 ∧ S.ok q19 7 ∧ vp_in (v3 + (1 : Int32)) (S.n q19) ∧ vp_in v3 (S.n q19) ∧ ∀ S24, S24 = S.setI q19 v3.toNatClampNeg (S.I q19 (v3 + (1 : Int32)).toNatClampNeg) → ∃ q26, S24.P v0 6 = some q26 ∧ S24.ok q26 7 ∧ vp_in (v3 + (1 : Int32)) (S24.n q26) ∧ vp_in v3 (S24.n q26) ∧ ∀ S31, S31 = S24.setI q26 v3.toNatClampNeg (S24.I q26 (v3 + (1 : Int32)).toNatClampNeg) → ∃ q33, S31.P v0 7 = some q33 ∧ S31.ok q33 7 ∧ vp_in (v3 + (1 : Int32)) (S31.n q33) ∧ vp_in v3 (S31.n q33) ∧ ∀ S38, S38 = S31.setI q33 v3.toNatClampNeg (S31.I q33 (v3 + (1 : Int32)).toNatClampNeg) → ∃ q40, S38.P v0 8 = some q40 ∧ S38.ok q40 7 ∧ vp_in (v3 + (1 : Int32)) (S38.n q40) ∧ vp_in v3 (S38.n q40) ∧ ∀ S45, S45 = S38.setI q40 v3.toNatClampNeg (S38.I q40 (v3 + (1 : Int32)).toNatClampNeg) → ∃ q47, S45.P v0 9 = some q47 ∧ S45.ok q47 7 ∧ vp_in (v3 + (1 : Int32)) (S45.n q47) ∧ vp_in v3 (S45.n q47) ∧ ∀ S52, S52 = S45.setI q47 v3.toNatClampNeg (S45.I q47 (v3 + (1 : Int32)).toNatClampNeg) → (∃ n116, wp_X5_unbind_L116 post (wp_X5_unbind_L28 post n) n116 v0 v1 v3 (0 : Int32) S52)))))
def wp_X5_unbind (post : Int32 → pS → Prop) (o : Nat) (a1 : Int32) (a2 : Int32) (S : pS) : Prop :=
  (S.ok o 5 ∧ wp_X5_isBinding (fun r1 S2 => ((r1 = 0 → post (-1 : Int32) S2) ∧ (¬ (r1 = 0) → (S2.ok o 5 ∧ ∃ q6, S2.P o 3 = some q6 ∧ S2.ok q6 7 ∧ vp_in a1 (S2.n q6) ∧ vp_in a1 (S2.n q6) ∧ ∀ S11, S11 = S2.setI q6 a1.toNatClampNeg ((S2.I q6 a1.toNatClampNeg) - (1 : Int32)) → (∃ n28, wp_X5_unbind_L28 post n28 o a1 (((10 : Int32) * a1) + a2) S11))))) o a1 a2 S)
def rm_X5_unbind : Room := { frames := 2, cells := 0, slots := 0, locals := 44 }
set_option maxHeartbeats 4000000 in
set_option maxRecDepth 100000 in
theorem wk_X5_unbind_L116 {l : Launch} {p : Program} {e : Env} {s : State} {m : MethodId} {args : Array Value} {below : List Frame} {meth : Method} {c : Code} {A : Nat → Prop} {E : EV} {post : Int32 → pS → Prop} {k28 : Nat → Int32 → Int32 → pS → Prop} (F : FX p s m args meth c cX5_unbind 5 yX5_unbind.cls E A) (hr : meth.sig.returnType = (some .int)) (hk28 : ∀ (v0 : Nat) (v1 : Int32) (v3 : Int32) (S : pS) (H : Heap) (locs : List Loc) (ls : Array Slot), k28 v0 v1 v3 S → WD E A s S H locs → lv_has ls 5 [(0, .ref v0), (1, .int v1), (3, .int v3)] → W p l e rm_X5_unbind s m args below meth c H locs 0 0 (MQ below (QI E post A) args s rm_X5_unbind.cells rm_X5_unbind.slots A) (F0 m 28 ls [])) :
    ∀ (n : Nat) (v0 : Nat) (v1 : Int32) (v3 : Int32) (v4 : Int32) (S : pS) (H : Heap) (locs : List Loc) (ls : Array Slot), wp_X5_unbind_L116 post k28 n v0 v1 v3 v4 S → WD E A s S H locs → lv_has ls 5 [(0, .ref v0), (1, .int v1), (3, .int v3), (4, .int v4)] → W p l e rm_X5_unbind s m args below meth c H locs 0 0 (MQ below (QI E post A) args s rm_X5_unbind.cells rm_X5_unbind.slots A) (F0 m 116 ls []) := by
  have hx := F.1
  have hb := F.2.1
  intro n
  induction n with
  | zero =>
    intro v0 v1 v3 v4 S H locs ls h hW hl
    exact h.elim
  | succ n ih =>
    intro v0 v1 v3 v4 S H locs ls h hW hl
    unfold wp_X5_unbind_L116 at h
    refine lv_iload hx hb dX5_unbind_116 (lv_at hl 3 rfl) ?_
    refine lv_iconst (v := 4) hx hb dX5_unbind_118 (by decide) ?_
    refine lv_icmp_ge (tgt := 152) hx hb dX5_unbind_119 (by decide) (fun c53 => ?_) (fun c53 => ?_)
    · have h := h.1 c53
      refine lv_iinc (v := (v3 + 1)) (lv' := [(3, .int (v3 + 1)), (0, .ref v0), (1, .int v1), (4, .int v4)]) hx hb dX5_unbind_152 hl (k := 2) rfl (by rfl) (by decide) rfl (fun ls hl => ?_)
      refine lv_goto (tgt := 28) hx hb dX5_unbind_155 (by decide) ?_
      exact hk28 _ _ _ _ _ _ _ h hW (lv_sub hl [1, 2, 0] rfl)
    · have h := h.2 c53
      refine lv_aload_n hx hb dX5_unbind_122 rfl (lv_at hl 0 rfl) ?_
      obtain ⟨g54, h⟩ := h
      obtain ⟨q55, p56, h⟩ := h
      refine kp_getp F hW g54 cbX5 5 rfl tw_487 (fun _ h9 => h9) dX5_unbind_123 p56 ?_
      refine lv_iconst (v := 4) hx hb dX5_unbind_126 (by decide) ?_
      refine lv_iload_n hx hb dX5_unbind_127 rfl (lv_at hl 2 rfl) ?_
      refine lv_imul hx hb dX5_unbind_128 ?_
      refine lv_iload hx hb dX5_unbind_129 (lv_at hl 3 rfl) ?_
      refine lv_iadd hx hb dX5_unbind_131 ?_
      refine lv_aload_n hx hb dX5_unbind_132 rfl (lv_at hl 0 rfl) ?_
      refine kp_getp F hW g54 cbX5 5 rfl tw_487 (fun _ h9 => h9) dX5_unbind_133 p56 ?_
      refine lv_iconst (v := 4) hx hb dX5_unbind_136 (by decide) ?_
      refine lv_iload_n hx hb dX5_unbind_137 rfl (lv_at hl 2 rfl) ?_
      refine lv_imul hx hb dX5_unbind_138 ?_
      refine lv_iconst (v := 4) hx hb dX5_unbind_139 (by decide) ?_
      refine lv_iadd hx hb dX5_unbind_140 ?_
      refine lv_iload hx hb dX5_unbind_141 (lv_at hl 3 rfl) ?_
      refine lv_iadd hx hb dX5_unbind_143 ?_
      obtain ⟨g57, h⟩ := h
      obtain ⟨b58, h⟩ := h
      refine kp_iald F hW g57 b58 dX5_unbind_144 ?_
      obtain ⟨b59, h⟩ := h
      obtain ⟨S60, hS60⟩ : ∃ z, z = S.setI q55 (((4 : Int32) * v3) + v4).toNatClampNeg (S.I q55 ((((4 : Int32) * v3) + (4 : Int32)) + v4).toNatClampNeg) := ⟨_, rfl⟩
      have h := h S60 hS60
      refine kp_iast F hW g57 b59 dX5_unbind_145 (fun H locs hW => ?_)
      rw [← hS60] at hW
      refine lv_iinc (v := (v4 + 1)) (lv' := [(4, .int (v4 + 1)), (0, .ref v0), (1, .int v1), (3, .int v3)]) hx hb dX5_unbind_146 hl (k := 3) rfl (by rfl) (by decide) rfl (fun ls hl => ?_)
      refine lv_goto (tgt := 116) hx hb dX5_unbind_149 (by decide) ?_
      exact ih _ _ _ _ _ _ _ _ h hW (lv_sub hl [1, 2, 3, 0] rfl)
set_option maxHeartbeats 4000000 in
set_option maxRecDepth 100000 in
theorem wk_X5_unbind_L28 {l : Launch} {p : Program} {e : Env} {s : State} {m : MethodId} {args : Array Value} {below : List Frame} {meth : Method} {c : Code} {A : Nat → Prop} {E : EV} {post : Int32 → pS → Prop} (F : FX p s m args meth c cX5_unbind 5 yX5_unbind.cls E A) (hr : meth.sig.returnType = (some .int)) :
    ∀ (n : Nat) (v0 : Nat) (v1 : Int32) (v3 : Int32) (S : pS) (H : Heap) (locs : List Loc) (ls : Array Slot), wp_X5_unbind_L28 post n v0 v1 v3 S → WD E A s S H locs → lv_has ls 5 [(0, .ref v0), (1, .int v1), (3, .int v3)] → W p l e rm_X5_unbind s m args below meth c H locs 0 0 (MQ below (QI E post A) args s rm_X5_unbind.cells rm_X5_unbind.slots A) (F0 m 28 ls []) := by
  have hx := F.1
  have hb := F.2.1
  intro n
  induction n with
  | zero =>
    intro v0 v1 v3 S H locs ls h hW hl
    exact h.elim
  | succ n ih =>
    intro v0 v1 v3 S H locs ls h hW hl
    unfold wp_X5_unbind_L28 at h
    refine lv_iload_n hx hb dX5_unbind_28 rfl (lv_at hl 2 rfl) ?_
    refine lv_bipush (v := 10) hx hb dX5_unbind_29 (by decide) ?_
    refine lv_iload_n hx hb dX5_unbind_31 rfl (lv_at hl 1 rfl) ?_
    refine lv_imul hx hb dX5_unbind_32 ?_
    refine lv_aload_n hx hb dX5_unbind_33 rfl (lv_at hl 0 rfl) ?_
    obtain ⟨g12, h⟩ := h
    obtain ⟨q13, p14, h⟩ := h
    refine kp_getp F hW g12 cbX5 3 rfl tw_485 (fun _ h9 => h9) dX5_unbind_34 p14 ?_
    refine lv_iload_n hx hb dX5_unbind_37 rfl (lv_at hl 1 rfl) ?_
    obtain ⟨g15, h⟩ := h
    obtain ⟨b16, h⟩ := h
    refine kp_iald F hW g15 b16 dX5_unbind_38 ?_
    refine lv_iadd hx hb dX5_unbind_39 ?_
    refine lv_icmp_ge (tgt := 158) hx hb dX5_unbind_40 (by decide) (fun c17 => ?_) (fun c17 => ?_)
    · have h := h.1 c17
      refine lv_aload_n hx hb dX5_unbind_158 rfl (lv_at hl 0 rfl) ?_
      refine kp_getp F hW g12 cbX5 3 rfl tw_485 (fun _ h9 => h9) dX5_unbind_159 p14 ?_
      refine lv_iload_n hx hb dX5_unbind_162 rfl (lv_at hl 1 rfl) ?_
      obtain ⟨b18, h⟩ := h
      refine kp_iald F hW g15 b18 dX5_unbind_163 ?_
      exact kp_reti F hW hr h (by decide) (by decide) dX5_unbind_164
    · have h := h.2 c17
      refine lv_aload_n hx hb dX5_unbind_43 rfl (lv_at hl 0 rfl) ?_
      obtain ⟨q19, p20, h⟩ := h
      refine kp_getp F hW g12 cbX5 4 rfl tw_486 (fun _ h9 => h9) dX5_unbind_44 p20 ?_
      refine lv_iload_n hx hb dX5_unbind_47 rfl (lv_at hl 2 rfl) ?_
      refine lv_aload_n hx hb dX5_unbind_48 rfl (lv_at hl 0 rfl) ?_
      refine kp_getp F hW g12 cbX5 4 rfl tw_486 (fun _ h9 => h9) dX5_unbind_49 p20 ?_
      refine lv_iload_n hx hb dX5_unbind_52 rfl (lv_at hl 2 rfl) ?_
      refine lv_iconst (v := 1) hx hb dX5_unbind_53 (by decide) ?_
      refine lv_iadd hx hb dX5_unbind_54 ?_
      obtain ⟨g21, h⟩ := h
      obtain ⟨b22, h⟩ := h
      refine kp_iald F hW g21 b22 dX5_unbind_55 ?_
      obtain ⟨b23, h⟩ := h
      obtain ⟨S24, hS24⟩ : ∃ z, z = S.setI q19 v3.toNatClampNeg (S.I q19 (v3 + (1 : Int32)).toNatClampNeg) := ⟨_, rfl⟩
      have h := h S24 hS24
      refine kp_iast F hW g21 b23 dX5_unbind_56 (fun H locs hW => ?_)
      rw [← hS24] at hW
      refine lv_aload_n hx hb dX5_unbind_57 rfl (lv_at hl 0 rfl) ?_
      have g25 : S24.ok v0 5 := by rw [hS24]; exact g12
      obtain ⟨q26, p27, h⟩ := h
      refine kp_getp F hW g25 cbX5 6 rfl tw_488 (fun _ h9 => h9) dX5_unbind_58 p27 ?_
      refine lv_iload_n hx hb dX5_unbind_61 rfl (lv_at hl 2 rfl) ?_
      refine lv_aload_n hx hb dX5_unbind_62 rfl (lv_at hl 0 rfl) ?_
      refine kp_getp F hW g25 cbX5 6 rfl tw_488 (fun _ h9 => h9) dX5_unbind_63 p27 ?_
      refine lv_iload_n hx hb dX5_unbind_66 rfl (lv_at hl 2 rfl) ?_
      refine lv_iconst (v := 1) hx hb dX5_unbind_67 (by decide) ?_
      refine lv_iadd hx hb dX5_unbind_68 ?_
      obtain ⟨g28, h⟩ := h
      obtain ⟨b29, h⟩ := h
      refine kp_iald F hW g28 b29 dX5_unbind_69 ?_
      obtain ⟨b30, h⟩ := h
      obtain ⟨S31, hS31⟩ : ∃ z, z = S24.setI q26 v3.toNatClampNeg (S24.I q26 (v3 + (1 : Int32)).toNatClampNeg) := ⟨_, rfl⟩
      have h := h S31 hS31
      refine kp_iast F hW g28 b30 dX5_unbind_70 (fun H locs hW => ?_)
      rw [← hS31] at hW
      refine lv_aload_n hx hb dX5_unbind_71 rfl (lv_at hl 0 rfl) ?_
      have g32 : S31.ok v0 5 := by rw [hS31]; exact g25
      obtain ⟨q33, p34, h⟩ := h
      refine kp_getp F hW g32 cbX5 7 rfl tw_489 (fun _ h9 => h9) dX5_unbind_72 p34 ?_
      refine lv_iload_n hx hb dX5_unbind_75 rfl (lv_at hl 2 rfl) ?_
      refine lv_aload_n hx hb dX5_unbind_76 rfl (lv_at hl 0 rfl) ?_
      refine kp_getp F hW g32 cbX5 7 rfl tw_489 (fun _ h9 => h9) dX5_unbind_77 p34 ?_
      refine lv_iload_n hx hb dX5_unbind_80 rfl (lv_at hl 2 rfl) ?_
      refine lv_iconst (v := 1) hx hb dX5_unbind_81 (by decide) ?_
      refine lv_iadd hx hb dX5_unbind_82 ?_
      obtain ⟨g35, h⟩ := h
      obtain ⟨b36, h⟩ := h
      refine kp_iald F hW g35 b36 dX5_unbind_83 ?_
      obtain ⟨b37, h⟩ := h
      obtain ⟨S38, hS38⟩ : ∃ z, z = S31.setI q33 v3.toNatClampNeg (S31.I q33 (v3 + (1 : Int32)).toNatClampNeg) := ⟨_, rfl⟩
      have h := h S38 hS38
      refine kp_iast F hW g35 b37 dX5_unbind_84 (fun H locs hW => ?_)
      rw [← hS38] at hW
      refine lv_aload_n hx hb dX5_unbind_85 rfl (lv_at hl 0 rfl) ?_
      have g39 : S38.ok v0 5 := by rw [hS38]; exact g32
      obtain ⟨q40, p41, h⟩ := h
      refine kp_getp F hW g39 cbX5 8 rfl tw_490 (fun _ h9 => h9) dX5_unbind_86 p41 ?_
      refine lv_iload_n hx hb dX5_unbind_89 rfl (lv_at hl 2 rfl) ?_
      refine lv_aload_n hx hb dX5_unbind_90 rfl (lv_at hl 0 rfl) ?_
      refine kp_getp F hW g39 cbX5 8 rfl tw_490 (fun _ h9 => h9) dX5_unbind_91 p41 ?_
      refine lv_iload_n hx hb dX5_unbind_94 rfl (lv_at hl 2 rfl) ?_
      refine lv_iconst (v := 1) hx hb dX5_unbind_95 (by decide) ?_
      refine lv_iadd hx hb dX5_unbind_96 ?_
      obtain ⟨g42, h⟩ := h
      obtain ⟨b43, h⟩ := h
      refine kp_iald F hW g42 b43 dX5_unbind_97 ?_
      obtain ⟨b44, h⟩ := h
      obtain ⟨S45, hS45⟩ : ∃ z, z = S38.setI q40 v3.toNatClampNeg (S38.I q40 (v3 + (1 : Int32)).toNatClampNeg) := ⟨_, rfl⟩
      have h := h S45 hS45
      refine kp_iast F hW g42 b44 dX5_unbind_98 (fun H locs hW => ?_)
      rw [← hS45] at hW
      refine lv_aload_n hx hb dX5_unbind_99 rfl (lv_at hl 0 rfl) ?_
      have g46 : S45.ok v0 5 := by rw [hS45]; exact g39
      obtain ⟨q47, p48, h⟩ := h
      refine kp_getp F hW g46 cbX5 9 rfl tw_491 (fun _ h9 => h9) dX5_unbind_100 p48 ?_
      refine lv_iload_n hx hb dX5_unbind_103 rfl (lv_at hl 2 rfl) ?_
      refine lv_aload_n hx hb dX5_unbind_104 rfl (lv_at hl 0 rfl) ?_
      refine kp_getp F hW g46 cbX5 9 rfl tw_491 (fun _ h9 => h9) dX5_unbind_105 p48 ?_
      refine lv_iload_n hx hb dX5_unbind_108 rfl (lv_at hl 2 rfl) ?_
      refine lv_iconst (v := 1) hx hb dX5_unbind_109 (by decide) ?_
      refine lv_iadd hx hb dX5_unbind_110 ?_
      obtain ⟨g49, h⟩ := h
      obtain ⟨b50, h⟩ := h
      refine kp_iald F hW g49 b50 dX5_unbind_111 ?_
      obtain ⟨b51, h⟩ := h
      obtain ⟨S52, hS52⟩ : ∃ z, z = S45.setI q47 v3.toNatClampNeg (S45.I q47 (v3 + (1 : Int32)).toNatClampNeg) := ⟨_, rfl⟩
      have h := h S52 hS52
      refine kp_iast F hW g49 b51 dX5_unbind_112 (fun H locs hW => ?_)
      rw [← hS52] at hW
      refine lv_iconst (v := 0) hx hb dX5_unbind_113 (by decide) ?_
      refine lv_istore (lv' := [(4, .int (0 : Int32)), (0, .ref v0), (1, .int v1), (3, .int v3)]) hx hb dX5_unbind_114 hl (by decide) rfl (fun ls hl => ?_)
      obtain ⟨n9, h⟩ := h
      exact wk_X5_unbind_L116 F hr ih n9 _ _ _ _ _ _ _ _ h hW (lv_sub hl [1, 2, 3, 0] rfl)
set_option maxHeartbeats 4000000 in
set_option maxRecDepth 100000 in
theorem ct_X5_unbind (l : Launch) (E : EV) {post : Int32 → pS → Prop} (o : Nat) (a1 : Int32) (a2 : Int32) (S : pS) (h : wp_X5_unbind post o a1 a2 S) : CT l E yX5_unbind cX5_unbind 5 (some .int) rm_X5_unbind (QI E post) [.ref o, .int a1, .int a2] S := by
  refine ct_intro (by decide +kernel) (Nat.le_of_ble_eq_true rfl) ?_
  intro p e s m below meth c A ls F hW hr hnm hl
  have hx := F.1
  have hb := F.2.1
  unfold wp_X5_unbind at h
  have hl : lv_has ls 5 [(0, .ref o), (1, .int a1), (2, .int a2)] := hl
  refine lv_aload_n hx hb dX5_unbind_0 rfl (lv_at hl 0 rfl) ?_
  refine lv_iload_n hx hb dX5_unbind_1 rfl (lv_at hl 1 rfl) ?_
  refine lv_iload_n hx hb dX5_unbind_2 rfl (lv_at hl 2 rfl) ?_
  obtain ⟨g3, h⟩ := h
  refine kp_calli (c1 := 0) (s1 := 0) F hW (kp_runV (As := [.int a1, .int a2]) (rest := []) F hW (ct_X5_isBinding l E _ _ _ _ h) g3 cbX5 rfl cf_X5_isBinding tw_583 rfl hl.1 ⟨by decide, by decide⟩ (Nat.le_of_ble_eq_true rfl) dX5_unbind_3 ⟨by decide, by decide⟩) (by decide) (by decide) (fun r1 S2 H locs h hW => ?_)
  refine lv_if_ne (tgt := 11) hx hb dX5_unbind_6 (by decide) (fun c4 => ?_) (fun c4 => ?_)
  · have h := h.2 c4
    refine lv_aload_n hx hb dX5_unbind_11 rfl (lv_at hl 0 rfl) ?_
    obtain ⟨g5, h⟩ := h
    obtain ⟨q6, p7, h⟩ := h
    refine kp_getp F hW g5 cbX5 3 rfl tw_485 (fun _ h9 => h9) dX5_unbind_12 p7 ?_
    refine lv_iload_n hx hb dX5_unbind_15 rfl (lv_at hl 1 rfl) ?_
    refine lv_dup2_11 hx hb dX5_unbind_16 rfl rfl ?_
    obtain ⟨g8, h⟩ := h
    obtain ⟨b9, h⟩ := h
    refine kp_iald F hW g8 b9 dX5_unbind_17 ?_
    refine lv_iconst (v := 1) hx hb dX5_unbind_18 (by decide) ?_
    refine lv_isub hx hb dX5_unbind_19 ?_
    obtain ⟨b10, h⟩ := h
    obtain ⟨S11, hS11⟩ : ∃ z, z = S2.setI q6 a1.toNatClampNeg ((S2.I q6 a1.toNatClampNeg) - (1 : Int32)) := ⟨_, rfl⟩
    have h := h S11 hS11
    refine kp_iast F hW g8 b10 dX5_unbind_20 (fun H locs hW => ?_)
    rw [← hS11] at hW
    refine lv_bipush (v := 10) hx hb dX5_unbind_21 (by decide) ?_
    refine lv_iload_n hx hb dX5_unbind_23 rfl (lv_at hl 1 rfl) ?_
    refine lv_imul hx hb dX5_unbind_24 ?_
    refine lv_iload_n hx hb dX5_unbind_25 rfl (lv_at hl 2 rfl) ?_
    refine lv_iadd hx hb dX5_unbind_26 ?_
    refine lv_istore_n (lv' := [(3, .int (((10 : Int32) * a1) + a2)), (0, .ref o), (1, .int a1), (2, .int a2)]) hx hb dX5_unbind_27 rfl hl (by decide) rfl (fun ls hl => ?_)
    obtain ⟨n9, h⟩ := h
    exact wk_X5_unbind_L28 F hr n9 _ _ _ _ _ _ _ h hW (lv_sub hl [1, 2, 0] rfl)
  · have h := h.1 c4
    refine lv_iconst (v := (-1)) hx hb dX5_unbind_9 (by decide) ?_
    exact kp_reti F hW hr h (by decide) (by decide) dX5_unbind_10
def wp_X5_bindingCount (post : Int32 → pS → Prop) (o : Nat) (a1 : Int32) (S : pS) : Prop :=
  (wp_X5_in (fun r1 S2 => ((r1 = 0 → post (-1 : Int32) S2) ∧ (¬ (r1 = 0) → (S2.ok o 5 ∧ ∃ q5, S2.P o 3 = some q5 ∧ S2.ok q5 7 ∧ vp_in a1 (S2.n q5) ∧ post (S2.I q5 a1.toNatClampNeg) S2)))) a1 (0 : Int32) (3 : Int32) S)
def rm_X5_bindingCount : Room := { frames := 1, cells := 0, slots := 0, locals := 22 }
set_option maxHeartbeats 4000000 in
set_option maxRecDepth 100000 in
theorem ct_X5_bindingCount (l : Launch) (E : EV) {post : Int32 → pS → Prop} (o : Nat) (a1 : Int32) (S : pS) (h : wp_X5_bindingCount post o a1 S) : CT l E yX5_bindingCount cX5_bindingCount 2 (some .int) rm_X5_bindingCount (QI E post) [.ref o, .int a1] S := by
  refine ct_intro (by decide +kernel) (Nat.le_of_ble_eq_true rfl) ?_
  intro p e s m below meth c A ls F hW hr hnm hl
  have hx := F.1
  have hb := F.2.1
  unfold wp_X5_bindingCount at h
  have hl : lv_has ls 2 [(0, .ref o), (1, .int a1)] := hl
  refine lv_iload_n hx hb dX5_bindingCount_0 rfl (lv_at hl 1 rfl) ?_
  refine lv_iconst (v := 0) hx hb dX5_bindingCount_1 (by decide) ?_
  refine lv_iconst (v := 3) hx hb dX5_bindingCount_2 (by decide) ?_
  refine kp_calli (c1 := 0) (s1 := 0) F hW (kp_runS (As := [.int a1, .int (0 : Int32), .int (3 : Int32)]) (rest := []) F hW (ct_X5_in l E _ _ _ _ h) cf_X5_in tw_565 rfl hl.1 ⟨by decide, by decide⟩ (Nat.le_of_ble_eq_true rfl) dX5_bindingCount_3 ⟨by decide, by decide⟩) (by decide) (by decide) (fun r1 S2 H locs h hW => ?_)
  refine lv_if_eq (tgt := 18) hx hb dX5_bindingCount_6 (by decide) (fun c3 => ?_) (fun c3 => ?_)
  · have h := h.1 c3
    refine lv_iconst (v := (-1)) hx hb dX5_bindingCount_18 (by decide) ?_
    exact kp_reti F hW hr h (by decide) (by decide) dX5_bindingCount_19
  · have h := h.2 c3
    refine lv_aload_n hx hb dX5_bindingCount_9 rfl (lv_at hl 0 rfl) ?_
    obtain ⟨g4, h⟩ := h
    obtain ⟨q5, p6, h⟩ := h
    refine kp_getp F hW g4 cbX5 3 rfl tw_485 (fun _ h9 => h9) dX5_bindingCount_10 p6 ?_
    refine lv_iload_n hx hb dX5_bindingCount_13 rfl (lv_at hl 1 rfl) ?_
    obtain ⟨g7, h⟩ := h
    obtain ⟨b8, h⟩ := h
    refine kp_iald F hW g7 b8 dX5_bindingCount_14 ?_
    refine lv_goto (tgt := 19) hx hb dX5_bindingCount_15 (by decide) ?_
    exact kp_reti F hW hr h (by decide) (by decide) dX5_bindingCount_19
def wp_X5_shadowedBy_L104 (post : Int32 → pS → Prop) (k21 : Nat → Int32 → Int32 → Int32 → Int32 → pS → Prop) : Nat → Nat → Int32 → Int32 → Int32 → Int32 → Int32 → Int32 → Int32 → pS → Prop
  | 0, _, _, _, _, _, _, _, _, _ => False
  | n + 1, v0, v1, v2, v3, v4, v5, v6, v7, S =>
  (S.ok v0 5 ∧ ∃ q14, S.P v0 4 = some q14 ∧ S.ok q14 7 ∧ vp_in v3 (S.n q14) ∧ (((S.I q14 v3.toNatClampNeg) ≤ v7 → ((v6 = 0 → k21 v0 v1 v2 v3 (v4 + 1) S) ∧ (¬ (v6 = 0) → post v4 S))) ∧ (¬ ((S.I q14 v3.toNatClampNeg) ≤ v7) → ((v6 = 0 → wp_X5_shadowedBy_L104 post k21 n v0 v1 v2 v3 v4 v5 (0 : Int32) (v7 + 1) S) ∧ (¬ (v6 = 0) → (∃ q21, S.P v0 5 = some q21 ∧ S.ok q21 7 ∧ vp_in (((4 : Int32) * v5) + v7) (S.n q21) ∧ vp_in (((4 : Int32) * v3) + v7) (S.n q21) ∧ (((S.I q21 (((4 : Int32) * v5) + v7).toNatClampNeg) = (S.I q21 (((4 : Int32) * v3) + v7).toNatClampNeg) → wp_X5_shadowedBy_L104 post k21 n v0 v1 v2 v3 v4 v5 (1 : Int32) (v7 + 1) S) ∧ (¬ ((S.I q21 (((4 : Int32) * v5) + v7).toNatClampNeg) = (S.I q21 (((4 : Int32) * v3) + v7).toNatClampNeg)) → wp_X5_shadowedBy_L104 post k21 n v0 v1 v2 v3 v4 v5 (0 : Int32) (v7 + 1) S))))))))
def wp_X5_shadowedBy_L21 (post : Int32 → pS → Prop) : Nat → Nat → Int32 → Int32 → Int32 → Int32 → pS → Prop
  | 0, _, _, _, _, _, _ => False
  | n + 1, v0, v1, v2, v3, v4, S =>
  ((v2 ≤ v4 → post (-4 : Int32) S) ∧ (¬ (v2 ≤ v4) → (S.ok v0 5 ∧ ∃ q7, S.P v0 4 = some q7 ∧ S.ok q7 7 ∧ vp_in (((10 : Int32) * v1) + v4) (S.n q7) ∧ vp_in v3 (S.n q7) ∧ (((S.I q7 (((10 : Int32) * v1) + v4).toNatClampNeg) = (S.I q7 v3.toNatClampNeg) → (∃ q27, S.P v0 6 = some q27 ∧ S.ok q27 7 ∧ vp_in (((10 : Int32) * v1) + v4) (S.n q27) ∧ (((S.I q27 (((10 : Int32) * v1) + v4).toNatClampNeg) < 0 → (∃ n104, wp_X5_shadowedBy_L104 post (wp_X5_shadowedBy_L21 post n) n104 v0 v1 v2 v3 v4 (((10 : Int32) * v1) + v4) (1 : Int32) (0 : Int32) S)) ∧ (¬ ((S.I q27 (((10 : Int32) * v1) + v4).toNatClampNeg) < 0) → (vp_in (((10 : Int32) * v1) + v4) (S.n q27) ∧ vp_in v3 (S.n q27) ∧ (((S.I q27 (((10 : Int32) * v1) + v4).toNatClampNeg) = (S.I q27 v3.toNatClampNeg) → (∃ q35, S.P v0 7 = some q35 ∧ S.ok q35 7 ∧ vp_in (((10 : Int32) * v1) + v4) (S.n q35) ∧ vp_in v3 (S.n q35) ∧ (((S.I q35 (((10 : Int32) * v1) + v4).toNatClampNeg) = (S.I q35 v3.toNatClampNeg) → (∃ n104, wp_X5_shadowedBy_L104 post (wp_X5_shadowedBy_L21 post n) n104 v0 v1 v2 v3 v4 (((10 : Int32) * v1) + v4) (1 : Int32) (0 : Int32) S)) ∧ (¬ ((S.I q35 (((10 : Int32) * v1) + v4).toNatClampNeg) = (S.I q35 v3.toNatClampNeg)) → (∃ n104, wp_X5_shadowedBy_L104 post (wp_X5_shadowedBy_L21 post n) n104 v0 v1 v2 v3 v4 (((10 : Int32) * v1) + v4) (0 : Int32) (0 : Int32) S))))) ∧ (¬ ((S.I q27 (((10 : Int32) * v1) + v4).toNatClampNeg) = (S.I q27 v3.toNatClampNeg)) → (∃ n104, wp_X5_shadowedBy_L104 post (wp_X5_shadowedBy_L21 post n) n104 v0 v1 v2 v3 v4 (((10 : Int32) * v1) + v4) (0 : Int32) (0 : Int32) S)))))))) ∧ (¬ ((S.I q7 (((10 : Int32) * v1) + v4).toNatClampNeg) = (S.I q7 v3.toNatClampNeg)) → (∃ n104, wp_X5_shadowedBy_L104 post (wp_X5_shadowedBy_L21 post n) n104 v0 v1 v2 v3 v4 (((10 : Int32) * v1) + v4) (0 : Int32) (0 : Int32) S))))))
def wp_X5_shadowedBy (post : Int32 → pS → Prop) (o : Nat) (a1 : Int32) (a2 : Int32) (S : pS) : Prop :=
  (S.ok o 5 ∧ wp_X5_isBinding (fun r1 S2 => ((r1 = 0 → post (-1 : Int32) S2) ∧ (¬ (r1 = 0) → (∃ n21, wp_X5_shadowedBy_L21 post n21 o a1 a2 (((10 : Int32) * a1) + a2) (0 : Int32) S2)))) o a1 a2 S)
def rm_X5_shadowedBy : Room := { frames := 2, cells := 0, slots := 0, locals := 44 }
set_option maxHeartbeats 4000000 in
set_option maxRecDepth 100000 in
theorem wk_X5_shadowedBy_L104 {l : Launch} {p : Program} {e : Env} {s : State} {m : MethodId} {args : Array Value} {below : List Frame} {meth : Method} {c : Code} {A : Nat → Prop} {E : EV} {post : Int32 → pS → Prop} {k21 : Nat → Int32 → Int32 → Int32 → Int32 → pS → Prop} (F : FX p s m args meth c cX5_shadowedBy 8 yX5_shadowedBy.cls E A) (hr : meth.sig.returnType = (some .int)) (hk21 : ∀ (v0 : Nat) (v1 : Int32) (v2 : Int32) (v3 : Int32) (v4 : Int32) (S : pS) (H : Heap) (locs : List Loc) (ls : Array Slot), k21 v0 v1 v2 v3 v4 S → WD E A s S H locs → lv_has ls 8 [(0, .ref v0), (1, .int v1), (2, .int v2), (3, .int v3), (4, .int v4)] → W p l e rm_X5_shadowedBy s m args below meth c H locs 0 0 (MQ below (QI E post A) args s rm_X5_shadowedBy.cells rm_X5_shadowedBy.slots A) (F0 m 21 ls [])) :
    ∀ (n : Nat) (v0 : Nat) (v1 : Int32) (v2 : Int32) (v3 : Int32) (v4 : Int32) (v5 : Int32) (v6 : Int32) (v7 : Int32) (S : pS) (H : Heap) (locs : List Loc) (ls : Array Slot), wp_X5_shadowedBy_L104 post k21 n v0 v1 v2 v3 v4 v5 v6 v7 S → WD E A s S H locs → lv_has ls 8 [(0, .ref v0), (1, .int v1), (2, .int v2), (3, .int v3), (4, .int v4), (5, .int v5), (6, .int v6), (7, .int v7)] → W p l e rm_X5_shadowedBy s m args below meth c H locs 0 0 (MQ below (QI E post A) args s rm_X5_shadowedBy.cells rm_X5_shadowedBy.slots A) (F0 m 104 ls []) := by
  have hx := F.1
  have hb := F.2.1
  intro n
  induction n with
  | zero =>
    intro v0 v1 v2 v3 v4 v5 v6 v7 S H locs ls h hW hl
    exact h.elim
  | succ n ih =>
    intro v0 v1 v2 v3 v4 v5 v6 v7 S H locs ls h hW hl
    unfold wp_X5_shadowedBy_L104 at h
    refine lv_iload hx hb dX5_shadowedBy_104 (lv_at hl 7 rfl) ?_
    refine lv_aload_n hx hb dX5_shadowedBy_106 rfl (lv_at hl 0 rfl) ?_
    obtain ⟨g13, h⟩ := h
    obtain ⟨q14, p15, h⟩ := h
    refine kp_getp F hW g13 cbX5 4 rfl tw_486 (fun _ h9 => h9) dX5_shadowedBy_107 p15 ?_
    refine lv_iload_n hx hb dX5_shadowedBy_110 rfl (lv_at hl 3 rfl) ?_
    obtain ⟨g16, h⟩ := h
    obtain ⟨b17, h⟩ := h
    refine kp_iald F hW g16 b17 dX5_shadowedBy_111 ?_
    refine lv_icmp_ge (tgt := 159) hx hb dX5_shadowedBy_112 (by decide) (fun c18 => ?_) (fun c18 => ?_)
    · have h := h.1 c18
      refine lv_iload hx hb dX5_shadowedBy_159 (lv_at hl 6 rfl) ?_
      refine lv_if_eq (tgt := 167) hx hb dX5_shadowedBy_161 (by decide) (fun c19 => ?_) (fun c19 => ?_)
      · have h := h.1 c19
        refine lv_iinc (v := (v4 + 1)) (lv' := [(4, .int (v4 + 1)), (0, .ref v0), (1, .int v1), (2, .int v2), (3, .int v3), (5, .int v5), (6, .int v6), (7, .int v7)]) hx hb dX5_shadowedBy_167 hl (k := 4) rfl (by rfl) (by decide) rfl (fun ls hl => ?_)
        refine lv_goto (tgt := 21) hx hb dX5_shadowedBy_170 (by decide) ?_
        exact hk21 _ _ _ _ _ _ _ _ _ h hW (lv_sub hl [1, 2, 3, 4, 0] rfl)
      · have h := h.2 c19
        refine lv_iload hx hb dX5_shadowedBy_164 (lv_at hl 4 rfl) ?_
        exact kp_reti F hW hr h (by decide) (by decide) dX5_shadowedBy_166
    · have h := h.2 c18
      refine lv_iload hx hb dX5_shadowedBy_115 (lv_at hl 6 rfl) ?_
      refine lv_if_eq (tgt := 150) hx hb dX5_shadowedBy_117 (by decide) (fun c20 => ?_) (fun c20 => ?_)
      · have h := h.1 c20
        refine lv_iconst (v := 0) hx hb dX5_shadowedBy_150 (by decide) ?_
        refine lv_istore (lv' := [(6, .int (0 : Int32)), (0, .ref v0), (1, .int v1), (2, .int v2), (3, .int v3), (4, .int v4), (5, .int v5), (7, .int v7)]) hx hb dX5_shadowedBy_151 hl (by decide) rfl (fun ls hl => ?_)
        refine lv_iinc (v := (v7 + 1)) (lv' := [(7, .int (v7 + 1)), (6, .int (0 : Int32)), (0, .ref v0), (1, .int v1), (2, .int v2), (3, .int v3), (4, .int v4), (5, .int v5)]) hx hb dX5_shadowedBy_153 hl (k := 7) rfl (by rfl) (by decide) rfl (fun ls hl => ?_)
        refine lv_goto (tgt := 104) hx hb dX5_shadowedBy_156 (by decide) ?_
        exact ih _ _ _ _ _ _ _ _ _ _ _ _ h hW (lv_sub hl [2, 3, 4, 5, 6, 7, 1, 0] rfl)
      · have h := h.2 c20
        refine lv_aload_n hx hb dX5_shadowedBy_120 rfl (lv_at hl 0 rfl) ?_
        obtain ⟨q21, p22, h⟩ := h
        refine kp_getp F hW g13 cbX5 5 rfl tw_487 (fun _ h9 => h9) dX5_shadowedBy_121 p22 ?_
        refine lv_iconst (v := 4) hx hb dX5_shadowedBy_124 (by decide) ?_
        refine lv_iload hx hb dX5_shadowedBy_125 (lv_at hl 5 rfl) ?_
        refine lv_imul hx hb dX5_shadowedBy_127 ?_
        refine lv_iload hx hb dX5_shadowedBy_128 (lv_at hl 7 rfl) ?_
        refine lv_iadd hx hb dX5_shadowedBy_130 ?_
        obtain ⟨g23, h⟩ := h
        obtain ⟨b24, h⟩ := h
        refine kp_iald F hW g23 b24 dX5_shadowedBy_131 ?_
        refine lv_aload_n hx hb dX5_shadowedBy_132 rfl (lv_at hl 0 rfl) ?_
        refine kp_getp F hW g13 cbX5 5 rfl tw_487 (fun _ h9 => h9) dX5_shadowedBy_133 p22 ?_
        refine lv_iconst (v := 4) hx hb dX5_shadowedBy_136 (by decide) ?_
        refine lv_iload_n hx hb dX5_shadowedBy_137 rfl (lv_at hl 3 rfl) ?_
        refine lv_imul hx hb dX5_shadowedBy_138 ?_
        refine lv_iload hx hb dX5_shadowedBy_139 (lv_at hl 7 rfl) ?_
        refine lv_iadd hx hb dX5_shadowedBy_141 ?_
        obtain ⟨b25, h⟩ := h
        refine kp_iald F hW g23 b25 dX5_shadowedBy_142 ?_
        refine lv_icmp_ne (tgt := 150) hx hb dX5_shadowedBy_143 (by decide) (fun c26 => ?_) (fun c26 => ?_)
        · have h := h.2 c26
          refine lv_iconst (v := 0) hx hb dX5_shadowedBy_150 (by decide) ?_
          refine lv_istore (lv' := [(6, .int (0 : Int32)), (0, .ref v0), (1, .int v1), (2, .int v2), (3, .int v3), (4, .int v4), (5, .int v5), (7, .int v7)]) hx hb dX5_shadowedBy_151 hl (by decide) rfl (fun ls hl => ?_)
          refine lv_iinc (v := (v7 + 1)) (lv' := [(7, .int (v7 + 1)), (6, .int (0 : Int32)), (0, .ref v0), (1, .int v1), (2, .int v2), (3, .int v3), (4, .int v4), (5, .int v5)]) hx hb dX5_shadowedBy_153 hl (k := 7) rfl (by rfl) (by decide) rfl (fun ls hl => ?_)
          refine lv_goto (tgt := 104) hx hb dX5_shadowedBy_156 (by decide) ?_
          exact ih _ _ _ _ _ _ _ _ _ _ _ _ h hW (lv_sub hl [2, 3, 4, 5, 6, 7, 1, 0] rfl)
        · have h := h.1 c26
          refine lv_iconst (v := 1) hx hb dX5_shadowedBy_146 (by decide) ?_
          refine lv_goto (tgt := 151) hx hb dX5_shadowedBy_147 (by decide) ?_
          refine lv_istore (lv' := [(6, .int (1 : Int32)), (0, .ref v0), (1, .int v1), (2, .int v2), (3, .int v3), (4, .int v4), (5, .int v5), (7, .int v7)]) hx hb dX5_shadowedBy_151 hl (by decide) rfl (fun ls hl => ?_)
          refine lv_iinc (v := (v7 + 1)) (lv' := [(7, .int (v7 + 1)), (6, .int (1 : Int32)), (0, .ref v0), (1, .int v1), (2, .int v2), (3, .int v3), (4, .int v4), (5, .int v5)]) hx hb dX5_shadowedBy_153 hl (k := 7) rfl (by rfl) (by decide) rfl (fun ls hl => ?_)
          refine lv_goto (tgt := 104) hx hb dX5_shadowedBy_156 (by decide) ?_
          exact ih _ _ _ _ _ _ _ _ _ _ _ _ h hW (lv_sub hl [2, 3, 4, 5, 6, 7, 1, 0] rfl)
set_option maxHeartbeats 4000000 in
set_option maxRecDepth 100000 in
theorem wk_X5_shadowedBy_L21 {l : Launch} {p : Program} {e : Env} {s : State} {m : MethodId} {args : Array Value} {below : List Frame} {meth : Method} {c : Code} {A : Nat → Prop} {E : EV} {post : Int32 → pS → Prop} (F : FX p s m args meth c cX5_shadowedBy 8 yX5_shadowedBy.cls E A) (hr : meth.sig.returnType = (some .int)) :
    ∀ (n : Nat) (v0 : Nat) (v1 : Int32) (v2 : Int32) (v3 : Int32) (v4 : Int32) (S : pS) (H : Heap) (locs : List Loc) (ls : Array Slot), wp_X5_shadowedBy_L21 post n v0 v1 v2 v3 v4 S → WD E A s S H locs → lv_has ls 8 [(0, .ref v0), (1, .int v1), (2, .int v2), (3, .int v3), (4, .int v4)] → W p l e rm_X5_shadowedBy s m args below meth c H locs 0 0 (MQ below (QI E post A) args s rm_X5_shadowedBy.cells rm_X5_shadowedBy.slots A) (F0 m 21 ls []) := by
  have hx := F.1
  have hb := F.2.1
  intro n
  induction n with
  | zero =>
    intro v0 v1 v2 v3 v4 S H locs ls h hW hl
    exact h.elim
  | succ n ih =>
    intro v0 v1 v2 v3 v4 S H locs ls h hW hl
    unfold wp_X5_shadowedBy_L21 at h
    refine lv_iload hx hb dX5_shadowedBy_21 (lv_at hl 4 rfl) ?_
    refine lv_iload_n hx hb dX5_shadowedBy_23 rfl (lv_at hl 2 rfl) ?_
    refine lv_icmp_ge (tgt := 173) hx hb dX5_shadowedBy_24 (by decide) (fun c5 => ?_) (fun c5 => ?_)
    · have h := h.1 c5
      refine lv_bipush (v := (-4)) hx hb dX5_shadowedBy_173 (by decide) ?_
      exact kp_reti F hW hr h (by decide) (by decide) dX5_shadowedBy_175
    · have h := h.2 c5
      refine lv_bipush (v := 10) hx hb dX5_shadowedBy_27 (by decide) ?_
      refine lv_iload_n hx hb dX5_shadowedBy_29 rfl (lv_at hl 1 rfl) ?_
      refine lv_imul hx hb dX5_shadowedBy_30 ?_
      refine lv_iload hx hb dX5_shadowedBy_31 (lv_at hl 4 rfl) ?_
      refine lv_iadd hx hb dX5_shadowedBy_33 ?_
      refine lv_istore (lv' := [(5, .int (((10 : Int32) * v1) + v4)), (0, .ref v0), (1, .int v1), (2, .int v2), (3, .int v3), (4, .int v4)]) hx hb dX5_shadowedBy_34 hl (by decide) rfl (fun ls hl => ?_)
      refine lv_aload_n hx hb dX5_shadowedBy_36 rfl (lv_at hl 1 rfl) ?_
      obtain ⟨g6, h⟩ := h
      obtain ⟨q7, p8, h⟩ := h
      refine kp_getp F hW g6 cbX5 4 rfl tw_486 (fun _ h9 => h9) dX5_shadowedBy_37 p8 ?_
      refine lv_iload hx hb dX5_shadowedBy_40 (lv_at hl 0 rfl) ?_
      obtain ⟨g9, h⟩ := h
      obtain ⟨b10, h⟩ := h
      refine kp_iald F hW g9 b10 dX5_shadowedBy_42 ?_
      refine lv_aload_n hx hb dX5_shadowedBy_43 rfl (lv_at hl 1 rfl) ?_
      refine kp_getp F hW g6 cbX5 4 rfl tw_486 (fun _ h9 => h9) dX5_shadowedBy_44 p8 ?_
      refine lv_iload_n hx hb dX5_shadowedBy_47 rfl (lv_at hl 4 rfl) ?_
      obtain ⟨b11, h⟩ := h
      refine kp_iald F hW g9 b11 dX5_shadowedBy_48 ?_
      refine lv_icmp_ne (tgt := 98) hx hb dX5_shadowedBy_49 (by decide) (fun c12 => ?_) (fun c12 => ?_)
      · have h := h.2 c12
        refine lv_iconst (v := 0) hx hb dX5_shadowedBy_98 (by decide) ?_
        refine lv_istore (lv' := [(6, .int (0 : Int32)), (5, .int (((10 : Int32) * v1) + v4)), (0, .ref v0), (1, .int v1), (2, .int v2), (3, .int v3), (4, .int v4)]) hx hb dX5_shadowedBy_99 hl (by decide) rfl (fun ls hl => ?_)
        refine lv_iconst (v := 0) hx hb dX5_shadowedBy_101 (by decide) ?_
        refine lv_istore (lv' := [(7, .int (0 : Int32)), (6, .int (0 : Int32)), (5, .int (((10 : Int32) * v1) + v4)), (0, .ref v0), (1, .int v1), (2, .int v2), (3, .int v3), (4, .int v4)]) hx hb dX5_shadowedBy_102 hl (by decide) rfl (fun ls hl => ?_)
        obtain ⟨n9, h⟩ := h
        exact wk_X5_shadowedBy_L104 F hr ih n9 _ _ _ _ _ _ _ _ _ _ _ _ h hW (lv_sub hl [3, 4, 5, 6, 7, 2, 1, 0] rfl)
      · have h := h.1 c12
        refine lv_aload_n hx hb dX5_shadowedBy_52 rfl (lv_at hl 1 rfl) ?_
        obtain ⟨q27, p28, h⟩ := h
        refine kp_getp F hW g6 cbX5 6 rfl tw_488 (fun _ h9 => h9) dX5_shadowedBy_53 p28 ?_
        refine lv_iload hx hb dX5_shadowedBy_56 (lv_at hl 0 rfl) ?_
        obtain ⟨g29, h⟩ := h
        obtain ⟨b30, h⟩ := h
        refine kp_iald F hW g29 b30 dX5_shadowedBy_58 ?_
        refine lv_if_lt (tgt := 94) hx hb dX5_shadowedBy_59 (by decide) (fun c31 => ?_) (fun c31 => ?_)
        · have h := h.1 c31
          refine lv_iconst (v := 1) hx hb dX5_shadowedBy_94 (by decide) ?_
          refine lv_goto (tgt := 99) hx hb dX5_shadowedBy_95 (by decide) ?_
          refine lv_istore (lv' := [(6, .int (1 : Int32)), (5, .int (((10 : Int32) * v1) + v4)), (0, .ref v0), (1, .int v1), (2, .int v2), (3, .int v3), (4, .int v4)]) hx hb dX5_shadowedBy_99 hl (by decide) rfl (fun ls hl => ?_)
          refine lv_iconst (v := 0) hx hb dX5_shadowedBy_101 (by decide) ?_
          refine lv_istore (lv' := [(7, .int (0 : Int32)), (6, .int (1 : Int32)), (5, .int (((10 : Int32) * v1) + v4)), (0, .ref v0), (1, .int v1), (2, .int v2), (3, .int v3), (4, .int v4)]) hx hb dX5_shadowedBy_102 hl (by decide) rfl (fun ls hl => ?_)
          obtain ⟨n9, h⟩ := h
          exact wk_X5_shadowedBy_L104 F hr ih n9 _ _ _ _ _ _ _ _ _ _ _ _ h hW (lv_sub hl [3, 4, 5, 6, 7, 2, 1, 0] rfl)
        · have h := h.2 c31
          refine lv_aload_n hx hb dX5_shadowedBy_62 rfl (lv_at hl 1 rfl) ?_
          refine kp_getp F hW g6 cbX5 6 rfl tw_488 (fun _ h9 => h9) dX5_shadowedBy_63 p28 ?_
          refine lv_iload hx hb dX5_shadowedBy_66 (lv_at hl 0 rfl) ?_
          obtain ⟨b32, h⟩ := h
          refine kp_iald F hW g29 b32 dX5_shadowedBy_68 ?_
          refine lv_aload_n hx hb dX5_shadowedBy_69 rfl (lv_at hl 1 rfl) ?_
          refine kp_getp F hW g6 cbX5 6 rfl tw_488 (fun _ h9 => h9) dX5_shadowedBy_70 p28 ?_
          refine lv_iload_n hx hb dX5_shadowedBy_73 rfl (lv_at hl 4 rfl) ?_
          obtain ⟨b33, h⟩ := h
          refine kp_iald F hW g29 b33 dX5_shadowedBy_74 ?_
          refine lv_icmp_ne (tgt := 98) hx hb dX5_shadowedBy_75 (by decide) (fun c34 => ?_) (fun c34 => ?_)
          · have h := h.2 c34
            refine lv_iconst (v := 0) hx hb dX5_shadowedBy_98 (by decide) ?_
            refine lv_istore (lv' := [(6, .int (0 : Int32)), (5, .int (((10 : Int32) * v1) + v4)), (0, .ref v0), (1, .int v1), (2, .int v2), (3, .int v3), (4, .int v4)]) hx hb dX5_shadowedBy_99 hl (by decide) rfl (fun ls hl => ?_)
            refine lv_iconst (v := 0) hx hb dX5_shadowedBy_101 (by decide) ?_
            refine lv_istore (lv' := [(7, .int (0 : Int32)), (6, .int (0 : Int32)), (5, .int (((10 : Int32) * v1) + v4)), (0, .ref v0), (1, .int v1), (2, .int v2), (3, .int v3), (4, .int v4)]) hx hb dX5_shadowedBy_102 hl (by decide) rfl (fun ls hl => ?_)
            obtain ⟨n9, h⟩ := h
            exact wk_X5_shadowedBy_L104 F hr ih n9 _ _ _ _ _ _ _ _ _ _ _ _ h hW (lv_sub hl [3, 4, 5, 6, 7, 2, 1, 0] rfl)
          · have h := h.1 c34
            refine lv_aload_n hx hb dX5_shadowedBy_78 rfl (lv_at hl 1 rfl) ?_
            obtain ⟨q35, p36, h⟩ := h
            refine kp_getp F hW g6 cbX5 7 rfl tw_489 (fun _ h9 => h9) dX5_shadowedBy_79 p36 ?_
            refine lv_iload hx hb dX5_shadowedBy_82 (lv_at hl 0 rfl) ?_
            obtain ⟨g37, h⟩ := h
            obtain ⟨b38, h⟩ := h
            refine kp_iald F hW g37 b38 dX5_shadowedBy_84 ?_
            refine lv_aload_n hx hb dX5_shadowedBy_85 rfl (lv_at hl 1 rfl) ?_
            refine kp_getp F hW g6 cbX5 7 rfl tw_489 (fun _ h9 => h9) dX5_shadowedBy_86 p36 ?_
            refine lv_iload_n hx hb dX5_shadowedBy_89 rfl (lv_at hl 4 rfl) ?_
            obtain ⟨b39, h⟩ := h
            refine kp_iald F hW g37 b39 dX5_shadowedBy_90 ?_
            refine lv_icmp_ne (tgt := 98) hx hb dX5_shadowedBy_91 (by decide) (fun c40 => ?_) (fun c40 => ?_)
            · have h := h.2 c40
              refine lv_iconst (v := 0) hx hb dX5_shadowedBy_98 (by decide) ?_
              refine lv_istore (lv' := [(6, .int (0 : Int32)), (5, .int (((10 : Int32) * v1) + v4)), (0, .ref v0), (1, .int v1), (2, .int v2), (3, .int v3), (4, .int v4)]) hx hb dX5_shadowedBy_99 hl (by decide) rfl (fun ls hl => ?_)
              refine lv_iconst (v := 0) hx hb dX5_shadowedBy_101 (by decide) ?_
              refine lv_istore (lv' := [(7, .int (0 : Int32)), (6, .int (0 : Int32)), (5, .int (((10 : Int32) * v1) + v4)), (0, .ref v0), (1, .int v1), (2, .int v2), (3, .int v3), (4, .int v4)]) hx hb dX5_shadowedBy_102 hl (by decide) rfl (fun ls hl => ?_)
              obtain ⟨n9, h⟩ := h
              exact wk_X5_shadowedBy_L104 F hr ih n9 _ _ _ _ _ _ _ _ _ _ _ _ h hW (lv_sub hl [3, 4, 5, 6, 7, 2, 1, 0] rfl)
            · have h := h.1 c40
              refine lv_iconst (v := 1) hx hb dX5_shadowedBy_94 (by decide) ?_
              refine lv_goto (tgt := 99) hx hb dX5_shadowedBy_95 (by decide) ?_
              refine lv_istore (lv' := [(6, .int (1 : Int32)), (5, .int (((10 : Int32) * v1) + v4)), (0, .ref v0), (1, .int v1), (2, .int v2), (3, .int v3), (4, .int v4)]) hx hb dX5_shadowedBy_99 hl (by decide) rfl (fun ls hl => ?_)
              refine lv_iconst (v := 0) hx hb dX5_shadowedBy_101 (by decide) ?_
              refine lv_istore (lv' := [(7, .int (0 : Int32)), (6, .int (1 : Int32)), (5, .int (((10 : Int32) * v1) + v4)), (0, .ref v0), (1, .int v1), (2, .int v2), (3, .int v3), (4, .int v4)]) hx hb dX5_shadowedBy_102 hl (by decide) rfl (fun ls hl => ?_)
              obtain ⟨n9, h⟩ := h
              exact wk_X5_shadowedBy_L104 F hr ih n9 _ _ _ _ _ _ _ _ _ _ _ _ h hW (lv_sub hl [3, 4, 5, 6, 7, 2, 1, 0] rfl)
set_option maxHeartbeats 4000000 in
set_option maxRecDepth 100000 in
theorem ct_X5_shadowedBy (l : Launch) (E : EV) {post : Int32 → pS → Prop} (o : Nat) (a1 : Int32) (a2 : Int32) (S : pS) (h : wp_X5_shadowedBy post o a1 a2 S) : CT l E yX5_shadowedBy cX5_shadowedBy 8 (some .int) rm_X5_shadowedBy (QI E post) [.ref o, .int a1, .int a2] S := by
  refine ct_intro (by decide +kernel) (Nat.le_of_ble_eq_true rfl) ?_
  intro p e s m below meth c A ls F hW hr hnm hl
  have hx := F.1
  have hb := F.2.1
  unfold wp_X5_shadowedBy at h
  have hl : lv_has ls 8 [(0, .ref o), (1, .int a1), (2, .int a2)] := hl
  refine lv_aload_n hx hb dX5_shadowedBy_0 rfl (lv_at hl 0 rfl) ?_
  refine lv_iload_n hx hb dX5_shadowedBy_1 rfl (lv_at hl 1 rfl) ?_
  refine lv_iload_n hx hb dX5_shadowedBy_2 rfl (lv_at hl 2 rfl) ?_
  obtain ⟨g3, h⟩ := h
  refine kp_calli (c1 := 0) (s1 := 0) F hW (kp_runV (As := [.int a1, .int a2]) (rest := []) F hW (ct_X5_isBinding l E _ _ _ _ h) g3 cbX5 rfl cf_X5_isBinding tw_583 rfl hl.1 ⟨by decide, by decide⟩ (Nat.le_of_ble_eq_true rfl) dX5_shadowedBy_3 ⟨by decide, by decide⟩) (by decide) (by decide) (fun r1 S2 H locs h hW => ?_)
  refine lv_if_ne (tgt := 11) hx hb dX5_shadowedBy_6 (by decide) (fun c4 => ?_) (fun c4 => ?_)
  · have h := h.2 c4
    refine lv_bipush (v := 10) hx hb dX5_shadowedBy_11 (by decide) ?_
    refine lv_iload_n hx hb dX5_shadowedBy_13 rfl (lv_at hl 1 rfl) ?_
    refine lv_imul hx hb dX5_shadowedBy_14 ?_
    refine lv_iload_n hx hb dX5_shadowedBy_15 rfl (lv_at hl 2 rfl) ?_
    refine lv_iadd hx hb dX5_shadowedBy_16 ?_
    refine lv_istore_n (lv' := [(3, .int (((10 : Int32) * a1) + a2)), (0, .ref o), (1, .int a1), (2, .int a2)]) hx hb dX5_shadowedBy_17 rfl hl (by decide) rfl (fun ls hl => ?_)
    refine lv_iconst (v := 0) hx hb dX5_shadowedBy_18 (by decide) ?_
    refine lv_istore (lv' := [(4, .int (0 : Int32)), (3, .int (((10 : Int32) * a1) + a2)), (0, .ref o), (1, .int a1), (2, .int a2)]) hx hb dX5_shadowedBy_19 hl (by decide) rfl (fun ls hl => ?_)
    obtain ⟨n9, h⟩ := h
    exact wk_X5_shadowedBy_L21 F hr n9 _ _ _ _ _ _ _ _ _ h hW (lv_sub hl [2, 3, 4, 1, 0] rfl)
  · have h := h.1 c4
    refine lv_iconst (v := (-1)) hx hb dX5_shadowedBy_9 (by decide) ?_
    exact kp_reti F hW hr h (by decide) (by decide) dX5_shadowedBy_10
def wp_X5_fits_L48 (post : Int32 → pS → Prop) : Nat → Nat → Int32 → Int32 → Int32 → Int32 → pS → Prop
  | 0, _, _, _, _, _, _ => False
  | n + 1, v0, v1, v2, v3, v4, S =>
  ((v2 ≤ v4 → (v3 = 0 ∨ v3 = 1) ∧ post v3 S) ∧ (¬ (v2 ≤ v4) → ((v3 = 0 → (v3 = 0 ∨ v3 = 1) ∧ post v3 S) ∧ (¬ (v3 = 0) → (S.ok v0 5 ∧ ∃ q10, S.P v0 5 = some q10 ∧ S.ok q10 7 ∧ vp_in (((4 : Int32) * v1) + v4) (S.n q10) ∧ ∃ q14, S.P v0 13 = some q14 ∧ S.ok q14 7 ∧ vp_in v4 (S.n q14) ∧ (((S.I q10 (((4 : Int32) * v1) + v4).toNatClampNeg) = (S.I q14 v4.toNatClampNeg) → wp_X5_fits_L48 post n v0 v1 v2 (1 : Int32) (v4 + 1) S) ∧ (¬ ((S.I q10 (((4 : Int32) * v1) + v4).toNatClampNeg) = (S.I q14 v4.toNatClampNeg)) → wp_X5_fits_L48 post n v0 v1 v2 (0 : Int32) (v4 + 1) S)))))))
def wp_X5_fits (post : Int32 → pS → Prop) (o : Nat) (a1 : Int32) (a2 : Int32) (S : pS) : Prop :=
  (S.ok o 5 ∧ ∃ q2, S.P o 4 = some q2 ∧ S.ok q2 7 ∧ vp_in a1 (S.n q2) ∧ (((S.I q2 a1.toNatClampNeg) < a2 → (∃ n48, wp_X5_fits_L48 post n48 o a1 a2 (0 : Int32) (0 : Int32) S)) ∧ (¬ ((S.I q2 a1.toNatClampNeg) < a2) → (∃ q19, S.P o 6 = some q19 ∧ S.ok q19 7 ∧ vp_in a1 (S.n q19) ∧ (((S.I q19 a1.toNatClampNeg) < 0 → (∃ n48, wp_X5_fits_L48 post n48 o a1 a2 (1 : Int32) (0 : Int32) S)) ∧ (¬ ((S.I q19 a1.toNatClampNeg) < 0) → (∃ q24, S.P o 0 = some q24 ∧ vp_in a1 (S.n q19) ∧ S.ok q24 7 ∧ vp_in (S.I q19 a1.toNatClampNeg) (S.n q24) ∧ ∃ q29, S.P o 7 = some q29 ∧ S.ok q29 7 ∧ vp_in a1 (S.n q29) ∧ (((S.I q24 (S.I q19 a1.toNatClampNeg).toNatClampNeg) = (S.I q29 a1.toNatClampNeg) → (∃ n48, wp_X5_fits_L48 post n48 o a1 a2 (1 : Int32) (0 : Int32) S)) ∧ (¬ ((S.I q24 (S.I q19 a1.toNatClampNeg).toNatClampNeg) = (S.I q29 a1.toNatClampNeg)) → (∃ n48, wp_X5_fits_L48 post n48 o a1 a2 (0 : Int32) (0 : Int32) S))))))))))
def rm_X5_fits : Room := { frames := 0, cells := 0, slots := 0, locals := 0 }
set_option maxHeartbeats 4000000 in
set_option maxRecDepth 100000 in
theorem wk_X5_fits_L48 {l : Launch} {p : Program} {e : Env} {s : State} {m : MethodId} {args : Array Value} {below : List Frame} {meth : Method} {c : Code} {A : Nat → Prop} {E : EV} {post : Int32 → pS → Prop} (F : FX p s m args meth c cX5_fits 5 yX5_fits.cls E A) (hr : meth.sig.returnType = (some .boolean)) :
    ∀ (n : Nat) (v0 : Nat) (v1 : Int32) (v2 : Int32) (v3 : Int32) (v4 : Int32) (S : pS) (H : Heap) (locs : List Loc) (ls : Array Slot), wp_X5_fits_L48 post n v0 v1 v2 v3 v4 S → WD E A s S H locs → lv_has ls 5 [(0, .ref v0), (1, .int v1), (2, .int v2), (3, .int v3), (4, .int v4)] → W p l e rm_X5_fits s m args below meth c H locs 0 0 (MQ below (QI E post A) args s rm_X5_fits.cells rm_X5_fits.slots A) (F0 m 48 ls []) := by
  have hx := F.1
  have hb := F.2.1
  intro n
  induction n with
  | zero =>
    intro v0 v1 v2 v3 v4 S H locs ls h hW hl
    exact h.elim
  | succ n ih =>
    intro v0 v1 v2 v3 v4 S H locs ls h hW hl
    unfold wp_X5_fits_L48 at h
    refine lv_iload hx hb dX5_fits_48 (lv_at hl 4 rfl) ?_
    refine lv_iload_n hx hb dX5_fits_50 rfl (lv_at hl 2 rfl) ?_
    refine lv_icmp_ge (tgt := 91) hx hb dX5_fits_51 (by decide) (fun c7 => ?_) (fun c7 => ?_)
    · have h := h.1 c7
      refine lv_iload_n hx hb dX5_fits_91 rfl (lv_at hl 3 rfl) ?_
      exact kp_retz F hW hr h.1 h.2 (by decide) (by decide) dX5_fits_92
    · have h := h.2 c7
      refine lv_iload_n hx hb dX5_fits_54 rfl (lv_at hl 3 rfl) ?_
      refine lv_if_eq (tgt := 91) hx hb dX5_fits_55 (by decide) (fun c8 => ?_) (fun c8 => ?_)
      · have h := h.1 c8
        refine lv_iload_n hx hb dX5_fits_91 rfl (lv_at hl 3 rfl) ?_
        exact kp_retz F hW hr h.1 h.2 (by decide) (by decide) dX5_fits_92
      · have h := h.2 c8
        refine lv_aload_n hx hb dX5_fits_58 rfl (lv_at hl 0 rfl) ?_
        obtain ⟨g9, h⟩ := h
        obtain ⟨q10, p11, h⟩ := h
        refine kp_getp F hW g9 cbX5 5 rfl tw_487 (fun _ h9 => h9) dX5_fits_59 p11 ?_
        refine lv_iconst (v := 4) hx hb dX5_fits_62 (by decide) ?_
        refine lv_iload_n hx hb dX5_fits_63 rfl (lv_at hl 1 rfl) ?_
        refine lv_imul hx hb dX5_fits_64 ?_
        refine lv_iload hx hb dX5_fits_65 (lv_at hl 4 rfl) ?_
        refine lv_iadd hx hb dX5_fits_67 ?_
        obtain ⟨g12, h⟩ := h
        obtain ⟨b13, h⟩ := h
        refine kp_iald F hW g12 b13 dX5_fits_68 ?_
        refine lv_aload_n hx hb dX5_fits_69 rfl (lv_at hl 0 rfl) ?_
        obtain ⟨q14, p15, h⟩ := h
        refine kp_getp F hW g9 cbX5 13 rfl tw_495 (fun _ h9 => h9) dX5_fits_70 p15 ?_
        refine lv_iload hx hb dX5_fits_73 (lv_at hl 4 rfl) ?_
        obtain ⟨g16, h⟩ := h
        obtain ⟨b17, h⟩ := h
        refine kp_iald F hW g16 b17 dX5_fits_75 ?_
        refine lv_icmp_ne (tgt := 83) hx hb dX5_fits_76 (by decide) (fun c18 => ?_) (fun c18 => ?_)
        · have h := h.2 c18
          refine lv_iconst (v := 0) hx hb dX5_fits_83 (by decide) ?_
          refine lv_istore_n (lv' := [(3, .int (0 : Int32)), (0, .ref v0), (1, .int v1), (2, .int v2), (4, .int v4)]) hx hb dX5_fits_84 rfl hl (by decide) rfl (fun ls hl => ?_)
          refine lv_iinc (v := (v4 + 1)) (lv' := [(4, .int (v4 + 1)), (3, .int (0 : Int32)), (0, .ref v0), (1, .int v1), (2, .int v2)]) hx hb dX5_fits_85 hl (k := 4) rfl (by rfl) (by decide) rfl (fun ls hl => ?_)
          refine lv_goto (tgt := 48) hx hb dX5_fits_88 (by decide) ?_
          exact ih _ _ _ _ _ _ _ _ _ h hW (lv_sub hl [2, 3, 4, 1, 0] rfl)
        · have h := h.1 c18
          refine lv_iconst (v := 1) hx hb dX5_fits_79 (by decide) ?_
          refine lv_goto (tgt := 84) hx hb dX5_fits_80 (by decide) ?_
          refine lv_istore_n (lv' := [(3, .int (1 : Int32)), (0, .ref v0), (1, .int v1), (2, .int v2), (4, .int v4)]) hx hb dX5_fits_84 rfl hl (by decide) rfl (fun ls hl => ?_)
          refine lv_iinc (v := (v4 + 1)) (lv' := [(4, .int (v4 + 1)), (3, .int (1 : Int32)), (0, .ref v0), (1, .int v1), (2, .int v2)]) hx hb dX5_fits_85 hl (k := 4) rfl (by rfl) (by decide) rfl (fun ls hl => ?_)
          refine lv_goto (tgt := 48) hx hb dX5_fits_88 (by decide) ?_
          exact ih _ _ _ _ _ _ _ _ _ h hW (lv_sub hl [2, 3, 4, 1, 0] rfl)
set_option maxHeartbeats 4000000 in
set_option maxRecDepth 100000 in
theorem ct_X5_fits (l : Launch) (E : EV) {post : Int32 → pS → Prop} (o : Nat) (a1 : Int32) (a2 : Int32) (S : pS) (h : wp_X5_fits post o a1 a2 S) : CT l E yX5_fits cX5_fits 5 (some .boolean) rm_X5_fits (QI E post) [.ref o, .int a1, .int a2] S := by
  refine ct_intro (by decide +kernel) (Nat.le_of_ble_eq_true rfl) ?_
  intro p e s m below meth c A ls F hW hr hnm hl
  have hx := F.1
  have hb := F.2.1
  unfold wp_X5_fits at h
  have hl : lv_has ls 5 [(0, .ref o), (1, .int a1), (2, .int a2)] := hl
  refine lv_aload_n hx hb dX5_fits_0 rfl (lv_at hl 0 rfl) ?_
  obtain ⟨g1, h⟩ := h
  obtain ⟨q2, p3, h⟩ := h
  refine kp_getp F hW g1 cbX5 4 rfl tw_486 (fun _ h9 => h9) dX5_fits_1 p3 ?_
  refine lv_iload_n hx hb dX5_fits_4 rfl (lv_at hl 1 rfl) ?_
  obtain ⟨g4, h⟩ := h
  obtain ⟨b5, h⟩ := h
  refine kp_iald F hW g4 b5 dX5_fits_5 ?_
  refine lv_iload_n hx hb dX5_fits_6 rfl (lv_at hl 2 rfl) ?_
  refine lv_icmp_lt (tgt := 43) hx hb dX5_fits_7 (by decide) (fun c6 => ?_) (fun c6 => ?_)
  · have h := h.1 c6
    refine lv_iconst (v := 0) hx hb dX5_fits_43 (by decide) ?_
    refine lv_istore_n (lv' := [(3, .int (0 : Int32)), (0, .ref o), (1, .int a1), (2, .int a2)]) hx hb dX5_fits_44 rfl hl (by decide) rfl (fun ls hl => ?_)
    refine lv_iconst (v := 0) hx hb dX5_fits_45 (by decide) ?_
    refine lv_istore (lv' := [(4, .int (0 : Int32)), (3, .int (0 : Int32)), (0, .ref o), (1, .int a1), (2, .int a2)]) hx hb dX5_fits_46 hl (by decide) rfl (fun ls hl => ?_)
    obtain ⟨n9, h⟩ := h
    exact wk_X5_fits_L48 F hr n9 _ _ _ _ _ _ _ _ _ h hW (lv_sub hl [2, 3, 4, 1, 0] rfl)
  · have h := h.2 c6
    refine lv_aload_n hx hb dX5_fits_10 rfl (lv_at hl 0 rfl) ?_
    obtain ⟨q19, p20, h⟩ := h
    refine kp_getp F hW g1 cbX5 6 rfl tw_488 (fun _ h9 => h9) dX5_fits_11 p20 ?_
    refine lv_iload_n hx hb dX5_fits_14 rfl (lv_at hl 1 rfl) ?_
    obtain ⟨g21, h⟩ := h
    obtain ⟨b22, h⟩ := h
    refine kp_iald F hW g21 b22 dX5_fits_15 ?_
    refine lv_if_lt (tgt := 39) hx hb dX5_fits_16 (by decide) (fun c23 => ?_) (fun c23 => ?_)
    · have h := h.1 c23
      refine lv_iconst (v := 1) hx hb dX5_fits_39 (by decide) ?_
      refine lv_goto (tgt := 44) hx hb dX5_fits_40 (by decide) ?_
      refine lv_istore_n (lv' := [(3, .int (1 : Int32)), (0, .ref o), (1, .int a1), (2, .int a2)]) hx hb dX5_fits_44 rfl hl (by decide) rfl (fun ls hl => ?_)
      refine lv_iconst (v := 0) hx hb dX5_fits_45 (by decide) ?_
      refine lv_istore (lv' := [(4, .int (0 : Int32)), (3, .int (1 : Int32)), (0, .ref o), (1, .int a1), (2, .int a2)]) hx hb dX5_fits_46 hl (by decide) rfl (fun ls hl => ?_)
      obtain ⟨n9, h⟩ := h
      exact wk_X5_fits_L48 F hr n9 _ _ _ _ _ _ _ _ _ h hW (lv_sub hl [2, 3, 4, 1, 0] rfl)
    · have h := h.2 c23
      refine lv_aload_n hx hb dX5_fits_19 rfl (lv_at hl 0 rfl) ?_
      obtain ⟨q24, p25, h⟩ := h
      refine kp_getp F hW g1 cbX5 0 rfl tw_482 (fun _ h9 => h9) dX5_fits_20 p25 ?_
      refine lv_aload_n hx hb dX5_fits_23 rfl (lv_at hl 0 rfl) ?_
      refine kp_getp F hW g1 cbX5 6 rfl tw_488 (fun _ h9 => h9) dX5_fits_24 p20 ?_
      refine lv_iload_n hx hb dX5_fits_27 rfl (lv_at hl 1 rfl) ?_
      obtain ⟨b26, h⟩ := h
      refine kp_iald F hW g21 b26 dX5_fits_28 ?_
      obtain ⟨g27, h⟩ := h
      obtain ⟨b28, h⟩ := h
      refine kp_iald F hW g27 b28 dX5_fits_29 ?_
      refine lv_aload_n hx hb dX5_fits_30 rfl (lv_at hl 0 rfl) ?_
      obtain ⟨q29, p30, h⟩ := h
      refine kp_getp F hW g1 cbX5 7 rfl tw_489 (fun _ h9 => h9) dX5_fits_31 p30 ?_
      refine lv_iload_n hx hb dX5_fits_34 rfl (lv_at hl 1 rfl) ?_
      obtain ⟨g31, h⟩ := h
      obtain ⟨b32, h⟩ := h
      refine kp_iald F hW g31 b32 dX5_fits_35 ?_
      refine lv_icmp_ne (tgt := 43) hx hb dX5_fits_36 (by decide) (fun c33 => ?_) (fun c33 => ?_)
      · have h := h.2 c33
        refine lv_iconst (v := 0) hx hb dX5_fits_43 (by decide) ?_
        refine lv_istore_n (lv' := [(3, .int (0 : Int32)), (0, .ref o), (1, .int a1), (2, .int a2)]) hx hb dX5_fits_44 rfl hl (by decide) rfl (fun ls hl => ?_)
        refine lv_iconst (v := 0) hx hb dX5_fits_45 (by decide) ?_
        refine lv_istore (lv' := [(4, .int (0 : Int32)), (3, .int (0 : Int32)), (0, .ref o), (1, .int a1), (2, .int a2)]) hx hb dX5_fits_46 hl (by decide) rfl (fun ls hl => ?_)
        obtain ⟨n9, h⟩ := h
        exact wk_X5_fits_L48 F hr n9 _ _ _ _ _ _ _ _ _ h hW (lv_sub hl [2, 3, 4, 1, 0] rfl)
      · have h := h.1 c33
        refine lv_iconst (v := 1) hx hb dX5_fits_39 (by decide) ?_
        refine lv_goto (tgt := 44) hx hb dX5_fits_40 (by decide) ?_
        refine lv_istore_n (lv' := [(3, .int (1 : Int32)), (0, .ref o), (1, .int a1), (2, .int a2)]) hx hb dX5_fits_44 rfl hl (by decide) rfl (fun ls hl => ?_)
        refine lv_iconst (v := 0) hx hb dX5_fits_45 (by decide) ?_
        refine lv_istore (lv' := [(4, .int (0 : Int32)), (3, .int (1 : Int32)), (0, .ref o), (1, .int a1), (2, .int a2)]) hx hb dX5_fits_46 hl (by decide) rfl (fun ls hl => ?_)
        obtain ⟨n9, h⟩ := h
        exact wk_X5_fits_L48 F hr n9 _ _ _ _ _ _ _ _ _ h hW (lv_sub hl [2, 3, 4, 1, 0] rfl)
def wp_X5_bound_L13 (post : Int32 → pS → Prop) (k7 : Nat → Int32 → Int32 → pS → Prop) : Nat → Nat → Int32 → Int32 → Int32 → pS → Prop
  | 0, _, _, _, _, _ => False
  | n + 1, v0, v1, v2, v3, S =>
  (S.ok v0 5 ∧ ∃ q4, S.P v0 3 = some q4 ∧ ∃ q6, S.P v0 2 = some q6 ∧ S.ok q6 7 ∧ vp_in v2 (S.n q6) ∧ S.ok q4 7 ∧ vp_in (S.I q6 v2.toNatClampNeg) (S.n q4) ∧ (((S.I q4 (S.I q6 v2.toNatClampNeg).toNatClampNeg) ≤ v3 → k7 v0 v1 (v2 + (-1 : Int32)) S) ∧ (¬ ((S.I q4 (S.I q6 v2.toNatClampNeg).toNatClampNeg) ≤ v3) → (vp_in v2 (S.n q6) ∧ ∃ q14, S.P v0 4 = some q14 ∧ S.ok q14 7 ∧ vp_in (((10 : Int32) * (S.I q6 v2.toNatClampNeg)) + v3) (S.n q14) ∧ (((S.I q14 (((10 : Int32) * (S.I q6 v2.toNatClampNeg)) + v3).toNatClampNeg) = v1 → (wp_X5_fits (fun r19 S20 => ((r19 = 0 → wp_X5_bound_L13 post k7 n v0 v1 v2 (v3 + 1) S20) ∧ (¬ (r19 = 0) → post (((10 : Int32) * (S.I q6 v2.toNatClampNeg)) + v3) S20))) v0 (((10 : Int32) * (S.I q6 v2.toNatClampNeg)) + v3) v1 S)) ∧ (¬ ((S.I q14 (((10 : Int32) * (S.I q6 v2.toNatClampNeg)) + v3).toNatClampNeg) = v1) → wp_X5_bound_L13 post k7 n v0 v1 v2 (v3 + 1) S))))))
def wp_X5_bound_L7 (post : Int32 → pS → Prop) : Nat → Nat → Int32 → Int32 → pS → Prop
  | 0, _, _, _, _ => False
  | n + 1, v0, v1, v2, S =>
  ((v2 < 0 → post (-4 : Int32) S) ∧ (¬ (v2 < 0) → (∃ n13, wp_X5_bound_L13 post (wp_X5_bound_L7 post n) n13 v0 v1 v2 (0 : Int32) S)))
def wp_X5_bound (post : Int32 → pS → Prop) (o : Nat) (a1 : Int32) (S : pS) : Prop :=
  (S.ok o 5 ∧ (∃ n7, wp_X5_bound_L7 post n7 o a1 ((S.I o 1) - (1 : Int32)) S))
def rm_X5_bound : Room := { frames := 1, cells := 0, slots := 0, locals := 24 }
set_option maxHeartbeats 4000000 in
set_option maxRecDepth 100000 in
theorem wk_X5_bound_L13 {l : Launch} {p : Program} {e : Env} {s : State} {m : MethodId} {args : Array Value} {below : List Frame} {meth : Method} {c : Code} {A : Nat → Prop} {E : EV} {post : Int32 → pS → Prop} {k7 : Nat → Int32 → Int32 → pS → Prop} (F : FX p s m args meth c cX5_bound 5 yX5_bound.cls E A) (hr : meth.sig.returnType = (some .int)) (hk7 : ∀ (v0 : Nat) (v1 : Int32) (v2 : Int32) (S : pS) (H : Heap) (locs : List Loc) (ls : Array Slot), k7 v0 v1 v2 S → WD E A s S H locs → lv_has ls 5 [(0, .ref v0), (1, .int v1), (2, .int v2)] → W p l e rm_X5_bound s m args below meth c H locs 0 0 (MQ below (QI E post A) args s rm_X5_bound.cells rm_X5_bound.slots A) (F0 m 7 ls [])) :
    ∀ (n : Nat) (v0 : Nat) (v1 : Int32) (v2 : Int32) (v3 : Int32) (S : pS) (H : Heap) (locs : List Loc) (ls : Array Slot), wp_X5_bound_L13 post k7 n v0 v1 v2 v3 S → WD E A s S H locs → lv_has ls 5 [(0, .ref v0), (1, .int v1), (2, .int v2), (3, .int v3)] → W p l e rm_X5_bound s m args below meth c H locs 0 0 (MQ below (QI E post A) args s rm_X5_bound.cells rm_X5_bound.slots A) (F0 m 13 ls []) := by
  have hx := F.1
  have hb := F.2.1
  intro n
  induction n with
  | zero =>
    intro v0 v1 v2 v3 S H locs ls h hW hl
    exact h.elim
  | succ n ih =>
    intro v0 v1 v2 v3 S H locs ls h hW hl
    unfold wp_X5_bound_L13 at h
    refine lv_iload_n hx hb dX5_bound_13 rfl (lv_at hl 3 rfl) ?_
    refine lv_aload_n hx hb dX5_bound_14 rfl (lv_at hl 0 rfl) ?_
    obtain ⟨g3, h⟩ := h
    obtain ⟨q4, p5, h⟩ := h
    refine kp_getp F hW g3 cbX5 3 rfl tw_485 (fun _ h9 => h9) dX5_bound_15 p5 ?_
    refine lv_aload_n hx hb dX5_bound_18 rfl (lv_at hl 0 rfl) ?_
    obtain ⟨q6, p7, h⟩ := h
    refine kp_getp F hW g3 cbX5 2 rfl tw_484 (fun _ h9 => h9) dX5_bound_19 p7 ?_
    refine lv_iload_n hx hb dX5_bound_22 rfl (lv_at hl 2 rfl) ?_
    obtain ⟨g8, h⟩ := h
    obtain ⟨b9, h⟩ := h
    refine kp_iald F hW g8 b9 dX5_bound_23 ?_
    obtain ⟨g10, h⟩ := h
    obtain ⟨b11, h⟩ := h
    refine kp_iald F hW g10 b11 dX5_bound_24 ?_
    refine lv_icmp_ge (tgt := 71) hx hb dX5_bound_25 (by decide) (fun c12 => ?_) (fun c12 => ?_)
    · have h := h.1 c12
      refine lv_iinc (v := (v2 + (-1 : Int32))) (lv' := [(2, .int (v2 + (-1 : Int32))), (0, .ref v0), (1, .int v1), (3, .int v3)]) hx hb dX5_bound_71 hl (k := 2) rfl (by rfl) (by decide) rfl (fun ls hl => ?_)
      refine lv_goto (tgt := 7) hx hb dX5_bound_74 (by decide) ?_
      exact hk7 _ _ _ _ _ _ _ h hW (lv_sub hl [1, 2, 0] rfl)
    · have h := h.2 c12
      refine lv_bipush (v := 10) hx hb dX5_bound_28 (by decide) ?_
      refine lv_aload_n hx hb dX5_bound_30 rfl (lv_at hl 0 rfl) ?_
      refine kp_getp F hW g3 cbX5 2 rfl tw_484 (fun _ h9 => h9) dX5_bound_31 p7 ?_
      refine lv_iload_n hx hb dX5_bound_34 rfl (lv_at hl 2 rfl) ?_
      obtain ⟨b13, h⟩ := h
      refine kp_iald F hW g8 b13 dX5_bound_35 ?_
      refine lv_imul hx hb dX5_bound_36 ?_
      refine lv_iload_n hx hb dX5_bound_37 rfl (lv_at hl 3 rfl) ?_
      refine lv_iadd hx hb dX5_bound_38 ?_
      refine lv_istore (lv' := [(4, .int (((10 : Int32) * (S.I q6 v2.toNatClampNeg)) + v3)), (0, .ref v0), (1, .int v1), (2, .int v2), (3, .int v3)]) hx hb dX5_bound_39 hl (by decide) rfl (fun ls hl => ?_)
      refine lv_aload_n hx hb dX5_bound_41 rfl (lv_at hl 1 rfl) ?_
      obtain ⟨q14, p15, h⟩ := h
      refine kp_getp F hW g3 cbX5 4 rfl tw_486 (fun _ h9 => h9) dX5_bound_42 p15 ?_
      refine lv_iload hx hb dX5_bound_45 (lv_at hl 0 rfl) ?_
      obtain ⟨g16, h⟩ := h
      obtain ⟨b17, h⟩ := h
      refine kp_iald F hW g16 b17 dX5_bound_47 ?_
      refine lv_iload_n hx hb dX5_bound_48 rfl (lv_at hl 2 rfl) ?_
      refine lv_icmp_ne (tgt := 65) hx hb dX5_bound_49 (by decide) (fun c18 => ?_) (fun c18 => ?_)
      · have h := h.2 c18
        refine lv_iinc (v := (v3 + 1)) (lv' := [(3, .int (v3 + 1)), (4, .int (((10 : Int32) * (S.I q6 v2.toNatClampNeg)) + v3)), (0, .ref v0), (1, .int v1), (2, .int v2)]) hx hb dX5_bound_65 hl (k := 4) rfl (by rfl) (by decide) rfl (fun ls hl => ?_)
        refine lv_goto (tgt := 13) hx hb dX5_bound_68 (by decide) ?_
        exact ih _ _ _ _ _ _ _ _ h hW (lv_sub hl [2, 3, 4, 0] rfl)
      · have h := h.1 c18
        refine lv_aload_n hx hb dX5_bound_52 rfl (lv_at hl 1 rfl) ?_
        refine lv_iload hx hb dX5_bound_53 (lv_at hl 0 rfl) ?_
        refine lv_iload_n hx hb dX5_bound_55 rfl (lv_at hl 2 rfl) ?_
        refine kp_calli (c1 := 0) (s1 := 0) F hW (kp_runV (As := [.int (((10 : Int32) * (S.I q6 v2.toNatClampNeg)) + v3), .int v1]) (rest := []) F hW (ct_X5_fits l E _ _ _ _ h) g3 cbX5 rfl cf_X5_fits tw_611 rfl hl.1 ⟨by decide, by decide⟩ (Nat.le_of_ble_eq_true rfl) dX5_bound_56 ⟨by decide, by decide⟩) (by decide) (by decide) (fun r19 S20 H locs h hW => ?_)
        refine lv_if_eq (tgt := 65) hx hb dX5_bound_59 (by decide) (fun c21 => ?_) (fun c21 => ?_)
        · have h := h.1 c21
          refine lv_iinc (v := (v3 + 1)) (lv' := [(3, .int (v3 + 1)), (4, .int (((10 : Int32) * (S.I q6 v2.toNatClampNeg)) + v3)), (0, .ref v0), (1, .int v1), (2, .int v2)]) hx hb dX5_bound_65 hl (k := 4) rfl (by rfl) (by decide) rfl (fun ls hl => ?_)
          refine lv_goto (tgt := 13) hx hb dX5_bound_68 (by decide) ?_
          exact ih _ _ _ _ _ _ _ _ h hW (lv_sub hl [2, 3, 4, 0] rfl)
        · have h := h.2 c21
          refine lv_iload hx hb dX5_bound_62 (lv_at hl 0 rfl) ?_
          exact kp_reti F hW hr h (by decide) (by decide) dX5_bound_64
set_option maxHeartbeats 4000000 in
set_option maxRecDepth 100000 in
theorem wk_X5_bound_L7 {l : Launch} {p : Program} {e : Env} {s : State} {m : MethodId} {args : Array Value} {below : List Frame} {meth : Method} {c : Code} {A : Nat → Prop} {E : EV} {post : Int32 → pS → Prop} (F : FX p s m args meth c cX5_bound 5 yX5_bound.cls E A) (hr : meth.sig.returnType = (some .int)) :
    ∀ (n : Nat) (v0 : Nat) (v1 : Int32) (v2 : Int32) (S : pS) (H : Heap) (locs : List Loc) (ls : Array Slot), wp_X5_bound_L7 post n v0 v1 v2 S → WD E A s S H locs → lv_has ls 5 [(0, .ref v0), (1, .int v1), (2, .int v2)] → W p l e rm_X5_bound s m args below meth c H locs 0 0 (MQ below (QI E post A) args s rm_X5_bound.cells rm_X5_bound.slots A) (F0 m 7 ls []) := by
  have hx := F.1
  have hb := F.2.1
  intro n
  induction n with
  | zero =>
    intro v0 v1 v2 S H locs ls h hW hl
    exact h.elim
  | succ n ih =>
    intro v0 v1 v2 S H locs ls h hW hl
    unfold wp_X5_bound_L7 at h
    refine lv_iload_n hx hb dX5_bound_7 rfl (lv_at hl 2 rfl) ?_
    refine lv_if_lt (tgt := 77) hx hb dX5_bound_8 (by decide) (fun c2 => ?_) (fun c2 => ?_)
    · have h := h.1 c2
      refine lv_bipush (v := (-4)) hx hb dX5_bound_77 (by decide) ?_
      exact kp_reti F hW hr h (by decide) (by decide) dX5_bound_79
    · have h := h.2 c2
      refine lv_iconst (v := 0) hx hb dX5_bound_11 (by decide) ?_
      refine lv_istore_n (lv' := [(3, .int (0 : Int32)), (0, .ref v0), (1, .int v1), (2, .int v2)]) hx hb dX5_bound_12 rfl hl (by decide) rfl (fun ls hl => ?_)
      obtain ⟨n9, h⟩ := h
      exact wk_X5_bound_L13 F hr ih n9 _ _ _ _ _ _ _ _ h hW (lv_sub hl [1, 2, 3, 0] rfl)
set_option maxHeartbeats 4000000 in
set_option maxRecDepth 100000 in
theorem ct_X5_bound (l : Launch) (E : EV) {post : Int32 → pS → Prop} (o : Nat) (a1 : Int32) (S : pS) (h : wp_X5_bound post o a1 S) : CT l E yX5_bound cX5_bound 5 (some .int) rm_X5_bound (QI E post) [.ref o, .int a1] S := by
  refine ct_intro (by decide +kernel) (Nat.le_of_ble_eq_true rfl) ?_
  intro p e s m below meth c A ls F hW hr hnm hl
  have hx := F.1
  have hb := F.2.1
  unfold wp_X5_bound at h
  have hl : lv_has ls 5 [(0, .ref o), (1, .int a1)] := hl
  refine lv_aload_n hx hb dX5_bound_0 rfl (lv_at hl 0 rfl) ?_
  obtain ⟨g1, h⟩ := h
  refine kp_geti F hW g1 cbX5 1 rfl tw_483 (fun _ h9 => h9) dX5_bound_1 ?_
  refine lv_iconst (v := 1) hx hb dX5_bound_4 (by decide) ?_
  refine lv_isub hx hb dX5_bound_5 ?_
  refine lv_istore_n (lv' := [(2, .int ((S.I o 1) - (1 : Int32))), (0, .ref o), (1, .int a1)]) hx hb dX5_bound_6 rfl hl (by decide) rfl (fun ls hl => ?_)
  obtain ⟨n9, h⟩ := h
  exact wk_X5_bound_L7 F hr n9 _ _ _ _ _ _ _ h hW (lv_sub hl [1, 2, 0] rfl)
def wp_X5_isExtensible_L12 (post : Int32 → pS → Prop) (k2 : Nat → Int32 → pS → Prop) : Nat → Nat → Int32 → Int32 → pS → Prop
  | 0, _, _, _, _ => False
  | n + 1, v0, v1, v2, S =>
  (S.ok v0 5 ∧ ∃ q4, S.P v0 3 = some q4 ∧ ∃ q6, S.P v0 2 = some q6 ∧ S.ok q6 7 ∧ vp_in v1 (S.n q6) ∧ S.ok q4 7 ∧ vp_in (S.I q6 v1.toNatClampNeg) (S.n q4) ∧ (((S.I q4 (S.I q6 v1.toNatClampNeg).toNatClampNeg) ≤ v2 → k2 v0 (v1 + 1) S) ∧ (¬ ((S.I q4 (S.I q6 v1.toNatClampNeg).toNatClampNeg) ≤ v2) → (vp_in v1 (S.n q6) ∧ ∃ q14, S.P v0 4 = some q14 ∧ S.ok q14 7 ∧ vp_in (((10 : Int32) * (S.I q6 v1.toNatClampNeg)) + v2) (S.n q14) ∧ (((S.I q14 (((10 : Int32) * (S.I q6 v1.toNatClampNeg)) + v2).toNatClampNeg) ≤ (S.I v0 12) → wp_X5_isExtensible_L12 post k2 n v0 v1 (v2 + 1) S) ∧ (¬ ((S.I q14 (((10 : Int32) * (S.I q6 v1.toNatClampNeg)) + v2).toNatClampNeg) ≤ (S.I v0 12)) → (wp_X5_fits (fun r19 S20 => ((r19 = 0 → wp_X5_isExtensible_L12 post k2 n v0 v1 (v2 + 1) S20) ∧ (¬ (r19 = 0) → post (1 : Int32) S20))) v0 (((10 : Int32) * (S.I q6 v1.toNatClampNeg)) + v2) (S.I v0 12) S)))))))
def wp_X5_isExtensible_L2 (post : Int32 → pS → Prop) : Nat → Nat → Int32 → pS → Prop
  | 0, _, _, _ => False
  | n + 1, v0, v1, S =>
  (S.ok v0 5 ∧ (((S.I v0 1) ≤ v1 → post (0 : Int32) S) ∧ (¬ ((S.I v0 1) ≤ v1) → (∃ n12, wp_X5_isExtensible_L12 post (wp_X5_isExtensible_L2 post n) n12 v0 v1 (0 : Int32) S))))
def wp_X5_isExtensible (post : Int32 → pS → Prop) (o : Nat) (S : pS) : Prop :=
  (∃ n2, wp_X5_isExtensible_L2 post n2 o (0 : Int32) S)
def rm_X5_isExtensible : Room := { frames := 1, cells := 0, slots := 0, locals := 24 }
set_option maxHeartbeats 4000000 in
set_option maxRecDepth 100000 in
theorem wk_X5_isExtensible_L12 {l : Launch} {p : Program} {e : Env} {s : State} {m : MethodId} {args : Array Value} {below : List Frame} {meth : Method} {c : Code} {A : Nat → Prop} {E : EV} {post : Int32 → pS → Prop} {k2 : Nat → Int32 → pS → Prop} (F : FX p s m args meth c cX5_isExtensible 4 yX5_isExtensible.cls E A) (hr : meth.sig.returnType = (some .boolean)) (hk2 : ∀ (v0 : Nat) (v1 : Int32) (S : pS) (H : Heap) (locs : List Loc) (ls : Array Slot), k2 v0 v1 S → WD E A s S H locs → lv_has ls 4 [(0, .ref v0), (1, .int v1)] → W p l e rm_X5_isExtensible s m args below meth c H locs 0 0 (MQ below (QI E post A) args s rm_X5_isExtensible.cells rm_X5_isExtensible.slots A) (F0 m 2 ls [])) :
    ∀ (n : Nat) (v0 : Nat) (v1 : Int32) (v2 : Int32) (S : pS) (H : Heap) (locs : List Loc) (ls : Array Slot), wp_X5_isExtensible_L12 post k2 n v0 v1 v2 S → WD E A s S H locs → lv_has ls 4 [(0, .ref v0), (1, .int v1), (2, .int v2)] → W p l e rm_X5_isExtensible s m args below meth c H locs 0 0 (MQ below (QI E post A) args s rm_X5_isExtensible.cells rm_X5_isExtensible.slots A) (F0 m 12 ls []) := by
  have hx := F.1
  have hb := F.2.1
  intro n
  induction n with
  | zero =>
    intro v0 v1 v2 S H locs ls h hW hl
    exact h.elim
  | succ n ih =>
    intro v0 v1 v2 S H locs ls h hW hl
    unfold wp_X5_isExtensible_L12 at h
    refine lv_iload_n hx hb dX5_isExtensible_12 rfl (lv_at hl 2 rfl) ?_
    refine lv_aload_n hx hb dX5_isExtensible_13 rfl (lv_at hl 0 rfl) ?_
    obtain ⟨g3, h⟩ := h
    obtain ⟨q4, p5, h⟩ := h
    refine kp_getp F hW g3 cbX5 3 rfl tw_485 (fun _ h9 => h9) dX5_isExtensible_14 p5 ?_
    refine lv_aload_n hx hb dX5_isExtensible_17 rfl (lv_at hl 0 rfl) ?_
    obtain ⟨q6, p7, h⟩ := h
    refine kp_getp F hW g3 cbX5 2 rfl tw_484 (fun _ h9 => h9) dX5_isExtensible_18 p7 ?_
    refine lv_iload_n hx hb dX5_isExtensible_21 rfl (lv_at hl 1 rfl) ?_
    obtain ⟨g8, h⟩ := h
    obtain ⟨b9, h⟩ := h
    refine kp_iald F hW g8 b9 dX5_isExtensible_22 ?_
    obtain ⟨g10, h⟩ := h
    obtain ⟨b11, h⟩ := h
    refine kp_iald F hW g10 b11 dX5_isExtensible_23 ?_
    refine lv_icmp_ge (tgt := 72) hx hb dX5_isExtensible_24 (by decide) (fun c12 => ?_) (fun c12 => ?_)
    · have h := h.1 c12
      refine lv_iinc (v := (v1 + 1)) (lv' := [(1, .int (v1 + 1)), (0, .ref v0), (2, .int v2)]) hx hb dX5_isExtensible_72 hl (k := 1) rfl (by rfl) (by decide) rfl (fun ls hl => ?_)
      refine lv_goto (tgt := 2) hx hb dX5_isExtensible_75 (by decide) ?_
      exact hk2 _ _ _ _ _ _ h hW (lv_sub hl [1, 0] rfl)
    · have h := h.2 c12
      refine lv_bipush (v := 10) hx hb dX5_isExtensible_27 (by decide) ?_
      refine lv_aload_n hx hb dX5_isExtensible_29 rfl (lv_at hl 0 rfl) ?_
      refine kp_getp F hW g3 cbX5 2 rfl tw_484 (fun _ h9 => h9) dX5_isExtensible_30 p7 ?_
      refine lv_iload_n hx hb dX5_isExtensible_33 rfl (lv_at hl 1 rfl) ?_
      obtain ⟨b13, h⟩ := h
      refine kp_iald F hW g8 b13 dX5_isExtensible_34 ?_
      refine lv_imul hx hb dX5_isExtensible_35 ?_
      refine lv_iload_n hx hb dX5_isExtensible_36 rfl (lv_at hl 2 rfl) ?_
      refine lv_iadd hx hb dX5_isExtensible_37 ?_
      refine lv_istore_n (lv' := [(3, .int (((10 : Int32) * (S.I q6 v1.toNatClampNeg)) + v2)), (0, .ref v0), (1, .int v1), (2, .int v2)]) hx hb dX5_isExtensible_38 rfl hl (by decide) rfl (fun ls hl => ?_)
      refine lv_aload_n hx hb dX5_isExtensible_39 rfl (lv_at hl 1 rfl) ?_
      obtain ⟨q14, p15, h⟩ := h
      refine kp_getp F hW g3 cbX5 4 rfl tw_486 (fun _ h9 => h9) dX5_isExtensible_40 p15 ?_
      refine lv_iload_n hx hb dX5_isExtensible_43 rfl (lv_at hl 0 rfl) ?_
      obtain ⟨g16, h⟩ := h
      obtain ⟨b17, h⟩ := h
      refine kp_iald F hW g16 b17 dX5_isExtensible_44 ?_
      refine lv_aload_n hx hb dX5_isExtensible_45 rfl (lv_at hl 1 rfl) ?_
      refine kp_geti F hW g3 cbX5 12 rfl tw_494 (fun _ h9 => h9) dX5_isExtensible_46 ?_
      refine lv_icmp_le (tgt := 66) hx hb dX5_isExtensible_49 (by decide) (fun c18 => ?_) (fun c18 => ?_)
      · have h := h.1 c18
        refine lv_iinc (v := (v2 + 1)) (lv' := [(2, .int (v2 + 1)), (3, .int (((10 : Int32) * (S.I q6 v1.toNatClampNeg)) + v2)), (0, .ref v0), (1, .int v1)]) hx hb dX5_isExtensible_66 hl (k := 3) rfl (by rfl) (by decide) rfl (fun ls hl => ?_)
        refine lv_goto (tgt := 12) hx hb dX5_isExtensible_69 (by decide) ?_
        exact ih _ _ _ _ _ _ _ h hW (lv_sub hl [2, 3, 0] rfl)
      · have h := h.2 c18
        refine lv_aload_n hx hb dX5_isExtensible_52 rfl (lv_at hl 1 rfl) ?_
        refine lv_iload_n hx hb dX5_isExtensible_53 rfl (lv_at hl 0 rfl) ?_
        refine lv_aload_n hx hb dX5_isExtensible_54 rfl (lv_at hl 1 rfl) ?_
        refine kp_geti F hW g3 cbX5 12 rfl tw_494 (fun _ h9 => h9) dX5_isExtensible_55 ?_
        refine kp_calli (c1 := 0) (s1 := 0) F hW (kp_runV (As := [.int (((10 : Int32) * (S.I q6 v1.toNatClampNeg)) + v2), .int (S.I v0 12)]) (rest := []) F hW (ct_X5_fits l E _ _ _ _ h) g3 cbX5 rfl cf_X5_fits tw_611 rfl hl.1 ⟨by decide, by decide⟩ (Nat.le_of_ble_eq_true rfl) dX5_isExtensible_58 ⟨by decide, by decide⟩) (by decide) (by decide) (fun r19 S20 H locs h hW => ?_)
        refine lv_if_eq (tgt := 66) hx hb dX5_isExtensible_61 (by decide) (fun c21 => ?_) (fun c21 => ?_)
        · have h := h.1 c21
          refine lv_iinc (v := (v2 + 1)) (lv' := [(2, .int (v2 + 1)), (3, .int (((10 : Int32) * (S.I q6 v1.toNatClampNeg)) + v2)), (0, .ref v0), (1, .int v1)]) hx hb dX5_isExtensible_66 hl (k := 3) rfl (by rfl) (by decide) rfl (fun ls hl => ?_)
          refine lv_goto (tgt := 12) hx hb dX5_isExtensible_69 (by decide) ?_
          exact ih _ _ _ _ _ _ _ h hW (lv_sub hl [2, 3, 0] rfl)
        · have h := h.2 c21
          refine lv_iconst (v := 1) hx hb dX5_isExtensible_64 (by decide) ?_
          exact kp_retz F hW hr (Or.inr rfl) h (by decide) (by decide) dX5_isExtensible_65
set_option maxHeartbeats 4000000 in
set_option maxRecDepth 100000 in
theorem wk_X5_isExtensible_L2 {l : Launch} {p : Program} {e : Env} {s : State} {m : MethodId} {args : Array Value} {below : List Frame} {meth : Method} {c : Code} {A : Nat → Prop} {E : EV} {post : Int32 → pS → Prop} (F : FX p s m args meth c cX5_isExtensible 4 yX5_isExtensible.cls E A) (hr : meth.sig.returnType = (some .boolean)) :
    ∀ (n : Nat) (v0 : Nat) (v1 : Int32) (S : pS) (H : Heap) (locs : List Loc) (ls : Array Slot), wp_X5_isExtensible_L2 post n v0 v1 S → WD E A s S H locs → lv_has ls 4 [(0, .ref v0), (1, .int v1)] → W p l e rm_X5_isExtensible s m args below meth c H locs 0 0 (MQ below (QI E post A) args s rm_X5_isExtensible.cells rm_X5_isExtensible.slots A) (F0 m 2 ls []) := by
  have hx := F.1
  have hb := F.2.1
  intro n
  induction n with
  | zero =>
    intro v0 v1 S H locs ls h hW hl
    exact h.elim
  | succ n ih =>
    intro v0 v1 S H locs ls h hW hl
    unfold wp_X5_isExtensible_L2 at h
    refine lv_iload_n hx hb dX5_isExtensible_2 rfl (lv_at hl 1 rfl) ?_
    refine lv_aload_n hx hb dX5_isExtensible_3 rfl (lv_at hl 0 rfl) ?_
    obtain ⟨g1, h⟩ := h
    refine kp_geti F hW g1 cbX5 1 rfl tw_483 (fun _ h9 => h9) dX5_isExtensible_4 ?_
    refine lv_icmp_ge (tgt := 78) hx hb dX5_isExtensible_7 (by decide) (fun c2 => ?_) (fun c2 => ?_)
    · have h := h.1 c2
      refine lv_iconst (v := 0) hx hb dX5_isExtensible_78 (by decide) ?_
      exact kp_retz F hW hr (Or.inl rfl) h (by decide) (by decide) dX5_isExtensible_79
    · have h := h.2 c2
      refine lv_iconst (v := 0) hx hb dX5_isExtensible_10 (by decide) ?_
      refine lv_istore_n (lv' := [(2, .int (0 : Int32)), (0, .ref v0), (1, .int v1)]) hx hb dX5_isExtensible_11 rfl hl (by decide) rfl (fun ls hl => ?_)
      obtain ⟨n9, h⟩ := h
      exact wk_X5_isExtensible_L12 F hr ih n9 _ _ _ _ _ _ _ h hW (lv_sub hl [1, 2, 0] rfl)
set_option maxHeartbeats 4000000 in
set_option maxRecDepth 100000 in
theorem ct_X5_isExtensible (l : Launch) (E : EV) {post : Int32 → pS → Prop} (o : Nat) (S : pS) (h : wp_X5_isExtensible post o S) : CT l E yX5_isExtensible cX5_isExtensible 4 (some .boolean) rm_X5_isExtensible (QI E post) [.ref o] S := by
  refine ct_intro (by decide +kernel) (Nat.le_of_ble_eq_true rfl) ?_
  intro p e s m below meth c A ls F hW hr hnm hl
  have hx := F.1
  have hb := F.2.1
  unfold wp_X5_isExtensible at h
  have hl : lv_has ls 4 [(0, .ref o)] := hl
  refine lv_iconst (v := 0) hx hb dX5_isExtensible_0 (by decide) ?_
  refine lv_istore_n (lv' := [(1, .int (0 : Int32)), (0, .ref o)]) hx hb dX5_isExtensible_1 rfl hl (by decide) rfl (fun ls hl => ?_)
  obtain ⟨n9, h⟩ := h
  exact wk_X5_isExtensible_L2 F hr n9 _ _ _ _ _ _ h hW (lv_sub hl [1, 0] rfl)
def wp_X5_says (post : pS → Prop) (o : Nat) (a1 : Int32) (a2 : Int32) (S : pS) : Prop :=
  (S.ok o 5 ∧ ∃ q2, S.P o 24 = some q2 ∧ S.ok q2 7 ∧ vp_in ((S.I o 23) - (S.I o 23) / (40 : Int32) * (40 : Int32)) (S.n q2) ∧ ∀ S6, S6 = S.setI q2 ((S.I o 23) - (S.I o 23) / (40 : Int32) * (40 : Int32)).toNatClampNeg a1 → ∃ q8, S6.P o 25 = some q8 ∧ S6.ok q8 7 ∧ vp_in ((S6.I o 23) - (S6.I o 23) / (40 : Int32) * (40 : Int32)) (S6.n q8) ∧ ∀ S12, S12 = S6.setI q8 ((S6.I o 23) - (S6.I o 23) / (40 : Int32) * (40 : Int32)).toNatClampNeg a2 → ∀ S14, S14 = S12.setI o 23 ((S12.I o 23) + (1 : Int32)) → post S14)
def rm_X5_says : Room := { frames := 0, cells := 0, slots := 0, locals := 0 }
set_option maxHeartbeats 4000000 in
set_option maxRecDepth 100000 in
theorem ct_X5_says (l : Launch) (E : EV) {post : pS → Prop} (o : Nat) (a1 : Int32) (a2 : Int32) (S : pS) (h : wp_X5_says post o a1 a2 S) : CT l E yX5_says cX5_says 3 none rm_X5_says (QV E post) [.ref o, .int a1, .int a2] S := by
  refine ct_intro (by decide +kernel) (Nat.le_of_ble_eq_true rfl) ?_
  intro p e s m below meth c A ls F hW hr hnm hl
  have hx := F.1
  have hb := F.2.1
  unfold wp_X5_says at h
  have hl : lv_has ls 3 [(0, .ref o), (1, .int a1), (2, .int a2)] := hl
  refine lv_aload_n hx hb dX5_says_0 rfl (lv_at hl 0 rfl) ?_
  obtain ⟨g1, h⟩ := h
  obtain ⟨q2, p3, h⟩ := h
  refine kp_getp F hW g1 cbX5 24 rfl tw_506 (fun _ h9 => h9) dX5_says_1 p3 ?_
  refine lv_aload_n hx hb dX5_says_4 rfl (lv_at hl 0 rfl) ?_
  refine kp_geti F hW g1 cbX5 23 rfl tw_505 (fun _ h9 => h9) dX5_says_5 ?_
  refine lv_bipush (v := 40) hx hb dX5_says_8 (by decide) ?_
  refine lv_irem hx hb dX5_says_10 (by decide) ?_
  refine lv_iload_n hx hb dX5_says_11 rfl (lv_at hl 1 rfl) ?_
  obtain ⟨g4, h⟩ := h
  obtain ⟨b5, h⟩ := h
  obtain ⟨S6, hS6⟩ : ∃ z, z = S.setI q2 ((S.I o 23) - (S.I o 23) / (40 : Int32) * (40 : Int32)).toNatClampNeg a1 := ⟨_, rfl⟩
  have h := h S6 hS6
  refine kp_iast F hW g4 b5 dX5_says_12 (fun H locs hW => ?_)
  rw [← hS6] at hW
  refine lv_aload_n hx hb dX5_says_13 rfl (lv_at hl 0 rfl) ?_
  have g7 : S6.ok o 5 := by rw [hS6]; exact g1
  obtain ⟨q8, p9, h⟩ := h
  refine kp_getp F hW g7 cbX5 25 rfl tw_507 (fun _ h9 => h9) dX5_says_14 p9 ?_
  refine lv_aload_n hx hb dX5_says_17 rfl (lv_at hl 0 rfl) ?_
  refine kp_geti F hW g7 cbX5 23 rfl tw_505 (fun _ h9 => h9) dX5_says_18 ?_
  refine lv_bipush (v := 40) hx hb dX5_says_21 (by decide) ?_
  refine lv_irem hx hb dX5_says_23 (by decide) ?_
  refine lv_iload_n hx hb dX5_says_24 rfl (lv_at hl 2 rfl) ?_
  obtain ⟨g10, h⟩ := h
  obtain ⟨b11, h⟩ := h
  obtain ⟨S12, hS12⟩ : ∃ z, z = S6.setI q8 ((S6.I o 23) - (S6.I o 23) / (40 : Int32) * (40 : Int32)).toNatClampNeg a2 := ⟨_, rfl⟩
  have h := h S12 hS12
  refine kp_iast F hW g10 b11 dX5_says_25 (fun H locs hW => ?_)
  rw [← hS12] at hW
  refine lv_aload_n hx hb dX5_says_26 rfl (lv_at hl 0 rfl) ?_
  refine lv_dup hx hb dX5_says_27 rfl ?_
  have g13 : S12.ok o 5 := by rw [hS12]; exact g7
  refine kp_geti F hW g13 cbX5 23 rfl tw_505 (fun _ h9 => h9) dX5_says_28 ?_
  refine lv_iconst (v := 1) hx hb dX5_says_31 (by decide) ?_
  refine lv_iadd hx hb dX5_says_32 ?_
  obtain ⟨S14, hS14⟩ : ∃ z, z = S12.setI o 23 ((S12.I o 23) + (1 : Int32)) := ⟨_, rfl⟩
  have h := h S14 hS14
  refine kp_puti F hW g13 cbX5 23 rfl tw_505 (fun _ h9 => h9) rfl rfl dX5_says_33 (fun H locs hW => ?_)
  rw [← hS14] at hW
  exact kp_retv F hW hr h (by decide) (by decide) dX5_says_36
def wp_X5_adds (post : pS → Prop) (o : Nat) (a1 : Int32) (S : pS) : Prop :=
  (S.ok o 5 ∧ ∃ q2, S.P o 17 = some q2 ∧ S.ok q2 7 ∧ vp_in (S.I o 16) (S.n q2) ∧ ∀ S6, S6 = S.setI q2 (S.I o 16).toNatClampNeg a1 → ∀ S8, S8 = S6.setI o 16 ((S6.I o 16) + (1 : Int32)) → post S8)
def rm_X5_adds : Room := { frames := 0, cells := 0, slots := 0, locals := 0 }
set_option maxHeartbeats 4000000 in
set_option maxRecDepth 100000 in
theorem ct_X5_adds (l : Launch) (E : EV) {post : pS → Prop} (o : Nat) (a1 : Int32) (S : pS) (h : wp_X5_adds post o a1 S) : CT l E yX5_adds cX5_adds 2 none rm_X5_adds (QV E post) [.ref o, .int a1] S := by
  refine ct_intro (by decide +kernel) (Nat.le_of_ble_eq_true rfl) ?_
  intro p e s m below meth c A ls F hW hr hnm hl
  have hx := F.1
  have hb := F.2.1
  unfold wp_X5_adds at h
  have hl : lv_has ls 2 [(0, .ref o), (1, .int a1)] := hl
  refine lv_aload_n hx hb dX5_adds_0 rfl (lv_at hl 0 rfl) ?_
  obtain ⟨g1, h⟩ := h
  obtain ⟨q2, p3, h⟩ := h
  refine kp_getp F hW g1 cbX5 17 rfl tw_499 (fun _ h9 => h9) dX5_adds_1 p3 ?_
  refine lv_aload_n hx hb dX5_adds_4 rfl (lv_at hl 0 rfl) ?_
  refine kp_geti F hW g1 cbX5 16 rfl tw_498 (fun _ h9 => h9) dX5_adds_5 ?_
  refine lv_iload_n hx hb dX5_adds_8 rfl (lv_at hl 1 rfl) ?_
  obtain ⟨g4, h⟩ := h
  obtain ⟨b5, h⟩ := h
  obtain ⟨S6, hS6⟩ : ∃ z, z = S.setI q2 (S.I o 16).toNatClampNeg a1 := ⟨_, rfl⟩
  have h := h S6 hS6
  refine kp_iast F hW g4 b5 dX5_adds_9 (fun H locs hW => ?_)
  rw [← hS6] at hW
  refine lv_aload_n hx hb dX5_adds_10 rfl (lv_at hl 0 rfl) ?_
  refine lv_dup hx hb dX5_adds_11 rfl ?_
  have g7 : S6.ok o 5 := by rw [hS6]; exact g1
  refine kp_geti F hW g7 cbX5 16 rfl tw_498 (fun _ h9 => h9) dX5_adds_12 ?_
  refine lv_iconst (v := 1) hx hb dX5_adds_15 (by decide) ?_
  refine lv_iadd hx hb dX5_adds_16 ?_
  obtain ⟨S8, hS8⟩ : ∃ z, z = S6.setI o 16 ((S6.I o 16) + (1 : Int32)) := ⟨_, rfl⟩
  have h := h S8 hS8
  refine kp_puti F hW g7 cbX5 16 rfl tw_498 (fun _ h9 => h9) rfl rfl dX5_adds_17 (fun H locs hW => ?_)
  rw [← hS8] at hW
  exact kp_retv F hW hr h (by decide) (by decide) dX5_adds_20
def wp_X5_plays_L67 (post : pS → Prop) : Nat → Nat → Int32 → Int32 → pS → Prop
  | 0, _, _, _, _ => False
  | n + 1, v0, v1, v2, S =>
  ((v2 < 0 → post S) ∧ (¬ (v2 < 0) → (S.ok v0 5 ∧ ∃ q22, S.P v0 22 = some q22 ∧ S.ok q22 7 ∧ vp_in (((12 : Int32) * v1) + v2) (S.n q22) ∧ wp_X5_adds (fun S27 => wp_X5_plays_L67 post n v0 v1 (v2 + (-1 : Int32)) S27) v0 (S.I q22 (((12 : Int32) * v1) + v2).toNatClampNeg) S)))
def wp_X5_plays (post : pS → Prop) (o : Nat) (a1 : Int32) (S : pS) : Prop :=
  (S.ok o 5 ∧ (((S.I o 20) = a1 → (wp_X5_says (fun S4 => post S4) o (2 : Int32) a1 S)) ∧ (¬ ((S.I o 20) = a1) → (((S.I o 18) = (3 : Int32) → (wp_X5_says (fun S7 => post S7) o (2 : Int32) a1 S)) ∧ (¬ ((S.I o 18) = (3 : Int32)) → (((S.I o 19) = (20 : Int32) → (wp_X5_says (fun S29 => post S29) o (2 : Int32) a1 S)) ∧ (¬ ((S.I o 19) = (20 : Int32)) → (∀ S9, S9 = S.setI o 18 ((S.I o 18) + (1 : Int32)) → ∀ S11, S11 = S9.setI o 19 ((S9.I o 19) + (1 : Int32)) → wp_X5_adds (fun S13 => (S13.ok o 5 ∧ ∃ q16, S13.P o 21 = some q16 ∧ S13.ok q16 7 ∧ vp_in a1 (S13.n q16) ∧ (∃ n67, wp_X5_plays_L67 post n67 o a1 ((S13.I q16 a1.toNatClampNeg) - (1 : Int32)) S13))) o (12 : Int32) S11))))))))
def rm_X5_plays : Room := { frames := 1, cells := 0, slots := 0, locals := 22 }
set_option maxHeartbeats 4000000 in
set_option maxRecDepth 100000 in
theorem wk_X5_plays_L67 {l : Launch} {p : Program} {e : Env} {s : State} {m : MethodId} {args : Array Value} {below : List Frame} {meth : Method} {c : Code} {A : Nat → Prop} {E : EV} {post : pS → Prop} (F : FX p s m args meth c cX5_plays 3 yX5_plays.cls E A) (hr : meth.sig.returnType = none) :
    ∀ (n : Nat) (v0 : Nat) (v1 : Int32) (v2 : Int32) (S : pS) (H : Heap) (locs : List Loc) (ls : Array Slot), wp_X5_plays_L67 post n v0 v1 v2 S → WD E A s S H locs → lv_has ls 3 [(0, .ref v0), (1, .int v1), (2, .int v2)] → W p l e rm_X5_plays s m args below meth c H locs 0 0 (MQ below (QV E post A) args s rm_X5_plays.cells rm_X5_plays.slots A) (F0 m 67 ls []) := by
  have hx := F.1
  have hb := F.2.1
  intro n
  induction n with
  | zero =>
    intro v0 v1 v2 S H locs ls h hW hl
    exact h.elim
  | succ n ih =>
    intro v0 v1 v2 S H locs ls h hW hl
    unfold wp_X5_plays_L67 at h
    refine lv_iload_n hx hb dX5_plays_67 rfl (lv_at hl 2 rfl) ?_
    refine lv_if_lt (tgt := 92) hx hb dX5_plays_68 (by decide) (fun c20 => ?_) (fun c20 => ?_)
    · have h := h.1 c20
      exact kp_retv F hW hr h (by decide) (by decide) dX5_plays_92
    · have h := h.2 c20
      refine lv_aload_n hx hb dX5_plays_71 rfl (lv_at hl 0 rfl) ?_
      refine lv_aload_n hx hb dX5_plays_72 rfl (lv_at hl 0 rfl) ?_
      obtain ⟨g21, h⟩ := h
      obtain ⟨q22, p23, h⟩ := h
      refine kp_getp F hW g21 cbX5 22 rfl tw_504 (fun _ h9 => h9) dX5_plays_73 p23 ?_
      refine lv_bipush (v := 12) hx hb dX5_plays_76 (by decide) ?_
      refine lv_iload_n hx hb dX5_plays_78 rfl (lv_at hl 1 rfl) ?_
      refine lv_imul hx hb dX5_plays_79 ?_
      refine lv_iload_n hx hb dX5_plays_80 rfl (lv_at hl 2 rfl) ?_
      refine lv_iadd hx hb dX5_plays_81 ?_
      obtain ⟨g24, h⟩ := h
      obtain ⟨b25, h⟩ := h
      refine kp_iald F hW g24 b25 dX5_plays_82 ?_
      refine kp_callv (c1 := 0) (s1 := 0) F hW (kp_runV (As := [.int (S.I q22 (((12 : Int32) * v1) + v2).toNatClampNeg)]) (rest := []) F hW (ct_X5_adds l E _ _ _ h) g21 cbX5 rfl cf_X5_adds tw_599 rfl hl.1 ⟨by decide, by decide⟩ (Nat.le_of_ble_eq_true rfl) dX5_plays_83 ⟨by decide, by decide⟩) (by decide) (by decide) (fun S27 H locs h hW => ?_)
      refine lv_iinc (v := (v2 + (-1 : Int32))) (lv' := [(2, .int (v2 + (-1 : Int32))), (0, .ref v0), (1, .int v1)]) hx hb dX5_plays_86 hl (k := 2) rfl (by rfl) (by decide) rfl (fun ls hl => ?_)
      refine lv_goto (tgt := 67) hx hb dX5_plays_89 (by decide) ?_
      exact ih _ _ _ _ _ _ _ h hW (lv_sub hl [1, 2, 0] rfl)
set_option maxHeartbeats 4000000 in
set_option maxRecDepth 100000 in
theorem ct_X5_plays (l : Launch) (E : EV) {post : pS → Prop} (o : Nat) (a1 : Int32) (S : pS) (h : wp_X5_plays post o a1 S) : CT l E yX5_plays cX5_plays 3 none rm_X5_plays (QV E post) [.ref o, .int a1] S := by
  refine ct_intro (by decide +kernel) (Nat.le_of_ble_eq_true rfl) ?_
  intro p e s m below meth c A ls F hW hr hnm hl
  have hx := F.1
  have hb := F.2.1
  unfold wp_X5_plays at h
  have hl : lv_has ls 3 [(0, .ref o), (1, .int a1)] := hl
  refine lv_aload_n hx hb dX5_plays_0 rfl (lv_at hl 0 rfl) ?_
  obtain ⟨g1, h⟩ := h
  refine kp_geti F hW g1 cbX5 20 rfl tw_502 (fun _ h9 => h9) dX5_plays_1 ?_
  refine lv_iload_n hx hb dX5_plays_4 rfl (lv_at hl 1 rfl) ?_
  refine lv_icmp_eq (tgt := 25) hx hb dX5_plays_5 (by decide) (fun c2 => ?_) (fun c2 => ?_)
  · have h := h.1 c2
    refine lv_aload_n hx hb dX5_plays_25 rfl (lv_at hl 0 rfl) ?_
    refine lv_iconst (v := 2) hx hb dX5_plays_26 (by decide) ?_
    refine lv_iload_n hx hb dX5_plays_27 rfl (lv_at hl 1 rfl) ?_
    refine kp_callv (c1 := 0) (s1 := 0) F hW (kp_runV (As := [.int (2 : Int32), .int a1]) (rest := []) F hW (ct_X5_says l E _ _ _ _ h) g1 cbX5 rfl cf_X5_says tw_627 rfl hl.1 ⟨by decide, by decide⟩ (Nat.le_of_ble_eq_true rfl) dX5_plays_28 ⟨by decide, by decide⟩) (by decide) (by decide) (fun S4 H locs h hW => ?_)
    exact kp_retv F hW hr h (by decide) (by decide) dX5_plays_31
  · have h := h.2 c2
    refine lv_aload_n hx hb dX5_plays_8 rfl (lv_at hl 0 rfl) ?_
    refine kp_geti F hW g1 cbX5 18 rfl tw_500 (fun _ h9 => h9) dX5_plays_9 ?_
    refine lv_iconst (v := 3) hx hb dX5_plays_12 (by decide) ?_
    refine lv_icmp_eq (tgt := 25) hx hb dX5_plays_13 (by decide) (fun c5 => ?_) (fun c5 => ?_)
    · have h := h.1 c5
      refine lv_aload_n hx hb dX5_plays_25 rfl (lv_at hl 0 rfl) ?_
      refine lv_iconst (v := 2) hx hb dX5_plays_26 (by decide) ?_
      refine lv_iload_n hx hb dX5_plays_27 rfl (lv_at hl 1 rfl) ?_
      refine kp_callv (c1 := 0) (s1 := 0) F hW (kp_runV (As := [.int (2 : Int32), .int a1]) (rest := []) F hW (ct_X5_says l E _ _ _ _ h) g1 cbX5 rfl cf_X5_says tw_627 rfl hl.1 ⟨by decide, by decide⟩ (Nat.le_of_ble_eq_true rfl) dX5_plays_28 ⟨by decide, by decide⟩) (by decide) (by decide) (fun S7 H locs h hW => ?_)
      exact kp_retv F hW hr h (by decide) (by decide) dX5_plays_31
    · have h := h.2 c5
      refine lv_aload_n hx hb dX5_plays_16 rfl (lv_at hl 0 rfl) ?_
      refine kp_geti F hW g1 cbX5 19 rfl tw_501 (fun _ h9 => h9) dX5_plays_17 ?_
      refine lv_bipush (v := 20) hx hb dX5_plays_20 (by decide) ?_
      refine lv_icmp_ne (tgt := 32) hx hb dX5_plays_22 (by decide) (fun c8 => ?_) (fun c8 => ?_)
      · have h := h.2 c8
        refine lv_aload_n hx hb dX5_plays_32 rfl (lv_at hl 0 rfl) ?_
        refine lv_dup hx hb dX5_plays_33 rfl ?_
        refine kp_geti F hW g1 cbX5 18 rfl tw_500 (fun _ h9 => h9) dX5_plays_34 ?_
        refine lv_iconst (v := 1) hx hb dX5_plays_37 (by decide) ?_
        refine lv_iadd hx hb dX5_plays_38 ?_
        obtain ⟨S9, hS9⟩ : ∃ z, z = S.setI o 18 ((S.I o 18) + (1 : Int32)) := ⟨_, rfl⟩
        have h := h S9 hS9
        refine kp_puti F hW g1 cbX5 18 rfl tw_500 (fun _ h9 => h9) rfl rfl dX5_plays_39 (fun H locs hW => ?_)
        rw [← hS9] at hW
        refine lv_aload_n hx hb dX5_plays_42 rfl (lv_at hl 0 rfl) ?_
        refine lv_dup hx hb dX5_plays_43 rfl ?_
        have g10 : S9.ok o 5 := by rw [hS9]; exact g1
        refine kp_geti F hW g10 cbX5 19 rfl tw_501 (fun _ h9 => h9) dX5_plays_44 ?_
        refine lv_iconst (v := 1) hx hb dX5_plays_47 (by decide) ?_
        refine lv_iadd hx hb dX5_plays_48 ?_
        obtain ⟨S11, hS11⟩ : ∃ z, z = S9.setI o 19 ((S9.I o 19) + (1 : Int32)) := ⟨_, rfl⟩
        have h := h S11 hS11
        refine kp_puti F hW g10 cbX5 19 rfl tw_501 (fun _ h9 => h9) rfl rfl dX5_plays_49 (fun H locs hW => ?_)
        rw [← hS11] at hW
        refine lv_aload_n hx hb dX5_plays_52 rfl (lv_at hl 0 rfl) ?_
        refine lv_bipush (v := 12) hx hb dX5_plays_53 (by decide) ?_
        have g14 : S11.ok o 5 := by rw [hS11]; exact g10
        refine kp_callv (c1 := 0) (s1 := 0) F hW (kp_runV (As := [.int (12 : Int32)]) (rest := []) F hW (ct_X5_adds l E _ _ _ h) g14 cbX5 rfl cf_X5_adds tw_599 rfl hl.1 ⟨by decide, by decide⟩ (Nat.le_of_ble_eq_true rfl) dX5_plays_55 ⟨by decide, by decide⟩) (by decide) (by decide) (fun S13 H locs h hW => ?_)
        refine lv_aload_n hx hb dX5_plays_58 rfl (lv_at hl 0 rfl) ?_
        obtain ⟨g15, h⟩ := h
        obtain ⟨q16, p17, h⟩ := h
        refine kp_getp F hW g15 cbX5 21 rfl tw_503 (fun _ h9 => h9) dX5_plays_59 p17 ?_
        refine lv_iload_n hx hb dX5_plays_62 rfl (lv_at hl 1 rfl) ?_
        obtain ⟨g18, h⟩ := h
        obtain ⟨b19, h⟩ := h
        refine kp_iald F hW g18 b19 dX5_plays_63 ?_
        refine lv_iconst (v := 1) hx hb dX5_plays_64 (by decide) ?_
        refine lv_isub hx hb dX5_plays_65 ?_
        refine lv_istore_n (lv' := [(2, .int ((S13.I q16 a1.toNatClampNeg) - (1 : Int32))), (0, .ref o), (1, .int a1)]) hx hb dX5_plays_66 rfl hl (by decide) rfl (fun ls hl => ?_)
        obtain ⟨n9, h⟩ := h
        exact wk_X5_plays_L67 F hr n9 _ _ _ _ _ _ _ h hW (lv_sub hl [1, 2, 0] rfl)
      · have h := h.1 c8
        refine lv_aload_n hx hb dX5_plays_25 rfl (lv_at hl 0 rfl) ?_
        refine lv_iconst (v := 2) hx hb dX5_plays_26 (by decide) ?_
        refine lv_iload_n hx hb dX5_plays_27 rfl (lv_at hl 1 rfl) ?_
        refine kp_callv (c1 := 0) (s1 := 0) F hW (kp_runV (As := [.int (2 : Int32), .int a1]) (rest := []) F hW (ct_X5_says l E _ _ _ _ h) g1 cbX5 rfl cf_X5_says tw_627 rfl hl.1 ⟨by decide, by decide⟩ (Nat.le_of_ble_eq_true rfl) dX5_plays_28 ⟨by decide, by decide⟩) (by decide) (by decide) (fun S29 H locs h hW => ?_)
        exact kp_retv F hW hr h (by decide) (by decide) dX5_plays_31
def wp_X5_performs (post : pS → Prop) (o : Nat) (a1 : Int32) (a2 : Int32) (S : pS) : Prop :=
  ((a1 = 0 → (S.ok o 5 ∧ wp_X5_says (fun S3 => post S3) o (0 : Int32) a2 S)) ∧ (a1 = 1 → (S.ok o 5 ∧ wp_X5_plays (fun S7 => post S7) o a2 S)) ∧ (a1 = 2 → (S.ok o 5 ∧ (((S.I o 1) = (4 : Int32) → (wp_X5_says (fun S20 => post S20) o (2 : Int32) a2 S)) ∧ (¬ ((S.I o 1) = (4 : Int32)) → (∃ q12, S.P o 2 = some q12 ∧ S.ok q12 7 ∧ vp_in (S.I o 1) (S.n q12) ∧ ∀ S16, S16 = S.setI q12 (S.I o 1).toNatClampNeg a2 → ∀ S18, S18 = S16.setI o 1 ((S16.I o 1) + (1 : Int32)) → post S18))))) ∧ (a1 = 3 → (S.ok o 5 ∧ (((S.I o 1) = (1 : Int32) → (wp_X5_says (fun S26 => post S26) o (2 : Int32) (0 : Int32) S)) ∧ (¬ ((S.I o 1) = (1 : Int32)) → (∀ S24, S24 = S.setI o 1 ((S.I o 1) - (1 : Int32)) → post S24))))) ∧ (¬ a1 = 0 ∧ ¬ a1 = 1 ∧ ¬ a1 = 2 ∧ ¬ a1 = 3 → (S.ok o 5 ∧ ∃ q28, S.P o 0 = some q28 ∧ ((a1 = (4 : Int32) → (S.ok q28 7 ∧ vp_in a2 (S.n q28) ∧ ∀ S36, S36 = S.setI q28 a2.toNatClampNeg (1 : Int32) → post S36)) ∧ (¬ (a1 = (4 : Int32)) → (S.ok q28 7 ∧ vp_in a2 (S.n q28) ∧ ∀ S33, S33 = S.setI q28 a2.toNatClampNeg (0 : Int32) → post S33))))))
def rm_X5_performs : Room := { frames := 2, cells := 0, slots := 0, locals := 44 }
set_option maxHeartbeats 4000000 in
set_option maxRecDepth 100000 in
theorem ct_X5_performs (l : Launch) (E : EV) {post : pS → Prop} (o : Nat) (a1 : Int32) (a2 : Int32) (S : pS) (h : wp_X5_performs post o a1 a2 S) : CT l E yX5_performs cX5_performs 3 none rm_X5_performs (QV E post) [.ref o, .int a1, .int a2] S := by
  refine ct_intro (by decide +kernel) (Nat.le_of_ble_eq_true rfl) ?_
  intro p e s m below meth c A ls F hW hr hnm hl
  have hx := F.1
  have hb := F.2.1
  unfold wp_X5_performs at h
  have hl : lv_has ls 3 [(0, .ref o), (1, .int a1), (2, .int a2)] := hl
  refine lv_iload_n hx hb dX5_performs_0 rfl (lv_at hl 1 rfl) ?_
  by_cases c1 : a1 = 0
  · have h := h.1 c1
    refine kp_tab (v := 0) (off := 31) (tgt := 32) hx hb dX5_performs_1 c1 (by decide) (by decide) (by decide) (by decide) ?_
    refine lv_aload_n hx hb dX5_performs_32 rfl (lv_at hl 0 rfl) ?_
    refine lv_iconst (v := 0) hx hb dX5_performs_33 (by decide) ?_
    refine lv_iload_n hx hb dX5_performs_34 rfl (lv_at hl 2 rfl) ?_
    obtain ⟨g4, h⟩ := h
    refine kp_callv (c1 := 0) (s1 := 0) F hW (kp_runV (As := [.int (0 : Int32), .int a2]) (rest := []) F hW (ct_X5_says l E _ _ _ _ h) g4 cbX5 rfl cf_X5_says tw_627 rfl hl.1 ⟨by decide, by decide⟩ (Nat.le_of_ble_eq_true rfl) dX5_performs_35 ⟨by decide, by decide⟩) (by decide) (by decide) (fun S3 H locs h hW => ?_)
    refine lv_goto (tgt := 135) hx hb dX5_performs_38 (by decide) ?_
    exact kp_retv F hW hr h (by decide) (by decide) dX5_performs_135
  by_cases c5 : a1 = 1
  · have h := h.2.1 c5
    refine kp_tab (v := 1) (off := 40) (tgt := 41) hx hb dX5_performs_1 c5 (by decide) (by decide) (by decide) (by decide) ?_
    refine lv_aload_n hx hb dX5_performs_41 rfl (lv_at hl 0 rfl) ?_
    refine lv_iload_n hx hb dX5_performs_42 rfl (lv_at hl 2 rfl) ?_
    obtain ⟨g8, h⟩ := h
    refine kp_callv (c1 := 0) (s1 := 0) F hW (kp_runV (As := [.int a2]) (rest := []) F hW (ct_X5_plays l E _ _ _ h) g8 cbX5 rfl cf_X5_plays tw_635 rfl hl.1 ⟨by decide, by decide⟩ (Nat.le_of_ble_eq_true rfl) dX5_performs_43 ⟨by decide, by decide⟩) (by decide) (by decide) (fun S7 H locs h hW => ?_)
    refine lv_goto (tgt := 135) hx hb dX5_performs_46 (by decide) ?_
    exact kp_retv F hW hr h (by decide) (by decide) dX5_performs_135
  by_cases c9 : a1 = 2
  · have h := h.2.2.1 c9
    refine kp_tab (v := 2) (off := 48) (tgt := 49) hx hb dX5_performs_1 c9 (by decide) (by decide) (by decide) (by decide) ?_
    refine lv_aload_n hx hb dX5_performs_49 rfl (lv_at hl 0 rfl) ?_
    obtain ⟨g10, h⟩ := h
    refine kp_geti F hW g10 cbX5 1 rfl tw_483 (fun _ h9 => h9) dX5_performs_50 ?_
    refine lv_iconst (v := 4) hx hb dX5_performs_53 (by decide) ?_
    refine lv_icmp_ne (tgt := 66) hx hb dX5_performs_54 (by decide) (fun c11 => ?_) (fun c11 => ?_)
    · have h := h.2 c11
      refine lv_aload_n hx hb dX5_performs_66 rfl (lv_at hl 0 rfl) ?_
      obtain ⟨q12, p13, h⟩ := h
      refine kp_getp F hW g10 cbX5 2 rfl tw_484 (fun _ h9 => h9) dX5_performs_67 p13 ?_
      refine lv_aload_n hx hb dX5_performs_70 rfl (lv_at hl 0 rfl) ?_
      refine kp_geti F hW g10 cbX5 1 rfl tw_483 (fun _ h9 => h9) dX5_performs_71 ?_
      refine lv_iload_n hx hb dX5_performs_74 rfl (lv_at hl 2 rfl) ?_
      obtain ⟨g14, h⟩ := h
      obtain ⟨b15, h⟩ := h
      obtain ⟨S16, hS16⟩ : ∃ z, z = S.setI q12 (S.I o 1).toNatClampNeg a2 := ⟨_, rfl⟩
      have h := h S16 hS16
      refine kp_iast F hW g14 b15 dX5_performs_75 (fun H locs hW => ?_)
      rw [← hS16] at hW
      refine lv_aload_n hx hb dX5_performs_76 rfl (lv_at hl 0 rfl) ?_
      refine lv_dup hx hb dX5_performs_77 rfl ?_
      have g17 : S16.ok o 5 := by rw [hS16]; exact g10
      refine kp_geti F hW g17 cbX5 1 rfl tw_483 (fun _ h9 => h9) dX5_performs_78 ?_
      refine lv_iconst (v := 1) hx hb dX5_performs_81 (by decide) ?_
      refine lv_iadd hx hb dX5_performs_82 ?_
      obtain ⟨S18, hS18⟩ : ∃ z, z = S16.setI o 1 ((S16.I o 1) + (1 : Int32)) := ⟨_, rfl⟩
      have h := h S18 hS18
      refine kp_puti F hW g17 cbX5 1 rfl tw_483 (fun _ h9 => h9) rfl rfl dX5_performs_83 (fun H locs hW => ?_)
      rw [← hS18] at hW
      refine lv_goto (tgt := 135) hx hb dX5_performs_86 (by decide) ?_
      exact kp_retv F hW hr h (by decide) (by decide) dX5_performs_135
    · have h := h.1 c11
      refine lv_aload_n hx hb dX5_performs_57 rfl (lv_at hl 0 rfl) ?_
      refine lv_iconst (v := 2) hx hb dX5_performs_58 (by decide) ?_
      refine lv_iload_n hx hb dX5_performs_59 rfl (lv_at hl 2 rfl) ?_
      refine kp_callv (c1 := 0) (s1 := 0) F hW (kp_runV (As := [.int (2 : Int32), .int a2]) (rest := []) F hW (ct_X5_says l E _ _ _ _ h) g10 cbX5 rfl cf_X5_says tw_627 rfl hl.1 ⟨by decide, by decide⟩ (Nat.le_of_ble_eq_true rfl) dX5_performs_60 ⟨by decide, by decide⟩) (by decide) (by decide) (fun S20 H locs h hW => ?_)
      refine lv_goto (tgt := 135) hx hb dX5_performs_63 (by decide) ?_
      exact kp_retv F hW hr h (by decide) (by decide) dX5_performs_135
  by_cases c21 : a1 = 3
  · have h := h.2.2.2.1 c21
    refine kp_tab (v := 3) (off := 88) (tgt := 89) hx hb dX5_performs_1 c21 (by decide) (by decide) (by decide) (by decide) ?_
    refine lv_aload_n hx hb dX5_performs_89 rfl (lv_at hl 0 rfl) ?_
    obtain ⟨g22, h⟩ := h
    refine kp_geti F hW g22 cbX5 1 rfl tw_483 (fun _ h9 => h9) dX5_performs_90 ?_
    refine lv_iconst (v := 1) hx hb dX5_performs_93 (by decide) ?_
    refine lv_icmp_ne (tgt := 106) hx hb dX5_performs_94 (by decide) (fun c23 => ?_) (fun c23 => ?_)
    · have h := h.2 c23
      refine lv_aload_n hx hb dX5_performs_106 rfl (lv_at hl 0 rfl) ?_
      refine lv_dup hx hb dX5_performs_107 rfl ?_
      refine kp_geti F hW g22 cbX5 1 rfl tw_483 (fun _ h9 => h9) dX5_performs_108 ?_
      refine lv_iconst (v := 1) hx hb dX5_performs_111 (by decide) ?_
      refine lv_isub hx hb dX5_performs_112 ?_
      obtain ⟨S24, hS24⟩ : ∃ z, z = S.setI o 1 ((S.I o 1) - (1 : Int32)) := ⟨_, rfl⟩
      have h := h S24 hS24
      refine kp_puti F hW g22 cbX5 1 rfl tw_483 (fun _ h9 => h9) rfl rfl dX5_performs_113 (fun H locs hW => ?_)
      rw [← hS24] at hW
      refine lv_goto (tgt := 135) hx hb dX5_performs_116 (by decide) ?_
      exact kp_retv F hW hr h (by decide) (by decide) dX5_performs_135
    · have h := h.1 c23
      refine lv_aload_n hx hb dX5_performs_97 rfl (lv_at hl 0 rfl) ?_
      refine lv_iconst (v := 2) hx hb dX5_performs_98 (by decide) ?_
      refine lv_iconst (v := 0) hx hb dX5_performs_99 (by decide) ?_
      refine kp_callv (c1 := 0) (s1 := 0) F hW (kp_runV (As := [.int (2 : Int32), .int (0 : Int32)]) (rest := []) F hW (ct_X5_says l E _ _ _ _ h) g22 cbX5 rfl cf_X5_says tw_627 rfl hl.1 ⟨by decide, by decide⟩ (Nat.le_of_ble_eq_true rfl) dX5_performs_100 ⟨by decide, by decide⟩) (by decide) (by decide) (fun S26 H locs h hW => ?_)
      refine lv_goto (tgt := 135) hx hb dX5_performs_103 (by decide) ?_
      exact kp_retv F hW hr h (by decide) (by decide) dX5_performs_135
  have h := h.2.2.2.2 ⟨c1, c5, c9, c21⟩
  refine kp_tabD (tgt := 119) hx hb dX5_performs_1 (kp_out_0_3 c1 c5 c9 c21) (by decide) ?_
  refine lv_aload_n hx hb dX5_performs_119 rfl (lv_at hl 0 rfl) ?_
  obtain ⟨g27, h⟩ := h
  obtain ⟨q28, p29, h⟩ := h
  refine kp_getp F hW g27 cbX5 0 rfl tw_482 (fun _ h9 => h9) dX5_performs_120 p29 ?_
  refine lv_iload_n hx hb dX5_performs_123 rfl (lv_at hl 2 rfl) ?_
  refine lv_iload_n hx hb dX5_performs_124 rfl (lv_at hl 1 rfl) ?_
  refine lv_iconst (v := 4) hx hb dX5_performs_125 (by decide) ?_
  refine lv_icmp_ne (tgt := 133) hx hb dX5_performs_126 (by decide) (fun c30 => ?_) (fun c30 => ?_)
  · have h := h.2 c30
    refine lv_iconst (v := 0) hx hb dX5_performs_133 (by decide) ?_
    obtain ⟨g31, h⟩ := h
    obtain ⟨b32, h⟩ := h
    obtain ⟨S33, hS33⟩ : ∃ z, z = S.setI q28 a2.toNatClampNeg (0 : Int32) := ⟨_, rfl⟩
    have h := h S33 hS33
    refine kp_iast F hW g31 b32 dX5_performs_134 (fun H locs hW => ?_)
    rw [← hS33] at hW
    exact kp_retv F hW hr h (by decide) (by decide) dX5_performs_135
  · have h := h.1 c30
    refine lv_iconst (v := 1) hx hb dX5_performs_129 (by decide) ?_
    refine lv_goto (tgt := 134) hx hb dX5_performs_130 (by decide) ?_
    obtain ⟨g34, h⟩ := h
    obtain ⟨b35, h⟩ := h
    obtain ⟨S36, hS36⟩ : ∃ z, z = S.setI q28 a2.toNatClampNeg (1 : Int32) := ⟨_, rfl⟩
    have h := h S36 hS36
    refine kp_iast F hW g34 b35 dX5_performs_134 (fun H locs hW => ?_)
    rw [← hS36] at hW
    exact kp_retv F hW hr h (by decide) (by decide) dX5_performs_135
def wp_X5_frees_L7 (post : pS → Prop) : Nat → Nat → Int32 → Int32 → pS → Prop
  | 0, _, _, _, _ => False
  | n + 1, v0, v1, v2, S =>
  ((v2 < v1 → (S.ok v0 5 ∧ ∀ S4, S4 = S.setI v0 12 (0 : Int32) → post S4)) ∧ (¬ (v2 < v1) → (S.ok v0 5 ∧ ∃ q6, S.P v0 13 = some q6 ∧ S.ok q6 7 ∧ vp_in v2 (S.n q6) ∧ wp_X5_adds (fun S11 => wp_X5_frees_L7 post n v0 v1 (v2 + (-1 : Int32)) S11) v0 (S.I q6 v2.toNatClampNeg) S)))
def wp_X5_frees (post : pS → Prop) (o : Nat) (a1 : Int32) (S : pS) : Prop :=
  (S.ok o 5 ∧ (∃ n7, wp_X5_frees_L7 post n7 o a1 ((S.I o 12) - (1 : Int32)) S))
def rm_X5_frees : Room := { frames := 1, cells := 0, slots := 0, locals := 21 }
set_option maxHeartbeats 4000000 in
set_option maxRecDepth 100000 in
theorem wk_X5_frees_L7 {l : Launch} {p : Program} {e : Env} {s : State} {m : MethodId} {args : Array Value} {below : List Frame} {meth : Method} {c : Code} {A : Nat → Prop} {E : EV} {post : pS → Prop} (F : FX p s m args meth c cX5_frees 3 yX5_frees.cls E A) (hr : meth.sig.returnType = none) :
    ∀ (n : Nat) (v0 : Nat) (v1 : Int32) (v2 : Int32) (S : pS) (H : Heap) (locs : List Loc) (ls : Array Slot), wp_X5_frees_L7 post n v0 v1 v2 S → WD E A s S H locs → lv_has ls 3 [(0, .ref v0), (1, .int v1), (2, .int v2)] → W p l e rm_X5_frees s m args below meth c H locs 0 0 (MQ below (QV E post A) args s rm_X5_frees.cells rm_X5_frees.slots A) (F0 m 7 ls []) := by
  have hx := F.1
  have hb := F.2.1
  intro n
  induction n with
  | zero =>
    intro v0 v1 v2 S H locs ls h hW hl
    exact h.elim
  | succ n ih =>
    intro v0 v1 v2 S H locs ls h hW hl
    unfold wp_X5_frees_L7 at h
    refine lv_iload_n hx hb dX5_frees_7 rfl (lv_at hl 2 rfl) ?_
    refine lv_iload_n hx hb dX5_frees_8 rfl (lv_at hl 1 rfl) ?_
    refine lv_icmp_lt (tgt := 28) hx hb dX5_frees_9 (by decide) (fun c2 => ?_) (fun c2 => ?_)
    · have h := h.1 c2
      refine lv_aload_n hx hb dX5_frees_28 rfl (lv_at hl 0 rfl) ?_
      refine lv_iconst (v := 0) hx hb dX5_frees_29 (by decide) ?_
      obtain ⟨g3, h⟩ := h
      obtain ⟨S4, hS4⟩ : ∃ z, z = S.setI v0 12 (0 : Int32) := ⟨_, rfl⟩
      have h := h S4 hS4
      refine kp_puti F hW g3 cbX5 12 rfl tw_494 (fun _ h9 => h9) rfl rfl dX5_frees_30 (fun H locs hW => ?_)
      rw [← hS4] at hW
      exact kp_retv F hW hr h (by decide) (by decide) dX5_frees_33
    · have h := h.2 c2
      refine lv_aload_n hx hb dX5_frees_12 rfl (lv_at hl 0 rfl) ?_
      refine lv_aload_n hx hb dX5_frees_13 rfl (lv_at hl 0 rfl) ?_
      obtain ⟨g5, h⟩ := h
      obtain ⟨q6, p7, h⟩ := h
      refine kp_getp F hW g5 cbX5 13 rfl tw_495 (fun _ h9 => h9) dX5_frees_14 p7 ?_
      refine lv_iload_n hx hb dX5_frees_17 rfl (lv_at hl 2 rfl) ?_
      obtain ⟨g8, h⟩ := h
      obtain ⟨b9, h⟩ := h
      refine kp_iald F hW g8 b9 dX5_frees_18 ?_
      refine kp_callv (c1 := 0) (s1 := 0) F hW (kp_runV (As := [.int (S.I q6 v2.toNatClampNeg)]) (rest := []) F hW (ct_X5_adds l E _ _ _ h) g5 cbX5 rfl cf_X5_adds tw_599 rfl hl.1 ⟨by decide, by decide⟩ (Nat.le_of_ble_eq_true rfl) dX5_frees_19 ⟨by decide, by decide⟩) (by decide) (by decide) (fun S11 H locs h hW => ?_)
      refine lv_iinc (v := (v2 + (-1 : Int32))) (lv' := [(2, .int (v2 + (-1 : Int32))), (0, .ref v0), (1, .int v1)]) hx hb dX5_frees_22 hl (k := 2) rfl (by rfl) (by decide) rfl (fun ls hl => ?_)
      refine lv_goto (tgt := 7) hx hb dX5_frees_25 (by decide) ?_
      exact ih _ _ _ _ _ _ _ h hW (lv_sub hl [1, 2, 0] rfl)
set_option maxHeartbeats 4000000 in
set_option maxRecDepth 100000 in
theorem ct_X5_frees (l : Launch) (E : EV) {post : pS → Prop} (o : Nat) (a1 : Int32) (S : pS) (h : wp_X5_frees post o a1 S) : CT l E yX5_frees cX5_frees 3 none rm_X5_frees (QV E post) [.ref o, .int a1] S := by
  refine ct_intro (by decide +kernel) (Nat.le_of_ble_eq_true rfl) ?_
  intro p e s m below meth c A ls F hW hr hnm hl
  have hx := F.1
  have hb := F.2.1
  unfold wp_X5_frees at h
  have hl : lv_has ls 3 [(0, .ref o), (1, .int a1)] := hl
  refine lv_aload_n hx hb dX5_frees_0 rfl (lv_at hl 0 rfl) ?_
  obtain ⟨g1, h⟩ := h
  refine kp_geti F hW g1 cbX5 12 rfl tw_494 (fun _ h9 => h9) dX5_frees_1 ?_
  refine lv_iconst (v := 1) hx hb dX5_frees_4 (by decide) ?_
  refine lv_isub hx hb dX5_frees_5 ?_
  refine lv_istore_n (lv' := [(2, .int ((S.I o 12) - (1 : Int32))), (0, .ref o), (1, .int a1)]) hx hb dX5_frees_6 rfl hl (by decide) rfl (fun ls hl => ?_)
  obtain ⟨n9, h⟩ := h
  exact wk_X5_frees_L7 F hr n9 _ _ _ _ _ _ _ h hW (lv_sub hl [1, 2, 0] rfl)
def wp_X5_ends_L11 (post : pS → Prop) : Nat → Nat → Int32 → Int32 → pS → Prop
  | 0, _, _, _, _ => False
  | n + 1, v0, v1, v2, S =>
  ((v2 = (-4 : Int32) → ((v1 ≤ (1 : Int32) → ((v2 = (-4 : Int32) → (S.ok v0 5 ∧ ∃ q47, S.P v0 13 = some q47 ∧ S.ok q47 7 ∧ vp_in (0 : Int32) (S.n q47) ∧ wp_X5_frees (fun S52 => (S52.ok v0 5 ∧ wp_X5_says (fun S54 => post S54) v0 (1 : Int32) (S.I q47 (0 : Int32).toNatClampNeg) S52)) v0 (1 : Int32) S)) ∧ (¬ (v2 = (-4 : Int32)) → (S.ok v0 5 ∧ ∃ q33, S.P v0 8 = some q33 ∧ S.ok q33 7 ∧ vp_in v2 (S.n q33) ∧ ∃ q37, S.P v0 9 = some q37 ∧ S.ok q37 7 ∧ vp_in v2 (S.n q37) ∧ wp_X5_frees (fun S42 => (S42.ok v0 5 ∧ wp_X5_performs (fun S44 => post S44) v0 (S.I q33 v2.toNatClampNeg) (S.I q37 v2.toNatClampNeg) S42)) v0 v1 S)))) ∧ (¬ (v1 ≤ (1 : Int32)) → (S.ok v0 5 ∧ wp_X5_bound (fun r56 S57 => wp_X5_ends_L11 post n v0 (v1 + (-1 : Int32)) r56 S57) v0 (v1 + (-1 : Int32)) S)))) ∧ (¬ (v2 = (-4 : Int32)) → ((v2 = (-4 : Int32) → (S.ok v0 5 ∧ ∃ q21, S.P v0 13 = some q21 ∧ S.ok q21 7 ∧ vp_in (0 : Int32) (S.n q21) ∧ wp_X5_frees (fun S26 => (S26.ok v0 5 ∧ wp_X5_says (fun S28 => post S28) v0 (1 : Int32) (S.I q21 (0 : Int32).toNatClampNeg) S26)) v0 (1 : Int32) S)) ∧ (¬ (v2 = (-4 : Int32)) → (S.ok v0 5 ∧ ∃ q7, S.P v0 8 = some q7 ∧ S.ok q7 7 ∧ vp_in v2 (S.n q7) ∧ ∃ q11, S.P v0 9 = some q11 ∧ S.ok q11 7 ∧ vp_in v2 (S.n q11) ∧ wp_X5_frees (fun S16 => (S16.ok v0 5 ∧ wp_X5_performs (fun S18 => post S18) v0 (S.I q7 v2.toNatClampNeg) (S.I q11 v2.toNatClampNeg) S16)) v0 v1 S)))))
def wp_X5_ends (post : pS → Prop) (o : Nat) (S : pS) : Prop :=
  (S.ok o 5 ∧ wp_X5_bound (fun r2 S3 => (∃ n11, wp_X5_ends_L11 post n11 o (S.I o 12) r2 S3)) o (S.I o 12) S)
def rm_X5_ends : Room := { frames := 3, cells := 0, slots := 0, locals := 66 }
set_option maxHeartbeats 4000000 in
set_option maxRecDepth 100000 in
theorem wk_X5_ends_L11 {l : Launch} {p : Program} {e : Env} {s : State} {m : MethodId} {args : Array Value} {below : List Frame} {meth : Method} {c : Code} {A : Nat → Prop} {E : EV} {post : pS → Prop} (F : FX p s m args meth c cX5_ends 5 yX5_ends.cls E A) (hr : meth.sig.returnType = none) :
    ∀ (n : Nat) (v0 : Nat) (v1 : Int32) (v2 : Int32) (S : pS) (H : Heap) (locs : List Loc) (ls : Array Slot), wp_X5_ends_L11 post n v0 v1 v2 S → WD E A s S H locs → lv_has ls 5 [(0, .ref v0), (1, .int v1), (2, .int v2)] → W p l e rm_X5_ends s m args below meth c H locs 0 0 (MQ below (QV E post A) args s rm_X5_ends.cells rm_X5_ends.slots A) (F0 m 11 ls []) := by
  have hx := F.1
  have hb := F.2.1
  intro n
  induction n with
  | zero =>
    intro v0 v1 v2 S H locs ls h hW hl
    exact h.elim
  | succ n ih =>
    intro v0 v1 v2 S H locs ls h hW hl
    unfold wp_X5_ends_L11 at h
    refine lv_iload_n hx hb dX5_ends_11 rfl (lv_at hl 2 rfl) ?_
    refine lv_bipush (v := (-4)) hx hb dX5_ends_12 (by decide) ?_
    refine lv_icmp_ne (tgt := 34) hx hb dX5_ends_14 (by decide) (fun c4 => ?_) (fun c4 => ?_)
    · have h := h.2 c4
      refine lv_iload_n hx hb dX5_ends_34 rfl (lv_at hl 2 rfl) ?_
      refine lv_bipush (v := (-4)) hx hb dX5_ends_35 (by decide) ?_
      refine lv_icmp_ne (tgt := 59) hx hb dX5_ends_37 (by decide) (fun c5 => ?_) (fun c5 => ?_)
      · have h := h.2 c5
        refine lv_aload_n hx hb dX5_ends_59 rfl (lv_at hl 0 rfl) ?_
        obtain ⟨g6, h⟩ := h
        obtain ⟨q7, p8, h⟩ := h
        refine kp_getp F hW g6 cbX5 8 rfl tw_490 (fun _ h9 => h9) dX5_ends_60 p8 ?_
        refine lv_iload_n hx hb dX5_ends_63 rfl (lv_at hl 2 rfl) ?_
        obtain ⟨g9, h⟩ := h
        obtain ⟨b10, h⟩ := h
        refine kp_iald F hW g9 b10 dX5_ends_64 ?_
        refine lv_istore_n (lv' := [(3, .int (S.I q7 v2.toNatClampNeg)), (0, .ref v0), (1, .int v1), (2, .int v2)]) hx hb dX5_ends_65 rfl hl (by decide) rfl (fun ls hl => ?_)
        refine lv_aload_n hx hb dX5_ends_66 rfl (lv_at hl 1 rfl) ?_
        obtain ⟨q11, p12, h⟩ := h
        refine kp_getp F hW g6 cbX5 9 rfl tw_491 (fun _ h9 => h9) dX5_ends_67 p12 ?_
        refine lv_iload_n hx hb dX5_ends_70 rfl (lv_at hl 3 rfl) ?_
        obtain ⟨g13, h⟩ := h
        obtain ⟨b14, h⟩ := h
        refine kp_iald F hW g13 b14 dX5_ends_71 ?_
        refine lv_istore (lv' := [(4, .int (S.I q11 v2.toNatClampNeg)), (3, .int (S.I q7 v2.toNatClampNeg)), (0, .ref v0), (1, .int v1), (2, .int v2)]) hx hb dX5_ends_72 hl (by decide) rfl (fun ls hl => ?_)
        refine lv_aload_n hx hb dX5_ends_74 rfl (lv_at hl 2 rfl) ?_
        refine lv_iload_n hx hb dX5_ends_75 rfl (lv_at hl 3 rfl) ?_
        refine kp_callv (c1 := 0) (s1 := 0) F hW (kp_runV (As := [.int v1]) (rest := []) F hW (ct_X5_frees l E _ _ _ h) g6 cbX5 rfl cf_X5_frees tw_623 rfl hl.1 ⟨by decide, by decide⟩ (Nat.le_of_ble_eq_true rfl) dX5_ends_76 ⟨by decide, by decide⟩) (by decide) (by decide) (fun S16 H locs h hW => ?_)
        refine lv_aload_n hx hb dX5_ends_79 rfl (lv_at hl 2 rfl) ?_
        refine lv_iload_n hx hb dX5_ends_80 rfl (lv_at hl 1 rfl) ?_
        refine lv_iload hx hb dX5_ends_81 (lv_at hl 0 rfl) ?_
        obtain ⟨g19, h⟩ := h
        refine kp_callv (c1 := 0) (s1 := 0) F hW (kp_runV (As := [.int (S.I q7 v2.toNatClampNeg), .int (S.I q11 v2.toNatClampNeg)]) (rest := []) F hW (ct_X5_performs l E _ _ _ _ h) g19 cbX5 rfl cf_X5_performs tw_631 rfl hl.1 ⟨by decide, by decide⟩ (Nat.le_of_ble_eq_true rfl) dX5_ends_83 ⟨by decide, by decide⟩) (by decide) (by decide) (fun S18 H locs h hW => ?_)
        exact kp_retv F hW hr h (by decide) (by decide) dX5_ends_86
      · have h := h.1 c5
        refine lv_aload_n hx hb dX5_ends_40 rfl (lv_at hl 0 rfl) ?_
        obtain ⟨g20, h⟩ := h
        obtain ⟨q21, p22, h⟩ := h
        refine kp_getp F hW g20 cbX5 13 rfl tw_495 (fun _ h9 => h9) dX5_ends_41 p22 ?_
        refine lv_iconst (v := 0) hx hb dX5_ends_44 (by decide) ?_
        obtain ⟨g23, h⟩ := h
        obtain ⟨b24, h⟩ := h
        refine kp_iald F hW g23 b24 dX5_ends_45 ?_
        refine lv_istore_n (lv' := [(3, .int (S.I q21 (0 : Int32).toNatClampNeg)), (0, .ref v0), (1, .int v1), (2, .int v2)]) hx hb dX5_ends_46 rfl hl (by decide) rfl (fun ls hl => ?_)
        refine lv_aload_n hx hb dX5_ends_47 rfl (lv_at hl 1 rfl) ?_
        refine lv_iconst (v := 1) hx hb dX5_ends_48 (by decide) ?_
        refine kp_callv (c1 := 0) (s1 := 0) F hW (kp_runV (As := [.int (1 : Int32)]) (rest := []) F hW (ct_X5_frees l E _ _ _ h) g20 cbX5 rfl cf_X5_frees tw_623 rfl hl.1 ⟨by decide, by decide⟩ (Nat.le_of_ble_eq_true rfl) dX5_ends_49 ⟨by decide, by decide⟩) (by decide) (by decide) (fun S26 H locs h hW => ?_)
        refine lv_aload_n hx hb dX5_ends_52 rfl (lv_at hl 1 rfl) ?_
        refine lv_iconst (v := 1) hx hb dX5_ends_53 (by decide) ?_
        refine lv_iload_n hx hb dX5_ends_54 rfl (lv_at hl 0 rfl) ?_
        obtain ⟨g29, h⟩ := h
        refine kp_callv (c1 := 0) (s1 := 0) F hW (kp_runV (As := [.int (1 : Int32), .int (S.I q21 (0 : Int32).toNatClampNeg)]) (rest := []) F hW (ct_X5_says l E _ _ _ _ h) g29 cbX5 rfl cf_X5_says tw_627 rfl hl.1 ⟨by decide, by decide⟩ (Nat.le_of_ble_eq_true rfl) dX5_ends_55 ⟨by decide, by decide⟩) (by decide) (by decide) (fun S28 H locs h hW => ?_)
        exact kp_retv F hW hr h (by decide) (by decide) dX5_ends_58
    · have h := h.1 c4
      refine lv_iload_n hx hb dX5_ends_17 rfl (lv_at hl 1 rfl) ?_
      refine lv_iconst (v := 1) hx hb dX5_ends_18 (by decide) ?_
      refine lv_icmp_le (tgt := 34) hx hb dX5_ends_19 (by decide) (fun c30 => ?_) (fun c30 => ?_)
      · have h := h.1 c30
        refine lv_iload_n hx hb dX5_ends_34 rfl (lv_at hl 2 rfl) ?_
        refine lv_bipush (v := (-4)) hx hb dX5_ends_35 (by decide) ?_
        refine lv_icmp_ne (tgt := 59) hx hb dX5_ends_37 (by decide) (fun c31 => ?_) (fun c31 => ?_)
        · have h := h.2 c31
          refine lv_aload_n hx hb dX5_ends_59 rfl (lv_at hl 0 rfl) ?_
          obtain ⟨g32, h⟩ := h
          obtain ⟨q33, p34, h⟩ := h
          refine kp_getp F hW g32 cbX5 8 rfl tw_490 (fun _ h9 => h9) dX5_ends_60 p34 ?_
          refine lv_iload_n hx hb dX5_ends_63 rfl (lv_at hl 2 rfl) ?_
          obtain ⟨g35, h⟩ := h
          obtain ⟨b36, h⟩ := h
          refine kp_iald F hW g35 b36 dX5_ends_64 ?_
          refine lv_istore_n (lv' := [(3, .int (S.I q33 v2.toNatClampNeg)), (0, .ref v0), (1, .int v1), (2, .int v2)]) hx hb dX5_ends_65 rfl hl (by decide) rfl (fun ls hl => ?_)
          refine lv_aload_n hx hb dX5_ends_66 rfl (lv_at hl 1 rfl) ?_
          obtain ⟨q37, p38, h⟩ := h
          refine kp_getp F hW g32 cbX5 9 rfl tw_491 (fun _ h9 => h9) dX5_ends_67 p38 ?_
          refine lv_iload_n hx hb dX5_ends_70 rfl (lv_at hl 3 rfl) ?_
          obtain ⟨g39, h⟩ := h
          obtain ⟨b40, h⟩ := h
          refine kp_iald F hW g39 b40 dX5_ends_71 ?_
          refine lv_istore (lv' := [(4, .int (S.I q37 v2.toNatClampNeg)), (3, .int (S.I q33 v2.toNatClampNeg)), (0, .ref v0), (1, .int v1), (2, .int v2)]) hx hb dX5_ends_72 hl (by decide) rfl (fun ls hl => ?_)
          refine lv_aload_n hx hb dX5_ends_74 rfl (lv_at hl 2 rfl) ?_
          refine lv_iload_n hx hb dX5_ends_75 rfl (lv_at hl 3 rfl) ?_
          refine kp_callv (c1 := 0) (s1 := 0) F hW (kp_runV (As := [.int v1]) (rest := []) F hW (ct_X5_frees l E _ _ _ h) g32 cbX5 rfl cf_X5_frees tw_623 rfl hl.1 ⟨by decide, by decide⟩ (Nat.le_of_ble_eq_true rfl) dX5_ends_76 ⟨by decide, by decide⟩) (by decide) (by decide) (fun S42 H locs h hW => ?_)
          refine lv_aload_n hx hb dX5_ends_79 rfl (lv_at hl 2 rfl) ?_
          refine lv_iload_n hx hb dX5_ends_80 rfl (lv_at hl 1 rfl) ?_
          refine lv_iload hx hb dX5_ends_81 (lv_at hl 0 rfl) ?_
          obtain ⟨g45, h⟩ := h
          refine kp_callv (c1 := 0) (s1 := 0) F hW (kp_runV (As := [.int (S.I q33 v2.toNatClampNeg), .int (S.I q37 v2.toNatClampNeg)]) (rest := []) F hW (ct_X5_performs l E _ _ _ _ h) g45 cbX5 rfl cf_X5_performs tw_631 rfl hl.1 ⟨by decide, by decide⟩ (Nat.le_of_ble_eq_true rfl) dX5_ends_83 ⟨by decide, by decide⟩) (by decide) (by decide) (fun S44 H locs h hW => ?_)
          exact kp_retv F hW hr h (by decide) (by decide) dX5_ends_86
        · have h := h.1 c31
          refine lv_aload_n hx hb dX5_ends_40 rfl (lv_at hl 0 rfl) ?_
          obtain ⟨g46, h⟩ := h
          obtain ⟨q47, p48, h⟩ := h
          refine kp_getp F hW g46 cbX5 13 rfl tw_495 (fun _ h9 => h9) dX5_ends_41 p48 ?_
          refine lv_iconst (v := 0) hx hb dX5_ends_44 (by decide) ?_
          obtain ⟨g49, h⟩ := h
          obtain ⟨b50, h⟩ := h
          refine kp_iald F hW g49 b50 dX5_ends_45 ?_
          refine lv_istore_n (lv' := [(3, .int (S.I q47 (0 : Int32).toNatClampNeg)), (0, .ref v0), (1, .int v1), (2, .int v2)]) hx hb dX5_ends_46 rfl hl (by decide) rfl (fun ls hl => ?_)
          refine lv_aload_n hx hb dX5_ends_47 rfl (lv_at hl 1 rfl) ?_
          refine lv_iconst (v := 1) hx hb dX5_ends_48 (by decide) ?_
          refine kp_callv (c1 := 0) (s1 := 0) F hW (kp_runV (As := [.int (1 : Int32)]) (rest := []) F hW (ct_X5_frees l E _ _ _ h) g46 cbX5 rfl cf_X5_frees tw_623 rfl hl.1 ⟨by decide, by decide⟩ (Nat.le_of_ble_eq_true rfl) dX5_ends_49 ⟨by decide, by decide⟩) (by decide) (by decide) (fun S52 H locs h hW => ?_)
          refine lv_aload_n hx hb dX5_ends_52 rfl (lv_at hl 1 rfl) ?_
          refine lv_iconst (v := 1) hx hb dX5_ends_53 (by decide) ?_
          refine lv_iload_n hx hb dX5_ends_54 rfl (lv_at hl 0 rfl) ?_
          obtain ⟨g55, h⟩ := h
          refine kp_callv (c1 := 0) (s1 := 0) F hW (kp_runV (As := [.int (1 : Int32), .int (S.I q47 (0 : Int32).toNatClampNeg)]) (rest := []) F hW (ct_X5_says l E _ _ _ _ h) g55 cbX5 rfl cf_X5_says tw_627 rfl hl.1 ⟨by decide, by decide⟩ (Nat.le_of_ble_eq_true rfl) dX5_ends_55 ⟨by decide, by decide⟩) (by decide) (by decide) (fun S54 H locs h hW => ?_)
          exact kp_retv F hW hr h (by decide) (by decide) dX5_ends_58
      · have h := h.2 c30
        refine lv_iinc (v := (v1 + (-1 : Int32))) (lv' := [(1, .int (v1 + (-1 : Int32))), (0, .ref v0), (2, .int v2)]) hx hb dX5_ends_22 hl (k := 1) rfl (by rfl) (by decide) rfl (fun ls hl => ?_)
        refine lv_aload_n hx hb dX5_ends_25 rfl (lv_at hl 1 rfl) ?_
        refine lv_iload_n hx hb dX5_ends_26 rfl (lv_at hl 0 rfl) ?_
        obtain ⟨g58, h⟩ := h
        refine kp_calli (c1 := 0) (s1 := 0) F hW (kp_runV (As := [.int (v1 + (-1 : Int32))]) (rest := []) F hW (ct_X5_bound l E _ _ _ h) g58 cbX5 rfl cf_X5_bound tw_619 rfl hl.1 ⟨by decide, by decide⟩ (Nat.le_of_ble_eq_true rfl) dX5_ends_27 ⟨by decide, by decide⟩) (by decide) (by decide) (fun r56 S57 H locs h hW => ?_)
        refine lv_istore_n (lv' := [(2, .int r56), (1, .int (v1 + (-1 : Int32))), (0, .ref v0)]) hx hb dX5_ends_30 rfl hl (by decide) rfl (fun ls hl => ?_)
        refine lv_goto (tgt := 11) hx hb dX5_ends_31 (by decide) ?_
        exact ih _ _ _ _ _ _ _ h hW (lv_sub hl [2, 1, 0] rfl)
set_option maxHeartbeats 4000000 in
set_option maxRecDepth 100000 in
theorem ct_X5_ends (l : Launch) (E : EV) {post : pS → Prop} (o : Nat) (S : pS) (h : wp_X5_ends post o S) : CT l E yX5_ends cX5_ends 5 none rm_X5_ends (QV E post) [.ref o] S := by
  refine ct_intro (by decide +kernel) (Nat.le_of_ble_eq_true rfl) ?_
  intro p e s m below meth c A ls F hW hr hnm hl
  have hx := F.1
  have hb := F.2.1
  unfold wp_X5_ends at h
  have hl : lv_has ls 5 [(0, .ref o)] := hl
  refine lv_aload_n hx hb dX5_ends_0 rfl (lv_at hl 0 rfl) ?_
  obtain ⟨g1, h⟩ := h
  refine kp_geti F hW g1 cbX5 12 rfl tw_494 (fun _ h9 => h9) dX5_ends_1 ?_
  refine lv_istore_n (lv' := [(1, .int (S.I o 12)), (0, .ref o)]) hx hb dX5_ends_4 rfl hl (by decide) rfl (fun ls hl => ?_)
  refine lv_aload_n hx hb dX5_ends_5 rfl (lv_at hl 1 rfl) ?_
  refine lv_iload_n hx hb dX5_ends_6 rfl (lv_at hl 0 rfl) ?_
  refine kp_calli (c1 := 0) (s1 := 0) F hW (kp_runV (As := [.int (S.I o 12)]) (rest := []) F hW (ct_X5_bound l E _ _ _ h) g1 cbX5 rfl cf_X5_bound tw_619 rfl hl.1 ⟨by decide, by decide⟩ (Nat.le_of_ble_eq_true rfl) dX5_ends_7 ⟨by decide, by decide⟩) (by decide) (by decide) (fun r2 S3 H locs h hW => ?_)
  refine lv_istore_n (lv' := [(2, .int r2), (1, .int (S.I o 12)), (0, .ref o)]) hx hb dX5_ends_10 rfl hl (by decide) rfl (fun ls hl => ?_)
  obtain ⟨n9, h⟩ := h
  exact wk_X5_ends_L11 F hr n9 _ _ _ _ _ _ _ h hW (lv_sub hl [2, 1, 0] rfl)
def wp_X5_works_L0 (post : pS → Prop) : Nat → Nat → pS → Prop
  | 0, _, _ => False
  | n + 1, v0, S =>
  (S.ok v0 5 ∧ (((S.I v0 16) ≤ 0 → post S) ∧ (¬ ((S.I v0 16) ≤ 0) → (∀ S3, S3 = S.setI v0 16 ((S.I v0 16) - (1 : Int32)) → ∃ q5, S3.P v0 17 = some q5 ∧ S3.ok q5 7 ∧ vp_in (S3.I v0 16) (S3.n q5) ∧ (((S3.I q5 (S3.I v0 16).toNatClampNeg) = (12 : Int32) → (∀ S26, S26 = S3.setI v0 18 ((S3.I v0 18) - (1 : Int32)) → wp_X5_works_L0 post n v0 S26)) ∧ (¬ ((S3.I q5 (S3.I v0 16).toNatClampNeg) = (12 : Int32)) → (∃ q10, S3.P v0 13 = some q10 ∧ S3.ok q10 7 ∧ vp_in (S3.I v0 12) (S3.n q10) ∧ ∀ S14, S14 = S3.setI q10 (S3.I v0 12).toNatClampNeg (S3.I q5 (S3.I v0 16).toNatClampNeg) → ∀ S16, S16 = S14.setI v0 12 ((S14.I v0 12) + (1 : Int32)) → wp_X5_isExtensible (fun r17 S18 => ((r17 = 0 → (S18.ok v0 5 ∧ wp_X5_ends (fun S22 => wp_X5_works_L0 post n v0 S22) v0 S18)) ∧ (¬ (r17 = 0) → (S18.ok v0 5 ∧ ∀ S25, S25 = S18.setI v0 15 (S18.I v0 14) → wp_X5_works_L0 post n v0 S25)))) v0 S16)))))))
def wp_X5_works (post : pS → Prop) (o : Nat) (S : pS) : Prop :=
  (∃ n0, wp_X5_works_L0 post n0 o S)
def rm_X5_works : Room := { frames := 4, cells := 0, slots := 0, locals := 90 }
set_option maxHeartbeats 4000000 in
set_option maxRecDepth 100000 in
theorem wk_X5_works_L0 {l : Launch} {p : Program} {e : Env} {s : State} {m : MethodId} {args : Array Value} {below : List Frame} {meth : Method} {c : Code} {A : Nat → Prop} {E : EV} {post : pS → Prop} (F : FX p s m args meth c cX5_works 2 yX5_works.cls E A) (hr : meth.sig.returnType = none) :
    ∀ (n : Nat) (v0 : Nat) (S : pS) (H : Heap) (locs : List Loc) (ls : Array Slot), wp_X5_works_L0 post n v0 S → WD E A s S H locs → lv_has ls 2 [(0, .ref v0)] → W p l e rm_X5_works s m args below meth c H locs 0 0 (MQ below (QV E post A) args s rm_X5_works.cells rm_X5_works.slots A) (F0 m 0 ls []) := by
  have hx := F.1
  have hb := F.2.1
  intro n
  induction n with
  | zero =>
    intro v0 S H locs ls h hW hl
    exact h.elim
  | succ n ih =>
    intro v0 S H locs ls h hW hl
    unfold wp_X5_works_L0 at h
    refine lv_aload_n hx hb dX5_works_0 rfl (lv_at hl 0 rfl) ?_
    obtain ⟨g1, h⟩ := h
    refine kp_geti F hW g1 cbX5 16 rfl tw_498 (fun _ h9 => h9) dX5_works_1 ?_
    refine lv_if_le (tgt := 91) hx hb dX5_works_4 (by decide) (fun c2 => ?_) (fun c2 => ?_)
    · have h := h.1 c2
      exact kp_retv F hW hr h (by decide) (by decide) dX5_works_91
    · have h := h.2 c2
      refine lv_aload_n hx hb dX5_works_7 rfl (lv_at hl 0 rfl) ?_
      refine lv_dup hx hb dX5_works_8 rfl ?_
      refine kp_geti F hW g1 cbX5 16 rfl tw_498 (fun _ h9 => h9) dX5_works_9 ?_
      refine lv_iconst (v := 1) hx hb dX5_works_12 (by decide) ?_
      refine lv_isub hx hb dX5_works_13 ?_
      obtain ⟨S3, hS3⟩ : ∃ z, z = S.setI v0 16 ((S.I v0 16) - (1 : Int32)) := ⟨_, rfl⟩
      have h := h S3 hS3
      refine kp_puti F hW g1 cbX5 16 rfl tw_498 (fun _ h9 => h9) rfl rfl dX5_works_14 (fun H locs hW => ?_)
      rw [← hS3] at hW
      refine lv_aload_n hx hb dX5_works_17 rfl (lv_at hl 0 rfl) ?_
      have g4 : S3.ok v0 5 := by rw [hS3]; exact g1
      obtain ⟨q5, p6, h⟩ := h
      refine kp_getp F hW g4 cbX5 17 rfl tw_499 (fun _ h9 => h9) dX5_works_18 p6 ?_
      refine lv_aload_n hx hb dX5_works_21 rfl (lv_at hl 0 rfl) ?_
      refine kp_geti F hW g4 cbX5 16 rfl tw_498 (fun _ h9 => h9) dX5_works_22 ?_
      obtain ⟨g7, h⟩ := h
      obtain ⟨b8, h⟩ := h
      refine kp_iald F hW g7 b8 dX5_works_25 ?_
      refine lv_istore_n (lv' := [(1, .int (S3.I q5 (S3.I v0 16).toNatClampNeg)), (0, .ref v0)]) hx hb dX5_works_26 rfl hl (by decide) rfl (fun ls hl => ?_)
      refine lv_iload_n hx hb dX5_works_27 rfl (lv_at hl 0 rfl) ?_
      refine lv_bipush (v := 12) hx hb dX5_works_28 (by decide) ?_
      refine lv_icmp_ne (tgt := 46) hx hb dX5_works_30 (by decide) (fun c9 => ?_) (fun c9 => ?_)
      · have h := h.2 c9
        refine lv_aload_n hx hb dX5_works_46 rfl (lv_at hl 1 rfl) ?_
        obtain ⟨q10, p11, h⟩ := h
        refine kp_getp F hW g4 cbX5 13 rfl tw_495 (fun _ h9 => h9) dX5_works_47 p11 ?_
        refine lv_aload_n hx hb dX5_works_50 rfl (lv_at hl 1 rfl) ?_
        refine kp_geti F hW g4 cbX5 12 rfl tw_494 (fun _ h9 => h9) dX5_works_51 ?_
        refine lv_iload_n hx hb dX5_works_54 rfl (lv_at hl 0 rfl) ?_
        obtain ⟨g12, h⟩ := h
        obtain ⟨b13, h⟩ := h
        obtain ⟨S14, hS14⟩ : ∃ z, z = S3.setI q10 (S3.I v0 12).toNatClampNeg (S3.I q5 (S3.I v0 16).toNatClampNeg) := ⟨_, rfl⟩
        have h := h S14 hS14
        refine kp_iast F hW g12 b13 dX5_works_55 (fun H locs hW => ?_)
        rw [← hS14] at hW
        refine lv_aload_n hx hb dX5_works_56 rfl (lv_at hl 1 rfl) ?_
        refine lv_dup hx hb dX5_works_57 rfl ?_
        have g15 : S14.ok v0 5 := by rw [hS14]; exact g4
        refine kp_geti F hW g15 cbX5 12 rfl tw_494 (fun _ h9 => h9) dX5_works_58 ?_
        refine lv_iconst (v := 1) hx hb dX5_works_61 (by decide) ?_
        refine lv_iadd hx hb dX5_works_62 ?_
        obtain ⟨S16, hS16⟩ : ∃ z, z = S14.setI v0 12 ((S14.I v0 12) + (1 : Int32)) := ⟨_, rfl⟩
        have h := h S16 hS16
        refine kp_puti F hW g15 cbX5 12 rfl tw_494 (fun _ h9 => h9) rfl rfl dX5_works_63 (fun H locs hW => ?_)
        rw [← hS16] at hW
        refine lv_aload_n hx hb dX5_works_66 rfl (lv_at hl 1 rfl) ?_
        have g19 : S16.ok v0 5 := by rw [hS16]; exact g15
        refine kp_calli (c1 := 0) (s1 := 0) F hW (kp_runV (As := []) (rest := []) F hW (ct_X5_isExtensible l E _ _ h) g19 cbX5 rfl cf_X5_isExtensible tw_607 rfl hl.1 ⟨by decide, by decide⟩ (Nat.le_of_ble_eq_true rfl) dX5_works_67 ⟨by decide, by decide⟩) (by decide) (by decide) (fun r17 S18 H locs h hW => ?_)
        refine lv_if_eq (tgt := 84) hx hb dX5_works_70 (by decide) (fun c20 => ?_) (fun c20 => ?_)
        · have h := h.1 c20
          refine lv_aload_n hx hb dX5_works_84 rfl (lv_at hl 1 rfl) ?_
          obtain ⟨g23, h⟩ := h
          refine kp_callv (c1 := 0) (s1 := 0) F hW (kp_runV (As := []) (rest := []) F hW (ct_X5_ends l E _ _ h) g23 cbX5 rfl cf_X5_ends tw_615 rfl hl.1 ⟨by decide, by decide⟩ (Nat.le_of_ble_eq_true rfl) dX5_works_85 ⟨by decide, by decide⟩) (by decide) (by decide) (fun S22 H locs h hW => ?_)
          refine lv_goto (tgt := 0) hx hb dX5_works_88 (by decide) ?_
          exact ih _ _ _ _ _ h hW (lv_sub hl [1] rfl)
        · have h := h.2 c20
          refine lv_aload_n hx hb dX5_works_73 rfl (lv_at hl 1 rfl) ?_
          refine lv_aload_n hx hb dX5_works_74 rfl (lv_at hl 1 rfl) ?_
          obtain ⟨g24, h⟩ := h
          refine kp_geti F hW g24 cbX5 14 rfl tw_496 (fun _ h9 => h9) dX5_works_75 ?_
          obtain ⟨S25, hS25⟩ : ∃ z, z = S18.setI v0 15 (S18.I v0 14) := ⟨_, rfl⟩
          have h := h S25 hS25
          refine kp_puti F hW g24 cbX5 15 rfl tw_497 (fun _ h9 => h9) rfl rfl dX5_works_78 (fun H locs hW => ?_)
          rw [← hS25] at hW
          refine lv_goto (tgt := 88) hx hb dX5_works_81 (by decide) ?_
          refine lv_goto (tgt := 0) hx hb dX5_works_88 (by decide) ?_
          exact ih _ _ _ _ _ h hW (lv_sub hl [1] rfl)
      · have h := h.1 c9
        refine lv_aload_n hx hb dX5_works_33 rfl (lv_at hl 1 rfl) ?_
        refine lv_dup hx hb dX5_works_34 rfl ?_
        refine kp_geti F hW g4 cbX5 18 rfl tw_500 (fun _ h9 => h9) dX5_works_35 ?_
        refine lv_iconst (v := 1) hx hb dX5_works_38 (by decide) ?_
        refine lv_isub hx hb dX5_works_39 ?_
        obtain ⟨S26, hS26⟩ : ∃ z, z = S3.setI v0 18 ((S3.I v0 18) - (1 : Int32)) := ⟨_, rfl⟩
        have h := h S26 hS26
        refine kp_puti F hW g4 cbX5 18 rfl tw_500 (fun _ h9 => h9) rfl rfl dX5_works_40 (fun H locs hW => ?_)
        rw [← hS26] at hW
        refine lv_goto (tgt := 88) hx hb dX5_works_43 (by decide) ?_
        refine lv_goto (tgt := 0) hx hb dX5_works_88 (by decide) ?_
        exact ih _ _ _ _ _ h hW (lv_sub hl [1] rfl)
set_option maxHeartbeats 4000000 in
set_option maxRecDepth 100000 in
theorem ct_X5_works (l : Launch) (E : EV) {post : pS → Prop} (o : Nat) (S : pS) (h : wp_X5_works post o S) : CT l E yX5_works cX5_works 2 none rm_X5_works (QV E post) [.ref o] S := by
  refine ct_intro (by decide +kernel) (Nat.le_of_ble_eq_true rfl) ?_
  intro p e s m below meth c A ls F hW hr hnm hl
  have hx := F.1
  have hb := F.2.1
  unfold wp_X5_works at h
  have hl : lv_has ls 2 [(0, .ref o)] := hl
  obtain ⟨n9, h⟩ := h
  exact wk_X5_works_L0 F hr n9 _ _ _ _ _ h hW (lv_sub hl [0] rfl)
def wp_X5_press (post : Int32 → pS → Prop) (o : Nat) (a1 : Int32) (S : pS) : Prop :=
  (wp_X5_in (fun r1 S2 => ((r1 = 0 → post (-1 : Int32) S2) ∧ (¬ (r1 = 0) → (S2.ok o 5 ∧ ∀ S5, S5 = S2.setI o 19 (0 : Int32) → (((S5.I o 20) < 0 → (wp_X5_adds (fun S9 => (S9.ok o 5 ∧ wp_X5_works (fun S11 => (S11.ok o 5 ∧ post ((S11.I o 23) - (S2.I o 23)) S11)) o S9)) o a1 S5)) ∧ (¬ ((S5.I o 20) < 0) → (∃ q14, S5.P o 21 = some q14 ∧ S5.ok q14 7 ∧ vp_in (S5.I o 20) (S5.n q14) ∧ (((12 : Int32) ≤ (S5.I q14 (S5.I o 20).toNatClampNeg) → (wp_X5_adds (fun S20 => (S20.ok o 5 ∧ wp_X5_works (fun S22 => (S22.ok o 5 ∧ post ((S22.I o 23) - (S2.I o 23)) S22)) o S20)) o a1 S5)) ∧ (¬ ((12 : Int32) ≤ (S5.I q14 (S5.I o 20).toNatClampNeg)) → (∃ q25, S5.P o 22 = some q25 ∧ vp_in (S5.I o 20) (S5.n q14) ∧ S5.ok q25 7 ∧ vp_in (((12 : Int32) * (S5.I o 20)) + (S5.I q14 (S5.I o 20).toNatClampNeg)) (S5.n q25) ∧ ∀ S30, S30 = S5.setI q25 (((12 : Int32) * (S5.I o 20)) + (S5.I q14 (S5.I o 20).toNatClampNeg)).toNatClampNeg a1 → vp_in (S30.I o 20) (S30.n q14) ∧ vp_in (S30.I o 20) (S30.n q14) ∧ ∀ S36, S36 = S30.setI q14 (S30.I o 20).toNatClampNeg ((S30.I q14 (S30.I o 20).toNatClampNeg) + (1 : Int32)) → wp_X5_adds (fun S38 => (S38.ok o 5 ∧ wp_X5_works (fun S41 => (S41.ok o 5 ∧ post ((S41.I o 23) - (S2.I o 23)) S41)) o S38)) o a1 S36)))))))))) a1 (0 : Int32) (11 : Int32) S)
def rm_X5_press : Room := { frames := 5, cells := 0, slots := 0, locals := 111 }
set_option maxHeartbeats 4000000 in
set_option maxRecDepth 100000 in
theorem ct_X5_press (l : Launch) (E : EV) {post : Int32 → pS → Prop} (o : Nat) (a1 : Int32) (S : pS) (h : wp_X5_press post o a1 S) : CT l E yX5_press cX5_press 3 (some .int) rm_X5_press (QI E post) [.ref o, .int a1] S := by
  refine ct_intro (by decide +kernel) (Nat.le_of_ble_eq_true rfl) ?_
  intro p e s m below meth c A ls F hW hr hnm hl
  have hx := F.1
  have hb := F.2.1
  unfold wp_X5_press at h
  have hl : lv_has ls 3 [(0, .ref o), (1, .int a1)] := hl
  refine lv_iload_n hx hb dX5_press_0 rfl (lv_at hl 1 rfl) ?_
  refine lv_iconst (v := 0) hx hb dX5_press_1 (by decide) ?_
  refine lv_bipush (v := 11) hx hb dX5_press_2 (by decide) ?_
  refine kp_calli (c1 := 0) (s1 := 0) F hW (kp_runS (As := [.int a1, .int (0 : Int32), .int (11 : Int32)]) (rest := []) F hW (ct_X5_in l E _ _ _ _ h) cf_X5_in tw_565 rfl hl.1 ⟨by decide, by decide⟩ (Nat.le_of_ble_eq_true rfl) dX5_press_4 ⟨by decide, by decide⟩) (by decide) (by decide) (fun r1 S2 H locs h hW => ?_)
  refine lv_if_ne (tgt := 12) hx hb dX5_press_7 (by decide) (fun c3 => ?_) (fun c3 => ?_)
  · have h := h.2 c3
    refine lv_aload_n hx hb dX5_press_12 rfl (lv_at hl 0 rfl) ?_
    obtain ⟨g4, h⟩ := h
    refine kp_geti F hW g4 cbX5 23 rfl tw_505 (fun _ h9 => h9) dX5_press_13 ?_
    refine lv_istore_n (lv' := [(2, .int (S2.I o 23)), (0, .ref o), (1, .int a1)]) hx hb dX5_press_16 rfl hl (by decide) rfl (fun ls hl => ?_)
    refine lv_aload_n hx hb dX5_press_17 rfl (lv_at hl 1 rfl) ?_
    refine lv_iconst (v := 0) hx hb dX5_press_18 (by decide) ?_
    obtain ⟨S5, hS5⟩ : ∃ z, z = S2.setI o 19 (0 : Int32) := ⟨_, rfl⟩
    have h := h S5 hS5
    refine kp_puti F hW g4 cbX5 19 rfl tw_501 (fun _ h9 => h9) rfl rfl dX5_press_19 (fun H locs hW => ?_)
    rw [← hS5] at hW
    refine lv_aload_n hx hb dX5_press_22 rfl (lv_at hl 1 rfl) ?_
    have g6 : S5.ok o 5 := by rw [hS5]; exact g4
    refine kp_geti F hW g6 cbX5 20 rfl tw_502 (fun _ h9 => h9) dX5_press_23 ?_
    refine lv_if_lt (tgt := 79) hx hb dX5_press_26 (by decide) (fun c7 => ?_) (fun c7 => ?_)
    · have h := h.1 c7
      refine lv_aload_n hx hb dX5_press_79 rfl (lv_at hl 1 rfl) ?_
      refine lv_iload_n hx hb dX5_press_80 rfl (lv_at hl 2 rfl) ?_
      refine kp_callv (c1 := 0) (s1 := 0) F hW (kp_runV (As := [.int a1]) (rest := []) F hW (ct_X5_adds l E _ _ _ h) g6 cbX5 rfl cf_X5_adds tw_599 rfl hl.1 ⟨by decide, by decide⟩ (Nat.le_of_ble_eq_true rfl) dX5_press_81 ⟨by decide, by decide⟩) (by decide) (by decide) (fun S9 H locs h hW => ?_)
      refine lv_aload_n hx hb dX5_press_84 rfl (lv_at hl 1 rfl) ?_
      obtain ⟨g12, h⟩ := h
      refine kp_callv (c1 := 0) (s1 := 0) F hW (kp_runV (As := []) (rest := []) F hW (ct_X5_works l E _ _ h) g12 cbX5 rfl cf_X5_works tw_603 rfl hl.1 ⟨by decide, by decide⟩ (Nat.le_of_ble_eq_true rfl) dX5_press_85 ⟨by decide, by decide⟩) (by decide) (by decide) (fun S11 H locs h hW => ?_)
      refine lv_aload_n hx hb dX5_press_88 rfl (lv_at hl 1 rfl) ?_
      obtain ⟨g13, h⟩ := h
      refine kp_geti F hW g13 cbX5 23 rfl tw_505 (fun _ h9 => h9) dX5_press_89 ?_
      refine lv_iload_n hx hb dX5_press_92 rfl (lv_at hl 0 rfl) ?_
      refine lv_isub hx hb dX5_press_93 ?_
      exact kp_reti F hW hr h (by decide) (by decide) dX5_press_94
    · have h := h.2 c7
      refine lv_aload_n hx hb dX5_press_29 rfl (lv_at hl 1 rfl) ?_
      obtain ⟨q14, p15, h⟩ := h
      refine kp_getp F hW g6 cbX5 21 rfl tw_503 (fun _ h9 => h9) dX5_press_30 p15 ?_
      refine lv_aload_n hx hb dX5_press_33 rfl (lv_at hl 1 rfl) ?_
      refine kp_geti F hW g6 cbX5 20 rfl tw_502 (fun _ h9 => h9) dX5_press_34 ?_
      obtain ⟨g16, h⟩ := h
      obtain ⟨b17, h⟩ := h
      refine kp_iald F hW g16 b17 dX5_press_37 ?_
      refine lv_bipush (v := 12) hx hb dX5_press_38 (by decide) ?_
      refine lv_icmp_ge (tgt := 79) hx hb dX5_press_40 (by decide) (fun c18 => ?_) (fun c18 => ?_)
      · have h := h.1 c18
        refine lv_aload_n hx hb dX5_press_79 rfl (lv_at hl 1 rfl) ?_
        refine lv_iload_n hx hb dX5_press_80 rfl (lv_at hl 2 rfl) ?_
        refine kp_callv (c1 := 0) (s1 := 0) F hW (kp_runV (As := [.int a1]) (rest := []) F hW (ct_X5_adds l E _ _ _ h) g6 cbX5 rfl cf_X5_adds tw_599 rfl hl.1 ⟨by decide, by decide⟩ (Nat.le_of_ble_eq_true rfl) dX5_press_81 ⟨by decide, by decide⟩) (by decide) (by decide) (fun S20 H locs h hW => ?_)
        refine lv_aload_n hx hb dX5_press_84 rfl (lv_at hl 1 rfl) ?_
        obtain ⟨g23, h⟩ := h
        refine kp_callv (c1 := 0) (s1 := 0) F hW (kp_runV (As := []) (rest := []) F hW (ct_X5_works l E _ _ h) g23 cbX5 rfl cf_X5_works tw_603 rfl hl.1 ⟨by decide, by decide⟩ (Nat.le_of_ble_eq_true rfl) dX5_press_85 ⟨by decide, by decide⟩) (by decide) (by decide) (fun S22 H locs h hW => ?_)
        refine lv_aload_n hx hb dX5_press_88 rfl (lv_at hl 1 rfl) ?_
        obtain ⟨g24, h⟩ := h
        refine kp_geti F hW g24 cbX5 23 rfl tw_505 (fun _ h9 => h9) dX5_press_89 ?_
        refine lv_iload_n hx hb dX5_press_92 rfl (lv_at hl 0 rfl) ?_
        refine lv_isub hx hb dX5_press_93 ?_
        exact kp_reti F hW hr h (by decide) (by decide) dX5_press_94
      · have h := h.2 c18
        refine lv_aload_n hx hb dX5_press_43 rfl (lv_at hl 1 rfl) ?_
        obtain ⟨q25, p26, h⟩ := h
        refine kp_getp F hW g6 cbX5 22 rfl tw_504 (fun _ h9 => h9) dX5_press_44 p26 ?_
        refine lv_bipush (v := 12) hx hb dX5_press_47 (by decide) ?_
        refine lv_aload_n hx hb dX5_press_49 rfl (lv_at hl 1 rfl) ?_
        refine kp_geti F hW g6 cbX5 20 rfl tw_502 (fun _ h9 => h9) dX5_press_50 ?_
        refine lv_imul hx hb dX5_press_53 ?_
        refine lv_aload_n hx hb dX5_press_54 rfl (lv_at hl 1 rfl) ?_
        refine kp_getp F hW g6 cbX5 21 rfl tw_503 (fun _ h9 => h9) dX5_press_55 p15 ?_
        refine lv_aload_n hx hb dX5_press_58 rfl (lv_at hl 1 rfl) ?_
        refine kp_geti F hW g6 cbX5 20 rfl tw_502 (fun _ h9 => h9) dX5_press_59 ?_
        obtain ⟨b27, h⟩ := h
        refine kp_iald F hW g16 b27 dX5_press_62 ?_
        refine lv_iadd hx hb dX5_press_63 ?_
        refine lv_iload_n hx hb dX5_press_64 rfl (lv_at hl 2 rfl) ?_
        obtain ⟨g28, h⟩ := h
        obtain ⟨b29, h⟩ := h
        obtain ⟨S30, hS30⟩ : ∃ z, z = S5.setI q25 (((12 : Int32) * (S5.I o 20)) + (S5.I q14 (S5.I o 20).toNatClampNeg)).toNatClampNeg a1 := ⟨_, rfl⟩
        have h := h S30 hS30
        refine kp_iast F hW g28 b29 dX5_press_65 (fun H locs hW => ?_)
        rw [← hS30] at hW
        refine lv_aload_n hx hb dX5_press_66 rfl (lv_at hl 1 rfl) ?_
        have g31 : S30.ok o 5 := by rw [hS30]; exact g6
        have p32 : S30.P o 21 = some q14 := by rw [hS30]; exact p15
        refine kp_getp F hW g31 cbX5 21 rfl tw_503 (fun _ h9 => h9) dX5_press_67 p32 ?_
        refine lv_aload_n hx hb dX5_press_70 rfl (lv_at hl 1 rfl) ?_
        refine kp_geti F hW g31 cbX5 20 rfl tw_502 (fun _ h9 => h9) dX5_press_71 ?_
        refine lv_dup2_11 hx hb dX5_press_74 rfl rfl ?_
        have g33 : S30.ok q14 7 := by rw [hS30]; exact g16
        obtain ⟨b34, h⟩ := h
        refine kp_iald F hW g33 b34 dX5_press_75 ?_
        refine lv_iconst (v := 1) hx hb dX5_press_76 (by decide) ?_
        refine lv_iadd hx hb dX5_press_77 ?_
        obtain ⟨b35, h⟩ := h
        obtain ⟨S36, hS36⟩ : ∃ z, z = S30.setI q14 (S30.I o 20).toNatClampNeg ((S30.I q14 (S30.I o 20).toNatClampNeg) + (1 : Int32)) := ⟨_, rfl⟩
        have h := h S36 hS36
        refine kp_iast F hW g33 b35 dX5_press_78 (fun H locs hW => ?_)
        rw [← hS36] at hW
        refine lv_aload_n hx hb dX5_press_79 rfl (lv_at hl 1 rfl) ?_
        refine lv_iload_n hx hb dX5_press_80 rfl (lv_at hl 2 rfl) ?_
        have g39 : S36.ok o 5 := by rw [hS36]; exact g31
        refine kp_callv (c1 := 0) (s1 := 0) F hW (kp_runV (As := [.int a1]) (rest := []) F hW (ct_X5_adds l E _ _ _ h) g39 cbX5 rfl cf_X5_adds tw_599 rfl hl.1 ⟨by decide, by decide⟩ (Nat.le_of_ble_eq_true rfl) dX5_press_81 ⟨by decide, by decide⟩) (by decide) (by decide) (fun S38 H locs h hW => ?_)
        refine lv_aload_n hx hb dX5_press_84 rfl (lv_at hl 1 rfl) ?_
        obtain ⟨g42, h⟩ := h
        refine kp_callv (c1 := 0) (s1 := 0) F hW (kp_runV (As := []) (rest := []) F hW (ct_X5_works l E _ _ h) g42 cbX5 rfl cf_X5_works tw_603 rfl hl.1 ⟨by decide, by decide⟩ (Nat.le_of_ble_eq_true rfl) dX5_press_85 ⟨by decide, by decide⟩) (by decide) (by decide) (fun S41 H locs h hW => ?_)
        refine lv_aload_n hx hb dX5_press_88 rfl (lv_at hl 1 rfl) ?_
        obtain ⟨g43, h⟩ := h
        refine kp_geti F hW g43 cbX5 23 rfl tw_505 (fun _ h9 => h9) dX5_press_89 ?_
        refine lv_iload_n hx hb dX5_press_92 rfl (lv_at hl 0 rfl) ?_
        refine lv_isub hx hb dX5_press_93 ?_
        exact kp_reti F hW hr h (by decide) (by decide) dX5_press_94
  · have h := h.1 c3
    refine lv_iconst (v := (-1)) hx hb dX5_press_10 (by decide) ?_
    exact kp_reti F hW hr h (by decide) (by decide) dX5_press_11
def wp_X5_tick_L25 (post : Int32 → pS → Prop) : Nat → Nat → Int32 → Int32 → Int32 → pS → Prop
  | 0, _, _, _, _, _ => False
  | n + 1, v0, v1, v2, v3, S =>
  ((v1 ≤ v3 → (S.ok v0 5 ∧ post ((S.I v0 23) - v2) S)) ∧ (¬ (v1 ≤ v3) → (S.ok v0 5 ∧ (((S.I v0 12) ≤ 0 → post ((S.I v0 23) - v2) S) ∧ (¬ ((S.I v0 12) ≤ 0) → (∀ S10, S10 = S.setI v0 15 ((S.I v0 15) - (1 : Int32)) → (((S10.I v0 15) = 0 → (wp_X5_ends (fun S14 => (S14.ok v0 5 ∧ wp_X5_works (fun S16 => wp_X5_tick_L25 post n v0 v1 v2 (v3 + 1) S16) v0 S14)) v0 S10)) ∧ (¬ ((S10.I v0 15) = 0) → wp_X5_tick_L25 post n v0 v1 v2 (v3 + 1) S10))))))))
def wp_X5_tick (post : Int32 → pS → Prop) (o : Nat) (a1 : Int32) (S : pS) : Prop :=
  (wp_X5_in (fun r1 S2 => ((r1 = 0 → post (-1 : Int32) S2) ∧ (¬ (r1 = 0) → (S2.ok o 5 ∧ ∀ S5, S5 = S2.setI o 19 (0 : Int32) → (∃ n25, wp_X5_tick_L25 post n25 o a1 (S2.I o 23) (0 : Int32) S5))))) a1 (0 : Int32) (999 : Int32) S)
def rm_X5_tick : Room := { frames := 5, cells := 0, slots := 0, locals := 111 }
set_option maxHeartbeats 4000000 in
set_option maxRecDepth 100000 in
theorem wk_X5_tick_L25 {l : Launch} {p : Program} {e : Env} {s : State} {m : MethodId} {args : Array Value} {below : List Frame} {meth : Method} {c : Code} {A : Nat → Prop} {E : EV} {post : Int32 → pS → Prop} (F : FX p s m args meth c cX5_tick 4 yX5_tick.cls E A) (hr : meth.sig.returnType = (some .int)) :
    ∀ (n : Nat) (v0 : Nat) (v1 : Int32) (v2 : Int32) (v3 : Int32) (S : pS) (H : Heap) (locs : List Loc) (ls : Array Slot), wp_X5_tick_L25 post n v0 v1 v2 v3 S → WD E A s S H locs → lv_has ls 4 [(0, .ref v0), (1, .int v1), (2, .int v2), (3, .int v3)] → W p l e rm_X5_tick s m args below meth c H locs 0 0 (MQ below (QI E post A) args s rm_X5_tick.cells rm_X5_tick.slots A) (F0 m 25 ls []) := by
  have hx := F.1
  have hb := F.2.1
  intro n
  induction n with
  | zero =>
    intro v0 v1 v2 v3 S H locs ls h hW hl
    exact h.elim
  | succ n ih =>
    intro v0 v1 v2 v3 S H locs ls h hW hl
    unfold wp_X5_tick_L25 at h
    refine lv_iload_n hx hb dX5_tick_25 rfl (lv_at hl 3 rfl) ?_
    refine lv_iload_n hx hb dX5_tick_26 rfl (lv_at hl 1 rfl) ?_
    refine lv_icmp_ge (tgt := 68) hx hb dX5_tick_27 (by decide) (fun c6 => ?_) (fun c6 => ?_)
    · have h := h.1 c6
      refine lv_aload_n hx hb dX5_tick_68 rfl (lv_at hl 0 rfl) ?_
      obtain ⟨g7, h⟩ := h
      refine kp_geti F hW g7 cbX5 23 rfl tw_505 (fun _ h9 => h9) dX5_tick_69 ?_
      refine lv_iload_n hx hb dX5_tick_72 rfl (lv_at hl 2 rfl) ?_
      refine lv_isub hx hb dX5_tick_73 ?_
      exact kp_reti F hW hr h (by decide) (by decide) dX5_tick_74
    · have h := h.2 c6
      refine lv_aload_n hx hb dX5_tick_30 rfl (lv_at hl 0 rfl) ?_
      obtain ⟨g8, h⟩ := h
      refine kp_geti F hW g8 cbX5 12 rfl tw_494 (fun _ h9 => h9) dX5_tick_31 ?_
      refine lv_if_le (tgt := 68) hx hb dX5_tick_34 (by decide) (fun c9 => ?_) (fun c9 => ?_)
      · have h := h.1 c9
        refine lv_aload_n hx hb dX5_tick_68 rfl (lv_at hl 0 rfl) ?_
        refine kp_geti F hW g8 cbX5 23 rfl tw_505 (fun _ h9 => h9) dX5_tick_69 ?_
        refine lv_iload_n hx hb dX5_tick_72 rfl (lv_at hl 2 rfl) ?_
        refine lv_isub hx hb dX5_tick_73 ?_
        exact kp_reti F hW hr h (by decide) (by decide) dX5_tick_74
      · have h := h.2 c9
        refine lv_aload_n hx hb dX5_tick_37 rfl (lv_at hl 0 rfl) ?_
        refine lv_dup hx hb dX5_tick_38 rfl ?_
        refine kp_geti F hW g8 cbX5 15 rfl tw_497 (fun _ h9 => h9) dX5_tick_39 ?_
        refine lv_iconst (v := 1) hx hb dX5_tick_42 (by decide) ?_
        refine lv_isub hx hb dX5_tick_43 ?_
        obtain ⟨S10, hS10⟩ : ∃ z, z = S.setI v0 15 ((S.I v0 15) - (1 : Int32)) := ⟨_, rfl⟩
        have h := h S10 hS10
        refine kp_puti F hW g8 cbX5 15 rfl tw_497 (fun _ h9 => h9) rfl rfl dX5_tick_44 (fun H locs hW => ?_)
        rw [← hS10] at hW
        refine lv_aload_n hx hb dX5_tick_47 rfl (lv_at hl 0 rfl) ?_
        have g11 : S10.ok v0 5 := by rw [hS10]; exact g8
        refine kp_geti F hW g11 cbX5 15 rfl tw_497 (fun _ h9 => h9) dX5_tick_48 ?_
        refine lv_if_ne (tgt := 62) hx hb dX5_tick_51 (by decide) (fun c12 => ?_) (fun c12 => ?_)
        · have h := h.2 c12
          refine lv_iinc (v := (v3 + 1)) (lv' := [(3, .int (v3 + 1)), (0, .ref v0), (1, .int v1), (2, .int v2)]) hx hb dX5_tick_62 hl (k := 3) rfl (by rfl) (by decide) rfl (fun ls hl => ?_)
          refine lv_goto (tgt := 25) hx hb dX5_tick_65 (by decide) ?_
          exact ih _ _ _ _ _ _ _ _ h hW (lv_sub hl [1, 2, 3, 0] rfl)
        · have h := h.1 c12
          refine lv_aload_n hx hb dX5_tick_54 rfl (lv_at hl 0 rfl) ?_
          refine kp_callv (c1 := 0) (s1 := 0) F hW (kp_runV (As := []) (rest := []) F hW (ct_X5_ends l E _ _ h) g11 cbX5 rfl cf_X5_ends tw_615 rfl hl.1 ⟨by decide, by decide⟩ (Nat.le_of_ble_eq_true rfl) dX5_tick_55 ⟨by decide, by decide⟩) (by decide) (by decide) (fun S14 H locs h hW => ?_)
          refine lv_aload_n hx hb dX5_tick_58 rfl (lv_at hl 0 rfl) ?_
          obtain ⟨g17, h⟩ := h
          refine kp_callv (c1 := 0) (s1 := 0) F hW (kp_runV (As := []) (rest := []) F hW (ct_X5_works l E _ _ h) g17 cbX5 rfl cf_X5_works tw_603 rfl hl.1 ⟨by decide, by decide⟩ (Nat.le_of_ble_eq_true rfl) dX5_tick_59 ⟨by decide, by decide⟩) (by decide) (by decide) (fun S16 H locs h hW => ?_)
          refine lv_iinc (v := (v3 + 1)) (lv' := [(3, .int (v3 + 1)), (0, .ref v0), (1, .int v1), (2, .int v2)]) hx hb dX5_tick_62 hl (k := 3) rfl (by rfl) (by decide) rfl (fun ls hl => ?_)
          refine lv_goto (tgt := 25) hx hb dX5_tick_65 (by decide) ?_
          exact ih _ _ _ _ _ _ _ _ h hW (lv_sub hl [1, 2, 3, 0] rfl)
set_option maxHeartbeats 4000000 in
set_option maxRecDepth 100000 in
theorem ct_X5_tick (l : Launch) (E : EV) {post : Int32 → pS → Prop} (o : Nat) (a1 : Int32) (S : pS) (h : wp_X5_tick post o a1 S) : CT l E yX5_tick cX5_tick 4 (some .int) rm_X5_tick (QI E post) [.ref o, .int a1] S := by
  refine ct_intro (by decide +kernel) (Nat.le_of_ble_eq_true rfl) ?_
  intro p e s m below meth c A ls F hW hr hnm hl
  have hx := F.1
  have hb := F.2.1
  unfold wp_X5_tick at h
  have hl : lv_has ls 4 [(0, .ref o), (1, .int a1)] := hl
  refine lv_iload_n hx hb dX5_tick_0 rfl (lv_at hl 1 rfl) ?_
  refine lv_iconst (v := 0) hx hb dX5_tick_1 (by decide) ?_
  refine lv_sipush (v := 999) hx hb dX5_tick_2 (by decide) ?_
  refine kp_calli (c1 := 0) (s1 := 0) F hW (kp_runS (As := [.int a1, .int (0 : Int32), .int (999 : Int32)]) (rest := []) F hW (ct_X5_in l E _ _ _ _ h) cf_X5_in tw_565 rfl hl.1 ⟨by decide, by decide⟩ (Nat.le_of_ble_eq_true rfl) dX5_tick_5 ⟨by decide, by decide⟩) (by decide) (by decide) (fun r1 S2 H locs h hW => ?_)
  refine lv_if_ne (tgt := 13) hx hb dX5_tick_8 (by decide) (fun c3 => ?_) (fun c3 => ?_)
  · have h := h.2 c3
    refine lv_aload_n hx hb dX5_tick_13 rfl (lv_at hl 0 rfl) ?_
    obtain ⟨g4, h⟩ := h
    refine kp_geti F hW g4 cbX5 23 rfl tw_505 (fun _ h9 => h9) dX5_tick_14 ?_
    refine lv_istore_n (lv' := [(2, .int (S2.I o 23)), (0, .ref o), (1, .int a1)]) hx hb dX5_tick_17 rfl hl (by decide) rfl (fun ls hl => ?_)
    refine lv_aload_n hx hb dX5_tick_18 rfl (lv_at hl 1 rfl) ?_
    refine lv_iconst (v := 0) hx hb dX5_tick_19 (by decide) ?_
    obtain ⟨S5, hS5⟩ : ∃ z, z = S2.setI o 19 (0 : Int32) := ⟨_, rfl⟩
    have h := h S5 hS5
    refine kp_puti F hW g4 cbX5 19 rfl tw_501 (fun _ h9 => h9) rfl rfl dX5_tick_20 (fun H locs hW => ?_)
    rw [← hS5] at hW
    refine lv_iconst (v := 0) hx hb dX5_tick_23 (by decide) ?_
    refine lv_istore_n (lv' := [(3, .int (0 : Int32)), (2, .int (S2.I o 23)), (0, .ref o), (1, .int a1)]) hx hb dX5_tick_24 rfl hl (by decide) rfl (fun ls hl => ?_)
    obtain ⟨n9, h⟩ := h
    exact wk_X5_tick_L25 F hr n9 _ _ _ _ _ _ _ _ h hW (lv_sub hl [2, 3, 1, 0] rfl)
  · have h := h.1 c3
    refine lv_iconst (v := (-1)) hx hb dX5_tick_11 (by decide) ?_
    exact kp_reti F hW hr h (by decide) (by decide) dX5_tick_12
def wp_X5_setTimeout (post : Int32 → pS → Prop) (o : Nat) (a1 : Int32) (S : pS) : Prop :=
  (wp_X5_in (fun r1 S2 => ((r1 = 0 → post (-1 : Int32) S2) ∧ (¬ (r1 = 0) → (S2.ok o 5 ∧ ∀ S5, S5 = S2.setI o 14 a1 → post (S2.I o 14) S5)))) a1 (1 : Int32) (99 : Int32) S)
def rm_X5_setTimeout : Room := { frames := 1, cells := 0, slots := 0, locals := 22 }
set_option maxHeartbeats 4000000 in
set_option maxRecDepth 100000 in
theorem ct_X5_setTimeout (l : Launch) (E : EV) {post : Int32 → pS → Prop} (o : Nat) (a1 : Int32) (S : pS) (h : wp_X5_setTimeout post o a1 S) : CT l E yX5_setTimeout cX5_setTimeout 3 (some .int) rm_X5_setTimeout (QI E post) [.ref o, .int a1] S := by
  refine ct_intro (by decide +kernel) (Nat.le_of_ble_eq_true rfl) ?_
  intro p e s m below meth c A ls F hW hr hnm hl
  have hx := F.1
  have hb := F.2.1
  unfold wp_X5_setTimeout at h
  have hl : lv_has ls 3 [(0, .ref o), (1, .int a1)] := hl
  refine lv_iload_n hx hb dX5_setTimeout_0 rfl (lv_at hl 1 rfl) ?_
  refine lv_iconst (v := 1) hx hb dX5_setTimeout_1 (by decide) ?_
  refine lv_bipush (v := 99) hx hb dX5_setTimeout_2 (by decide) ?_
  refine kp_calli (c1 := 0) (s1 := 0) F hW (kp_runS (As := [.int a1, .int (1 : Int32), .int (99 : Int32)]) (rest := []) F hW (ct_X5_in l E _ _ _ _ h) cf_X5_in tw_565 rfl hl.1 ⟨by decide, by decide⟩ (Nat.le_of_ble_eq_true rfl) dX5_setTimeout_4 ⟨by decide, by decide⟩) (by decide) (by decide) (fun r1 S2 H locs h hW => ?_)
  refine lv_if_ne (tgt := 12) hx hb dX5_setTimeout_7 (by decide) (fun c3 => ?_) (fun c3 => ?_)
  · have h := h.2 c3
    refine lv_aload_n hx hb dX5_setTimeout_12 rfl (lv_at hl 0 rfl) ?_
    obtain ⟨g4, h⟩ := h
    refine kp_geti F hW g4 cbX5 14 rfl tw_496 (fun _ h9 => h9) dX5_setTimeout_13 ?_
    refine lv_istore_n (lv' := [(2, .int (S2.I o 14)), (0, .ref o), (1, .int a1)]) hx hb dX5_setTimeout_16 rfl hl (by decide) rfl (fun ls hl => ?_)
    refine lv_aload_n hx hb dX5_setTimeout_17 rfl (lv_at hl 1 rfl) ?_
    refine lv_iload_n hx hb dX5_setTimeout_18 rfl (lv_at hl 2 rfl) ?_
    obtain ⟨S5, hS5⟩ : ∃ z, z = S2.setI o 14 a1 := ⟨_, rfl⟩
    have h := h S5 hS5
    refine kp_puti F hW g4 cbX5 14 rfl tw_496 (fun _ h9 => h9) rfl rfl dX5_setTimeout_19 (fun H locs hW => ?_)
    rw [← hS5] at hW
    refine lv_iload_n hx hb dX5_setTimeout_22 rfl (lv_at hl 0 rfl) ?_
    exact kp_reti F hW hr h (by decide) (by decide) dX5_setTimeout_23
  · have h := h.1 c3
    refine lv_iconst (v := (-1)) hx hb dX5_setTimeout_10 (by decide) ?_
    exact kp_reti F hW hr h (by decide) (by decide) dX5_setTimeout_11
def wp_X5_setFlag (post : Int32 → pS → Prop) (o : Nat) (a1 : Int32) (a2 : Int32) (S : pS) : Prop :=
  (wp_X5_in (fun r1 S2 => ((r1 = 0 → post (-1 : Int32) S2) ∧ (¬ (r1 = 0) → (wp_X5_in (fun r4 S5 => ((r4 = 0 → post (-1 : Int32) S5) ∧ (¬ (r4 = 0) → (S5.ok o 5 ∧ ∃ q8, S5.P o 0 = some q8 ∧ S5.ok q8 7 ∧ vp_in a1 (S5.n q8) ∧ vp_in a1 (S5.n q8) ∧ ∀ S13, S13 = S5.setI q8 a1.toNatClampNeg a2 → post (S5.I q8 a1.toNatClampNeg) S13)))) a2 (0 : Int32) (1 : Int32) S2)))) a1 (0 : Int32) (5 : Int32) S)
def rm_X5_setFlag : Room := { frames := 1, cells := 0, slots := 0, locals := 22 }
set_option maxHeartbeats 4000000 in
set_option maxRecDepth 100000 in
theorem ct_X5_setFlag (l : Launch) (E : EV) {post : Int32 → pS → Prop} (o : Nat) (a1 : Int32) (a2 : Int32) (S : pS) (h : wp_X5_setFlag post o a1 a2 S) : CT l E yX5_setFlag cX5_setFlag 4 (some .int) rm_X5_setFlag (QI E post) [.ref o, .int a1, .int a2] S := by
  refine ct_intro (by decide +kernel) (Nat.le_of_ble_eq_true rfl) ?_
  intro p e s m below meth c A ls F hW hr hnm hl
  have hx := F.1
  have hb := F.2.1
  unfold wp_X5_setFlag at h
  have hl : lv_has ls 4 [(0, .ref o), (1, .int a1), (2, .int a2)] := hl
  refine lv_iload_n hx hb dX5_setFlag_0 rfl (lv_at hl 1 rfl) ?_
  refine lv_iconst (v := 0) hx hb dX5_setFlag_1 (by decide) ?_
  refine lv_iconst (v := 5) hx hb dX5_setFlag_2 (by decide) ?_
  refine kp_calli (c1 := 0) (s1 := 0) F hW (kp_runS (As := [.int a1, .int (0 : Int32), .int (5 : Int32)]) (rest := []) F hW (ct_X5_in l E _ _ _ _ h) cf_X5_in tw_565 rfl hl.1 ⟨by decide, by decide⟩ (Nat.le_of_ble_eq_true rfl) dX5_setFlag_3 ⟨by decide, by decide⟩) (by decide) (by decide) (fun r1 S2 H locs h hW => ?_)
  refine lv_if_eq (tgt := 18) hx hb dX5_setFlag_6 (by decide) (fun c3 => ?_) (fun c3 => ?_)
  · have h := h.1 c3
    refine lv_iconst (v := (-1)) hx hb dX5_setFlag_18 (by decide) ?_
    exact kp_reti F hW hr h (by decide) (by decide) dX5_setFlag_19
  · have h := h.2 c3
    refine lv_iload_n hx hb dX5_setFlag_9 rfl (lv_at hl 2 rfl) ?_
    refine lv_iconst (v := 0) hx hb dX5_setFlag_10 (by decide) ?_
    refine lv_iconst (v := 1) hx hb dX5_setFlag_11 (by decide) ?_
    refine kp_calli (c1 := 0) (s1 := 0) F hW (kp_runS (As := [.int a2, .int (0 : Int32), .int (1 : Int32)]) (rest := []) F hW (ct_X5_in l E _ _ _ _ h) cf_X5_in tw_565 rfl hl.1 ⟨by decide, by decide⟩ (Nat.le_of_ble_eq_true rfl) dX5_setFlag_12 ⟨by decide, by decide⟩) (by decide) (by decide) (fun r4 S5 H locs h hW => ?_)
    refine lv_if_ne (tgt := 20) hx hb dX5_setFlag_15 (by decide) (fun c6 => ?_) (fun c6 => ?_)
    · have h := h.2 c6
      refine lv_aload_n hx hb dX5_setFlag_20 rfl (lv_at hl 0 rfl) ?_
      obtain ⟨g7, h⟩ := h
      obtain ⟨q8, p9, h⟩ := h
      refine kp_getp F hW g7 cbX5 0 rfl tw_482 (fun _ h9 => h9) dX5_setFlag_21 p9 ?_
      refine lv_iload_n hx hb dX5_setFlag_24 rfl (lv_at hl 1 rfl) ?_
      obtain ⟨g10, h⟩ := h
      obtain ⟨b11, h⟩ := h
      refine kp_iald F hW g10 b11 dX5_setFlag_25 ?_
      refine lv_istore_n (lv' := [(3, .int (S5.I q8 a1.toNatClampNeg)), (0, .ref o), (1, .int a1), (2, .int a2)]) hx hb dX5_setFlag_26 rfl hl (by decide) rfl (fun ls hl => ?_)
      refine lv_aload_n hx hb dX5_setFlag_27 rfl (lv_at hl 1 rfl) ?_
      refine kp_getp F hW g7 cbX5 0 rfl tw_482 (fun _ h9 => h9) dX5_setFlag_28 p9 ?_
      refine lv_iload_n hx hb dX5_setFlag_31 rfl (lv_at hl 2 rfl) ?_
      refine lv_iload_n hx hb dX5_setFlag_32 rfl (lv_at hl 3 rfl) ?_
      obtain ⟨b12, h⟩ := h
      obtain ⟨S13, hS13⟩ : ∃ z, z = S5.setI q8 a1.toNatClampNeg a2 := ⟨_, rfl⟩
      have h := h S13 hS13
      refine kp_iast F hW g10 b12 dX5_setFlag_33 (fun H locs hW => ?_)
      rw [← hS13] at hW
      refine lv_iload_n hx hb dX5_setFlag_34 rfl (lv_at hl 0 rfl) ?_
      exact kp_reti F hW hr h (by decide) (by decide) dX5_setFlag_35
    · have h := h.1 c6
      refine lv_iconst (v := (-1)) hx hb dX5_setFlag_18 (by decide) ?_
      exact kp_reti F hW hr h (by decide) (by decide) dX5_setFlag_19
def wp_X5_pendingLength (post : Int32 → pS → Prop) (o : Nat) (S : pS) : Prop :=
  (S.ok o 5 ∧ post (S.I o 12) S)
def rm_X5_pendingLength : Room := { frames := 0, cells := 0, slots := 0, locals := 0 }
set_option maxHeartbeats 4000000 in
set_option maxRecDepth 100000 in
theorem ct_X5_pendingLength (l : Launch) (E : EV) {post : Int32 → pS → Prop} (o : Nat) (S : pS) (h : wp_X5_pendingLength post o S) : CT l E yX5_pendingLength cX5_pendingLength 1 (some .int) rm_X5_pendingLength (QI E post) [.ref o] S := by
  refine ct_intro (by decide +kernel) (Nat.le_of_ble_eq_true rfl) ?_
  intro p e s m below meth c A ls F hW hr hnm hl
  have hx := F.1
  have hb := F.2.1
  unfold wp_X5_pendingLength at h
  have hl : lv_has ls 1 [(0, .ref o)] := hl
  refine lv_aload_n hx hb dX5_pendingLength_0 rfl (lv_at hl 0 rfl) ?_
  obtain ⟨g1, h⟩ := h
  refine kp_geti F hW g1 cbX5 12 rfl tw_494 (fun _ h9 => h9) dX5_pendingLength_1 ?_
  exact kp_reti F hW hr h (by decide) (by decide) dX5_pendingLength_4
def wp_X5_pendingKey (post : Int32 → pS → Prop) (o : Nat) (a1 : Int32) (S : pS) : Prop :=
  ((0 ≤ a1 → (S.ok o 5 ∧ (((S.I o 12) ≤ a1 → post (-4 : Int32) S) ∧ (¬ ((S.I o 12) ≤ a1) → (∃ q4, S.P o 13 = some q4 ∧ S.ok q4 7 ∧ vp_in a1 (S.n q4) ∧ post (S.I q4 a1.toNatClampNeg) S))))) ∧ (¬ (0 ≤ a1) → post (-1 : Int32) S))
def rm_X5_pendingKey : Room := { frames := 0, cells := 0, slots := 0, locals := 0 }
set_option maxHeartbeats 4000000 in
set_option maxRecDepth 100000 in
theorem ct_X5_pendingKey (l : Launch) (E : EV) {post : Int32 → pS → Prop} (o : Nat) (a1 : Int32) (S : pS) (h : wp_X5_pendingKey post o a1 S) : CT l E yX5_pendingKey cX5_pendingKey 2 (some .int) rm_X5_pendingKey (QI E post) [.ref o, .int a1] S := by
  refine ct_intro (by decide +kernel) (Nat.le_of_ble_eq_true rfl) ?_
  intro p e s m below meth c A ls F hW hr hnm hl
  have hx := F.1
  have hb := F.2.1
  unfold wp_X5_pendingKey at h
  have hl : lv_has ls 2 [(0, .ref o), (1, .int a1)] := hl
  refine lv_iload_n hx hb dX5_pendingKey_0 rfl (lv_at hl 1 rfl) ?_
  refine lv_if_ge (tgt := 6) hx hb dX5_pendingKey_1 (by decide) (fun c1 => ?_) (fun c1 => ?_)
  · have h := h.1 c1
    refine lv_iload_n hx hb dX5_pendingKey_6 rfl (lv_at hl 1 rfl) ?_
    refine lv_aload_n hx hb dX5_pendingKey_7 rfl (lv_at hl 0 rfl) ?_
    obtain ⟨g2, h⟩ := h
    refine kp_geti F hW g2 cbX5 12 rfl tw_494 (fun _ h9 => h9) dX5_pendingKey_8 ?_
    refine lv_icmp_ge (tgt := 23) hx hb dX5_pendingKey_11 (by decide) (fun c3 => ?_) (fun c3 => ?_)
    · have h := h.1 c3
      refine lv_bipush (v := (-4)) hx hb dX5_pendingKey_23 (by decide) ?_
      exact kp_reti F hW hr h (by decide) (by decide) dX5_pendingKey_25
    · have h := h.2 c3
      refine lv_aload_n hx hb dX5_pendingKey_14 rfl (lv_at hl 0 rfl) ?_
      obtain ⟨q4, p5, h⟩ := h
      refine kp_getp F hW g2 cbX5 13 rfl tw_495 (fun _ h9 => h9) dX5_pendingKey_15 p5 ?_
      refine lv_iload_n hx hb dX5_pendingKey_18 rfl (lv_at hl 1 rfl) ?_
      obtain ⟨g6, h⟩ := h
      obtain ⟨b7, h⟩ := h
      refine kp_iald F hW g6 b7 dX5_pendingKey_19 ?_
      refine lv_goto (tgt := 25) hx hb dX5_pendingKey_20 (by decide) ?_
      exact kp_reti F hW hr h (by decide) (by decide) dX5_pendingKey_25
  · have h := h.2 c1
    refine lv_iconst (v := (-1)) hx hb dX5_pendingKey_4 (by decide) ?_
    exact kp_reti F hW hr h (by decide) (by decide) dX5_pendingKey_5
def wp_X5_remainingTime (post : Int32 → pS → Prop) (o : Nat) (S : pS) : Prop :=
  (S.ok o 5 ∧ (((S.I o 12) ≤ 0 → post (0 : Int32) S) ∧ (¬ ((S.I o 12) ≤ 0) → post (S.I o 15) S)))
def rm_X5_remainingTime : Room := { frames := 0, cells := 0, slots := 0, locals := 0 }
set_option maxHeartbeats 4000000 in
set_option maxRecDepth 100000 in
theorem ct_X5_remainingTime (l : Launch) (E : EV) {post : Int32 → pS → Prop} (o : Nat) (S : pS) (h : wp_X5_remainingTime post o S) : CT l E yX5_remainingTime cX5_remainingTime 1 (some .int) rm_X5_remainingTime (QI E post) [.ref o] S := by
  refine ct_intro (by decide +kernel) (Nat.le_of_ble_eq_true rfl) ?_
  intro p e s m below meth c A ls F hW hr hnm hl
  have hx := F.1
  have hb := F.2.1
  unfold wp_X5_remainingTime at h
  have hl : lv_has ls 1 [(0, .ref o)] := hl
  refine lv_aload_n hx hb dX5_remainingTime_0 rfl (lv_at hl 0 rfl) ?_
  obtain ⟨g1, h⟩ := h
  refine kp_geti F hW g1 cbX5 12 rfl tw_494 (fun _ h9 => h9) dX5_remainingTime_1 ?_
  refine lv_if_le (tgt := 14) hx hb dX5_remainingTime_4 (by decide) (fun c2 => ?_) (fun c2 => ?_)
  · have h := h.1 c2
    refine lv_iconst (v := 0) hx hb dX5_remainingTime_14 (by decide) ?_
    exact kp_reti F hW hr h (by decide) (by decide) dX5_remainingTime_15
  · have h := h.2 c2
    refine lv_aload_n hx hb dX5_remainingTime_7 rfl (lv_at hl 0 rfl) ?_
    refine kp_geti F hW g1 cbX5 15 rfl tw_497 (fun _ h9 => h9) dX5_remainingTime_8 ?_
    refine lv_goto (tgt := 15) hx hb dX5_remainingTime_11 (by decide) ?_
    exact kp_reti F hW hr h (by decide) (by decide) dX5_remainingTime_15
def wp_X5_pendingBinding (post : Int32 → pS → Prop) (o : Nat) (S : pS) : Prop :=
  (S.ok o 5 ∧ (((S.I o 12) ≤ 0 → post (-4 : Int32) S) ∧ (¬ ((S.I o 12) ≤ 0) → (wp_X5_bound (fun r3 S4 => ((0 ≤ r3 → post (((16 : Int32) * (r3 / (10 : Int32))) + (r3 - r3 / (10 : Int32) * (10 : Int32))) S4) ∧ (¬ (0 ≤ r3) → post (-4 : Int32) S4))) o (S.I o 12) S))))
def rm_X5_pendingBinding : Room := { frames := 2, cells := 0, slots := 0, locals := 48 }
set_option maxHeartbeats 4000000 in
set_option maxRecDepth 100000 in
theorem ct_X5_pendingBinding (l : Launch) (E : EV) {post : Int32 → pS → Prop} (o : Nat) (S : pS) (h : wp_X5_pendingBinding post o S) : CT l E yX5_pendingBinding cX5_pendingBinding 2 (some .int) rm_X5_pendingBinding (QI E post) [.ref o] S := by
  refine ct_intro (by decide +kernel) (Nat.le_of_ble_eq_true rfl) ?_
  intro p e s m below meth c A ls F hW hr hnm hl
  have hx := F.1
  have hb := F.2.1
  unfold wp_X5_pendingBinding at h
  have hl : lv_has ls 2 [(0, .ref o)] := hl
  refine lv_aload_n hx hb dX5_pendingBinding_0 rfl (lv_at hl 0 rfl) ?_
  obtain ⟨g1, h⟩ := h
  refine kp_geti F hW g1 cbX5 12 rfl tw_494 (fun _ h9 => h9) dX5_pendingBinding_1 ?_
  refine lv_if_le (tgt := 18) hx hb dX5_pendingBinding_4 (by decide) (fun c2 => ?_) (fun c2 => ?_)
  · have h := h.1 c2
    refine lv_bipush (v := (-4)) hx hb dX5_pendingBinding_18 (by decide) ?_
    refine lv_istore_n (lv' := [(1, .int (-4 : Int32)), (0, .ref o)]) hx hb dX5_pendingBinding_20 rfl hl (by decide) rfl (fun ls hl => ?_)
    refine lv_iload_n hx hb dX5_pendingBinding_21 rfl (lv_at hl 0 rfl) ?_
    refine lv_if_ge (tgt := 30) hx hb dX5_pendingBinding_22 (by decide) (fun c9 => absurd c9 (by decide)) (fun _ => ?_)
    refine lv_bipush (v := (-4)) hx hb dX5_pendingBinding_25 (by decide) ?_
    refine lv_goto (tgt := 42) hx hb dX5_pendingBinding_27 (by decide) ?_
    exact kp_reti F hW hr h (by decide) (by decide) dX5_pendingBinding_42
  · have h := h.2 c2
    refine lv_aload_n hx hb dX5_pendingBinding_7 rfl (lv_at hl 0 rfl) ?_
    refine lv_aload_n hx hb dX5_pendingBinding_8 rfl (lv_at hl 0 rfl) ?_
    refine kp_geti F hW g1 cbX5 12 rfl tw_494 (fun _ h9 => h9) dX5_pendingBinding_9 ?_
    refine kp_calli (c1 := 0) (s1 := 0) F hW (kp_runV (As := [.int (S.I o 12)]) (rest := []) F hW (ct_X5_bound l E _ _ _ h) g1 cbX5 rfl cf_X5_bound tw_619 rfl hl.1 ⟨by decide, by decide⟩ (Nat.le_of_ble_eq_true rfl) dX5_pendingBinding_12 ⟨by decide, by decide⟩) (by decide) (by decide) (fun r3 S4 H locs h hW => ?_)
    refine lv_goto (tgt := 20) hx hb dX5_pendingBinding_15 (by decide) ?_
    refine lv_istore_n (lv' := [(1, .int r3), (0, .ref o)]) hx hb dX5_pendingBinding_20 rfl hl (by decide) rfl (fun ls hl => ?_)
    refine lv_iload_n hx hb dX5_pendingBinding_21 rfl (lv_at hl 0 rfl) ?_
    refine lv_if_ge (tgt := 30) hx hb dX5_pendingBinding_22 (by decide) (fun c5 => ?_) (fun c5 => ?_)
    · have h := h.1 c5
      refine lv_bipush (v := 16) hx hb dX5_pendingBinding_30 (by decide) ?_
      refine lv_iload_n hx hb dX5_pendingBinding_32 rfl (lv_at hl 0 rfl) ?_
      refine lv_bipush (v := 10) hx hb dX5_pendingBinding_33 (by decide) ?_
      refine lv_idiv hx hb dX5_pendingBinding_35 (by decide) ?_
      refine lv_imul hx hb dX5_pendingBinding_36 ?_
      refine lv_iload_n hx hb dX5_pendingBinding_37 rfl (lv_at hl 0 rfl) ?_
      refine lv_bipush (v := 10) hx hb dX5_pendingBinding_38 (by decide) ?_
      refine lv_irem hx hb dX5_pendingBinding_40 (by decide) ?_
      refine lv_iadd hx hb dX5_pendingBinding_41 ?_
      exact kp_reti F hW hr h (by decide) (by decide) dX5_pendingBinding_42
    · have h := h.2 c5
      refine lv_bipush (v := (-4)) hx hb dX5_pendingBinding_25 (by decide) ?_
      refine lv_goto (tgt := 42) hx hb dX5_pendingBinding_27 (by decide) ?_
      exact kp_reti F hW hr h (by decide) (by decide) dX5_pendingBinding_42
def wp_X5_flag (post : Int32 → pS → Prop) (o : Nat) (a1 : Int32) (S : pS) : Prop :=
  (wp_X5_in (fun r1 S2 => ((r1 = 0 → post (-1 : Int32) S2) ∧ (¬ (r1 = 0) → (S2.ok o 5 ∧ ∃ q5, S2.P o 0 = some q5 ∧ S2.ok q5 7 ∧ vp_in a1 (S2.n q5) ∧ post (S2.I q5 a1.toNatClampNeg) S2)))) a1 (0 : Int32) (5 : Int32) S)
def rm_X5_flag : Room := { frames := 1, cells := 0, slots := 0, locals := 22 }
set_option maxHeartbeats 4000000 in
set_option maxRecDepth 100000 in
theorem ct_X5_flag (l : Launch) (E : EV) {post : Int32 → pS → Prop} (o : Nat) (a1 : Int32) (S : pS) (h : wp_X5_flag post o a1 S) : CT l E yX5_flag cX5_flag 2 (some .int) rm_X5_flag (QI E post) [.ref o, .int a1] S := by
  refine ct_intro (by decide +kernel) (Nat.le_of_ble_eq_true rfl) ?_
  intro p e s m below meth c A ls F hW hr hnm hl
  have hx := F.1
  have hb := F.2.1
  unfold wp_X5_flag at h
  have hl : lv_has ls 2 [(0, .ref o), (1, .int a1)] := hl
  refine lv_iload_n hx hb dX5_flag_0 rfl (lv_at hl 1 rfl) ?_
  refine lv_iconst (v := 0) hx hb dX5_flag_1 (by decide) ?_
  refine lv_iconst (v := 5) hx hb dX5_flag_2 (by decide) ?_
  refine kp_calli (c1 := 0) (s1 := 0) F hW (kp_runS (As := [.int a1, .int (0 : Int32), .int (5 : Int32)]) (rest := []) F hW (ct_X5_in l E _ _ _ _ h) cf_X5_in tw_565 rfl hl.1 ⟨by decide, by decide⟩ (Nat.le_of_ble_eq_true rfl) dX5_flag_3 ⟨by decide, by decide⟩) (by decide) (by decide) (fun r1 S2 H locs h hW => ?_)
  refine lv_if_eq (tgt := 18) hx hb dX5_flag_6 (by decide) (fun c3 => ?_) (fun c3 => ?_)
  · have h := h.1 c3
    refine lv_iconst (v := (-1)) hx hb dX5_flag_18 (by decide) ?_
    exact kp_reti F hW hr h (by decide) (by decide) dX5_flag_19
  · have h := h.2 c3
    refine lv_aload_n hx hb dX5_flag_9 rfl (lv_at hl 0 rfl) ?_
    obtain ⟨g4, h⟩ := h
    obtain ⟨q5, p6, h⟩ := h
    refine kp_getp F hW g4 cbX5 0 rfl tw_482 (fun _ h9 => h9) dX5_flag_10 p6 ?_
    refine lv_iload_n hx hb dX5_flag_13 rfl (lv_at hl 1 rfl) ?_
    obtain ⟨g7, h⟩ := h
    obtain ⟨b8, h⟩ := h
    refine kp_iald F hW g7 b8 dX5_flag_14 ?_
    refine lv_goto (tgt := 19) hx hb dX5_flag_15 (by decide) ?_
    exact kp_reti F hW hr h (by decide) (by decide) dX5_flag_19
def wp_X5_stackSize (post : Int32 → pS → Prop) (o : Nat) (S : pS) : Prop :=
  (S.ok o 5 ∧ post (S.I o 1) S)
def rm_X5_stackSize : Room := { frames := 0, cells := 0, slots := 0, locals := 0 }
set_option maxHeartbeats 4000000 in
set_option maxRecDepth 100000 in
theorem ct_X5_stackSize (l : Launch) (E : EV) {post : Int32 → pS → Prop} (o : Nat) (S : pS) (h : wp_X5_stackSize post o S) : CT l E yX5_stackSize cX5_stackSize 1 (some .int) rm_X5_stackSize (QI E post) [.ref o] S := by
  refine ct_intro (by decide +kernel) (Nat.le_of_ble_eq_true rfl) ?_
  intro p e s m below meth c A ls F hW hr hnm hl
  have hx := F.1
  have hb := F.2.1
  unfold wp_X5_stackSize at h
  have hl : lv_has ls 1 [(0, .ref o)] := hl
  refine lv_aload_n hx hb dX5_stackSize_0 rfl (lv_at hl 0 rfl) ?_
  obtain ⟨g1, h⟩ := h
  refine kp_geti F hW g1 cbX5 1 rfl tw_483 (fun _ h9 => h9) dX5_stackSize_1 ?_
  exact kp_reti F hW hr h (by decide) (by decide) dX5_stackSize_4
def wp_X5_stackContext (post : Int32 → pS → Prop) (o : Nat) (a1 : Int32) (S : pS) : Prop :=
  ((0 ≤ a1 → (S.ok o 5 ∧ (((S.I o 1) ≤ a1 → post (-4 : Int32) S) ∧ (¬ ((S.I o 1) ≤ a1) → (∃ q4, S.P o 2 = some q4 ∧ S.ok q4 7 ∧ vp_in (((S.I o 1) - (1 : Int32)) - a1) (S.n q4) ∧ post (S.I q4 (((S.I o 1) - (1 : Int32)) - a1).toNatClampNeg) S))))) ∧ (¬ (0 ≤ a1) → post (-1 : Int32) S))
def rm_X5_stackContext : Room := { frames := 0, cells := 0, slots := 0, locals := 0 }
set_option maxHeartbeats 4000000 in
set_option maxRecDepth 100000 in
theorem ct_X5_stackContext (l : Launch) (E : EV) {post : Int32 → pS → Prop} (o : Nat) (a1 : Int32) (S : pS) (h : wp_X5_stackContext post o a1 S) : CT l E yX5_stackContext cX5_stackContext 2 (some .int) rm_X5_stackContext (QI E post) [.ref o, .int a1] S := by
  refine ct_intro (by decide +kernel) (Nat.le_of_ble_eq_true rfl) ?_
  intro p e s m below meth c A ls F hW hr hnm hl
  have hx := F.1
  have hb := F.2.1
  unfold wp_X5_stackContext at h
  have hl : lv_has ls 2 [(0, .ref o), (1, .int a1)] := hl
  refine lv_iload_n hx hb dX5_stackContext_0 rfl (lv_at hl 1 rfl) ?_
  refine lv_if_ge (tgt := 6) hx hb dX5_stackContext_1 (by decide) (fun c1 => ?_) (fun c1 => ?_)
  · have h := h.1 c1
    refine lv_iload_n hx hb dX5_stackContext_6 rfl (lv_at hl 1 rfl) ?_
    refine lv_aload_n hx hb dX5_stackContext_7 rfl (lv_at hl 0 rfl) ?_
    obtain ⟨g2, h⟩ := h
    refine kp_geti F hW g2 cbX5 1 rfl tw_483 (fun _ h9 => h9) dX5_stackContext_8 ?_
    refine lv_icmp_ge (tgt := 30) hx hb dX5_stackContext_11 (by decide) (fun c3 => ?_) (fun c3 => ?_)
    · have h := h.1 c3
      refine lv_bipush (v := (-4)) hx hb dX5_stackContext_30 (by decide) ?_
      exact kp_reti F hW hr h (by decide) (by decide) dX5_stackContext_32
    · have h := h.2 c3
      refine lv_aload_n hx hb dX5_stackContext_14 rfl (lv_at hl 0 rfl) ?_
      obtain ⟨q4, p5, h⟩ := h
      refine kp_getp F hW g2 cbX5 2 rfl tw_484 (fun _ h9 => h9) dX5_stackContext_15 p5 ?_
      refine lv_aload_n hx hb dX5_stackContext_18 rfl (lv_at hl 0 rfl) ?_
      refine kp_geti F hW g2 cbX5 1 rfl tw_483 (fun _ h9 => h9) dX5_stackContext_19 ?_
      refine lv_iconst (v := 1) hx hb dX5_stackContext_22 (by decide) ?_
      refine lv_isub hx hb dX5_stackContext_23 ?_
      refine lv_iload_n hx hb dX5_stackContext_24 rfl (lv_at hl 1 rfl) ?_
      refine lv_isub hx hb dX5_stackContext_25 ?_
      obtain ⟨g6, h⟩ := h
      obtain ⟨b7, h⟩ := h
      refine kp_iald F hW g6 b7 dX5_stackContext_26 ?_
      refine lv_goto (tgt := 32) hx hb dX5_stackContext_27 (by decide) ?_
      exact kp_reti F hW hr h (by decide) (by decide) dX5_stackContext_32
  · have h := h.2 c1
    refine lv_iconst (v := (-1)) hx hb dX5_stackContext_4 (by decide) ?_
    exact kp_reti F hW hr h (by decide) (by decide) dX5_stackContext_5
def wp_X5_startRecording (post : Int32 → pS → Prop) (o : Nat) (a1 : Int32) (S : pS) : Prop :=
  (wp_X5_in (fun r1 S2 => ((r1 = 0 → post (-1 : Int32) S2) ∧ (¬ (r1 = 0) → (S2.ok o 5 ∧ (((S2.I o 20) < 0 → (∀ S6, S6 = S2.setI o 20 a1 → ∃ q8, S6.P o 21 = some q8 ∧ S6.ok q8 7 ∧ vp_in a1 (S6.n q8) ∧ vp_in a1 (S6.n q8) ∧ ∀ S13, S13 = S6.setI q8 a1.toNatClampNeg (0 : Int32) → post (S6.I q8 a1.toNatClampNeg) S13)) ∧ (¬ ((S2.I o 20) < 0) → post (-2 : Int32) S2)))))) a1 (0 : Int32) (3 : Int32) S)
def rm_X5_startRecording : Room := { frames := 1, cells := 0, slots := 0, locals := 22 }
set_option maxHeartbeats 4000000 in
set_option maxRecDepth 100000 in
theorem ct_X5_startRecording (l : Launch) (E : EV) {post : Int32 → pS → Prop} (o : Nat) (a1 : Int32) (S : pS) (h : wp_X5_startRecording post o a1 S) : CT l E yX5_startRecording cX5_startRecording 3 (some .int) rm_X5_startRecording (QI E post) [.ref o, .int a1] S := by
  refine ct_intro (by decide +kernel) (Nat.le_of_ble_eq_true rfl) ?_
  intro p e s m below meth c A ls F hW hr hnm hl
  have hx := F.1
  have hb := F.2.1
  unfold wp_X5_startRecording at h
  have hl : lv_has ls 3 [(0, .ref o), (1, .int a1)] := hl
  refine lv_iload_n hx hb dX5_startRecording_0 rfl (lv_at hl 1 rfl) ?_
  refine lv_iconst (v := 0) hx hb dX5_startRecording_1 (by decide) ?_
  refine lv_iconst (v := 3) hx hb dX5_startRecording_2 (by decide) ?_
  refine kp_calli (c1 := 0) (s1 := 0) F hW (kp_runS (As := [.int a1, .int (0 : Int32), .int (3 : Int32)]) (rest := []) F hW (ct_X5_in l E _ _ _ _ h) cf_X5_in tw_565 rfl hl.1 ⟨by decide, by decide⟩ (Nat.le_of_ble_eq_true rfl) dX5_startRecording_3 ⟨by decide, by decide⟩) (by decide) (by decide) (fun r1 S2 H locs h hW => ?_)
  refine lv_if_ne (tgt := 11) hx hb dX5_startRecording_6 (by decide) (fun c3 => ?_) (fun c3 => ?_)
  · have h := h.2 c3
    refine lv_aload_n hx hb dX5_startRecording_11 rfl (lv_at hl 0 rfl) ?_
    obtain ⟨g4, h⟩ := h
    refine kp_geti F hW g4 cbX5 20 rfl tw_502 (fun _ h9 => h9) dX5_startRecording_12 ?_
    refine lv_if_lt (tgt := 21) hx hb dX5_startRecording_15 (by decide) (fun c5 => ?_) (fun c5 => ?_)
    · have h := h.1 c5
      refine lv_aload_n hx hb dX5_startRecording_21 rfl (lv_at hl 0 rfl) ?_
      refine lv_iload_n hx hb dX5_startRecording_22 rfl (lv_at hl 1 rfl) ?_
      obtain ⟨S6, hS6⟩ : ∃ z, z = S2.setI o 20 a1 := ⟨_, rfl⟩
      have h := h S6 hS6
      refine kp_puti F hW g4 cbX5 20 rfl tw_502 (fun _ h9 => h9) rfl rfl dX5_startRecording_23 (fun H locs hW => ?_)
      rw [← hS6] at hW
      refine lv_aload_n hx hb dX5_startRecording_26 rfl (lv_at hl 0 rfl) ?_
      have g7 : S6.ok o 5 := by rw [hS6]; exact g4
      obtain ⟨q8, p9, h⟩ := h
      refine kp_getp F hW g7 cbX5 21 rfl tw_503 (fun _ h9 => h9) dX5_startRecording_27 p9 ?_
      refine lv_iload_n hx hb dX5_startRecording_30 rfl (lv_at hl 1 rfl) ?_
      obtain ⟨g10, h⟩ := h
      obtain ⟨b11, h⟩ := h
      refine kp_iald F hW g10 b11 dX5_startRecording_31 ?_
      refine lv_istore_n (lv' := [(2, .int (S6.I q8 a1.toNatClampNeg)), (0, .ref o), (1, .int a1)]) hx hb dX5_startRecording_32 rfl hl (by decide) rfl (fun ls hl => ?_)
      refine lv_aload_n hx hb dX5_startRecording_33 rfl (lv_at hl 1 rfl) ?_
      refine kp_getp F hW g7 cbX5 21 rfl tw_503 (fun _ h9 => h9) dX5_startRecording_34 p9 ?_
      refine lv_iload_n hx hb dX5_startRecording_37 rfl (lv_at hl 2 rfl) ?_
      refine lv_iconst (v := 0) hx hb dX5_startRecording_38 (by decide) ?_
      obtain ⟨b12, h⟩ := h
      obtain ⟨S13, hS13⟩ : ∃ z, z = S6.setI q8 a1.toNatClampNeg (0 : Int32) := ⟨_, rfl⟩
      have h := h S13 hS13
      refine kp_iast F hW g10 b12 dX5_startRecording_39 (fun H locs hW => ?_)
      rw [← hS13] at hW
      refine lv_iload_n hx hb dX5_startRecording_40 rfl (lv_at hl 0 rfl) ?_
      exact kp_reti F hW hr h (by decide) (by decide) dX5_startRecording_41
    · have h := h.2 c5
      refine lv_bipush (v := (-2)) hx hb dX5_startRecording_18 (by decide) ?_
      exact kp_reti F hW hr h (by decide) (by decide) dX5_startRecording_20
  · have h := h.1 c3
    refine lv_iconst (v := (-1)) hx hb dX5_startRecording_9 (by decide) ?_
    exact kp_reti F hW hr h (by decide) (by decide) dX5_startRecording_10
def wp_X5_stopRecording (post : Int32 → pS → Prop) (o : Nat) (S : pS) : Prop :=
  (S.ok o 5 ∧ ((0 ≤ (S.I o 20) → (∃ q3, S.P o 21 = some q3 ∧ S.ok q3 7 ∧ vp_in (S.I o 20) (S.n q3) ∧ ∀ S7, S7 = S.setI o 20 (-4 : Int32) → post (S.I q3 (S.I o 20).toNatClampNeg) S7)) ∧ (¬ (0 ≤ (S.I o 20)) → post (-2 : Int32) S)))
def rm_X5_stopRecording : Room := { frames := 0, cells := 0, slots := 0, locals := 0 }
set_option maxHeartbeats 4000000 in
set_option maxRecDepth 100000 in
theorem ct_X5_stopRecording (l : Launch) (E : EV) {post : Int32 → pS → Prop} (o : Nat) (S : pS) (h : wp_X5_stopRecording post o S) : CT l E yX5_stopRecording cX5_stopRecording 2 (some .int) rm_X5_stopRecording (QI E post) [.ref o] S := by
  refine ct_intro (by decide +kernel) (Nat.le_of_ble_eq_true rfl) ?_
  intro p e s m below meth c A ls F hW hr hnm hl
  have hx := F.1
  have hb := F.2.1
  unfold wp_X5_stopRecording at h
  have hl : lv_has ls 2 [(0, .ref o)] := hl
  refine lv_aload_n hx hb dX5_stopRecording_0 rfl (lv_at hl 0 rfl) ?_
  obtain ⟨g1, h⟩ := h
  refine kp_geti F hW g1 cbX5 20 rfl tw_502 (fun _ h9 => h9) dX5_stopRecording_1 ?_
  refine lv_if_ge (tgt := 10) hx hb dX5_stopRecording_4 (by decide) (fun c2 => ?_) (fun c2 => ?_)
  · have h := h.1 c2
    refine lv_aload_n hx hb dX5_stopRecording_10 rfl (lv_at hl 0 rfl) ?_
    obtain ⟨q3, p4, h⟩ := h
    refine kp_getp F hW g1 cbX5 21 rfl tw_503 (fun _ h9 => h9) dX5_stopRecording_11 p4 ?_
    refine lv_aload_n hx hb dX5_stopRecording_14 rfl (lv_at hl 0 rfl) ?_
    refine kp_geti F hW g1 cbX5 20 rfl tw_502 (fun _ h9 => h9) dX5_stopRecording_15 ?_
    obtain ⟨g5, h⟩ := h
    obtain ⟨b6, h⟩ := h
    refine kp_iald F hW g5 b6 dX5_stopRecording_18 ?_
    refine lv_istore_n (lv' := [(1, .int (S.I q3 (S.I o 20).toNatClampNeg)), (0, .ref o)]) hx hb dX5_stopRecording_19 rfl hl (by decide) rfl (fun ls hl => ?_)
    refine lv_aload_n hx hb dX5_stopRecording_20 rfl (lv_at hl 1 rfl) ?_
    refine lv_bipush (v := (-4)) hx hb dX5_stopRecording_21 (by decide) ?_
    obtain ⟨S7, hS7⟩ : ∃ z, z = S.setI o 20 (-4 : Int32) := ⟨_, rfl⟩
    have h := h S7 hS7
    refine kp_puti F hW g1 cbX5 20 rfl tw_502 (fun _ h9 => h9) rfl rfl dX5_stopRecording_23 (fun H locs hW => ?_)
    rw [← hS7] at hW
    refine lv_iload_n hx hb dX5_stopRecording_26 rfl (lv_at hl 0 rfl) ?_
    exact kp_reti F hW hr h (by decide) (by decide) dX5_stopRecording_27
  · have h := h.2 c2
    refine lv_bipush (v := (-2)) hx hb dX5_stopRecording_7 (by decide) ?_
    exact kp_reti F hW hr h (by decide) (by decide) dX5_stopRecording_9
def wp_X5_macroKey (post : Int32 → pS → Prop) (o : Nat) (a1 : Int32) (a2 : Int32) (S : pS) : Prop :=
  (wp_X5_in (fun r1 S2 => ((r1 = 0 → post (-1 : Int32) S2) ∧ (¬ (r1 = 0) → ((0 ≤ a2 → (S2.ok o 5 ∧ ∃ q6, S2.P o 21 = some q6 ∧ S2.ok q6 7 ∧ vp_in a1 (S2.n q6) ∧ (((S2.I q6 a1.toNatClampNeg) ≤ a2 → post (-4 : Int32) S2) ∧ (¬ ((S2.I q6 a1.toNatClampNeg) ≤ a2) → (∃ q11, S2.P o 22 = some q11 ∧ S2.ok q11 7 ∧ vp_in (((12 : Int32) * a1) + a2) (S2.n q11) ∧ post (S2.I q11 (((12 : Int32) * a1) + a2).toNatClampNeg) S2))))) ∧ (¬ (0 ≤ a2) → post (-1 : Int32) S2))))) a1 (0 : Int32) (3 : Int32) S)
def rm_X5_macroKey : Room := { frames := 1, cells := 0, slots := 0, locals := 22 }
set_option maxHeartbeats 4000000 in
set_option maxRecDepth 100000 in
theorem ct_X5_macroKey (l : Launch) (E : EV) {post : Int32 → pS → Prop} (o : Nat) (a1 : Int32) (a2 : Int32) (S : pS) (h : wp_X5_macroKey post o a1 a2 S) : CT l E yX5_macroKey cX5_macroKey 3 (some .int) rm_X5_macroKey (QI E post) [.ref o, .int a1, .int a2] S := by
  refine ct_intro (by decide +kernel) (Nat.le_of_ble_eq_true rfl) ?_
  intro p e s m below meth c A ls F hW hr hnm hl
  have hx := F.1
  have hb := F.2.1
  unfold wp_X5_macroKey at h
  have hl : lv_has ls 3 [(0, .ref o), (1, .int a1), (2, .int a2)] := hl
  refine lv_iload_n hx hb dX5_macroKey_0 rfl (lv_at hl 1 rfl) ?_
  refine lv_iconst (v := 0) hx hb dX5_macroKey_1 (by decide) ?_
  refine lv_iconst (v := 3) hx hb dX5_macroKey_2 (by decide) ?_
  refine kp_calli (c1 := 0) (s1 := 0) F hW (kp_runS (As := [.int a1, .int (0 : Int32), .int (3 : Int32)]) (rest := []) F hW (ct_X5_in l E _ _ _ _ h) cf_X5_in tw_565 rfl hl.1 ⟨by decide, by decide⟩ (Nat.le_of_ble_eq_true rfl) dX5_macroKey_3 ⟨by decide, by decide⟩) (by decide) (by decide) (fun r1 S2 H locs h hW => ?_)
  refine lv_if_eq (tgt := 13) hx hb dX5_macroKey_6 (by decide) (fun c3 => ?_) (fun c3 => ?_)
  · have h := h.1 c3
    refine lv_iconst (v := (-1)) hx hb dX5_macroKey_13 (by decide) ?_
    exact kp_reti F hW hr h (by decide) (by decide) dX5_macroKey_14
  · have h := h.2 c3
    refine lv_iload_n hx hb dX5_macroKey_9 rfl (lv_at hl 2 rfl) ?_
    refine lv_if_ge (tgt := 15) hx hb dX5_macroKey_10 (by decide) (fun c4 => ?_) (fun c4 => ?_)
    · have h := h.1 c4
      refine lv_iload_n hx hb dX5_macroKey_15 rfl (lv_at hl 2 rfl) ?_
      refine lv_aload_n hx hb dX5_macroKey_16 rfl (lv_at hl 0 rfl) ?_
      obtain ⟨g5, h⟩ := h
      obtain ⟨q6, p7, h⟩ := h
      refine kp_getp F hW g5 cbX5 21 rfl tw_503 (fun _ h9 => h9) dX5_macroKey_17 p7 ?_
      refine lv_iload_n hx hb dX5_macroKey_20 rfl (lv_at hl 1 rfl) ?_
      obtain ⟨g8, h⟩ := h
      obtain ⟨b9, h⟩ := h
      refine kp_iald F hW g8 b9 dX5_macroKey_21 ?_
      refine lv_icmp_ge (tgt := 39) hx hb dX5_macroKey_22 (by decide) (fun c10 => ?_) (fun c10 => ?_)
      · have h := h.1 c10
        refine lv_bipush (v := (-4)) hx hb dX5_macroKey_39 (by decide) ?_
        exact kp_reti F hW hr h (by decide) (by decide) dX5_macroKey_41
      · have h := h.2 c10
        refine lv_aload_n hx hb dX5_macroKey_25 rfl (lv_at hl 0 rfl) ?_
        obtain ⟨q11, p12, h⟩ := h
        refine kp_getp F hW g5 cbX5 22 rfl tw_504 (fun _ h9 => h9) dX5_macroKey_26 p12 ?_
        refine lv_bipush (v := 12) hx hb dX5_macroKey_29 (by decide) ?_
        refine lv_iload_n hx hb dX5_macroKey_31 rfl (lv_at hl 1 rfl) ?_
        refine lv_imul hx hb dX5_macroKey_32 ?_
        refine lv_iload_n hx hb dX5_macroKey_33 rfl (lv_at hl 2 rfl) ?_
        refine lv_iadd hx hb dX5_macroKey_34 ?_
        obtain ⟨g13, h⟩ := h
        obtain ⟨b14, h⟩ := h
        refine kp_iald F hW g13 b14 dX5_macroKey_35 ?_
        refine lv_goto (tgt := 41) hx hb dX5_macroKey_36 (by decide) ?_
        exact kp_reti F hW hr h (by decide) (by decide) dX5_macroKey_41
    · have h := h.2 c4
      refine lv_iconst (v := (-1)) hx hb dX5_macroKey_13 (by decide) ?_
      exact kp_reti F hW hr h (by decide) (by decide) dX5_macroKey_14
def wp_X5_reportCount (post : Int32 → pS → Prop) (o : Nat) (S : pS) : Prop :=
  (S.ok o 5 ∧ post (S.I o 23) S)
def rm_X5_reportCount : Room := { frames := 0, cells := 0, slots := 0, locals := 0 }
set_option maxHeartbeats 4000000 in
set_option maxRecDepth 100000 in
theorem ct_X5_reportCount (l : Launch) (E : EV) {post : Int32 → pS → Prop} (o : Nat) (S : pS) (h : wp_X5_reportCount post o S) : CT l E yX5_reportCount cX5_reportCount 1 (some .int) rm_X5_reportCount (QI E post) [.ref o] S := by
  refine ct_intro (by decide +kernel) (Nat.le_of_ble_eq_true rfl) ?_
  intro p e s m below meth c A ls F hW hr hnm hl
  have hx := F.1
  have hb := F.2.1
  unfold wp_X5_reportCount at h
  have hl : lv_has ls 1 [(0, .ref o)] := hl
  refine lv_aload_n hx hb dX5_reportCount_0 rfl (lv_at hl 0 rfl) ?_
  obtain ⟨g1, h⟩ := h
  refine kp_geti F hW g1 cbX5 23 rfl tw_505 (fun _ h9 => h9) dX5_reportCount_1 ?_
  exact kp_reti F hW hr h (by decide) (by decide) dX5_reportCount_4
def wp_X5_errorOf (post : Int32 → pS → Prop) (o : Nat) (a1 : Int32) (S : pS) : Prop :=
  ((0 ≤ a1 → (S.ok o 5 ∧ (((S.I o 23) ≤ a1 → post (-4 : Int32) S) ∧ (¬ ((S.I o 23) ≤ a1) → ((a1 < ((S.I o 23) - (40 : Int32)) → post (-4 : Int32) S) ∧ (¬ (a1 < ((S.I o 23) - (40 : Int32))) → post (0 : Int32) S)))))) ∧ (¬ (0 ≤ a1) → post (-1 : Int32) S))
def rm_X5_errorOf : Room := { frames := 0, cells := 0, slots := 0, locals := 0 }
set_option maxHeartbeats 4000000 in
set_option maxRecDepth 100000 in
theorem ct_X5_errorOf (l : Launch) (E : EV) {post : Int32 → pS → Prop} (o : Nat) (a1 : Int32) (S : pS) (h : wp_X5_errorOf post o a1 S) : CT l E yX5_errorOf cX5_errorOf 2 (some .int) rm_X5_errorOf (QI E post) [.ref o, .int a1] S := by
  refine ct_intro (by decide +kernel) (Nat.le_of_ble_eq_true rfl) ?_
  intro p e s m below meth c A ls F hW hr hnm hl
  have hx := F.1
  have hb := F.2.1
  unfold wp_X5_errorOf at h
  have hl : lv_has ls 2 [(0, .ref o), (1, .int a1)] := hl
  refine lv_iload_n hx hb dX5_errorOf_0 rfl (lv_at hl 1 rfl) ?_
  refine lv_if_ge (tgt := 6) hx hb dX5_errorOf_1 (by decide) (fun c1 => ?_) (fun c1 => ?_)
  · have h := h.1 c1
    refine lv_iload_n hx hb dX5_errorOf_6 rfl (lv_at hl 1 rfl) ?_
    refine lv_aload_n hx hb dX5_errorOf_7 rfl (lv_at hl 0 rfl) ?_
    obtain ⟨g2, h⟩ := h
    refine kp_geti F hW g2 cbX5 23 rfl tw_505 (fun _ h9 => h9) dX5_errorOf_8 ?_
    refine lv_icmp_ge (tgt := 29) hx hb dX5_errorOf_11 (by decide) (fun c3 => ?_) (fun c3 => ?_)
    · have h := h.1 c3
      refine lv_bipush (v := (-4)) hx hb dX5_errorOf_29 (by decide) ?_
      exact kp_reti F hW hr h (by decide) (by decide) dX5_errorOf_31
    · have h := h.2 c3
      refine lv_iload_n hx hb dX5_errorOf_14 rfl (lv_at hl 1 rfl) ?_
      refine lv_aload_n hx hb dX5_errorOf_15 rfl (lv_at hl 0 rfl) ?_
      refine kp_geti F hW g2 cbX5 23 rfl tw_505 (fun _ h9 => h9) dX5_errorOf_16 ?_
      refine lv_bipush (v := 40) hx hb dX5_errorOf_19 (by decide) ?_
      refine lv_isub hx hb dX5_errorOf_21 ?_
      refine lv_icmp_lt (tgt := 29) hx hb dX5_errorOf_22 (by decide) (fun c4 => ?_) (fun c4 => ?_)
      · have h := h.1 c4
        refine lv_bipush (v := (-4)) hx hb dX5_errorOf_29 (by decide) ?_
        exact kp_reti F hW hr h (by decide) (by decide) dX5_errorOf_31
      · have h := h.2 c4
        refine lv_iconst (v := 0) hx hb dX5_errorOf_25 (by decide) ?_
        refine lv_goto (tgt := 31) hx hb dX5_errorOf_26 (by decide) ?_
        exact kp_reti F hW hr h (by decide) (by decide) dX5_errorOf_31
  · have h := h.2 c1
    refine lv_iconst (v := (-1)) hx hb dX5_errorOf_4 (by decide) ?_
    exact kp_reti F hW hr h (by decide) (by decide) dX5_errorOf_5
def wp_X5_reportKind (post : Int32 → pS → Prop) (o : Nat) (a1 : Int32) (S : pS) : Prop :=
  (S.ok o 5 ∧ wp_X5_errorOf (fun r1 S2 => ((0 ≤ r1 → (S2.ok o 5 ∧ ∃ q6, S2.P o 24 = some q6 ∧ S2.ok q6 7 ∧ vp_in (a1 - a1 / (40 : Int32) * (40 : Int32)) (S2.n q6) ∧ post (S2.I q6 (a1 - a1 / (40 : Int32) * (40 : Int32)).toNatClampNeg) S2)) ∧ (¬ (0 ≤ r1) → post r1 S2))) o a1 S)
def rm_X5_reportKind : Room := { frames := 1, cells := 0, slots := 0, locals := 21 }
set_option maxHeartbeats 4000000 in
set_option maxRecDepth 100000 in
theorem ct_X5_reportKind (l : Launch) (E : EV) {post : Int32 → pS → Prop} (o : Nat) (a1 : Int32) (S : pS) (h : wp_X5_reportKind post o a1 S) : CT l E yX5_reportKind cX5_reportKind 3 (some .int) rm_X5_reportKind (QI E post) [.ref o, .int a1] S := by
  refine ct_intro (by decide +kernel) (Nat.le_of_ble_eq_true rfl) ?_
  intro p e s m below meth c A ls F hW hr hnm hl
  have hx := F.1
  have hb := F.2.1
  unfold wp_X5_reportKind at h
  have hl : lv_has ls 3 [(0, .ref o), (1, .int a1)] := hl
  refine lv_aload_n hx hb dX5_reportKind_0 rfl (lv_at hl 0 rfl) ?_
  refine lv_iload_n hx hb dX5_reportKind_1 rfl (lv_at hl 1 rfl) ?_
  obtain ⟨g3, h⟩ := h
  refine kp_calli (c1 := 0) (s1 := 0) F hW (kp_runV (As := [.int a1]) (rest := []) F hW (ct_X5_errorOf l E _ _ _ h) g3 cbX5 rfl cf_X5_errorOf tw_699 rfl hl.1 ⟨by decide, by decide⟩ (Nat.le_of_ble_eq_true rfl) dX5_reportKind_2 ⟨by decide, by decide⟩) (by decide) (by decide) (fun r1 S2 H locs h hW => ?_)
  refine lv_istore_n (lv' := [(2, .int r1), (0, .ref o), (1, .int a1)]) hx hb dX5_reportKind_5 rfl hl (by decide) rfl (fun ls hl => ?_)
  refine lv_iload_n hx hb dX5_reportKind_6 rfl (lv_at hl 0 rfl) ?_
  refine lv_if_ge (tgt := 14) hx hb dX5_reportKind_7 (by decide) (fun c4 => ?_) (fun c4 => ?_)
  · have h := h.1 c4
    refine lv_aload_n hx hb dX5_reportKind_14 rfl (lv_at hl 1 rfl) ?_
    obtain ⟨g5, h⟩ := h
    obtain ⟨q6, p7, h⟩ := h
    refine kp_getp F hW g5 cbX5 24 rfl tw_506 (fun _ h9 => h9) dX5_reportKind_15 p7 ?_
    refine lv_iload_n hx hb dX5_reportKind_18 rfl (lv_at hl 2 rfl) ?_
    refine lv_bipush (v := 40) hx hb dX5_reportKind_19 (by decide) ?_
    refine lv_irem hx hb dX5_reportKind_21 (by decide) ?_
    obtain ⟨g8, h⟩ := h
    obtain ⟨b9, h⟩ := h
    refine kp_iald F hW g8 b9 dX5_reportKind_22 ?_
    exact kp_reti F hW hr h (by decide) (by decide) dX5_reportKind_23
  · have h := h.2 c4
    refine lv_iload_n hx hb dX5_reportKind_10 rfl (lv_at hl 0 rfl) ?_
    refine lv_goto (tgt := 23) hx hb dX5_reportKind_11 (by decide) ?_
    exact kp_reti F hW hr h (by decide) (by decide) dX5_reportKind_23
def wp_X5_reportArgument (post : Int32 → pS → Prop) (o : Nat) (a1 : Int32) (S : pS) : Prop :=
  (S.ok o 5 ∧ wp_X5_errorOf (fun r1 S2 => ((0 ≤ r1 → (S2.ok o 5 ∧ ∃ q6, S2.P o 25 = some q6 ∧ S2.ok q6 7 ∧ vp_in (a1 - a1 / (40 : Int32) * (40 : Int32)) (S2.n q6) ∧ post (S2.I q6 (a1 - a1 / (40 : Int32) * (40 : Int32)).toNatClampNeg) S2)) ∧ (¬ (0 ≤ r1) → post r1 S2))) o a1 S)
def rm_X5_reportArgument : Room := { frames := 1, cells := 0, slots := 0, locals := 21 }
set_option maxHeartbeats 4000000 in
set_option maxRecDepth 100000 in
theorem ct_X5_reportArgument (l : Launch) (E : EV) {post : Int32 → pS → Prop} (o : Nat) (a1 : Int32) (S : pS) (h : wp_X5_reportArgument post o a1 S) : CT l E yX5_reportArgument cX5_reportArgument 3 (some .int) rm_X5_reportArgument (QI E post) [.ref o, .int a1] S := by
  refine ct_intro (by decide +kernel) (Nat.le_of_ble_eq_true rfl) ?_
  intro p e s m below meth c A ls F hW hr hnm hl
  have hx := F.1
  have hb := F.2.1
  unfold wp_X5_reportArgument at h
  have hl : lv_has ls 3 [(0, .ref o), (1, .int a1)] := hl
  refine lv_aload_n hx hb dX5_reportArgument_0 rfl (lv_at hl 0 rfl) ?_
  refine lv_iload_n hx hb dX5_reportArgument_1 rfl (lv_at hl 1 rfl) ?_
  obtain ⟨g3, h⟩ := h
  refine kp_calli (c1 := 0) (s1 := 0) F hW (kp_runV (As := [.int a1]) (rest := []) F hW (ct_X5_errorOf l E _ _ _ h) g3 cbX5 rfl cf_X5_errorOf tw_699 rfl hl.1 ⟨by decide, by decide⟩ (Nat.le_of_ble_eq_true rfl) dX5_reportArgument_2 ⟨by decide, by decide⟩) (by decide) (by decide) (fun r1 S2 H locs h hW => ?_)
  refine lv_istore_n (lv' := [(2, .int r1), (0, .ref o), (1, .int a1)]) hx hb dX5_reportArgument_5 rfl hl (by decide) rfl (fun ls hl => ?_)
  refine lv_iload_n hx hb dX5_reportArgument_6 rfl (lv_at hl 0 rfl) ?_
  refine lv_if_ge (tgt := 14) hx hb dX5_reportArgument_7 (by decide) (fun c4 => ?_) (fun c4 => ?_)
  · have h := h.1 c4
    refine lv_aload_n hx hb dX5_reportArgument_14 rfl (lv_at hl 1 rfl) ?_
    obtain ⟨g5, h⟩ := h
    obtain ⟨q6, p7, h⟩ := h
    refine kp_getp F hW g5 cbX5 25 rfl tw_507 (fun _ h9 => h9) dX5_reportArgument_15 p7 ?_
    refine lv_iload_n hx hb dX5_reportArgument_18 rfl (lv_at hl 2 rfl) ?_
    refine lv_bipush (v := 40) hx hb dX5_reportArgument_19 (by decide) ?_
    refine lv_irem hx hb dX5_reportArgument_21 (by decide) ?_
    obtain ⟨g8, h⟩ := h
    obtain ⟨b9, h⟩ := h
    refine kp_iald F hW g8 b9 dX5_reportArgument_22 ?_
    exact kp_reti F hW hr h (by decide) (by decide) dX5_reportArgument_23
  · have h := h.2 c4
    refine lv_iload_n hx hb dX5_reportArgument_10 rfl (lv_at hl 0 rfl) ?_
    refine lv_goto (tgt := 23) hx hb dX5_reportArgument_11 (by decide) ?_
    exact kp_reti F hW hr h (by decide) (by decide) dX5_reportArgument_23
