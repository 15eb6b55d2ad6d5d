/-! WHAT EACH WRITE DOES to the abstract state that the class holds -/
section RU
variable {e0 : Nat} {c la : Nat → Nat} {A : aS} {S : pS}
theorem RepX.addB (h : RepX e0 c la A S) (x : Nat) : RepX e0 c la ((A.setW 11 (A.s 10) x).setS 10 (A.s 10 + 1)) ((S.setI (c 1) (A.s 10) (nI x)).setI (c 0) 1 (nI (A.s 10 + 1))) := by
  refine h.ints rfl rfl rfl rfl (fun a ha => (hI1 (by decide) a ha).trans (hI1 (by decide) a ha)) (fun i hi k h0 => ?_) rfl (setW_wn (by decide)) (setW_wn (by decide)) (setW_wn (by decide)) (setW_wn (by decide)) (setW_wn (by decide)) (setW_wn (by decide)) rfl
  rw [cI_c h.1 (by decide) hi, cI_c h.1 (by decide) hi]
  by_cases q1 : i = 1
  · subst q1
    intro hk
    have hk : k < A.s 10 + 1 := hk
    rw [if_neg (fun z => absurd z.1 (by decide))]
    by_cases q : k = A.s 10
    · rw [if_pos ⟨rfl, q⟩, show ((A.setW 11 (A.s 10) x).setS 10 (A.s 10 + 1)).w 11 k = x from (aS.w_setW _ _ _ _ _ _).trans (if_pos ⟨rfl, q⟩)]
    · rw [if_neg (fun z => q z.2), show ((A.setW 11 (A.s 10) x).setS 10 (A.s 10 + 1)).w 11 k = A.w 11 k from (aS.w_setW _ _ _ _ _ _).trans (if_neg (fun z => q z.2))]
      exact h0 (by omega)
  by_cases q0 : i = 0
  · subst q0
    intro hk
    rw [if_pos ⟨rfl, hk⟩]
    rfl
  rw [if_neg (fun z => q0 z.1), if_neg (fun z => q1 z.1)]
  revert h0; unfold XR; split <;> intro h0 <;> first | exact h0 | exact absurd rfl q1 | exact absurd rfl q0

theorem RepX.addP (h : RepX e0 c la A S) (x : Nat) : RepX e0 c la ((A.setW 13 (A.s 12) x).setS 12 (A.s 12 + 1)) ((S.setI (c 3) (A.s 12) (nI x)).setI (c 2) 1 (nI (A.s 12 + 1))) := by
  refine h.ints rfl rfl rfl rfl (fun a ha => (hI1 (by decide) a ha).trans (hI1 (by decide) a ha)) (fun i hi k h0 => ?_) rfl (setW_wn (by decide)) (setW_wn (by decide)) (setW_wn (by decide)) (setW_wn (by decide)) (setW_wn (by decide)) (setW_wn (by decide)) rfl
  rw [cI_c h.1 (by decide) hi, cI_c h.1 (by decide) hi]
  by_cases q3 : i = 3
  · subst q3
    intro hk
    have hk : k < A.s 12 + 1 := hk
    rw [if_neg (fun z => absurd z.1 (by decide))]
    by_cases q : k = A.s 12
    · rw [if_pos ⟨rfl, q⟩, show ((A.setW 13 (A.s 12) x).setS 12 (A.s 12 + 1)).w 13 k = x from (aS.w_setW _ _ _ _ _ _).trans (if_pos ⟨rfl, q⟩)]
    · rw [if_neg (fun z => q z.2), show ((A.setW 13 (A.s 12) x).setS 12 (A.s 12 + 1)).w 13 k = A.w 13 k from (aS.w_setW _ _ _ _ _ _).trans (if_neg (fun z => q z.2))]
      exact h0 (by omega)
  by_cases q2 : i = 2
  · subst q2
    intro hk
    rw [if_pos ⟨rfl, hk⟩]
    rfl
  rw [if_neg (fun z => q2 z.1), if_neg (fun z => q3 z.1)]
  revert h0; unfold XR; split <;> intro h0 <;> first | exact h0 | exact absurd rfl q3 | exact absurd rfl q2

theorem RepX.addW (h : RepX e0 c la A S) (x : Nat) : RepX e0 c la ((A.setW 17 (A.s 16) x).setS 16 (A.s 16 + 1)) ((S.setI (c 5) (A.s 16) (enc x)).setI (c 4) 1 (nI (A.s 16 + 1))) := by
  refine h.ints rfl rfl rfl rfl (fun a ha => (hI1 (by decide) a ha).trans (hI1 (by decide) a ha)) (fun i hi k h0 => ?_) rfl (setW_wn (by decide)) (setW_wn (by decide)) (setW_wn (by decide)) (setW_wn (by decide)) (setW_wn (by decide)) (setW_wn (by decide)) rfl
  rw [cI_c h.1 (by decide) hi, cI_c h.1 (by decide) hi]
  by_cases q5 : i = 5
  · subst q5
    intro hk
    have hk : k < A.s 16 + 1 := hk
    rw [if_neg (fun z => absurd z.1 (by decide))]
    by_cases q : k = A.s 16
    · rw [if_pos ⟨rfl, q⟩, show ((A.setW 17 (A.s 16) x).setS 16 (A.s 16 + 1)).w 17 k = x from (aS.w_setW _ _ _ _ _ _).trans (if_pos ⟨rfl, q⟩)]
    · rw [if_neg (fun z => q z.2), show ((A.setW 17 (A.s 16) x).setS 16 (A.s 16 + 1)).w 17 k = A.w 17 k from (aS.w_setW _ _ _ _ _ _).trans (if_neg (fun z => q z.2))]
      exact h0 (by omega)
  by_cases q4 : i = 4
  · subst q4
    intro hk
    rw [if_pos ⟨rfl, hk⟩]
    rfl
  rw [if_neg (fun z => q4 z.1), if_neg (fun z => q5 z.1)]
  revert h0; unfold XR; split <;> intro h0 <;> first | exact h0 | exact absurd rfl q5 | exact absurd rfl q4

theorem RepX.clrB (h : RepX e0 c la A S)  : RepX e0 c la (A.setS 10 0) (S.setI (c 0) 1 (0)) := by
  refine h.ints rfl rfl rfl rfl (fun a ha => hI1 (by decide) a ha) (fun i hi k h0 => ?_) rfl rfl rfl rfl rfl rfl rfl rfl
  rw [cI_c h.1 (by decide) hi]
  by_cases q0 : i = 0
  · subst q0
    intro hk
    rw [if_pos ⟨rfl, hk⟩]
    rfl
  rw [if_neg (fun z => q0 z.1)]
  by_cases q1 : i = 1
  · subst q1
    intro hk
    exact h0 (Nat.lt_of_lt_of_le hk (Nat.zero_le _))
  revert h0; unfold XR; split <;> intro h0 <;> first | exact h0 | exact absurd rfl q0 | exact absurd rfl q1

theorem RepX.clrP (h : RepX e0 c la A S)  : RepX e0 c la (A.setS 12 0) (S.setI (c 2) 1 (0)) := by
  refine h.ints rfl rfl rfl rfl (fun a ha => hI1 (by decide) a ha) (fun i hi k h0 => ?_) rfl rfl rfl rfl rfl rfl rfl rfl
  rw [cI_c h.1 (by decide) hi]
  by_cases q2 : i = 2
  · subst q2
    intro hk
    rw [if_pos ⟨rfl, hk⟩]
    rfl
  rw [if_neg (fun z => q2 z.1)]
  by_cases q3 : i = 3
  · subst q3
    intro hk
    exact h0 (Nat.lt_of_lt_of_le hk (Nat.zero_le _))
  revert h0; unfold XR; split <;> intro h0 <;> first | exact h0 | exact absurd rfl q2 | exact absurd rfl q3

theorem RepX.popW (h : RepX e0 c la A S)  : RepX e0 c la (A.setS 16 (A.s 16 - 1)) (S.setI (c 4) 1 (nI (A.s 16 - 1))) := by
  refine h.ints rfl rfl rfl rfl (fun a ha => hI1 (by decide) a ha) (fun i hi k h0 => ?_) rfl rfl rfl rfl rfl rfl rfl rfl
  rw [cI_c h.1 (by decide) hi]
  by_cases q4 : i = 4
  · subst q4
    intro hk
    rw [if_pos ⟨rfl, hk⟩]
    rfl
  rw [if_neg (fun z => q4 z.1)]
  by_cases q5 : i = 5
  · subst q5
    intro hk
    exact h0 (Nat.lt_of_lt_of_le hk (Nat.sub_le _ _))
  revert h0; unfold XR; split <;> intro h0 <;> first | exact h0 | exact absurd rfl q4 | exact absurd rfl q5

theorem RepX.setT (h : RepX e0 c la A S) (x : Nat) : RepX e0 c la (A.setS 14 x) (S.setI (c 32) 8 (nI x)) := by
  refine h.ints rfl rfl rfl rfl (fun a ha => hI1 (by decide) a ha) (fun i hi k h0 => ?_) rfl rfl rfl rfl rfl rfl rfl rfl
  rw [cI_c h.1 (by decide) hi]
  by_cases q32 : i = 32
  · subst q32
    obtain ⟨u8, u9, u10, u11, u12⟩ := h0
    refine ⟨fun hk => ?_, fun hk => ?_, fun hk => ?_, fun hk => ?_, fun hk => ?_⟩
    · rw [if_pos ⟨rfl, hk⟩]; rfl
    · rw [if_neg (fun z => by have := z.2; omega)]; exact u9 hk
    · rw [if_neg (fun z => by have := z.2; omega)]; exact u10 hk
    · rw [if_neg (fun z => by have := z.2; omega)]; exact u11 hk
    · rw [if_neg (fun z => by have := z.2; omega)]; exact u12 hk
  rw [if_neg (fun z => q32 z.1)]
  revert h0; unfold XR; split <;> intro h0 <;> first | exact h0 | exact absurd rfl q32

theorem RepX.setL (h : RepX e0 c la A S) (x : Nat) : RepX e0 c la (A.setS 15 x) (S.setI (c 32) 9 (nI x)) := by
  refine h.ints rfl rfl rfl rfl (fun a ha => hI1 (by decide) a ha) (fun i hi k h0 => ?_) rfl rfl rfl rfl rfl rfl rfl rfl
  rw [cI_c h.1 (by decide) hi]
  by_cases q32 : i = 32
  · subst q32
    obtain ⟨u8, u9, u10, u11, u12⟩ := h0
    refine ⟨fun hk => ?_, fun hk => ?_, fun hk => ?_, fun hk => ?_, fun hk => ?_⟩
    · rw [if_neg (fun z => by have := z.2; omega)]; exact u8 hk
    · rw [if_pos ⟨rfl, hk⟩]; rfl
    · rw [if_neg (fun z => by have := z.2; omega)]; exact u10 hk
    · rw [if_neg (fun z => by have := z.2; omega)]; exact u11 hk
    · rw [if_neg (fun z => by have := z.2; omega)]; exact u12 hk
  rw [if_neg (fun z => q32 z.1)]
  revert h0; unfold XR; split <;> intro h0 <;> first | exact h0 | exact absurd rfl q32

theorem RepX.setR (h : RepX e0 c la A S) (x : Nat) : RepX e0 c la (A.setS 20 x) (S.setI (c 32) 10 (recX x)) := by
  refine h.ints rfl rfl rfl rfl (fun a ha => hI1 (by decide) a ha) (fun i hi k h0 => ?_) rfl rfl rfl rfl rfl rfl rfl rfl
  rw [cI_c h.1 (by decide) hi]
  by_cases q32 : i = 32
  · subst q32
    obtain ⟨u8, u9, u10, u11, u12⟩ := h0
    refine ⟨fun hk => ?_, fun hk => ?_, fun hk => ?_, fun hk => ?_, fun hk => ?_⟩
    · rw [if_neg (fun z => by have := z.2; omega)]; exact u8 hk
    · rw [if_neg (fun z => by have := z.2; omega)]; exact u9 hk
    · rw [if_pos ⟨rfl, hk⟩]; rfl
    · rw [if_neg (fun z => by have := z.2; omega)]; exact u11 hk
    · rw [if_neg (fun z => by have := z.2; omega)]; exact u12 hk
  rw [if_neg (fun z => q32 z.1)]
  revert h0; unfold XR; split <;> intro h0 <;> first | exact h0 | exact absurd rfl q32

theorem RepX.setG (h : RepX e0 c la A S) (x : Nat) : RepX e0 c la (A.setS 18 x) (S.setI (c 32) 11 (nI x)) := by
  refine h.ints rfl rfl rfl rfl (fun a ha => hI1 (by decide) a ha) (fun i hi k h0 => ?_) rfl rfl rfl rfl rfl rfl rfl rfl
  rw [cI_c h.1 (by decide) hi]
  by_cases q32 : i = 32
  · subst q32
    obtain ⟨u8, u9, u10, u11, u12⟩ := h0
    refine ⟨fun hk => ?_, fun hk => ?_, fun hk => ?_, fun hk => ?_, fun hk => ?_⟩
    · rw [if_neg (fun z => by have := z.2; omega)]; exact u8 hk
    · rw [if_neg (fun z => by have := z.2; omega)]; exact u9 hk
    · rw [if_neg (fun z => by have := z.2; omega)]; exact u10 hk
    · rw [if_pos ⟨rfl, hk⟩]; rfl
    · rw [if_neg (fun z => by have := z.2; omega)]; exact u12 hk
  rw [if_neg (fun z => q32 z.1)]
  revert h0; unfold XR; split <;> intro h0 <;> first | exact h0 | exact absurd rfl q32

theorem RepX.setD (h : RepX e0 c la A S) (x : Nat) : RepX e0 c la (A.setS 19 x) (S.setI (c 32) 12 (nI x)) := by
  refine h.ints rfl rfl rfl rfl (fun a ha => hI1 (by decide) a ha) (fun i hi k h0 => ?_) rfl rfl rfl rfl rfl rfl rfl rfl
  rw [cI_c h.1 (by decide) hi]
  by_cases q32 : i = 32
  · subst q32
    obtain ⟨u8, u9, u10, u11, u12⟩ := h0
    refine ⟨fun hk => ?_, fun hk => ?_, fun hk => ?_, fun hk => ?_, fun hk => ?_⟩
    · rw [if_neg (fun z => by have := z.2; omega)]; exact u8 hk
    · rw [if_neg (fun z => by have := z.2; omega)]; exact u9 hk
    · rw [if_neg (fun z => by have := z.2; omega)]; exact u10 hk
    · rw [if_neg (fun z => by have := z.2; omega)]; exact u11 hk
    · rw [if_pos ⟨rfl, hk⟩]; rfl
  rw [if_neg (fun z => q32 z.1)]
  revert h0; unfold XR; split <;> intro h0 <;> first | exact h0 | exact absurd rfl q32

theorem RepX.flg (h : RepX e0 c la A S) (f x : Nat) : RepX e0 c la (A.setW 0 f x) (S.setI (c 28) f (nI x)) := by
  refine h.ints rfl rfl rfl rfl (fun a ha => hI1 (by decide) a ha) (fun i hi k h0 => ?_) rfl (setW_wn (by decide)) (setW_wn (by decide)) (setW_wn (by decide)) (setW_wn (by decide)) (setW_wn (by decide)) (setW_wn (by decide)) rfl
  rw [cI_c h.1 (by decide) hi]
  by_cases q28 : i = 28
  · subst q28
    intro hk
    by_cases q : k = f
    · rw [if_pos ⟨rfl, q⟩, aS.w_setW, if_pos ⟨rfl, q⟩]
    · rw [if_neg (fun z => q z.2), aS.w_setW, if_neg (fun z => q z.2)]
      exact h0 hk
  rw [if_neg (fun z => q28 z.1)]
  revert h0; unfold XR; split <;> intro h0 <;> first | exact h0 | exact absurd rfl q28

theorem RepX.say (h : RepX e0 c la A S) (kd ar : Nat) : RepX e0 c la (says A kd ar) (((S.setI (c 30) (A.s 23 % 40) (nI kd)).setI (c 31) (A.s 23 % 40) (nI ar)).setI (c 29) 2 (nI (A.s 23 + 1))) := by
  refine h.ints rfl rfl rfl rfl (fun a ha => ((hI1 (by decide) a ha).trans (hI1 (by decide) a ha)).trans (hI1 (by decide) a ha)) (fun i hi k h0 => ?_) rfl (says_w (by decide) (by decide)) (says_w (by decide) (by decide)) (says_w (by decide) (by decide)) (says_w (by decide) (by decide)) (says_w (by decide) (by decide)) (says_w (by decide) (by decide)) rfl
  rw [cI_c h.1 (by decide) hi, cI_c h.1 (by decide) hi, cI_c h.1 (by decide) hi]
  by_cases q29 : i = 29
  · subst q29
    intro hk
    rw [if_pos ⟨rfl, hk⟩]
    rfl
  by_cases q31 : i = 31
  · subst q31
    intro hk
    show (if 31 = 29 ∧ k = 2 then _ else if 31 = 31 ∧ k = A.s 23 % 40 then nI ar else if 31 = 30 ∧ k = A.s 23 % 40 then nI kd else S.I (c 31) k) = nI (((A.setW 24 (A.s 23 % 40) kd).setW 25 (A.s 23 % 40) ar).w 25 k)
    rw [if_neg (fun z => absurd z.1 (by decide)), aS.w_setW]
    by_cases q : k = A.s 23 % 40
    · rw [if_pos ⟨rfl, q⟩, if_pos ⟨rfl, q⟩]
    · rw [if_neg (fun z => q z.2), if_neg (fun z => q z.2), if_neg (fun z => q z.2), setW_wn (by decide)]
      exact h0 hk
  by_cases q30 : i = 30
  · subst q30
    intro hk
    show (if 30 = 29 ∧ k = 2 then _ else if 30 = 31 ∧ k = A.s 23 % 40 then nI ar else if 30 = 30 ∧ k = A.s 23 % 40 then nI kd else S.I (c 30) k) = nI (((A.setW 24 (A.s 23 % 40) kd).setW 25 (A.s 23 % 40) ar).w 24 k)
    rw [if_neg (fun z => absurd z.1 (by decide)), if_neg (fun z => absurd z.1 (by decide)), setW_wn (by decide), aS.w_setW]
    by_cases q : k = A.s 23 % 40
    · rw [if_pos ⟨rfl, q⟩, if_pos ⟨rfl, q⟩]
    · rw [if_neg (fun z => q z.2), if_neg (fun z => q z.2)]
      exact h0 hk
  rw [if_neg (fun z => q29 z.1), if_neg (fun z => q31 z.1), if_neg (fun z => q30 z.1)]
  revert h0; unfold XR; split <;> intro h0 <;> first | exact h0 | exact absurd rfl q29 | exact absurd rfl q30 | exact absurd rfl q31

theorem RepX.addM0 (h : RepX e0 c la A S) (x : Nat) (h12 : ∀ m, m < 4 → A.w 21 m ≤ 12) (hlt : A.w 21 0 < 12) : RepX e0 c la ((A.setW 22 (12 * 0 + A.w 21 0) x).setW 21 0 (A.w 21 0 + 1)) ((S.setI (c 9) (A.w 21 0) (nI x)).setI (c 8) 1 (nI (A.w 21 0 + 1))) := by
  have e21 : ∀ j, j ≠ 0 → ((A.setW 22 (12 * 0 + A.w 21 0) x).setW 21 0 (A.w 21 0 + 1)).w 21 j = A.w 21 j := fun j hj => by rw [aS.w_setW, if_neg (fun z => hj z.2), setW_wn (by decide)]
  have e21m : ((A.setW 22 (12 * 0 + A.w 21 0) x).setW 21 0 (A.w 21 0 + 1)).w 21 0 = A.w 21 0 + 1 := by rw [aS.w_setW, if_pos ⟨rfl, rfl⟩]
  have e22 : ∀ j, j ≠ 12 * 0 + A.w 21 0 → ((A.setW 22 (12 * 0 + A.w 21 0) x).setW 21 0 (A.w 21 0 + 1)).w 22 j = A.w 22 j := fun j hj => by rw [setW_wn (by decide), aS.w_setW, if_neg (fun z => hj z.2)]
  have e22m : ((A.setW 22 (12 * 0 + A.w 21 0) x).setW 21 0 (A.w 21 0 + 1)).w 22 (12 * 0 + A.w 21 0) = x := by rw [setW_wn (by decide), aS.w_setW, if_pos ⟨rfl, rfl⟩]
  refine h.ints rfl rfl rfl rfl (fun a ha => (hI1 (by decide) a ha).trans (hI1 (by decide) a ha)) (fun i hi k h0 => ?_) rfl ((setW_wn (by decide)).trans (setW_wn (by decide))) ((setW_wn (by decide)).trans (setW_wn (by decide))) ((setW_wn (by decide)).trans (setW_wn (by decide))) ((setW_wn (by decide)).trans (setW_wn (by decide))) ((setW_wn (by decide)).trans (setW_wn (by decide))) ((setW_wn (by decide)).trans (setW_wn (by decide))) rfl
  rw [cI_c h.1 (by decide) hi, cI_c h.1 (by decide) hi]
  by_cases q8 : i = 8
  · subst q8
    intro hk
    rw [if_pos ⟨rfl, hk⟩, e21m]
  by_cases q9 : i = 9
  · subst q9
    intro hk
    rw [e21m] at hk
    rw [if_neg (fun z => absurd z.1 (by decide))]
    by_cases q : k = A.w 21 0
    · rw [if_pos ⟨rfl, q⟩, q, e22m]
    · rw [if_neg (fun z => q z.2), e22 _ (by omega)]
      exact h0 (by omega)
  rw [if_neg (fun z => q8 z.1), if_neg (fun z => q9 z.1)]
  by_cases q10 : i = 10
  · subst q10
    intro hk
    rw [e21 1 (by decide)]
    exact h0 hk
  by_cases q11 : i = 11
  · subst q11
    intro hk
    rw [e21 1 (by decide)] at hk
    have := h12 1 (by decide)
    rw [e22 _ (by omega)]
    exact h0 hk
  by_cases q12 : i = 12
  · subst q12
    intro hk
    rw [e21 2 (by decide)]
    exact h0 hk
  by_cases q13 : i = 13
  · subst q13
    intro hk
    rw [e21 2 (by decide)] at hk
    have := h12 2 (by decide)
    rw [e22 _ (by omega)]
    exact h0 hk
  by_cases q14 : i = 14
  · subst q14
    intro hk
    rw [e21 3 (by decide)]
    exact h0 hk
  by_cases q15 : i = 15
  · subst q15
    intro hk
    rw [e21 3 (by decide)] at hk
    have := h12 3 (by decide)
    rw [e22 _ (by omega)]
    exact h0 hk
  revert h0; unfold XR; split <;> intro h0 <;> first | exact h0 | exact absurd rfl q8 | exact absurd rfl q9 | exact absurd rfl q10 | exact absurd rfl q11 | exact absurd rfl q12 | exact absurd rfl q13 | exact absurd rfl q14 | exact absurd rfl q15

theorem RepX.clrM0 (h : RepX e0 c la A S) : RepX e0 c la (A.setW 21 0 0) (S.setI (c 8) 1 0) := by
  have e21 : ∀ j, j ≠ 0 → (A.setW 21 0 0).w 21 j = A.w 21 j := fun j hj => by rw [aS.w_setW, if_neg (fun z => hj z.2)]
  have e21m : (A.setW 21 0 0).w 21 0 = 0 := by rw [aS.w_setW, if_pos ⟨rfl, rfl⟩]
  refine h.ints rfl rfl rfl rfl (fun a ha => hI1 (by decide) a ha) (fun i hi k h0 => ?_) rfl (setW_wn (by decide)) (setW_wn (by decide)) (setW_wn (by decide)) (setW_wn (by decide)) (setW_wn (by decide)) (setW_wn (by decide)) rfl
  rw [cI_c h.1 (by decide) hi]
  by_cases q8 : i = 8
  · subst q8
    intro hk
    rw [if_pos ⟨rfl, hk⟩, e21m]
    rfl
  rw [if_neg (fun z => q8 z.1)]
  by_cases q9 : i = 9
  · subst q9
    intro hk
    rw [e21m] at hk
    exact absurd hk (Nat.not_lt_zero _)
  by_cases q10 : i = 10
  · subst q10
    intro hk
    rw [e21 1 (by decide)]
    exact h0 hk
  by_cases q11 : i = 11
  · subst q11
    intro hk
    rw [e21 1 (by decide)] at hk
    rw [setW_wn (by decide)]
    exact h0 hk
  by_cases q12 : i = 12
  · subst q12
    intro hk
    rw [e21 2 (by decide)]
    exact h0 hk
  by_cases q13 : i = 13
  · subst q13
    intro hk
    rw [e21 2 (by decide)] at hk
    rw [setW_wn (by decide)]
    exact h0 hk
  by_cases q14 : i = 14
  · subst q14
    intro hk
    rw [e21 3 (by decide)]
    exact h0 hk
  by_cases q15 : i = 15
  · subst q15
    intro hk
    rw [e21 3 (by decide)] at hk
    rw [setW_wn (by decide)]
    exact h0 hk
  revert h0; unfold XR; split <;> intro h0 <;> first | exact h0 | exact absurd rfl q8 | exact absurd rfl q9 | exact absurd rfl q10 | exact absurd rfl q11 | exact absurd rfl q12 | exact absurd rfl q13 | exact absurd rfl q14 | exact absurd rfl q15

theorem RepX.addM1 (h : RepX e0 c la A S) (x : Nat) (h12 : ∀ m, m < 4 → A.w 21 m ≤ 12) (hlt : A.w 21 1 < 12) : RepX e0 c la ((A.setW 22 (12 * 1 + A.w 21 1) x).setW 21 1 (A.w 21 1 + 1)) ((S.setI (c 11) (A.w 21 1) (nI x)).setI (c 10) 1 (nI (A.w 21 1 + 1))) := by
  have e21 : ∀ j, j ≠ 1 → ((A.setW 22 (12 * 1 + A.w 21 1) x).setW 21 1 (A.w 21 1 + 1)).w 21 j = A.w 21 j := fun j hj => by rw [aS.w_setW, if_neg (fun z => hj z.2), setW_wn (by decide)]
  have e21m : ((A.setW 22 (12 * 1 + A.w 21 1) x).setW 21 1 (A.w 21 1 + 1)).w 21 1 = A.w 21 1 + 1 := by rw [aS.w_setW, if_pos ⟨rfl, rfl⟩]
  have e22 : ∀ j, j ≠ 12 * 1 + A.w 21 1 → ((A.setW 22 (12 * 1 + A.w 21 1) x).setW 21 1 (A.w 21 1 + 1)).w 22 j = A.w 22 j := fun j hj => by rw [setW_wn (by decide), aS.w_setW, if_neg (fun z => hj z.2)]
  have e22m : ((A.setW 22 (12 * 1 + A.w 21 1) x).setW 21 1 (A.w 21 1 + 1)).w 22 (12 * 1 + A.w 21 1) = x := by rw [setW_wn (by decide), aS.w_setW, if_pos ⟨rfl, rfl⟩]
  refine h.ints rfl rfl rfl rfl (fun a ha => (hI1 (by decide) a ha).trans (hI1 (by decide) a ha)) (fun i hi k h0 => ?_) rfl ((setW_wn (by decide)).trans (setW_wn (by decide))) ((setW_wn (by decide)).trans (setW_wn (by decide))) ((setW_wn (by decide)).trans (setW_wn (by decide))) ((setW_wn (by decide)).trans (setW_wn (by decide))) ((setW_wn (by decide)).trans (setW_wn (by decide))) ((setW_wn (by decide)).trans (setW_wn (by decide))) rfl
  rw [cI_c h.1 (by decide) hi, cI_c h.1 (by decide) hi]
  by_cases q10 : i = 10
  · subst q10
    intro hk
    rw [if_pos ⟨rfl, hk⟩, e21m]
  by_cases q11 : i = 11
  · subst q11
    intro hk
    rw [e21m] at hk
    rw [if_neg (fun z => absurd z.1 (by decide))]
    by_cases q : k = A.w 21 1
    · rw [if_pos ⟨rfl, q⟩, q, e22m]
    · rw [if_neg (fun z => q z.2), e22 _ (by omega)]
      exact h0 (by omega)
  rw [if_neg (fun z => q10 z.1), if_neg (fun z => q11 z.1)]
  by_cases q8 : i = 8
  · subst q8
    intro hk
    rw [e21 0 (by decide)]
    exact h0 hk
  by_cases q9 : i = 9
  · subst q9
    intro hk
    rw [e21 0 (by decide)] at hk
    have := h12 0 (by decide)
    rw [e22 _ (by omega)]
    exact h0 hk
  by_cases q12 : i = 12
  · subst q12
    intro hk
    rw [e21 2 (by decide)]
    exact h0 hk
  by_cases q13 : i = 13
  · subst q13
    intro hk
    rw [e21 2 (by decide)] at hk
    have := h12 2 (by decide)
    rw [e22 _ (by omega)]
    exact h0 hk
  by_cases q14 : i = 14
  · subst q14
    intro hk
    rw [e21 3 (by decide)]
    exact h0 hk
  by_cases q15 : i = 15
  · subst q15
    intro hk
    rw [e21 3 (by decide)] at hk
    have := h12 3 (by decide)
    rw [e22 _ (by omega)]
    exact h0 hk
  revert h0; unfold XR; split <;> intro h0 <;> first | exact h0 | exact absurd rfl q8 | exact absurd rfl q9 | exact absurd rfl q10 | exact absurd rfl q11 | exact absurd rfl q12 | exact absurd rfl q13 | exact absurd rfl q14 | exact absurd rfl q15

theorem RepX.clrM1 (h : RepX e0 c la A S) : RepX e0 c la (A.setW 21 1 0) (S.setI (c 10) 1 0) := by
  have e21 : ∀ j, j ≠ 1 → (A.setW 21 1 0).w 21 j = A.w 21 j := fun j hj => by rw [aS.w_setW, if_neg (fun z => hj z.2)]
  have e21m : (A.setW 21 1 0).w 21 1 = 0 := by rw [aS.w_setW, if_pos ⟨rfl, rfl⟩]
  refine h.ints rfl rfl rfl rfl (fun a ha => hI1 (by decide) a ha) (fun i hi k h0 => ?_) rfl (setW_wn (by decide)) (setW_wn (by decide)) (setW_wn (by decide)) (setW_wn (by decide)) (setW_wn (by decide)) (setW_wn (by decide)) rfl
  rw [cI_c h.1 (by decide) hi]
  by_cases q10 : i = 10
  · subst q10
    intro hk
    rw [if_pos ⟨rfl, hk⟩, e21m]
    rfl
  rw [if_neg (fun z => q10 z.1)]
  by_cases q11 : i = 11
  · subst q11
    intro hk
    rw [e21m] at hk
    exact absurd hk (Nat.not_lt_zero _)
  by_cases q8 : i = 8
  · subst q8
    intro hk
    rw [e21 0 (by decide)]
    exact h0 hk
  by_cases q9 : i = 9
  · subst q9
    intro hk
    rw [e21 0 (by decide)] at hk
    rw [setW_wn (by decide)]
    exact h0 hk
  by_cases q12 : i = 12
  · subst q12
    intro hk
    rw [e21 2 (by decide)]
    exact h0 hk
  by_cases q13 : i = 13
  · subst q13
    intro hk
    rw [e21 2 (by decide)] at hk
    rw [setW_wn (by decide)]
    exact h0 hk
  by_cases q14 : i = 14
  · subst q14
    intro hk
    rw [e21 3 (by decide)]
    exact h0 hk
  by_cases q15 : i = 15
  · subst q15
    intro hk
    rw [e21 3 (by decide)] at hk
    rw [setW_wn (by decide)]
    exact h0 hk
  revert h0; unfold XR; split <;> intro h0 <;> first | exact h0 | exact absurd rfl q8 | exact absurd rfl q9 | exact absurd rfl q10 | exact absurd rfl q11 | exact absurd rfl q12 | exact absurd rfl q13 | exact absurd rfl q14 | exact absurd rfl q15

theorem RepX.addM2 (h : RepX e0 c la A S) (x : Nat) (h12 : ∀ m, m < 4 → A.w 21 m ≤ 12) (hlt : A.w 21 2 < 12) : RepX e0 c la ((A.setW 22 (12 * 2 + A.w 21 2) x).setW 21 2 (A.w 21 2 + 1)) ((S.setI (c 13) (A.w 21 2) (nI x)).setI (c 12) 1 (nI (A.w 21 2 + 1))) := by
  have e21 : ∀ j, j ≠ 2 → ((A.setW 22 (12 * 2 + A.w 21 2) x).setW 21 2 (A.w 21 2 + 1)).w 21 j = A.w 21 j := fun j hj => by rw [aS.w_setW, if_neg (fun z => hj z.2), setW_wn (by decide)]
  have e21m : ((A.setW 22 (12 * 2 + A.w 21 2) x).setW 21 2 (A.w 21 2 + 1)).w 21 2 = A.w 21 2 + 1 := by rw [aS.w_setW, if_pos ⟨rfl, rfl⟩]
  have e22 : ∀ j, j ≠ 12 * 2 + A.w 21 2 → ((A.setW 22 (12 * 2 + A.w 21 2) x).setW 21 2 (A.w 21 2 + 1)).w 22 j = A.w 22 j := fun j hj => by rw [setW_wn (by decide), aS.w_setW, if_neg (fun z => hj z.2)]
  have e22m : ((A.setW 22 (12 * 2 + A.w 21 2) x).setW 21 2 (A.w 21 2 + 1)).w 22 (12 * 2 + A.w 21 2) = x := by rw [setW_wn (by decide), aS.w_setW, if_pos ⟨rfl, rfl⟩]
  refine h.ints rfl rfl rfl rfl (fun a ha => (hI1 (by decide) a ha).trans (hI1 (by decide) a ha)) (fun i hi k h0 => ?_) rfl ((setW_wn (by decide)).trans (setW_wn (by decide))) ((setW_wn (by decide)).trans (setW_wn (by decide))) ((setW_wn (by decide)).trans (setW_wn (by decide))) ((setW_wn (by decide)).trans (setW_wn (by decide))) ((setW_wn (by decide)).trans (setW_wn (by decide))) ((setW_wn (by decide)).trans (setW_wn (by decide))) rfl
  rw [cI_c h.1 (by decide) hi, cI_c h.1 (by decide) hi]
  by_cases q12 : i = 12
  · subst q12
    intro hk
    rw [if_pos ⟨rfl, hk⟩, e21m]
  by_cases q13 : i = 13
  · subst q13
    intro hk
    rw [e21m] at hk
    rw [if_neg (fun z => absurd z.1 (by decide))]
    by_cases q : k = A.w 21 2
    · rw [if_pos ⟨rfl, q⟩, q, e22m]
    · rw [if_neg (fun z => q z.2), e22 _ (by omega)]
      exact h0 (by omega)
  rw [if_neg (fun z => q12 z.1), if_neg (fun z => q13 z.1)]
  by_cases q8 : i = 8
  · subst q8
    intro hk
    rw [e21 0 (by decide)]
    exact h0 hk
  by_cases q9 : i = 9
  · subst q9
    intro hk
    rw [e21 0 (by decide)] at hk
    have := h12 0 (by decide)
    rw [e22 _ (by omega)]
    exact h0 hk
  by_cases q10 : i = 10
  · subst q10
    intro hk
    rw [e21 1 (by decide)]
    exact h0 hk
  by_cases q11 : i = 11
  · subst q11
    intro hk
    rw [e21 1 (by decide)] at hk
    have := h12 1 (by decide)
    rw [e22 _ (by omega)]
    exact h0 hk
  by_cases q14 : i = 14
  · subst q14
    intro hk
    rw [e21 3 (by decide)]
    exact h0 hk
  by_cases q15 : i = 15
  · subst q15
    intro hk
    rw [e21 3 (by decide)] at hk
    have := h12 3 (by decide)
    rw [e22 _ (by omega)]
    exact h0 hk
  revert h0; unfold XR; split <;> intro h0 <;> first | exact h0 | exact absurd rfl q8 | exact absurd rfl q9 | exact absurd rfl q10 | exact absurd rfl q11 | exact absurd rfl q12 | exact absurd rfl q13 | exact absurd rfl q14 | exact absurd rfl q15

theorem RepX.clrM2 (h : RepX e0 c la A S) : RepX e0 c la (A.setW 21 2 0) (S.setI (c 12) 1 0) := by
  have e21 : ∀ j, j ≠ 2 → (A.setW 21 2 0).w 21 j = A.w 21 j := fun j hj => by rw [aS.w_setW, if_neg (fun z => hj z.2)]
  have e21m : (A.setW 21 2 0).w 21 2 = 0 := by rw [aS.w_setW, if_pos ⟨rfl, rfl⟩]
  refine h.ints rfl rfl rfl rfl (fun a ha => hI1 (by decide) a ha) (fun i hi k h0 => ?_) rfl (setW_wn (by decide)) (setW_wn (by decide)) (setW_wn (by decide)) (setW_wn (by decide)) (setW_wn (by decide)) (setW_wn (by decide)) rfl
  rw [cI_c h.1 (by decide) hi]
  by_cases q12 : i = 12
  · subst q12
    intro hk
    rw [if_pos ⟨rfl, hk⟩, e21m]
    rfl
  rw [if_neg (fun z => q12 z.1)]
  by_cases q13 : i = 13
  · subst q13
    intro hk
    rw [e21m] at hk
    exact absurd hk (Nat.not_lt_zero _)
  by_cases q8 : i = 8
  · subst q8
    intro hk
    rw [e21 0 (by decide)]
    exact h0 hk
  by_cases q9 : i = 9
  · subst q9
    intro hk
    rw [e21 0 (by decide)] at hk
    rw [setW_wn (by decide)]
    exact h0 hk
  by_cases q10 : i = 10
  · subst q10
    intro hk
    rw [e21 1 (by decide)]
    exact h0 hk
  by_cases q11 : i = 11
  · subst q11
    intro hk
    rw [e21 1 (by decide)] at hk
    rw [setW_wn (by decide)]
    exact h0 hk
  by_cases q14 : i = 14
  · subst q14
    intro hk
    rw [e21 3 (by decide)]
    exact h0 hk
  by_cases q15 : i = 15
  · subst q15
    intro hk
    rw [e21 3 (by decide)] at hk
    rw [setW_wn (by decide)]
    exact h0 hk
  revert h0; unfold XR; split <;> intro h0 <;> first | exact h0 | exact absurd rfl q8 | exact absurd rfl q9 | exact absurd rfl q10 | exact absurd rfl q11 | exact absurd rfl q12 | exact absurd rfl q13 | exact absurd rfl q14 | exact absurd rfl q15

theorem RepX.addM3 (h : RepX e0 c la A S) (x : Nat) (h12 : ∀ m, m < 4 → A.w 21 m ≤ 12) (hlt : A.w 21 3 < 12) : RepX e0 c la ((A.setW 22 (12 * 3 + A.w 21 3) x).setW 21 3 (A.w 21 3 + 1)) ((S.setI (c 15) (A.w 21 3) (nI x)).setI (c 14) 1 (nI (A.w 21 3 + 1))) := by
  have e21 : ∀ j, j ≠ 3 → ((A.setW 22 (12 * 3 + A.w 21 3) x).setW 21 3 (A.w 21 3 + 1)).w 21 j = A.w 21 j := fun j hj => by rw [aS.w_setW, if_neg (fun z => hj z.2), setW_wn (by decide)]
  have e21m : ((A.setW 22 (12 * 3 + A.w 21 3) x).setW 21 3 (A.w 21 3 + 1)).w 21 3 = A.w 21 3 + 1 := by rw [aS.w_setW, if_pos ⟨rfl, rfl⟩]
  have e22 : ∀ j, j ≠ 12 * 3 + A.w 21 3 → ((A.setW 22 (12 * 3 + A.w 21 3) x).setW 21 3 (A.w 21 3 + 1)).w 22 j = A.w 22 j := fun j hj => by rw [setW_wn (by decide), aS.w_setW, if_neg (fun z => hj z.2)]
  have e22m : ((A.setW 22 (12 * 3 + A.w 21 3) x).setW 21 3 (A.w 21 3 + 1)).w 22 (12 * 3 + A.w 21 3) = x := by rw [setW_wn (by decide), aS.w_setW, if_pos ⟨rfl, rfl⟩]
  refine h.ints rfl rfl rfl rfl (fun a ha => (hI1 (by decide) a ha).trans (hI1 (by decide) a ha)) (fun i hi k h0 => ?_) rfl ((setW_wn (by decide)).trans (setW_wn (by decide))) ((setW_wn (by decide)).trans (setW_wn (by decide))) ((setW_wn (by decide)).trans (setW_wn (by decide))) ((setW_wn (by decide)).trans (setW_wn (by decide))) ((setW_wn (by decide)).trans (setW_wn (by decide))) ((setW_wn (by decide)).trans (setW_wn (by decide))) rfl
  rw [cI_c h.1 (by decide) hi, cI_c h.1 (by decide) hi]
  by_cases q14 : i = 14
  · subst q14
    intro hk
    rw [if_pos ⟨rfl, hk⟩, e21m]
  by_cases q15 : i = 15
  · subst q15
    intro hk
    rw [e21m] at hk
    rw [if_neg (fun z => absurd z.1 (by decide))]
    by_cases q : k = A.w 21 3
    · rw [if_pos ⟨rfl, q⟩, q, e22m]
    · rw [if_neg (fun z => q z.2), e22 _ (by omega)]
      exact h0 (by omega)
  rw [if_neg (fun z => q14 z.1), if_neg (fun z => q15 z.1)]
  by_cases q8 : i = 8
  · subst q8
    intro hk
    rw [e21 0 (by decide)]
    exact h0 hk
  by_cases q9 : i = 9
  · subst q9
    intro hk
    rw [e21 0 (by decide)] at hk
    have := h12 0 (by decide)
    rw [e22 _ (by omega)]
    exact h0 hk
  by_cases q10 : i = 10
  · subst q10
    intro hk
    rw [e21 1 (by decide)]
    exact h0 hk
  by_cases q11 : i = 11
  · subst q11
    intro hk
    rw [e21 1 (by decide)] at hk
    have := h12 1 (by decide)
    rw [e22 _ (by omega)]
    exact h0 hk
  by_cases q12 : i = 12
  · subst q12
    intro hk
    rw [e21 2 (by decide)]
    exact h0 hk
  by_cases q13 : i = 13
  · subst q13
    intro hk
    rw [e21 2 (by decide)] at hk
    have := h12 2 (by decide)
    rw [e22 _ (by omega)]
    exact h0 hk
  revert h0; unfold XR; split <;> intro h0 <;> first | exact h0 | exact absurd rfl q8 | exact absurd rfl q9 | exact absurd rfl q10 | exact absurd rfl q11 | exact absurd rfl q12 | exact absurd rfl q13 | exact absurd rfl q14 | exact absurd rfl q15

theorem RepX.clrM3 (h : RepX e0 c la A S) : RepX e0 c la (A.setW 21 3 0) (S.setI (c 14) 1 0) := by
  have e21 : ∀ j, j ≠ 3 → (A.setW 21 3 0).w 21 j = A.w 21 j := fun j hj => by rw [aS.w_setW, if_neg (fun z => hj z.2)]
  have e21m : (A.setW 21 3 0).w 21 3 = 0 := by rw [aS.w_setW, if_pos ⟨rfl, rfl⟩]
  refine h.ints rfl rfl rfl rfl (fun a ha => hI1 (by decide) a ha) (fun i hi k h0 => ?_) rfl (setW_wn (by decide)) (setW_wn (by decide)) (setW_wn (by decide)) (setW_wn (by decide)) (setW_wn (by decide)) (setW_wn (by decide)) rfl
  rw [cI_c h.1 (by decide) hi]
  by_cases q14 : i = 14
  · subst q14
    intro hk
    rw [if_pos ⟨rfl, hk⟩, e21m]
    rfl
  rw [if_neg (fun z => q14 z.1)]
  by_cases q15 : i = 15
  · subst q15
    intro hk
    rw [e21m] at hk
    exact absurd hk (Nat.not_lt_zero _)
  by_cases q8 : i = 8
  · subst q8
    intro hk
    rw [e21 0 (by decide)]
    exact h0 hk
  by_cases q9 : i = 9
  · subst q9
    intro hk
    rw [e21 0 (by decide)] at hk
    rw [setW_wn (by decide)]
    exact h0 hk
  by_cases q10 : i = 10
  · subst q10
    intro hk
    rw [e21 1 (by decide)]
    exact h0 hk
  by_cases q11 : i = 11
  · subst q11
    intro hk
    rw [e21 1 (by decide)] at hk
    rw [setW_wn (by decide)]
    exact h0 hk
  by_cases q12 : i = 12
  · subst q12
    intro hk
    rw [e21 2 (by decide)]
    exact h0 hk
  by_cases q13 : i = 13
  · subst q13
    intro hk
    rw [e21 2 (by decide)] at hk
    rw [setW_wn (by decide)]
    exact h0 hk
  revert h0; unfold XR; split <;> intro h0 <;> first | exact h0 | exact absurd rfl q8 | exact absurd rfl q9 | exact absurd rfl q10 | exact absurd rfl q11 | exact absurd rfl q12 | exact absurd rfl q13 | exact absurd rfl q14 | exact absurd rfl q15

theorem RepX.addM (h : RepX e0 c la A S) {m : Nat} (hm : m < 4) (x : Nat) (h12 : ∀ m, m < 4 → A.w 21 m ≤ 12) (hlt : A.w 21 m < 12) : RepX e0 c la ((A.setW 22 (12 * m + A.w 21 m) x).setW 21 m (A.w 21 m + 1)) ((S.setI (c (9 + 2 * m)) (A.w 21 m) (nI x)).setI (c (8 + 2 * m)) 1 (nI (A.w 21 m + 1))) := by
  rcases four hm with rfl | rfl | rfl | rfl
  · exact h.addM0 x h12 hlt
  · exact h.addM1 x h12 hlt
  · exact h.addM2 x h12 hlt
  · exact h.addM3 x h12 hlt
theorem RepX.clrM (h : RepX e0 c la A S) {m : Nat} (hm : m < 4) : RepX e0 c la (A.setW 21 m 0) (S.setI (c (8 + 2 * m)) 1 0) := by
  rcases four hm with rfl | rfl | rfl | rfl
  · exact h.clrM0
  · exact h.clrM1
  · exact h.clrM2
  · exact h.clrM3

theorem cp27 (k : Nat) : cp 27 k = none := rfl
theorem RepX.push (h : RepX e0 c la A S) {x : Nat} (hx : x < 4) (h4 : A.s 1 < 4) (y : Int32) : RepX e0 c la ((A.setW 2 (A.s 1) x).setS 1 (A.s 1 + 1)) (((S.setI (c 26) 0 y).setP (c 27) (A.s 1) (some (c (18 + x)))).setI (c 26) 2 (nI (A.s 1 + 1))) := by
  have h' := h
  obtain ⟨⟨s1, s2, s3, s4, s5⟩, hx0, d1, d2⟩ := h
  have hP : ∀ a k, a ≠ c 27 → (((S.setI (c 26) 0 y).setP (c 27) (A.s 1) (some (c (18 + x)))).setI (c 26) 2 (nI (A.s 1 + 1))).P a k = S.P a k := fun a k ha => P_ne (S := S.setI (c 26) 0 y) ha
  have hI : ∀ a, (∀ i, i < 33 → a ≠ c i) → (((S.setI (c 26) 0 y).setP (c 27) (A.s 1) (some (c (18 + x)))).setI (c 26) 2 (nI (A.s 1 + 1))).I a = S.I a := fun a ha => by
    funext k
    exact (I_ne (S := (S.setI (c 26) 0 y).setP (c 27) (A.s 1) (some (c (18 + x)))) (ha 26 (by decide))).trans (I_ne (S := S) (ha 26 (by decide)))
  refine ⟨⟨s1, s2, fun i k t hi e => ?_, s4, s5⟩, fun i hi k => ?_, fun d hd => ?_, fun k hk => ?_⟩
  · by_cases q : i = 27
    · subst q; rw [cp27] at e; cases e
    · rw [hP _ _ (h'.ne hi (by decide) q)]; exact s3 i k t hi e
  · have h0 := hx0 i hi k
    have e : (((S.setI (c 26) 0 y).setP (c 27) (A.s 1) (some (c (18 + x)))).setI (c 26) 2 (nI (A.s 1 + 1))).I (c i) k = if i = 26 ∧ k = 2 then nI (A.s 1 + 1) else (S.setI (c 26) 0 y).I (c i) k := cI_c (S1 := (S.setI (c 26) 0 y).setP (c 27) (A.s 1) (some (c (18 + x)))) h'.1 (by decide) hi
    rw [e, cI_c h'.1 (by decide) hi]
    by_cases q : i = 26
    · subst q
      intro hk
      rw [if_pos ⟨rfl, hk⟩]
      rfl
    · rw [if_neg (fun z => q z.1), if_neg (fun z => q z.1)]
      revert h0; unfold XR; split <;> intro h0 <;> first | exact h0 | exact absurd rfl q
  · have hd : d < A.s 1 + 1 := hd
    show ((S.setI (c 26) 0 y).setP (c 27) (A.s 1) (some (c (18 + x)))).P (c 27) d = some (c (18 + (A.setW 2 (A.s 1) x).w 2 d))
    rw [P_setP, aS.w_setW]
    by_cases q : d = A.s 1
    · rw [if_pos ⟨rfl, q⟩, if_pos ⟨rfl, q⟩]
    · rw [if_neg (fun z => q z.2), if_neg (fun z => q z.2)]
      exact d1 d (by omega)
  · obtain ⟨g1, g2, g3⟩ := d2 k hk
    have e3 : ((A.setW 2 (A.s 1) x).setS 1 (A.s 1 + 1)).w 3 = A.w 3 := setW_wn (by decide)
    rw [e3]
    refine ⟨?_, g2, fun b hb => ?_⟩
    · rw [hP _ _ (h'.ne (by omega) (by decide) (by omega))]; exact g1
    · obtain ⟨q, q1, q2⟩ := g3 b hb
      have hla : la k ≠ c 27 := by
        rcases g2 with g2 | g2
        · omega
        · exact g2.2.2.2.1 27 (by decide)
      refine ⟨q, by rw [hP _ _ hla]; exact q1, q2.keep rfl rfl rfl (fun a ha _ => ?_) hI (setW_wn (by decide)) (setW_wn (by decide)) (setW_wn (by decide)) (setW_wn (by decide)) rfl⟩
      funext k'
      exact hP a k' (ha 27 (by decide))
theorem RepX.pop (h : RepX e0 c la A S) (y : Int32) : RepX e0 c la (A.setS 1 (A.s 1 - 1)) (((S.setI (c 26) 0 y).setI (c 26) 2 (nI (A.s 1 - 1))).setP (c 27) (A.s 1 - 1) none) := by
  have h' := h
  obtain ⟨⟨s1, s2, s3, s4, s5⟩, hx0, d1, d2⟩ := h
  have hP : ∀ a k, a ≠ c 27 → (((S.setI (c 26) 0 y).setI (c 26) 2 (nI (A.s 1 - 1))).setP (c 27) (A.s 1 - 1) none).P a k = S.P a k := fun a k ha => P_ne (S := (S.setI (c 26) 0 y).setI (c 26) 2 (nI (A.s 1 - 1))) ha
  have hI : ∀ a, (∀ i, i < 33 → a ≠ c i) → (((S.setI (c 26) 0 y).setI (c 26) 2 (nI (A.s 1 - 1))).setP (c 27) (A.s 1 - 1) none).I a = S.I a := fun a ha => by
    funext k
    exact (I_ne (S := S.setI (c 26) 0 y) (ha 26 (by decide))).trans (I_ne (S := S) (ha 26 (by decide)))
  refine ⟨⟨s1, s2, fun i k t hi e => ?_, s4, s5⟩, fun i hi k => ?_, fun d hd => ?_, fun k hk => ?_⟩
  · by_cases q : i = 27
    · subst q; rw [cp27] at e; cases e
    · rw [hP _ _ (h'.ne hi (by decide) q)]; exact s3 i k t hi e
  · have h0 := hx0 i hi k
    have e : (((S.setI (c 26) 0 y).setI (c 26) 2 (nI (A.s 1 - 1))).setP (c 27) (A.s 1 - 1) none).I (c i) k = if i = 26 ∧ k = 2 then nI (A.s 1 - 1) else (S.setI (c 26) 0 y).I (c i) k := cI_c (S1 := (S.setI (c 26) 0 y)) h'.1 (by decide) hi
    rw [e, cI_c h'.1 (by decide) hi]
    by_cases q : i = 26
    · subst q
      intro hk
      rw [if_pos ⟨rfl, hk⟩]
      rfl
    · rw [if_neg (fun z => q z.1), if_neg (fun z => q z.1)]
      revert h0; unfold XR; split <;> intro h0 <;> first | exact h0 | exact absurd rfl q
  · have hd : d < A.s 1 - 1 := hd
    rw [P_setP, if_neg (by omega)]
    exact d1 d (by omega)
  · obtain ⟨g1, g2, g3⟩ := d2 k hk
    refine ⟨?_, g2, fun b hb => ?_⟩
    · rw [hP _ _ (h'.ne (by omega) (by decide) (by omega))]; exact g1
    · have hb : b < A.w 3 k := hb
      obtain ⟨q, q1, q2⟩ := g3 b hb
      have hla : la k ≠ c 27 := by
        rcases g2 with g2 | g2
        · omega
        · exact g2.2.2.2.1 27 (by decide)
      refine ⟨q, by rw [hP _ _ hla]; exact q1, q2.keep rfl rfl rfl (fun a ha _ => ?_) hI rfl rfl rfl rfl rfl⟩
      funext k'
      exact hP a k' (ha 27 (by decide))
end RU

