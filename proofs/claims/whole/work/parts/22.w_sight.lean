def k_X2_meet_23  (Q : Wd → Prop) (x1 : Int32) (x2 : Int32) (x3 : Int32) (wt : Wd) : Prop :=
 (Q (up2 (up2 (up2 (up2 wt 0 0 1) 1 0 x1) 2 0 x2) 3 0 x3))
set_option maxHeartbeats 4000000 in
set_option maxRecDepth 100000 in
theorem B_X2_meet_23 {l : Launch} {p : Program} {e : Env} {s : State} {m : MethodId} {args : Array Value} {below : List Frame} {meth : Method} {c : Code} {A : Nat → Prop} {D : va_G} {cy cz : ClassId} {t1 t2 : Nat} (ht : Nat) (Q : Wd → Prop)  (hC : Cx D cy cz t1 t2 p s m args meth c cX2_meet 4 none RX2 A) (x1 : Int32) (x2 : Int32) (x3 : Int32) (wt : Wd) {H : Heap} {locs : List Loc} {ls : Array Slot} (hq : k_X2_meet_23  Q x1 x2 x3 wt) (hW : Wo D A s (cT ht wt) H locs) (hl : lv_has ls 4 [(0, .ref ht), (1, .int x1), (2, .int x2), (3, .int x3)]) : W p l e (rM 0 0) s m args below meth c H locs 0 0 (MQ below (QV D (S := Wd) (fun u => Q u) (fun u => (cT ht u)) A) args s 0 0 A) (F0 m 23 ls []) := by
  unfold k_X2_meet_23 at hq
  refine lv_aload_n hC.x hC.b dX2_meet_23 rfl (lv_at hl 0 rfl) ?_
  refine lv_iconst (v := 1) hC.x hC.b dX2_meet_24 (by decide) ?_
  refine hc_put (ws' := (cT ht (up2 wt 0 0 1))) hC hW 0 2 0 inX2 tyX2 tyX2_ok nmX2 rfl rfl (by decide) q_463 rfl rfl rfl rfl (Nat.le_of_ble_eq_true rfl) (cT_put_0 ..) dX2_meet_25 (fun H locs hW => ?_)
  refine lv_aload_n hC.x hC.b dX2_meet_28 rfl (lv_at hl 0 rfl) ?_
  refine lv_iload_n hC.x hC.b dX2_meet_29 rfl (lv_at hl 1 rfl) ?_
  refine hc_put (ws' := (cT ht (up2 (up2 wt 0 0 1) 1 0 x1))) hC hW 0 2 1 inX2 tyX2 tyX2_ok nmX2 rfl rfl (by decide) q_464 rfl rfl rfl rfl (Nat.le_of_ble_eq_true rfl) (cT_put_1 ..) dX2_meet_30 (fun H locs hW => ?_)
  refine lv_aload_n hC.x hC.b dX2_meet_33 rfl (lv_at hl 0 rfl) ?_
  refine lv_iload_n hC.x hC.b dX2_meet_34 rfl (lv_at hl 2 rfl) ?_
  refine hc_put (ws' := (cT ht (up2 (up2 (up2 wt 0 0 1) 1 0 x1) 2 0 x2))) hC hW 0 2 2 inX2 tyX2 tyX2_ok nmX2 rfl rfl (by decide) q_465 rfl rfl rfl rfl (Nat.le_of_ble_eq_true rfl) (cT_put_2 ..) dX2_meet_35 (fun H locs hW => ?_)
  refine lv_aload_n hC.x hC.b dX2_meet_38 rfl (lv_at hl 0 rfl) ?_
  refine lv_iload_n hC.x hC.b dX2_meet_39 rfl (lv_at hl 3 rfl) ?_
  refine hc_put (ws' := (cT ht (up2 (up2 (up2 (up2 wt 0 0 1) 1 0 x1) 2 0 x2) 3 0 x3))) hC hW 0 2 3 inX2 tyX2 tyX2_ok nmX2 rfl rfl (by decide) q_466 rfl rfl rfl rfl (Nat.le_of_ble_eq_true rfl) (cT_put_3 ..) dX2_meet_40 (fun H locs hW => ?_)
  exact hc_vret hC ((up2 (up2 (up2 (up2 wt 0 0 1) 1 0 x1) 2 0 x2) 3 0 x3)) hW hq dX2_meet_43
def k_X2_meet (x1 : Int32) (x2 : Int32) (x3 : Int32) (wt : Wd) (Q : Wd → Prop) : Prop :=
 (((wt 0 0) = 0 → (k_X2_meet_23  Q x1 x2 x3 wt)) ∧
 (¬ (wt 0 0) = 0 → ((((wt 2 0) * x3) < (x2 * (wt 3 0)) → (k_X2_meet_23  Q x1 x2 x3 wt)) ∧
 (¬ ((wt 2 0) * x3) < (x2 * (wt 3 0)) → (Q wt)))))
set_option maxHeartbeats 4000000 in
set_option maxRecDepth 100000 in
theorem c_X2_meet (l : Launch) (D : va_G) (cy cz : ClassId) (t1 t2 : Nat) (ht : Nat) (x1 : Int32) (x2 : Int32) (x3 : Int32) (wt : Wd) (Q : Wd → Prop) (hq : k_X2_meet x1 x2 x3 wt Q) : Ct l D cy cz t1 t2 yX2_meet cX2_meet 4 none (rM 0 0) [.ref ht, .int x1, .int x2, .int x3] (cT ht wt) (QV D (S := Wd) (fun u => Q u) (fun u => (cT ht u))) := by
  refine Ct.of (own := RX2) (by decide) rfl (Nat.le_of_ble_eq_true rfl) ?_
  intro p e s m below meth c A ls hC hW hl
  unfold k_X2_meet at hq
  have hl : lv_has ls 4 [(0, .ref ht), (1, .int x1), (2, .int x2), (3, .int x3)] := hl
  refine lv_aload_n hC.x hC.b dX2_meet_0 rfl (lv_at hl 0 rfl) ?_
  refine hc_get (v := .int (wt 0 0)) hC hW 0 2 0 inX2 rfl rfl (by decide) q_463 rfl dX2_meet_1 ?_
  refine lv_if_eq (tgt := 23) hC.x hC.b dX2_meet_4 (by decide) (fun hc9 => ?_) (fun hc9 => ?_)
  · replace hq := hq.1 hc9
    exact B_X2_meet_23 ht Q  hC x1 x2 x3 wt hq hW (lv_sub hl [0, 1, 2, 3] rfl)
  · replace hq := hq.2 hc9
    refine lv_iload_n hC.x hC.b dX2_meet_7 rfl (lv_at hl 2 rfl) ?_
    refine lv_aload_n hC.x hC.b dX2_meet_8 rfl (lv_at hl 0 rfl) ?_
    refine hc_get (v := .int (wt 3 0)) hC hW 0 2 3 inX2 rfl rfl (by decide) q_466 rfl dX2_meet_9 ?_
    refine lv_imul hC.x hC.b dX2_meet_12 ?_
    refine lv_aload_n hC.x hC.b dX2_meet_13 rfl (lv_at hl 0 rfl) ?_
    refine hc_get (v := .int (wt 2 0)) hC hW 0 2 2 inX2 rfl rfl (by decide) q_465 rfl dX2_meet_14 ?_
    refine lv_iload_n hC.x hC.b dX2_meet_17 rfl (lv_at hl 3 rfl) ?_
    refine lv_imul hC.x hC.b dX2_meet_18 ?_
    refine lv_icmp_gt (tgt := 23) hC.x hC.b dX2_meet_19 (by decide) (fun hc9 => ?_) (fun hc9 => ?_)
    · replace hq := hq.1 hc9
      exact B_X2_meet_23 ht Q  hC x1 x2 x3 wt hq hW (lv_sub hl [0, 1, 2, 3] rfl)
    · replace hq := hq.2 hc9
      exact hc_vret hC (wt) hW hq dX2_meet_22
def k_X2_meetLevel (x2 : Int32) (x3 : Int32) (x4 : Int32) (wt : Wd) (wc : Wd) (Q : Wd → Wd → Prop) : Prop :=
 (k_X0_firstP x2 wc (fun r3 wc3 => (k_X0_firstQ x2 wc3 (fun r8 wc8 => (k_X3_acrossOf x3 r3 r8 (fun r11 => (k_X0_lastP x2 wc8 (fun r19 wc19 => (k_X0_lastQ x2 wc19 (fun r24 wc24 => (k_X3_acrossOf x3 r19 r24 (fun r27 => (k_X3_isWithin x4 r11 r27 (fun r38 => ((r38 = 0 → (Q wt wc24)) ∧
 (¬ r38 = 0 → (k_X0_firstQ x2 wc24 (fun r49 wc49 => (k_X3_upOf x3 r49 (fun r52 => (k_X2_meet x2 r52 1 wt (fun wt56 => (Q wt56 wc49)))))))))))))))))))))))
set_option maxHeartbeats 4000000 in
set_option maxRecDepth 100000 in
theorem c_X2_meetLevel (l : Launch) (D : va_G) (cy cz : ClassId) (t1 t2 : Nat) (ht : Nat) (hc : Nat) (ac : Nat → Nat) (x2 : Int32) (x3 : Int32) (x4 : Int32) (wt : Wd) (wc : Wd) (Q : Wd → Wd → Prop) (hq : k_X2_meetLevel x2 x3 x4 wt wc Q) : Ct l D cy cz t1 t2 yX2_meetLevel cX2_meetLevel 7 none (rM 3 64) [.ref ht, .ref hc, .int x2, .int x3, .int x4] (cT ht wt ++ (cC cy hc ac wc)) (QV D (S := Wd × Wd) (fun u => Q u.1 u.2) (fun u => (cT ht u.1 ++ (cC cy hc ac u.2)))) := by
  refine Ct.of (own := RX2) (by decide) rfl (Nat.le_of_ble_eq_true rfl) ?_
  intro p e s m below meth c A ls hC hW hl
  unfold k_X2_meetLevel at hq
  have hl : lv_has ls 7 [(0, .ref ht), (1, .ref hc), (2, .int x2), (3, .int x3), (4, .int x4)] := hl
  refine lv_iload_n hC.x hC.b dX2_meetLevel_0 rfl (lv_at hl 3 rfl) ?_
  refine lv_aload_n hC.x hC.b dX2_meetLevel_1 rfl (lv_at hl 1 rfl) ?_
  refine lv_iload_n hC.x hC.b dX2_meetLevel_2 rfl (lv_at hl 2 rfl) ?_
  refine hc_goI hC hW (hc_rV hC (c_X0_firstP l D cy cz t1 t2 hc ac x2 wc _ hq) (hc_preS hC hW [1, 2, 3, 4, 5, 6, 7, 8, 9, 10, 11, 12, 13, 14] rfl rfl) hW 1 0 rfl rfl q_474 q_277 q_278 q_14 q_279 hd_X0_firstP ⟨rfl, rfl⟩ ⟨Nat.le_of_ble_eq_true rfl, Nat.le_of_ble_eq_true rfl⟩ rfl hl.1 rfl (Nat.le_of_ble_eq_true rfl) dX2_meetLevel_3 ⟨Nat.zero_le _, Nat.zero_le _⟩) [1, 2, 3, 4, 5, 6, 7, 8, 9, 10, 11, 12, 13, 14] [0] [0, 1, 2, 3, 4, 5, 6, 7, 8, 9, 10, 11, 12, 13, 14] (cT ht wt) (fun u => (cT ht wt ++ (cC cy hc ac u))) rfl rfl (by decide) (by decide) (by decide) (fun u => rfl) (fun r3 u9 H locs hq hW => ?_)
  obtain ⟨wc3, rfl⟩ : ∃ z, z = u9 := ⟨_, rfl⟩
  try dsimp only at hq hW
  refine lv_aload_n hC.x hC.b dX2_meetLevel_6 rfl (lv_at hl 1 rfl) ?_
  refine lv_iload_n hC.x hC.b dX2_meetLevel_7 rfl (lv_at hl 2 rfl) ?_
  refine hc_goI hC hW (hc_rV hC (c_X0_firstQ l D cy cz t1 t2 hc ac x2 wc3 _ hq) (hc_preS hC hW [1, 2, 3, 4, 5, 6, 7, 8, 9, 10, 11, 12, 13, 14] rfl rfl) hW 1 0 rfl rfl q_475 q_282 q_283 q_14 q_284 hd_X0_firstQ ⟨rfl, rfl⟩ ⟨Nat.le_of_ble_eq_true rfl, Nat.le_of_ble_eq_true rfl⟩ rfl hl.1 rfl (Nat.le_of_ble_eq_true rfl) dX2_meetLevel_8 ⟨Nat.zero_le _, Nat.zero_le _⟩) [1, 2, 3, 4, 5, 6, 7, 8, 9, 10, 11, 12, 13, 14] [0] [0, 1, 2, 3, 4, 5, 6, 7, 8, 9, 10, 11, 12, 13, 14] (cT ht wt) (fun u => (cT ht wt ++ (cC cy hc ac u))) rfl rfl (by decide) (by decide) (by decide) (fun u => rfl) (fun r8 u9 H locs hq hW => ?_)
  obtain ⟨wc8, rfl⟩ : ∃ z, z = u9 := ⟨_, rfl⟩
  try dsimp only at hq hW
  refine hc_goP hC hW (hc_rN hC (c_X3_acrossOf l D cy cz t1 t2 x3 r3 r8 _ hq) (hc_preP hC hW) hC.en.1.2.2.2.2.2.2.2.1 q_405 q_2 q_406 hd_X3_acrossOf ⟨rfl, rfl⟩ ⟨Nat.le_of_ble_eq_true rfl, Nat.le_of_ble_eq_true rfl⟩ rfl hl.1 rfl (Nat.le_of_ble_eq_true rfl) dX2_meetLevel_11 ⟨Nat.zero_le _, Nat.zero_le _⟩) (fun r11 H locs hq hW => ?_)
  try dsimp only at hq
  refine lv_istore (lv' := [(5, .int r11), (0, .ref ht), (1, .ref hc), (2, .int x2), (3, .int x3), (4, .int x4)]) hC.x hC.b dX2_meetLevel_14 hl (by decide) rfl (fun ls hl => ?_)
  refine lv_iload_n hC.x hC.b dX2_meetLevel_16 rfl (lv_at hl 4 rfl) ?_
  refine lv_aload_n hC.x hC.b dX2_meetLevel_17 rfl (lv_at hl 2 rfl) ?_
  refine lv_iload_n hC.x hC.b dX2_meetLevel_18 rfl (lv_at hl 3 rfl) ?_
  refine hc_goI hC hW (hc_rV hC (c_X0_lastP l D cy cz t1 t2 hc ac x2 wc8 _ hq) (hc_preS hC hW [1, 2, 3, 4, 5, 6, 7, 8, 9, 10, 11, 12, 13, 14] rfl rfl) hW 1 0 rfl rfl q_476 q_303 q_304 q_14 q_305 hd_X0_lastP ⟨rfl, rfl⟩ ⟨Nat.le_of_ble_eq_true rfl, Nat.le_of_ble_eq_true rfl⟩ rfl hl.1 rfl (Nat.le_of_ble_eq_true rfl) dX2_meetLevel_19 ⟨Nat.zero_le _, Nat.zero_le _⟩) [1, 2, 3, 4, 5, 6, 7, 8, 9, 10, 11, 12, 13, 14] [0] [0, 1, 2, 3, 4, 5, 6, 7, 8, 9, 10, 11, 12, 13, 14] (cT ht wt) (fun u => (cT ht wt ++ (cC cy hc ac u))) rfl rfl (by decide) (by decide) (by decide) (fun u => rfl) (fun r19 u9 H locs hq hW => ?_)
  obtain ⟨wc19, rfl⟩ : ∃ z, z = u9 := ⟨_, rfl⟩
  try dsimp only at hq hW
  refine lv_aload_n hC.x hC.b dX2_meetLevel_22 rfl (lv_at hl 2 rfl) ?_
  refine lv_iload_n hC.x hC.b dX2_meetLevel_23 rfl (lv_at hl 3 rfl) ?_
  refine hc_goI hC hW (hc_rV hC (c_X0_lastQ l D cy cz t1 t2 hc ac x2 wc19 _ hq) (hc_preS hC hW [1, 2, 3, 4, 5, 6, 7, 8, 9, 10, 11, 12, 13, 14] rfl rfl) hW 1 0 rfl rfl q_477 q_308 q_309 q_14 q_310 hd_X0_lastQ ⟨rfl, rfl⟩ ⟨Nat.le_of_ble_eq_true rfl, Nat.le_of_ble_eq_true rfl⟩ rfl hl.1 rfl (Nat.le_of_ble_eq_true rfl) dX2_meetLevel_24 ⟨Nat.zero_le _, Nat.zero_le _⟩) [1, 2, 3, 4, 5, 6, 7, 8, 9, 10, 11, 12, 13, 14] [0] [0, 1, 2, 3, 4, 5, 6, 7, 8, 9, 10, 11, 12, 13, 14] (cT ht wt) (fun u => (cT ht wt ++ (cC cy hc ac u))) rfl rfl (by decide) (by decide) (by decide) (fun u => rfl) (fun r24 u9 H locs hq hW => ?_)
  obtain ⟨wc24, rfl⟩ : ∃ z, z = u9 := ⟨_, rfl⟩
  try dsimp only at hq hW
  refine hc_goP hC hW (hc_rN hC (c_X3_acrossOf l D cy cz t1 t2 x3 r19 r24 _ hq) (hc_preP hC hW) hC.en.1.2.2.2.2.2.2.2.1 q_405 q_2 q_406 hd_X3_acrossOf ⟨rfl, rfl⟩ ⟨Nat.le_of_ble_eq_true rfl, Nat.le_of_ble_eq_true rfl⟩ rfl hl.1 rfl (Nat.le_of_ble_eq_true rfl) dX2_meetLevel_27 ⟨Nat.zero_le _, Nat.zero_le _⟩) (fun r27 H locs hq hW => ?_)
  try dsimp only at hq
  refine lv_istore (lv' := [(6, .int r27), (5, .int r11), (0, .ref ht), (1, .ref hc), (2, .int x2), (3, .int x3), (4, .int x4)]) hC.x hC.b dX2_meetLevel_30 hl (by decide) rfl (fun ls hl => ?_)
  refine lv_iload hC.x hC.b dX2_meetLevel_32 (lv_at hl 6 rfl) ?_
  refine lv_iload hC.x hC.b dX2_meetLevel_34 (lv_at hl 1 rfl) ?_
  refine lv_iload hC.x hC.b dX2_meetLevel_36 (lv_at hl 0 rfl) ?_
  refine hc_goP hC hW (hc_rN hC (c_X3_isWithin l D cy cz t1 t2 x4 r11 r27 _ hq) (hc_preP hC hW) hC.en.1.2.2.2.2.2.2.2.2.1 q_113 q_2 q_114 hd_X3_isWithin ⟨rfl, rfl⟩ ⟨Nat.le_of_ble_eq_true rfl, Nat.le_of_ble_eq_true rfl⟩ rfl hl.1 rfl (Nat.le_of_ble_eq_true rfl) dX2_meetLevel_38 ⟨Nat.zero_le _, Nat.zero_le _⟩) (fun r38 H locs hq hW => ?_)
  try dsimp only at hq
  refine lv_if_eq (tgt := 59) hC.x hC.b dX2_meetLevel_41 (by decide) (fun hc9 => ?_) (fun hc9 => ?_)
  · replace hq := hq.1 hc9
    exact hc_vret hC (wt, wc24) hW hq dX2_meetLevel_59
  · replace hq := hq.2 hc9
    refine lv_aload_n hC.x hC.b dX2_meetLevel_44 rfl (lv_at hl 2 rfl) ?_
    refine lv_iload_n hC.x hC.b dX2_meetLevel_45 rfl (lv_at hl 4 rfl) ?_
    refine lv_iload_n hC.x hC.b dX2_meetLevel_46 rfl (lv_at hl 5 rfl) ?_
    refine lv_aload_n hC.x hC.b dX2_meetLevel_47 rfl (lv_at hl 3 rfl) ?_
    refine lv_iload_n hC.x hC.b dX2_meetLevel_48 rfl (lv_at hl 4 rfl) ?_
    refine hc_goI hC hW (hc_rV hC (c_X0_firstQ l D cy cz t1 t2 hc ac x2 wc24 _ hq) (hc_preS hC hW [1, 2, 3, 4, 5, 6, 7, 8, 9, 10, 11, 12, 13, 14] rfl rfl) hW 1 0 rfl rfl q_475 q_282 q_283 q_14 q_284 hd_X0_firstQ ⟨rfl, rfl⟩ ⟨Nat.le_of_ble_eq_true rfl, Nat.le_of_ble_eq_true rfl⟩ rfl hl.1 rfl (Nat.le_of_ble_eq_true rfl) dX2_meetLevel_49 ⟨Nat.zero_le _, Nat.zero_le _⟩) [1, 2, 3, 4, 5, 6, 7, 8, 9, 10, 11, 12, 13, 14] [0] [0, 1, 2, 3, 4, 5, 6, 7, 8, 9, 10, 11, 12, 13, 14] (cT ht wt) (fun u => (cT ht wt ++ (cC cy hc ac u))) rfl rfl (by decide) (by decide) (by decide) (fun u => rfl) (fun r49 u9 H locs hq hW => ?_)
    obtain ⟨wc49, rfl⟩ : ∃ z, z = u9 := ⟨_, rfl⟩
    try dsimp only at hq hW
    refine hc_goP hC hW (hc_rN hC (c_X3_upOf l D cy cz t1 t2 x3 r49 _ hq) (hc_preP hC hW) hC.en.1.2.2.2.2.2.2.2.2.2 q_416 q_2 q_417 hd_X3_upOf ⟨rfl, rfl⟩ ⟨Nat.le_of_ble_eq_true rfl, Nat.le_of_ble_eq_true rfl⟩ rfl hl.1 rfl (Nat.le_of_ble_eq_true rfl) dX2_meetLevel_52 ⟨Nat.zero_le _, Nat.zero_le _⟩) (fun r52 H locs hq hW => ?_)
    try dsimp only at hq
    refine lv_iconst (v := 1) hC.x hC.b dX2_meetLevel_55 (by decide) ?_
    refine hc_goV hC hW (hc_rV hC (c_X2_meet l D cy cz t1 t2 ht x2 r52 1 wt _ hq) (hc_preS hC hW [0] rfl rfl) hW 0 2 rfl rfl q_478 q_479 q_480 q_25 q_481 hd_X2_meet ⟨rfl, rfl⟩ ⟨Nat.le_of_ble_eq_true rfl, Nat.le_of_ble_eq_true rfl⟩ rfl hl.1 rfl (Nat.le_of_ble_eq_true rfl) dX2_meetLevel_56 ⟨Nat.zero_le _, Nat.zero_le _⟩) [0] [1, 2, 3, 4, 5, 6, 7, 8, 9, 10, 11, 12, 13, 14] [14, 0, 1, 2, 3, 4, 5, 6, 7, 8, 9, 10, 11, 12, 13] (cC cy hc ac wc49) (fun u => (cT ht u ++ (cC cy hc ac wc49))) rfl rfl (by decide) (by decide) (by decide) (fun u => rfl) (fun u9 H locs hq hW => ?_)
    obtain ⟨wt56, rfl⟩ : ∃ z, z = u9 := ⟨_, rfl⟩
    try dsimp only at hq hW
    exact hc_vret hC (wt56, wc49) hW hq dX2_meetLevel_59
def k_X2_meetSlope_67  (Q : Wd → Wd → Prop) (x2 : Int32) (x3 : Int32) (x7 : Int32) (y0 : Int32) (wt : Wd) (wc : Wd) : Prop :=
 (k_X0_firstQ x2 wc (fun r75 wc75 => (k_X0_lastQ x2 wc75 (fun r83 wc83 => (k_X3_isWithin y0 (x7 * r75) (x7 * r83) (fun r87 => ((r87 = 0 → (Q wt wc83)) ∧
 (¬ r87 = 0 → (k_X3_upOf x3 y0 (fun r98 => (k_X2_meet x2 r98 x7 wt (fun wt103 => (Q wt103 wc83)))))))))))))
set_option maxHeartbeats 4000000 in
set_option maxRecDepth 100000 in
theorem B_X2_meetSlope_67 {l : Launch} {p : Program} {e : Env} {s : State} {m : MethodId} {args : Array Value} {below : List Frame} {meth : Method} {c : Code} {A : Nat → Prop} {D : va_G} {cy cz : ClassId} {t1 t2 : Nat} (ht : Nat) (hc : Nat) (ac : Nat → Nat) (Q : Wd → Wd → Prop)  (hC : Cx D cy cz t1 t2 p s m args meth c cX2_meetSlope 9 none RX2 A) (x2 : Int32) (x3 : Int32) (x7 : Int32) (y0 : Int32) (wt : Wd) (wc : Wd) {H : Heap} {locs : List Loc} {ls : Array Slot} (hq : k_X2_meetSlope_67  Q x2 x3 x7 y0 wt wc) (hW : Wo D A s (cT ht wt ++ (cC cy hc ac wc)) H locs) (hl : lv_has ls 9 [(0, .ref ht), (1, .ref hc), (2, .int x2), (3, .int x3), (7, .int x7)]) : W p l e (rM 3 64) s m args below meth c H locs 0 0 (MQ below (QV D (S := Wd × Wd) (fun u => Q u.1 u.2) (fun u => (cT ht u.1 ++ (cC cy hc ac u.2))) A) args s 0 0 A) (F0 m 67 ls [.int y0]) := by
  unfold k_X2_meetSlope_67 at hq
  refine lv_istore (lv' := [(8, .int y0), (0, .ref ht), (1, .ref hc), (2, .int x2), (3, .int x3), (7, .int x7)]) hC.x hC.b dX2_meetSlope_67 hl (by decide) rfl (fun ls hl => ?_)
  refine lv_iload hC.x hC.b dX2_meetSlope_69 (lv_at hl 0 rfl) ?_
  refine lv_iload hC.x hC.b dX2_meetSlope_71 (lv_at hl 5 rfl) ?_
  refine lv_aload_n hC.x hC.b dX2_meetSlope_73 rfl (lv_at hl 2 rfl) ?_
  refine lv_iload_n hC.x hC.b dX2_meetSlope_74 rfl (lv_at hl 3 rfl) ?_
  refine hc_goI hC hW (hc_rV hC (c_X0_firstQ l D cy cz t1 t2 hc ac x2 wc _ hq) (hc_preS hC hW [1, 2, 3, 4, 5, 6, 7, 8, 9, 10, 11, 12, 13, 14] rfl rfl) hW 1 0 rfl rfl q_475 q_282 q_283 q_14 q_284 hd_X0_firstQ ⟨rfl, rfl⟩ ⟨Nat.le_of_ble_eq_true rfl, Nat.le_of_ble_eq_true rfl⟩ rfl hl.1 rfl (Nat.le_of_ble_eq_true rfl) dX2_meetSlope_75 ⟨Nat.zero_le _, Nat.zero_le _⟩) [1, 2, 3, 4, 5, 6, 7, 8, 9, 10, 11, 12, 13, 14] [0] [0, 1, 2, 3, 4, 5, 6, 7, 8, 9, 10, 11, 12, 13, 14] (cT ht wt) (fun u => (cT ht wt ++ (cC cy hc ac u))) rfl rfl (by decide) (by decide) (by decide) (fun u => rfl) (fun r75 u9 H locs hq hW => ?_)
  obtain ⟨wc75, rfl⟩ : ∃ z, z = u9 := ⟨_, rfl⟩
  try dsimp only at hq hW
  refine lv_imul hC.x hC.b dX2_meetSlope_78 ?_
  refine lv_iload hC.x hC.b dX2_meetSlope_79 (lv_at hl 5 rfl) ?_
  refine lv_aload_n hC.x hC.b dX2_meetSlope_81 rfl (lv_at hl 2 rfl) ?_
  refine lv_iload_n hC.x hC.b dX2_meetSlope_82 rfl (lv_at hl 3 rfl) ?_
  refine hc_goI hC hW (hc_rV hC (c_X0_lastQ l D cy cz t1 t2 hc ac x2 wc75 _ hq) (hc_preS hC hW [1, 2, 3, 4, 5, 6, 7, 8, 9, 10, 11, 12, 13, 14] rfl rfl) hW 1 0 rfl rfl q_477 q_308 q_309 q_14 q_310 hd_X0_lastQ ⟨rfl, rfl⟩ ⟨Nat.le_of_ble_eq_true rfl, Nat.le_of_ble_eq_true rfl⟩ rfl hl.1 rfl (Nat.le_of_ble_eq_true rfl) dX2_meetSlope_83 ⟨Nat.zero_le _, Nat.zero_le _⟩) [1, 2, 3, 4, 5, 6, 7, 8, 9, 10, 11, 12, 13, 14] [0] [0, 1, 2, 3, 4, 5, 6, 7, 8, 9, 10, 11, 12, 13, 14] (cT ht wt) (fun u => (cT ht wt ++ (cC cy hc ac u))) rfl rfl (by decide) (by decide) (by decide) (fun u => rfl) (fun r83 u9 H locs hq hW => ?_)
  obtain ⟨wc83, rfl⟩ : ∃ z, z = u9 := ⟨_, rfl⟩
  try dsimp only at hq hW
  refine lv_imul hC.x hC.b dX2_meetSlope_86 ?_
  refine hc_goP hC hW (hc_rN hC (c_X3_isWithin l D cy cz t1 t2 y0 (x7 * r75) (x7 * r83) _ hq) (hc_preP hC hW) hC.en.1.2.2.2.2.2.2.2.2.1 q_113 q_2 q_114 hd_X3_isWithin ⟨rfl, rfl⟩ ⟨Nat.le_of_ble_eq_true rfl, Nat.le_of_ble_eq_true rfl⟩ rfl hl.1 rfl (Nat.le_of_ble_eq_true rfl) dX2_meetSlope_87 ⟨Nat.zero_le _, Nat.zero_le _⟩) (fun r87 H locs hq hW => ?_)
  try dsimp only at hq
  refine lv_if_eq (tgt := 106) hC.x hC.b dX2_meetSlope_90 (by decide) (fun hc9 => ?_) (fun hc9 => ?_)
  · replace hq := hq.1 hc9
    exact hc_vret hC (wt, wc83) hW hq dX2_meetSlope_106
  · replace hq := hq.2 hc9
    refine lv_aload_n hC.x hC.b dX2_meetSlope_93 rfl (lv_at hl 1 rfl) ?_
    refine lv_iload_n hC.x hC.b dX2_meetSlope_94 rfl (lv_at hl 3 rfl) ?_
    refine lv_iload_n hC.x hC.b dX2_meetSlope_95 rfl (lv_at hl 4 rfl) ?_
    refine lv_iload hC.x hC.b dX2_meetSlope_96 (lv_at hl 0 rfl) ?_
    refine hc_goP hC hW (hc_rN hC (c_X3_upOf l D cy cz t1 t2 x3 y0 _ hq) (hc_preP hC hW) hC.en.1.2.2.2.2.2.2.2.2.2 q_416 q_2 q_417 hd_X3_upOf ⟨rfl, rfl⟩ ⟨Nat.le_of_ble_eq_true rfl, Nat.le_of_ble_eq_true rfl⟩ rfl hl.1 rfl (Nat.le_of_ble_eq_true rfl) dX2_meetSlope_98 ⟨Nat.zero_le _, Nat.zero_le _⟩) (fun r98 H locs hq hW => ?_)
    try dsimp only at hq
    refine lv_iload hC.x hC.b dX2_meetSlope_101 (lv_at hl 5 rfl) ?_
    refine hc_goV hC hW (hc_rV hC (c_X2_meet l D cy cz t1 t2 ht x2 r98 x7 wt _ hq) (hc_preS hC hW [0] rfl rfl) hW 0 2 rfl rfl q_478 q_479 q_480 q_25 q_481 hd_X2_meet ⟨rfl, rfl⟩ ⟨Nat.le_of_ble_eq_true rfl, Nat.le_of_ble_eq_true rfl⟩ rfl hl.1 rfl (Nat.le_of_ble_eq_true rfl) dX2_meetSlope_103 ⟨Nat.zero_le _, Nat.zero_le _⟩) [0] [1, 2, 3, 4, 5, 6, 7, 8, 9, 10, 11, 12, 13, 14] [14, 0, 1, 2, 3, 4, 5, 6, 7, 8, 9, 10, 11, 12, 13] (cC cy hc ac wc83) (fun u => (cT ht u ++ (cC cy hc ac wc83))) rfl rfl (by decide) (by decide) (by decide) (fun u => rfl) (fun u9 H locs hq hW => ?_)
    obtain ⟨wt103, rfl⟩ : ∃ z, z = u9 := ⟨_, rfl⟩
    try dsimp only at hq hW
    exact hc_vret hC (wt103, wc83) hW hq dX2_meetSlope_106
def k_X2_meetSlope (x2 : Int32) (x3 : Int32) (x4 : Int32) (wt : Wd) (wc : Wd) (Q : Wd → Wd → Prop) : Prop :=
 (k_X3_acrossOf x3 0 1 (fun r3 => (k_X0_firstP x2 wc (fun r14 wc14 => ((¬ r3 = 0 → ((r3 ≤ 0 → (k_X2_meetSlope_67  Q x2 x3 (if 0 ≤ r3 then r3 else 0 - r3) (-(x4 - (25 * r14))) wt wc14)) ∧
 (¬ r3 ≤ 0 → (k_X2_meetSlope_67  Q x2 x3 (if 0 ≤ r3 then r3 else 0 - r3) (x4 - (25 * r14)) wt wc14)))) ∧
 (r3 = 0 → ((¬ (x4 - (25 * r14)) = 0 → (Q wt wc14)) ∧
 ((x4 - (25 * r14)) = 0 → (k_X0_lastQ x2 wc14 (fun r36 wc36 => (k_X3_upOf x3 r36 (fun r39 => (k_X2_meet x2 r39 1 wt (fun wt43 => (Q wt43 wc36)))))))))))))))
set_option maxHeartbeats 4000000 in
set_option maxRecDepth 100000 in
theorem c_X2_meetSlope (l : Launch) (D : va_G) (cy cz : ClassId) (t1 t2 : Nat) (ht : Nat) (hc : Nat) (ac : Nat → Nat) (x2 : Int32) (x3 : Int32) (x4 : Int32) (wt : Wd) (wc : Wd) (Q : Wd → Wd → Prop) (hq : k_X2_meetSlope x2 x3 x4 wt wc Q) : Ct l D cy cz t1 t2 yX2_meetSlope cX2_meetSlope 9 none (rM 3 64) [.ref ht, .ref hc, .int x2, .int x3, .int x4] (cT ht wt ++ (cC cy hc ac wc)) (QV D (S := Wd × Wd) (fun u => Q u.1 u.2) (fun u => (cT ht u.1 ++ (cC cy hc ac u.2)))) := by
  refine Ct.of (own := RX2) (by decide) rfl (Nat.le_of_ble_eq_true rfl) ?_
  intro p e s m below meth c A ls hC hW hl
  unfold k_X2_meetSlope at hq
  have hl : lv_has ls 9 [(0, .ref ht), (1, .ref hc), (2, .int x2), (3, .int x3), (4, .int x4)] := hl
  refine lv_iload_n hC.x hC.b dX2_meetSlope_0 rfl (lv_at hl 3 rfl) ?_
  refine lv_iconst (v := 0) hC.x hC.b dX2_meetSlope_1 (by decide) ?_
  refine lv_iconst (v := 1) hC.x hC.b dX2_meetSlope_2 (by decide) ?_
  refine hc_goP hC hW (hc_rN hC (c_X3_acrossOf l D cy cz t1 t2 x3 0 1 _ hq) (hc_preP hC hW) hC.en.1.2.2.2.2.2.2.2.1 q_405 q_2 q_406 hd_X3_acrossOf ⟨rfl, rfl⟩ ⟨Nat.le_of_ble_eq_true rfl, Nat.le_of_ble_eq_true rfl⟩ rfl hl.1 rfl (Nat.le_of_ble_eq_true rfl) dX2_meetSlope_3 ⟨Nat.zero_le _, Nat.zero_le _⟩) (fun r3 H locs hq hW => ?_)
  try dsimp only at hq
  refine lv_istore (lv' := [(5, .int r3), (0, .ref ht), (1, .ref hc), (2, .int x2), (3, .int x3), (4, .int x4)]) hC.x hC.b dX2_meetSlope_6 hl (by decide) rfl (fun ls hl => ?_)
  refine lv_iload hC.x hC.b dX2_meetSlope_8 (lv_at hl 5 rfl) ?_
  refine lv_bipush (v := 25) hC.x hC.b dX2_meetSlope_10 (by decide) ?_
  refine lv_aload_n hC.x hC.b dX2_meetSlope_12 rfl (lv_at hl 2 rfl) ?_
  refine lv_iload_n hC.x hC.b dX2_meetSlope_13 rfl (lv_at hl 3 rfl) ?_
  refine hc_goI hC hW (hc_rV hC (c_X0_firstP l D cy cz t1 t2 hc ac x2 wc _ hq) (hc_preS hC hW [1, 2, 3, 4, 5, 6, 7, 8, 9, 10, 11, 12, 13, 14] rfl rfl) hW 1 0 rfl rfl q_474 q_277 q_278 q_14 q_279 hd_X0_firstP ⟨rfl, rfl⟩ ⟨Nat.le_of_ble_eq_true rfl, Nat.le_of_ble_eq_true rfl⟩ rfl hl.1 rfl (Nat.le_of_ble_eq_true rfl) dX2_meetSlope_14 ⟨Nat.zero_le _, Nat.zero_le _⟩) [1, 2, 3, 4, 5, 6, 7, 8, 9, 10, 11, 12, 13, 14] [0] [0, 1, 2, 3, 4, 5, 6, 7, 8, 9, 10, 11, 12, 13, 14] (cT ht wt) (fun u => (cT ht wt ++ (cC cy hc ac u))) rfl rfl (by decide) (by decide) (by decide) (fun u => rfl) (fun r14 u9 H locs hq hW => ?_)
  obtain ⟨wc14, rfl⟩ : ∃ z, z = u9 := ⟨_, rfl⟩
  try dsimp only at hq hW
  refine lv_imul hC.x hC.b dX2_meetSlope_17 ?_
  refine lv_isub hC.x hC.b dX2_meetSlope_18 ?_
  refine lv_istore (lv' := [(6, .int (x4 - (25 * r14))), (5, .int r3), (0, .ref ht), (1, .ref hc), (2, .int x2), (3, .int x3), (4, .int x4)]) hC.x hC.b dX2_meetSlope_19 hl (by decide) rfl (fun ls hl => ?_)
  refine lv_iload hC.x hC.b dX2_meetSlope_21 (lv_at hl 1 rfl) ?_
  refine lv_if_ne (tgt := 47) hC.x hC.b dX2_meetSlope_23 (by decide) (fun hc9 => ?_) (fun hc9 => ?_)
  · replace hq := hq.1 hc9
    refine lv_iload hC.x hC.b dX2_meetSlope_47 (lv_at hl 1 rfl) ?_
    refine hc_abs hC hl q_486 q_487 q_166 q_488 (Nat.le_of_ble_eq_true rfl) (Nat.le_of_ble_eq_true rfl) (Nat.zero_le _) (Nat.zero_le _) dX2_meetSlope_49 ?_
    refine lv_istore (lv' := [(7, .int (if 0 ≤ r3 then r3 else 0 - r3)), (6, .int (x4 - (25 * r14))), (5, .int r3), (0, .ref ht), (1, .ref hc), (2, .int x2), (3, .int x3), (4, .int x4)]) hC.x hC.b dX2_meetSlope_52 hl (by decide) rfl (fun ls hl => ?_)
    refine lv_iload hC.x hC.b dX2_meetSlope_54 (lv_at hl 2 rfl) ?_
    refine lv_if_le (tgt := 64) hC.x hC.b dX2_meetSlope_56 (by decide) (fun hc9 => ?_) (fun hc9 => ?_)
    · replace hq := hq.1 hc9
      refine lv_iload hC.x hC.b dX2_meetSlope_64 (lv_at hl 1 rfl) ?_
      refine lv_ineg hC.x hC.b dX2_meetSlope_66 ?_
      exact B_X2_meetSlope_67 ht hc ac Q  hC x2 x3 (if 0 ≤ r3 then r3 else 0 - r3) (-(x4 - (25 * r14))) wt wc14 hq hW (lv_sub hl [3, 4, 5, 6, 0] rfl)
    · replace hq := hq.2 hc9
      refine lv_iload hC.x hC.b dX2_meetSlope_59 (lv_at hl 1 rfl) ?_
      refine lv_goto (tgt := 67) hC.x hC.b dX2_meetSlope_61 (by decide) ?_
      exact B_X2_meetSlope_67 ht hc ac Q  hC x2 x3 (if 0 ≤ r3 then r3 else 0 - r3) (x4 - (25 * r14)) wt wc14 hq hW (lv_sub hl [3, 4, 5, 6, 0] rfl)
  · replace hq := hq.2 hc9
    refine lv_iload hC.x hC.b dX2_meetSlope_26 (lv_at hl 0 rfl) ?_
    refine lv_if_ne (tgt := 46) hC.x hC.b dX2_meetSlope_28 (by decide) (fun hc9 => ?_) (fun hc9 => ?_)
    · replace hq := hq.1 hc9
      exact hc_vret hC (wt, wc14) hW hq dX2_meetSlope_46
    · replace hq := hq.2 hc9
      refine lv_aload_n hC.x hC.b dX2_meetSlope_31 rfl (lv_at hl 2 rfl) ?_
      refine lv_iload_n hC.x hC.b dX2_meetSlope_32 rfl (lv_at hl 4 rfl) ?_
      refine lv_iload_n hC.x hC.b dX2_meetSlope_33 rfl (lv_at hl 5 rfl) ?_
      refine lv_aload_n hC.x hC.b dX2_meetSlope_34 rfl (lv_at hl 3 rfl) ?_
      refine lv_iload_n hC.x hC.b dX2_meetSlope_35 rfl (lv_at hl 4 rfl) ?_
      refine hc_goI hC hW (hc_rV hC (c_X0_lastQ l D cy cz t1 t2 hc ac x2 wc14 _ hq) (hc_preS hC hW [1, 2, 3, 4, 5, 6, 7, 8, 9, 10, 11, 12, 13, 14] rfl rfl) hW 1 0 rfl rfl q_477 q_308 q_309 q_14 q_310 hd_X0_lastQ ⟨rfl, rfl⟩ ⟨Nat.le_of_ble_eq_true rfl, Nat.le_of_ble_eq_true rfl⟩ rfl hl.1 rfl (Nat.le_of_ble_eq_true rfl) dX2_meetSlope_36 ⟨Nat.zero_le _, Nat.zero_le _⟩) [1, 2, 3, 4, 5, 6, 7, 8, 9, 10, 11, 12, 13, 14] [0] [0, 1, 2, 3, 4, 5, 6, 7, 8, 9, 10, 11, 12, 13, 14] (cT ht wt) (fun u => (cT ht wt ++ (cC cy hc ac u))) rfl rfl (by decide) (by decide) (by decide) (fun u => rfl) (fun r36 u9 H locs hq hW => ?_)
      obtain ⟨wc36, rfl⟩ : ∃ z, z = u9 := ⟨_, rfl⟩
      try dsimp only at hq hW
      refine hc_goP hC hW (hc_rN hC (c_X3_upOf l D cy cz t1 t2 x3 r36 _ hq) (hc_preP hC hW) hC.en.1.2.2.2.2.2.2.2.2.2 q_416 q_2 q_417 hd_X3_upOf ⟨rfl, rfl⟩ ⟨Nat.le_of_ble_eq_true rfl, Nat.le_of_ble_eq_true rfl⟩ rfl hl.1 rfl (Nat.le_of_ble_eq_true rfl) dX2_meetSlope_39 ⟨Nat.zero_le _, Nat.zero_le _⟩) (fun r39 H locs hq hW => ?_)
      try dsimp only at hq
      refine lv_iconst (v := 1) hC.x hC.b dX2_meetSlope_42 (by decide) ?_
      refine hc_goV hC hW (hc_rV hC (c_X2_meet l D cy cz t1 t2 ht x2 r39 1 wt _ hq) (hc_preS hC hW [0] rfl rfl) hW 0 2 rfl rfl q_478 q_479 q_480 q_25 q_481 hd_X2_meet ⟨rfl, rfl⟩ ⟨Nat.le_of_ble_eq_true rfl, Nat.le_of_ble_eq_true rfl⟩ rfl hl.1 rfl (Nat.le_of_ble_eq_true rfl) dX2_meetSlope_43 ⟨Nat.zero_le _, Nat.zero_le _⟩) [0] [1, 2, 3, 4, 5, 6, 7, 8, 9, 10, 11, 12, 13, 14] [14, 0, 1, 2, 3, 4, 5, 6, 7, 8, 9, 10, 11, 12, 13] (cC cy hc ac wc36) (fun u => (cT ht u ++ (cC cy hc ac wc36))) rfl rfl (by decide) (by decide) (by decide) (fun u => rfl) (fun u9 H locs hq hW => ?_)
      obtain ⟨wt43, rfl⟩ : ∃ z, z = u9 := ⟨_, rfl⟩
      try dsimp only at hq hW
      exact hc_vret hC (wt43, wc36) hW hq dX2_meetSlope_46
def k_X2_reduce_49 (K5 : (Int32 × Wd) → Prop) (Q : Wd → Prop) (x1 : Int32) (wt : Wd) : Prop :=
 (K5 ((x1 + (-1)), wt))
set_option maxHeartbeats 4000000 in
set_option maxRecDepth 100000 in
theorem B_X2_reduce_49 {l : Launch} {p : Program} {e : Env} {s : State} {m : MethodId} {args : Array Value} {below : List Frame} {meth : Method} {c : Code} {A : Nat → Prop} {D : va_G} {cy cz : ClassId} {t1 t2 : Nat} (ht : Nat) (Q : Wd → Prop) (K5 : (Int32 × Wd) → Prop) (hK5 : ∀ b9 : Int32 × Wd, K5 b9 → ∀ (H : Heap) (locs : List Loc) (ls : Array Slot), Wo D A s (cT ht b9.2) H locs → lv_has ls 2 [(0, .ref ht), (1, .int b9.1)] → W p l e (rM 0 0) s m args below meth c H locs 0 0 (MQ below (QV D (S := Wd) (fun u => Q u) (fun u => (cT ht u)) A) args s 0 0 A) (F0 m 5 ls [])) (hC : Cx D cy cz t1 t2 p s m args meth c cX2_reduce 2 none RX2 A) (x1 : Int32) (wt : Wd) {H : Heap} {locs : List Loc} {ls : Array Slot} (hq : k_X2_reduce_49 K5 Q x1 wt) (hW : Wo D A s (cT ht wt) H locs) (hl : lv_has ls 2 [(0, .ref ht), (1, .int x1)]) : W p l e (rM 0 0) s m args below meth c H locs 0 0 (MQ below (QV D (S := Wd) (fun u => Q u) (fun u => (cT ht u)) A) args s 0 0 A) (F0 m 49 ls []) := by
  unfold k_X2_reduce_49 at hq
  refine lv_iinc (v := (x1 + (-1))) (lv' := [(1, .int (x1 + (-1))), (0, .ref ht)]) hC.x hC.b dX2_reduce_49 hl (k := 1) rfl rfl (by decide) rfl (fun ls hl => ?_)
  refine lv_goto (tgt := 5) hC.x hC.b dX2_reduce_52 (by decide) ?_
  exact hK5 ((x1 + (-1)), wt) hq _ _ _ hW (lv_sub hl [1, 0] rfl)
def k_X2_reduce_5 (K5 : (Int32 × Wd) → Prop) (Q : Wd → Prop) (x1 : Int32) (wt : Wd) : Prop :=
 ((x1 ≤ 1 → (Q wt)) ∧
 (¬ x1 ≤ 1 → (¬ x1 = 0 ∧ ((¬ ((wt 2 0) - (wt 2 0) / x1 * x1) = 0 → (k_X2_reduce_49 K5 Q x1 wt)) ∧
 (((wt 2 0) - (wt 2 0) / x1 * x1) = 0 → (¬ x1 = 0 ∧ ((¬ ((wt 3 0) - (wt 3 0) / x1 * x1) = 0 → (k_X2_reduce_49 K5 Q x1 wt)) ∧
 (((wt 3 0) - (wt 3 0) / x1 * x1) = 0 → (¬ x1 = 0 ∧ (¬ x1 = 0 ∧ (Q (up2 (up2 wt 2 0 ((wt 2 0) / x1)) 3 0 (((up2 wt 2 0 ((wt 2 0) / x1)) 3 0) / x1)))))))))))))
set_option maxHeartbeats 4000000 in
set_option maxRecDepth 100000 in
theorem B_X2_reduce_5 {l : Launch} {p : Program} {e : Env} {s : State} {m : MethodId} {args : Array Value} {below : List Frame} {meth : Method} {c : Code} {A : Nat → Prop} {D : va_G} {cy cz : ClassId} {t1 t2 : Nat} (ht : Nat) (Q : Wd → Prop) (K5 : (Int32 × Wd) → Prop) (hK5 : ∀ b9 : Int32 × Wd, K5 b9 → ∀ (H : Heap) (locs : List Loc) (ls : Array Slot), Wo D A s (cT ht b9.2) H locs → lv_has ls 2 [(0, .ref ht), (1, .int b9.1)] → W p l e (rM 0 0) s m args below meth c H locs 0 0 (MQ below (QV D (S := Wd) (fun u => Q u) (fun u => (cT ht u)) A) args s 0 0 A) (F0 m 5 ls [])) (hC : Cx D cy cz t1 t2 p s m args meth c cX2_reduce 2 none RX2 A) (x1 : Int32) (wt : Wd) {H : Heap} {locs : List Loc} {ls : Array Slot} (hq : k_X2_reduce_5 K5 Q x1 wt) (hW : Wo D A s (cT ht wt) H locs) (hl : lv_has ls 2 [(0, .ref ht), (1, .int x1)]) : W p l e (rM 0 0) s m args below meth c H locs 0 0 (MQ below (QV D (S := Wd) (fun u => Q u) (fun u => (cT ht u)) A) args s 0 0 A) (F0 m 5 ls []) := by
  unfold k_X2_reduce_5 at hq
  refine lv_iload_n hC.x hC.b dX2_reduce_5 rfl (lv_at hl 1 rfl) ?_
  refine lv_iconst (v := 1) hC.x hC.b dX2_reduce_6 (by decide) ?_
  refine lv_icmp_le (tgt := 55) hC.x hC.b dX2_reduce_7 (by decide) (fun hc9 => ?_) (fun hc9 => ?_)
  · replace hq := hq.1 hc9
    exact hc_vret hC (wt) hW hq dX2_reduce_55
  · replace hq := hq.2 hc9
    refine lv_aload_n hC.x hC.b dX2_reduce_10 rfl (lv_at hl 0 rfl) ?_
    refine hc_get (v := .int (wt 2 0)) hC hW 0 2 2 inX2 rfl rfl (by decide) q_465 rfl dX2_reduce_11 ?_
    refine lv_iload_n hC.x hC.b dX2_reduce_14 rfl (lv_at hl 1 rfl) ?_
    refine lv_irem hC.x hC.b dX2_reduce_15 hq.1 ?_
    replace hq := hq.2
    refine lv_if_ne (tgt := 49) hC.x hC.b dX2_reduce_16 (by decide) (fun hc9 => ?_) (fun hc9 => ?_)
    · replace hq := hq.1 hc9
      exact B_X2_reduce_49 ht Q K5 hK5 hC x1 wt hq hW (lv_sub hl [0, 1] rfl)
    · replace hq := hq.2 hc9
      refine lv_aload_n hC.x hC.b dX2_reduce_19 rfl (lv_at hl 0 rfl) ?_
      refine hc_get (v := .int (wt 3 0)) hC hW 0 2 3 inX2 rfl rfl (by decide) q_466 rfl dX2_reduce_20 ?_
      refine lv_iload_n hC.x hC.b dX2_reduce_23 rfl (lv_at hl 1 rfl) ?_
      refine lv_irem hC.x hC.b dX2_reduce_24 hq.1 ?_
      replace hq := hq.2
      refine lv_if_ne (tgt := 49) hC.x hC.b dX2_reduce_25 (by decide) (fun hc9 => ?_) (fun hc9 => ?_)
      · replace hq := hq.1 hc9
        exact B_X2_reduce_49 ht Q K5 hK5 hC x1 wt hq hW (lv_sub hl [0, 1] rfl)
      · replace hq := hq.2 hc9
        refine lv_aload_n hC.x hC.b dX2_reduce_28 rfl (lv_at hl 0 rfl) ?_
        refine lv_dup hC.x hC.b dX2_reduce_29 rfl ?_
        refine hc_get (v := .int (wt 2 0)) hC hW 0 2 2 inX2 rfl rfl (by decide) q_465 rfl dX2_reduce_30 ?_
        refine lv_iload_n hC.x hC.b dX2_reduce_33 rfl (lv_at hl 1 rfl) ?_
        refine lv_idiv hC.x hC.b dX2_reduce_34 hq.1 ?_
        replace hq := hq.2
        refine hc_put (ws' := (cT ht (up2 wt 2 0 ((wt 2 0) / x1)))) hC hW 0 2 2 inX2 tyX2 tyX2_ok nmX2 rfl rfl (by decide) q_465 rfl rfl rfl rfl (Nat.le_of_ble_eq_true rfl) (cT_put_2 ..) dX2_reduce_35 (fun H locs hW => ?_)
        refine lv_aload_n hC.x hC.b dX2_reduce_38 rfl (lv_at hl 0 rfl) ?_
        refine lv_dup hC.x hC.b dX2_reduce_39 rfl ?_
        refine hc_get (v := .int ((up2 wt 2 0 ((wt 2 0) / x1)) 3 0)) hC hW 0 2 3 inX2 rfl rfl (by decide) q_466 rfl dX2_reduce_40 ?_
        refine lv_iload_n hC.x hC.b dX2_reduce_43 rfl (lv_at hl 1 rfl) ?_
        refine lv_idiv hC.x hC.b dX2_reduce_44 hq.1 ?_
        replace hq := hq.2
        refine hc_put (ws' := (cT ht (up2 (up2 wt 2 0 ((wt 2 0) / x1)) 3 0 (((up2 wt 2 0 ((wt 2 0) / x1)) 3 0) / x1)))) hC hW 0 2 3 inX2 tyX2 tyX2_ok nmX2 rfl rfl (by decide) q_466 rfl rfl rfl rfl (Nat.le_of_ble_eq_true rfl) (cT_put_3 ..) dX2_reduce_45 (fun H locs hW => ?_)
        exact hc_vret hC ((up2 (up2 wt 2 0 ((wt 2 0) / x1)) 3 0 (((up2 wt 2 0 ((wt 2 0) / x1)) 3 0) / x1))) hW hq dX2_reduce_48
def k_X2_reduce  (wt : Wd) (Q : Wd → Prop) : Prop :=
 (∃ n : Nat, lpf (fun (K : (Int32 × Wd) → Prop) (u : Int32 × Wd) => k_X2_reduce_5  K Q u.1 u.2) n ((wt 3 0), wt))
set_option maxHeartbeats 4000000 in
set_option maxRecDepth 100000 in
theorem c_X2_reduce (l : Launch) (D : va_G) (cy cz : ClassId) (t1 t2 : Nat) (ht : Nat)  (wt : Wd) (Q : Wd → Prop) (hq : k_X2_reduce wt Q) : Ct l D cy cz t1 t2 yX2_reduce cX2_reduce 2 none (rM 0 0) [.ref ht] (cT ht wt) (QV D (S := Wd) (fun u => Q u) (fun u => (cT ht u))) := by
  refine Ct.of (own := RX2) (by decide) rfl (Nat.le_of_ble_eq_true rfl) ?_
  intro p e s m below meth c A ls hC hW hl
  unfold k_X2_reduce at hq
  have hl : lv_has ls 2 [(0, .ref ht)] := hl
  refine lv_aload_n hC.x hC.b dX2_reduce_0 rfl (lv_at hl 0 rfl) ?_
  refine hc_get (v := .int (wt 3 0)) hC hW 0 2 3 inX2 rfl rfl (by decide) q_466 rfl dX2_reduce_1 ?_
  refine lv_istore_n (lv' := [(1, .int (wt 3 0)), (0, .ref ht)]) hC.x hC.b dX2_reduce_4 rfl hl (by decide) rfl (fun ls hl => ?_)
  obtain ⟨n9, hq⟩ := hq
  exact lpf_use (G := (fun (u : Int32 × Wd) => ∀ (H : Heap) (locs : List Loc) (ls : Array Slot), Wo D A s (cT ht u.2) H locs → lv_has ls 2 [(0, .ref ht), (1, .int u.1)] → W p l e (rM 0 0) s m _ below meth c H locs 0 0 (MQ below (QV D (S := Wd) (fun u => Q u) (fun u => (cT ht u)) A) _ s 0 0 A) (F0 m 5 ls []))) (fun K hK u hq H locs ls hW hl => B_X2_reduce_5 ht Q  K hK hC u.1 u.2 hq hW hl) n9 _ hq _ _ _ hW (lv_sub hl [1, 0] rfl)
def k_X2_look_83 (K31 : (Int32 × Int32 × Int32 × Wd × Wd) → Prop) (Q : Wd → Wd → Prop) (x2 : Int32) (x3 : Int32) (x4 : Int32) (wt : Wd) (wc : Wd) : Prop :=
 (K31 (x2, x3, (x4 + 1), wt, wc))
set_option maxHeartbeats 4000000 in
set_option maxRecDepth 100000 in
theorem B_X2_look_83 {l : Launch} {p : Program} {e : Env} {s : State} {m : MethodId} {args : Array Value} {below : List Frame} {meth : Method} {c : Code} {A : Nat → Prop} {D : va_G} {cy cz : ClassId} {t1 t2 : Nat} (ht : Nat) (hc : Nat) (ac : Nat → Nat) (Q : Wd → Wd → Prop) (K31 : (Int32 × Int32 × Int32 × Wd × Wd) → Prop) (hK31 : ∀ b9 : Int32 × Int32 × Int32 × Wd × Wd, K31 b9 → ∀ (H : Heap) (locs : List Loc) (ls : Array Slot), Wo D A s (cT ht b9.2.2.2.1 ++ (cC cy hc ac b9.2.2.2.2)) H locs → lv_has ls 5 [(0, .ref ht), (1, .ref hc), (2, .int b9.1), (3, .int b9.2.1), (4, .int b9.2.2.1)] → W p l e (rM 4 92) s m args below meth c H locs 0 0 (MQ below (QV D (S := Wd × Wd) (fun u => Q u.1 u.2) (fun u => (cT ht u.1 ++ (cC cy hc ac u.2))) A) args s 0 0 A) (F0 m 31 ls [])) (hC : Cx D cy cz t1 t2 p s m args meth c cX2_look 5 none RX2 A) (x2 : Int32) (x3 : Int32) (x4 : Int32) (wt : Wd) (wc : Wd) {H : Heap} {locs : List Loc} {ls : Array Slot} (hq : k_X2_look_83 K31 Q x2 x3 x4 wt wc) (hW : Wo D A s (cT ht wt ++ (cC cy hc ac wc)) H locs) (hl : lv_has ls 5 [(0, .ref ht), (1, .ref hc), (2, .int x2), (3, .int x3), (4, .int x4)]) : W p l e (rM 4 92) s m args below meth c H locs 0 0 (MQ below (QV D (S := Wd × Wd) (fun u => Q u.1 u.2) (fun u => (cT ht u.1 ++ (cC cy hc ac u.2))) A) args s 0 0 A) (F0 m 83 ls []) := by
  unfold k_X2_look_83 at hq
  refine lv_iinc (v := (x4 + 1)) (lv' := [(4, .int (x4 + 1)), (0, .ref ht), (1, .ref hc), (2, .int x2), (3, .int x3)]) hC.x hC.b dX2_look_83 hl (k := 4) rfl rfl (by decide) rfl (fun ls hl => ?_)
  refine lv_goto (tgt := 31) hC.x hC.b dX2_look_86 (by decide) ?_
  exact hK31 (x2, x3, (x4 + 1), wt, wc) hq _ _ _ hW (lv_sub hl [1, 2, 3, 4, 0] rfl)
def k_X2_look_31 (K31 : (Int32 × Int32 × Int32 × Wd × Wd) → Prop) (Q : Wd → Wd → Prop) (x2 : Int32) (x3 : Int32) (x4 : Int32) (wt : Wd) (wc : Wd) : Prop :=
 (k_X0_faces wc (fun r34 wc34 => ((r34 ≤ x4 → (k_X2_reduce wt (fun wt90 => (Q wt90 wc34)))) ∧
 (¬ r34 ≤ x4 → (k_X0_hasFace x4 wc34 (fun r43 wc43 => ((¬ r43 = 0 → (vp_in x4 14 ∧ ((¬ (wc43 5 (x4).toNatClampNeg) = 0 → (k_X2_meetSlope x4 x2 x3 wt wc43 (fun wt80 wc80 => (k_X2_look_83 K31 Q x2 x3 x4 wt80 wc80)))) ∧
 ((wc43 5 (x4).toNatClampNeg) = 0 → (k_X2_meetLevel x4 x2 x3 wt wc43 (fun wt68 wc68 => (k_X2_look_83 K31 Q x2 x3 x4 wt68 wc68))))))) ∧
 (r43 = 0 → (k_X2_look_83 K31 Q x2 x3 x4 wt wc43)))))))))
set_option maxHeartbeats 4000000 in
set_option maxRecDepth 100000 in
theorem B_X2_look_31 {l : Launch} {p : Program} {e : Env} {s : State} {m : MethodId} {args : Array Value} {below : List Frame} {meth : Method} {c : Code} {A : Nat → Prop} {D : va_G} {cy cz : ClassId} {t1 t2 : Nat} (ht : Nat) (hc : Nat) (ac : Nat → Nat) (Q : Wd → Wd → Prop) (K31 : (Int32 × Int32 × Int32 × Wd × Wd) → Prop) (hK31 : ∀ b9 : Int32 × Int32 × Int32 × Wd × Wd, K31 b9 → ∀ (H : Heap) (locs : List Loc) (ls : Array Slot), Wo D A s (cT ht b9.2.2.2.1 ++ (cC cy hc ac b9.2.2.2.2)) H locs → lv_has ls 5 [(0, .ref ht), (1, .ref hc), (2, .int b9.1), (3, .int b9.2.1), (4, .int b9.2.2.1)] → W p l e (rM 4 92) s m args below meth c H locs 0 0 (MQ below (QV D (S := Wd × Wd) (fun u => Q u.1 u.2) (fun u => (cT ht u.1 ++ (cC cy hc ac u.2))) A) args s 0 0 A) (F0 m 31 ls [])) (hC : Cx D cy cz t1 t2 p s m args meth c cX2_look 5 none RX2 A) (x2 : Int32) (x3 : Int32) (x4 : Int32) (wt : Wd) (wc : Wd) {H : Heap} {locs : List Loc} {ls : Array Slot} (hq : k_X2_look_31 K31 Q x2 x3 x4 wt wc) (hW : Wo D A s (cT ht wt ++ (cC cy hc ac wc)) H locs) (hl : lv_has ls 5 [(0, .ref ht), (1, .ref hc), (2, .int x2), (3, .int x3), (4, .int x4)]) : W p l e (rM 4 92) s m args below meth c H locs 0 0 (MQ below (QV D (S := Wd × Wd) (fun u => Q u.1 u.2) (fun u => (cT ht u.1 ++ (cC cy hc ac u.2))) A) args s 0 0 A) (F0 m 31 ls []) := by
  unfold k_X2_look_31 at hq
  refine lv_iload hC.x hC.b dX2_look_31 (lv_at hl 4 rfl) ?_
  refine lv_aload_n hC.x hC.b dX2_look_33 rfl (lv_at hl 1 rfl) ?_
  refine hc_goI hC hW (hc_rV hC (c_X0_faces l D cy cz t1 t2 hc ac wc _ hq) (hc_preS hC hW [1, 2, 3, 4, 5, 6, 7, 8, 9, 10, 11, 12, 13, 14] rfl rfl) hW 1 0 rfl rfl q_468 q_68 q_69 q_14 q_70 hd_X0_faces ⟨rfl, rfl⟩ ⟨Nat.le_of_ble_eq_true rfl, Nat.le_of_ble_eq_true rfl⟩ rfl hl.1 rfl (Nat.le_of_ble_eq_true rfl) dX2_look_34 ⟨Nat.zero_le _, Nat.zero_le _⟩) [1, 2, 3, 4, 5, 6, 7, 8, 9, 10, 11, 12, 13, 14] [0] [0, 1, 2, 3, 4, 5, 6, 7, 8, 9, 10, 11, 12, 13, 14] (cT ht wt) (fun u => (cT ht wt ++ (cC cy hc ac u))) rfl rfl (by decide) (by decide) (by decide) (fun u => rfl) (fun r34 u9 H locs hq hW => ?_)
  obtain ⟨wc34, rfl⟩ : ∃ z, z = u9 := ⟨_, rfl⟩
  try dsimp only at hq hW
  refine lv_icmp_ge (tgt := 89) hC.x hC.b dX2_look_37 (by decide) (fun hc9 => ?_) (fun hc9 => ?_)
  · replace hq := hq.1 hc9
    refine lv_aload_n hC.x hC.b dX2_look_89 rfl (lv_at hl 0 rfl) ?_
    refine hc_goV hC hW (hc_rV hC (c_X2_reduce l D cy cz t1 t2 ht wt _ hq) (hc_preS hC hW [0] rfl rfl) hW 0 2 rfl rfl q_489 q_490 q_491 q_25 q_492 hd_X2_reduce ⟨rfl, rfl⟩ ⟨Nat.le_of_ble_eq_true rfl, Nat.le_of_ble_eq_true rfl⟩ rfl hl.1 rfl (Nat.le_of_ble_eq_true rfl) dX2_look_90 ⟨Nat.zero_le _, Nat.zero_le _⟩) [0] [1, 2, 3, 4, 5, 6, 7, 8, 9, 10, 11, 12, 13, 14] [14, 0, 1, 2, 3, 4, 5, 6, 7, 8, 9, 10, 11, 12, 13] (cC cy hc ac wc34) (fun u => (cT ht u ++ (cC cy hc ac wc34))) rfl rfl (by decide) (by decide) (by decide) (fun u => rfl) (fun u9 H locs hq hW => ?_)
    obtain ⟨wt90, rfl⟩ : ∃ z, z = u9 := ⟨_, rfl⟩
    try dsimp only at hq hW
    exact hc_vret hC (wt90, wc34) hW hq dX2_look_93
  · replace hq := hq.2 hc9
    refine lv_aload_n hC.x hC.b dX2_look_40 rfl (lv_at hl 1 rfl) ?_
    refine lv_iload hC.x hC.b dX2_look_41 (lv_at hl 4 rfl) ?_
    refine hc_goI hC hW (hc_rV hC (c_X0_hasFace l D cy cz t1 t2 hc ac x4 wc34 _ hq) (hc_preS hC hW [1, 2, 3, 4, 5, 6, 7, 8, 9, 10, 11, 12, 13, 14] rfl rfl) hW 1 0 rfl rfl q_469 q_273 q_274 q_14 q_275 hd_X0_hasFace ⟨rfl, rfl⟩ ⟨Nat.le_of_ble_eq_true rfl, Nat.le_of_ble_eq_true rfl⟩ rfl hl.1 rfl (Nat.le_of_ble_eq_true rfl) dX2_look_43 ⟨Nat.zero_le _, Nat.zero_le _⟩) [1, 2, 3, 4, 5, 6, 7, 8, 9, 10, 11, 12, 13, 14] [0] [0, 1, 2, 3, 4, 5, 6, 7, 8, 9, 10, 11, 12, 13, 14] (cT ht wt) (fun u => (cT ht wt ++ (cC cy hc ac u))) rfl rfl (by decide) (by decide) (by decide) (fun u => rfl) (fun r43 u9 H locs hq hW => ?_)
    obtain ⟨wc43, rfl⟩ : ∃ z, z = u9 := ⟨_, rfl⟩
    try dsimp only at hq hW
    refine lv_if_ne (tgt := 52) hC.x hC.b dX2_look_46 (by decide) (fun hc9 => ?_) (fun hc9 => ?_)
    · replace hq := hq.1 hc9
      refine lv_aload_n hC.x hC.b dX2_look_52 rfl (lv_at hl 1 rfl) ?_
      refine hc_get (v := .ref (ac 5)) hC hW 1 0 5 inX0 rfl rfl (by decide) q_467 rfl dX2_look_53 ?_
      refine lv_iload hC.x hC.b dX2_look_56 (lv_at hl 4 rfl) ?_
      refine hc_iald hC hW 5 rfl hq.1 dX2_look_58 ?_
      replace hq := hq.2
      refine lv_if_ne (tgt := 74) hC.x hC.b dX2_look_59 (by decide) (fun hc9 => ?_) (fun hc9 => ?_)
      · replace hq := hq.1 hc9
        refine lv_aload_n hC.x hC.b dX2_look_74 rfl (lv_at hl 0 rfl) ?_
        refine lv_aload_n hC.x hC.b dX2_look_75 rfl (lv_at hl 1 rfl) ?_
        refine lv_iload hC.x hC.b dX2_look_76 (lv_at hl 4 rfl) ?_
        refine lv_iload_n hC.x hC.b dX2_look_78 rfl (lv_at hl 2 rfl) ?_
        refine lv_iload_n hC.x hC.b dX2_look_79 rfl (lv_at hl 3 rfl) ?_
        refine hc_goVW hC hW (hc_rV hC (c_X2_meetSlope l D cy cz t1 t2 ht hc ac x4 x2 x3 wt wc43 _ hq) (hc_preW hC hW) hW 0 2 rfl rfl q_482 q_483 q_484 q_25 q_485 hd_X2_meetSlope ⟨rfl, rfl⟩ ⟨Nat.le_of_ble_eq_true rfl, Nat.le_of_ble_eq_true rfl⟩ rfl hl.1 rfl (Nat.le_of_ble_eq_true rfl) dX2_look_80 ⟨Nat.zero_le _, Nat.zero_le _⟩) (fun u9 H locs hq hW => ?_)
        obtain ⟨wt80, wc80⟩ := u9
        try dsimp only at hq hW
        exact B_X2_look_83 ht hc ac Q K31 hK31 hC x2 x3 x4 wt80 wc80 hq hW (lv_sub hl [0, 1, 2, 3, 4] rfl)
      · replace hq := hq.2 hc9
        refine lv_aload_n hC.x hC.b dX2_look_62 rfl (lv_at hl 0 rfl) ?_
        refine lv_aload_n hC.x hC.b dX2_look_63 rfl (lv_at hl 1 rfl) ?_
        refine lv_iload hC.x hC.b dX2_look_64 (lv_at hl 4 rfl) ?_
        refine lv_iload_n hC.x hC.b dX2_look_66 rfl (lv_at hl 2 rfl) ?_
        refine lv_iload_n hC.x hC.b dX2_look_67 rfl (lv_at hl 3 rfl) ?_
        refine hc_goVW hC hW (hc_rV hC (c_X2_meetLevel l D cy cz t1 t2 ht hc ac x4 x2 x3 wt wc43 _ hq) (hc_preW hC hW) hW 0 2 rfl rfl q_470 q_471 q_472 q_25 q_473 hd_X2_meetLevel ⟨rfl, rfl⟩ ⟨Nat.le_of_ble_eq_true rfl, Nat.le_of_ble_eq_true rfl⟩ rfl hl.1 rfl (Nat.le_of_ble_eq_true rfl) dX2_look_68 ⟨Nat.zero_le _, Nat.zero_le _⟩) (fun u9 H locs hq hW => ?_)
        obtain ⟨wt68, wc68⟩ := u9
        try dsimp only at hq hW
        refine lv_goto (tgt := 83) hC.x hC.b dX2_look_71 (by decide) ?_
        exact B_X2_look_83 ht hc ac Q K31 hK31 hC x2 x3 x4 wt68 wc68 hq hW (lv_sub hl [0, 1, 2, 3, 4] rfl)
    · replace hq := hq.2 hc9
      refine lv_goto (tgt := 83) hC.x hC.b dX2_look_49 (by decide) ?_
      exact B_X2_look_83 ht hc ac Q K31 hK31 hC x2 x3 x4 wt wc43 hq hW (lv_sub hl [0, 1, 2, 3, 4] rfl)
def k_X2_look (x2 : Int32) (x3 : Int32) (wt : Wd) (wc : Wd) (Q : Wd → Wd → Prop) : Prop :=
 (k_X3_isStep x2 (fun r21 => ((¬ r21 = 0 → (∃ n : Nat, lpf (fun (K : (Int32 × Int32 × Int32 × Wd × Wd) → Prop) (u : Int32 × Int32 × Int32 × Wd × Wd) => k_X2_look_31  K Q u.1 u.2.1 u.2.2.1 u.2.2.2.1 u.2.2.2.2) n (x2, x3, 0, (up2 (up2 (up2 (up2 wt 0 0 0) 1 0 0) 2 0 0) 3 0 1), wc))) ∧
 (r21 = 0 → (Q (up2 (up2 (up2 (up2 wt 0 0 0) 1 0 0) 2 0 0) 3 0 1) wc)))))
set_option maxHeartbeats 4000000 in
set_option maxRecDepth 100000 in
theorem c_X2_look (l : Launch) (D : va_G) (cy cz : ClassId) (t1 t2 : Nat) (ht : Nat) (hc : Nat) (ac : Nat → Nat) (x2 : Int32) (x3 : Int32) (wt : Wd) (wc : Wd) (Q : Wd → Wd → Prop) (hq : k_X2_look x2 x3 wt wc Q) : Ct l D cy cz t1 t2 yX2_look cX2_look 5 none (rM 4 92) [.ref ht, .ref hc, .int x2, .int x3] (cT ht wt ++ (cC cy hc ac wc)) (QV D (S := Wd × Wd) (fun u => Q u.1 u.2) (fun u => (cT ht u.1 ++ (cC cy hc ac u.2)))) := by
  refine Ct.of (own := RX2) (by decide) rfl (Nat.le_of_ble_eq_true rfl) ?_
  intro p e s m below meth c A ls hC hW hl
  unfold k_X2_look at hq
  have hl : lv_has ls 5 [(0, .ref ht), (1, .ref hc), (2, .int x2), (3, .int x3)] := hl
  refine lv_aload_n hC.x hC.b dX2_look_0 rfl (lv_at hl 0 rfl) ?_
  refine lv_iconst (v := 0) hC.x hC.b dX2_look_1 (by decide) ?_
  refine hc_put (ws' := (cT ht (up2 wt 0 0 0) ++ (cC cy hc ac wc))) hC hW 0 2 0 inX2 tyX2 tyX2_ok nmX2 rfl rfl (by decide) q_463 rfl rfl rfl rfl (Nat.le_of_ble_eq_true rfl) rfl dX2_look_2 (fun H locs hW => ?_)
  refine lv_aload_n hC.x hC.b dX2_look_5 rfl (lv_at hl 0 rfl) ?_
  refine lv_iconst (v := 0) hC.x hC.b dX2_look_6 (by decide) ?_
  refine hc_put (ws' := (cT ht (up2 (up2 wt 0 0 0) 1 0 0) ++ (cC cy hc ac wc))) hC hW 0 2 1 inX2 tyX2 tyX2_ok nmX2 rfl rfl (by decide) q_464 rfl rfl rfl rfl (Nat.le_of_ble_eq_true rfl) rfl dX2_look_7 (fun H locs hW => ?_)
  refine lv_aload_n hC.x hC.b dX2_look_10 rfl (lv_at hl 0 rfl) ?_
  refine lv_iconst (v := 0) hC.x hC.b dX2_look_11 (by decide) ?_
  refine hc_put (ws' := (cT ht (up2 (up2 (up2 wt 0 0 0) 1 0 0) 2 0 0) ++ (cC cy hc ac wc))) hC hW 0 2 2 inX2 tyX2 tyX2_ok nmX2 rfl rfl (by decide) q_465 rfl rfl rfl rfl (Nat.le_of_ble_eq_true rfl) rfl dX2_look_12 (fun H locs hW => ?_)
  refine lv_aload_n hC.x hC.b dX2_look_15 rfl (lv_at hl 0 rfl) ?_
  refine lv_iconst (v := 1) hC.x hC.b dX2_look_16 (by decide) ?_
  refine hc_put (ws' := (cT ht (up2 (up2 (up2 (up2 wt 0 0 0) 1 0 0) 2 0 0) 3 0 1) ++ (cC cy hc ac wc))) hC hW 0 2 3 inX2 tyX2 tyX2_ok nmX2 rfl rfl (by decide) q_466 rfl rfl rfl rfl (Nat.le_of_ble_eq_true rfl) rfl dX2_look_17 (fun H locs hW => ?_)
  refine lv_iload_n hC.x hC.b dX2_look_20 rfl (lv_at hl 2 rfl) ?_
  refine hc_goP hC hW (hc_rN hC (c_X3_isStep l D cy cz t1 t2 x2 _ hq) (hc_preP hC hW) hC.en.1.2.2.2.2.2.2.1 q_399 q_2 q_400 hd_X3_isStep ⟨rfl, rfl⟩ ⟨Nat.le_of_ble_eq_true rfl, Nat.le_of_ble_eq_true rfl⟩ rfl hl.1 rfl (Nat.le_of_ble_eq_true rfl) dX2_look_21 ⟨Nat.zero_le _, Nat.zero_le _⟩) (fun r21 H locs hq hW => ?_)
  try dsimp only at hq
  refine lv_if_ne (tgt := 28) hC.x hC.b dX2_look_24 (by decide) (fun hc9 => ?_) (fun hc9 => ?_)
  · replace hq := hq.1 hc9
    refine lv_iconst (v := 0) hC.x hC.b dX2_look_28 (by decide) ?_
    refine lv_istore (lv' := [(4, .int 0), (0, .ref ht), (1, .ref hc), (2, .int x2), (3, .int x3)]) hC.x hC.b dX2_look_29 hl (by decide) rfl (fun ls hl => ?_)
    obtain ⟨n9, hq⟩ := hq
    exact lpf_use (G := (fun (u : Int32 × Int32 × Int32 × Wd × Wd) => ∀ (H : Heap) (locs : List Loc) (ls : Array Slot), Wo D A s (cT ht u.2.2.2.1 ++ (cC cy hc ac u.2.2.2.2)) H locs → lv_has ls 5 [(0, .ref ht), (1, .ref hc), (2, .int u.1), (3, .int u.2.1), (4, .int u.2.2.1)] → W p l e (rM 4 92) s m _ below meth c H locs 0 0 (MQ below (QV D (S := Wd × Wd) (fun u => Q u.1 u.2) (fun u => (cT ht u.1 ++ (cC cy hc ac u.2))) A) _ s 0 0 A) (F0 m 31 ls []))) (fun K hK u hq H locs ls hW hl => B_X2_look_31 ht hc ac Q  K hK hC u.1 u.2.1 u.2.2.1 u.2.2.2.1 u.2.2.2.2 hq hW hl) n9 _ hq _ _ _ hW (lv_sub hl [1, 2, 3, 4, 0] rfl)
  · replace hq := hq.2 hc9
    exact hc_vret hC ((up2 (up2 (up2 (up2 wt 0 0 0) 1 0 0) 2 0 0) 3 0 1), wc) hW hq dX2_look_27
