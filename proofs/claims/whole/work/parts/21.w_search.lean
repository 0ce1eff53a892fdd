def k_X1_meet (x1 : Int32) (x2 : Int32) (x3 : Int32) (ws : Wd) (Q : Wd → Prop) : Prop :=
 ((((up2 ws 0 0 ((ws 0 0) + 1)) 1 0) < (x2 * x3) → (Q (up2 (up2 (up2 (up2 (up2 ws 0 0 ((ws 0 0) + 1)) 1 0 (x2 * x3)) 2 0 x1) 3 0 x2) 4 0 x3))) ∧
 (¬ ((up2 ws 0 0 ((ws 0 0) + 1)) 1 0) < (x2 * x3) → (Q (up2 ws 0 0 ((ws 0 0) + 1)))))
set_option maxHeartbeats 4000000 in
set_option maxRecDepth 100000 in
theorem c_X1_meet (l : Launch) (D : va_G) (cy cz : ClassId) (t1 t2 : Nat) (hs : Nat) (x1 : Int32) (x2 : Int32) (x3 : Int32) (ws : Wd) (Q : Wd → Prop) (hq : k_X1_meet x1 x2 x3 ws Q) : Ct l D cy cz t1 t2 yX1_meet cX1_meet 4 none (rM 0 0) [.ref hs, .int x1, .int x2, .int x3] (cS hs ws) (QV D (S := Wd) (fun u => Q u) (fun u => (cS hs u))) := by
  refine Ct.of (own := RX1) (by decide) rfl (Nat.le_of_ble_eq_true rfl) ?_
  intro p e s m below meth c A ls hC hW hl
  unfold k_X1_meet at hq
  have hl : lv_has ls 4 [(0, .ref hs), (1, .int x1), (2, .int x2), (3, .int x3)] := hl
  refine lv_aload_n hC.x hC.b dX1_meet_0 rfl (lv_at hl 0 rfl) ?_
  refine lv_dup hC.x hC.b dX1_meet_1 rfl ?_
  refine hc_get (v := .int (ws 0 0)) hC hW 0 1 0 inX1 rfl rfl (by decide) q_324 rfl dX1_meet_2 ?_
  refine lv_iconst (v := 1) hC.x hC.b dX1_meet_5 (by decide) ?_
  refine lv_iadd hC.x hC.b dX1_meet_6 ?_
  refine hc_put (ws' := (cS hs (up2 ws 0 0 ((ws 0 0) + 1)))) hC hW 0 1 0 inX1 tyX1 tyX1_ok nmX1 rfl rfl (by decide) q_324 rfl rfl rfl rfl (Nat.le_of_ble_eq_true rfl) (cS_put_0 ..) dX1_meet_7 (fun H locs hW => ?_)
  refine lv_iload_n hC.x hC.b dX1_meet_10 rfl (lv_at hl 2 rfl) ?_
  refine lv_iload_n hC.x hC.b dX1_meet_11 rfl (lv_at hl 3 rfl) ?_
  refine lv_imul hC.x hC.b dX1_meet_12 ?_
  refine lv_aload_n hC.x hC.b dX1_meet_13 rfl (lv_at hl 0 rfl) ?_
  refine hc_get (v := .int ((up2 ws 0 0 ((ws 0 0) + 1)) 1 0)) hC hW 0 1 1 inX1 rfl rfl (by decide) q_325 rfl dX1_meet_14 ?_
  refine lv_icmp_gt (tgt := 21) hC.x hC.b dX1_meet_17 (by decide) (fun hc9 => ?_) (fun hc9 => ?_)
  · replace hq := hq.1 hc9
    refine lv_aload_n hC.x hC.b dX1_meet_21 rfl (lv_at hl 0 rfl) ?_
    refine lv_iload_n hC.x hC.b dX1_meet_22 rfl (lv_at hl 2 rfl) ?_
    refine lv_iload_n hC.x hC.b dX1_meet_23 rfl (lv_at hl 3 rfl) ?_
    refine lv_imul hC.x hC.b dX1_meet_24 ?_
    refine hc_put (ws' := (cS hs (up2 (up2 ws 0 0 ((ws 0 0) + 1)) 1 0 (x2 * x3)))) hC hW 0 1 1 inX1 tyX1 tyX1_ok nmX1 rfl rfl (by decide) q_325 rfl rfl rfl rfl (Nat.le_of_ble_eq_true rfl) (cS_put_1 ..) dX1_meet_25 (fun H locs hW => ?_)
    refine lv_aload_n hC.x hC.b dX1_meet_28 rfl (lv_at hl 0 rfl) ?_
    refine lv_iload_n hC.x hC.b dX1_meet_29 rfl (lv_at hl 1 rfl) ?_
    refine hc_put (ws' := (cS hs (up2 (up2 (up2 ws 0 0 ((ws 0 0) + 1)) 1 0 (x2 * x3)) 2 0 x1))) hC hW 0 1 2 inX1 tyX1 tyX1_ok nmX1 rfl rfl (by decide) q_334 rfl rfl rfl rfl (Nat.le_of_ble_eq_true rfl) (cS_put_2 ..) dX1_meet_30 (fun H locs hW => ?_)
    refine lv_aload_n hC.x hC.b dX1_meet_33 rfl (lv_at hl 0 rfl) ?_
    refine lv_iload_n hC.x hC.b dX1_meet_34 rfl (lv_at hl 2 rfl) ?_
    refine hc_put (ws' := (cS hs (up2 (up2 (up2 (up2 ws 0 0 ((ws 0 0) + 1)) 1 0 (x2 * x3)) 2 0 x1) 3 0 x2))) hC hW 0 1 3 inX1 tyX1 tyX1_ok nmX1 rfl rfl (by decide) q_335 rfl rfl rfl rfl (Nat.le_of_ble_eq_true rfl) (cS_put_3 ..) dX1_meet_35 (fun H locs hW => ?_)
    refine lv_aload_n hC.x hC.b dX1_meet_38 rfl (lv_at hl 0 rfl) ?_
    refine lv_iload_n hC.x hC.b dX1_meet_39 rfl (lv_at hl 3 rfl) ?_
    refine hc_put (ws' := (cS hs (up2 (up2 (up2 (up2 (up2 ws 0 0 ((ws 0 0) + 1)) 1 0 (x2 * x3)) 2 0 x1) 3 0 x2) 4 0 x3))) hC hW 0 1 4 inX1 tyX1 tyX1_ok nmX1 rfl rfl (by decide) q_336 rfl rfl rfl rfl (Nat.le_of_ble_eq_true rfl) (cS_put_4 ..) dX1_meet_40 (fun H locs hW => ?_)
    exact hc_vret hC ((up2 (up2 (up2 (up2 (up2 ws 0 0 ((ws 0 0) + 1)) 1 0 (x2 * x3)) 2 0 x1) 3 0 x2) 4 0 x3)) hW hq dX1_meet_43
  · replace hq := hq.2 hc9
    exact hc_vret hC ((up2 ws 0 0 ((ws 0 0) + 1))) hW hq dX1_meet_20
def k_X1_sweep_87 (K25 : (Int32 × Int32 × Wd × Wd) → Prop) (K49 : (Int32 × Int32 × Int32 × Int32 × Int32 × Wd × Wd) → Prop) (K59 : (Int32 × Int32 × Int32 × Int32 × Int32 × Int32 × Wd × Wd) → Prop) (Q : Wd → Wd → Prop) (x2 : Int32) (x3 : Int32) (x4 : Int32) (x5 : Int32) (x6 : Int32) (x7 : Int32) (ws : Wd) (wc : Wd) : Prop :=
 (K59 (x2, x3, x4, x5, x6, (x7 + 1), ws, wc))
set_option maxHeartbeats 4000000 in
set_option maxRecDepth 100000 in
theorem B_X1_sweep_87 {l : Launch} {p : Program} {e : Env} {s : State} {m : MethodId} {args : Array Value} {below : List Frame} {meth : Method} {c : Code} {A : Nat → Prop} {D : va_G} {cy cz : ClassId} {t1 t2 : Nat} (hs : Nat) (hc : Nat) (ac : Nat → Nat) (Q : Wd → Wd → Prop) (K25 : (Int32 × Int32 × Wd × Wd) → Prop) (hK25 : ∀ b9 : Int32 × Int32 × Wd × Wd, K25 b9 → ∀ (H : Heap) (locs : List Loc) (ls : Array Slot), Wo D A s (cS hs b9.2.2.1 ++ (cC cy hc ac b9.2.2.2)) H locs → lv_has ls 8 [(0, .ref hs), (1, .ref hc), (2, .int b9.1), (3, .int b9.2.1)] → W p l e (rM 3 82) s m args below meth c H locs 0 0 (MQ below (QV D (S := Wd × Wd) (fun u => Q u.1 u.2) (fun u => (cS hs u.1 ++ (cC cy hc ac u.2))) A) args s 0 0 A) (F0 m 25 ls [])) (K49 : (Int32 × Int32 × Int32 × Int32 × Int32 × Wd × Wd) → Prop) (hK49 : ∀ b9 : Int32 × Int32 × Int32 × Int32 × Int32 × Wd × Wd, K49 b9 → ∀ (H : Heap) (locs : List Loc) (ls : Array Slot), Wo D A s (cS hs b9.2.2.2.2.2.1 ++ (cC cy hc ac b9.2.2.2.2.2.2)) H locs → lv_has ls 8 [(0, .ref hs), (1, .ref hc), (2, .int b9.1), (3, .int b9.2.1), (4, .int b9.2.2.1), (5, .int b9.2.2.2.1), (6, .int b9.2.2.2.2.1)] → W p l e (rM 3 82) s m args below meth c H locs 0 0 (MQ below (QV D (S := Wd × Wd) (fun u => Q u.1 u.2) (fun u => (cS hs u.1 ++ (cC cy hc ac u.2))) A) args s 0 0 A) (F0 m 49 ls [])) (K59 : (Int32 × Int32 × Int32 × Int32 × Int32 × Int32 × Wd × Wd) → Prop) (hK59 : ∀ b9 : Int32 × Int32 × Int32 × Int32 × Int32 × Int32 × Wd × Wd, K59 b9 → ∀ (H : Heap) (locs : List Loc) (ls : Array Slot), Wo D A s (cS hs b9.2.2.2.2.2.2.1 ++ (cC cy hc ac b9.2.2.2.2.2.2.2)) H locs → lv_has ls 8 [(0, .ref hs), (1, .ref hc), (2, .int b9.1), (3, .int b9.2.1), (4, .int b9.2.2.1), (5, .int b9.2.2.2.1), (6, .int b9.2.2.2.2.1), (7, .int b9.2.2.2.2.2.1)] → W p l e (rM 3 82) s m args below meth c H locs 0 0 (MQ below (QV D (S := Wd × Wd) (fun u => Q u.1 u.2) (fun u => (cS hs u.1 ++ (cC cy hc ac u.2))) A) args s 0 0 A) (F0 m 59 ls [])) (hC : Cx D cy cz t1 t2 p s m args meth c cX1_sweep 8 none RX1 A) (x2 : Int32) (x3 : Int32) (x4 : Int32) (x5 : Int32) (x6 : Int32) (x7 : Int32) (ws : Wd) (wc : Wd) {H : Heap} {locs : List Loc} {ls : Array Slot} (hq : k_X1_sweep_87 K25 K49 K59 Q x2 x3 x4 x5 x6 x7 ws wc) (hW : Wo D A s (cS hs ws ++ (cC cy hc ac wc)) H locs) (hl : lv_has ls 8 [(0, .ref hs), (1, .ref hc), (2, .int x2), (3, .int x3), (4, .int x4), (5, .int x5), (6, .int x6), (7, .int x7)]) : W p l e (rM 3 82) s m args below meth c H locs 0 0 (MQ below (QV D (S := Wd × Wd) (fun u => Q u.1 u.2) (fun u => (cS hs u.1 ++ (cC cy hc ac u.2))) A) args s 0 0 A) (F0 m 87 ls []) := by
  unfold k_X1_sweep_87 at hq
  refine lv_iinc (v := (x7 + 1)) (lv' := [(7, .int (x7 + 1)), (0, .ref hs), (1, .ref hc), (2, .int x2), (3, .int x3), (4, .int x4), (5, .int x5), (6, .int x6)]) hC.x hC.b dX1_sweep_87 hl (k := 7) rfl rfl (by decide) rfl (fun ls hl => ?_)
  refine lv_goto (tgt := 59) hC.x hC.b dX1_sweep_90 (by decide) ?_
  exact hK59 (x2, x3, x4, x5, x6, (x7 + 1), ws, wc) hq _ _ _ hW (lv_sub hl [1, 2, 3, 4, 5, 6, 7, 0] rfl)
def k_X1_sweep_59 (K25 : (Int32 × Int32 × Wd × Wd) → Prop) (K49 : (Int32 × Int32 × Int32 × Int32 × Int32 × Wd × Wd) → Prop) (K59 : (Int32 × Int32 × Int32 × Int32 × Int32 × Int32 × Wd × Wd) → Prop) (Q : Wd → Wd → Prop) (x2 : Int32) (x3 : Int32) (x4 : Int32) (x5 : Int32) (x6 : Int32) (x7 : Int32) (ws : Wd) (wc : Wd) : Prop :=
 ((x5 < x7 → (K49 (x2, x3, x4, x5, (x6 + 1), ws, wc))) ∧
 (¬ x5 < x7 → (k_X0_reasonWithinReach x3 x6 x7 wc (fun r72 wc72 => ((¬ r72 = 0 → (k_X1_sweep_87 K25 K49 K59 Q x2 x3 x4 x5 x6 x7 ws wc72)) ∧
 (r72 = 0 → (k_X1_meet x3 x6 x7 ws (fun ws84 => (k_X1_sweep_87 K25 K49 K59 Q x2 x3 x4 x5 x6 x7 ws84 wc72)))))))))
set_option maxHeartbeats 4000000 in
set_option maxRecDepth 100000 in
theorem B_X1_sweep_59 {l : Launch} {p : Program} {e : Env} {s : State} {m : MethodId} {args : Array Value} {below : List Frame} {meth : Method} {c : Code} {A : Nat → Prop} {D : va_G} {cy cz : ClassId} {t1 t2 : Nat} (hs : Nat) (hc : Nat) (ac : Nat → Nat) (Q : Wd → Wd → Prop) (K25 : (Int32 × Int32 × Wd × Wd) → Prop) (hK25 : ∀ b9 : Int32 × Int32 × Wd × Wd, K25 b9 → ∀ (H : Heap) (locs : List Loc) (ls : Array Slot), Wo D A s (cS hs b9.2.2.1 ++ (cC cy hc ac b9.2.2.2)) H locs → lv_has ls 8 [(0, .ref hs), (1, .ref hc), (2, .int b9.1), (3, .int b9.2.1)] → W p l e (rM 3 82) s m args below meth c H locs 0 0 (MQ below (QV D (S := Wd × Wd) (fun u => Q u.1 u.2) (fun u => (cS hs u.1 ++ (cC cy hc ac u.2))) A) args s 0 0 A) (F0 m 25 ls [])) (K49 : (Int32 × Int32 × Int32 × Int32 × Int32 × Wd × Wd) → Prop) (hK49 : ∀ b9 : Int32 × Int32 × Int32 × Int32 × Int32 × Wd × Wd, K49 b9 → ∀ (H : Heap) (locs : List Loc) (ls : Array Slot), Wo D A s (cS hs b9.2.2.2.2.2.1 ++ (cC cy hc ac b9.2.2.2.2.2.2)) H locs → lv_has ls 8 [(0, .ref hs), (1, .ref hc), (2, .int b9.1), (3, .int b9.2.1), (4, .int b9.2.2.1), (5, .int b9.2.2.2.1), (6, .int b9.2.2.2.2.1)] → W p l e (rM 3 82) s m args below meth c H locs 0 0 (MQ below (QV D (S := Wd × Wd) (fun u => Q u.1 u.2) (fun u => (cS hs u.1 ++ (cC cy hc ac u.2))) A) args s 0 0 A) (F0 m 49 ls [])) (K59 : (Int32 × Int32 × Int32 × Int32 × Int32 × Int32 × Wd × Wd) → Prop) (hK59 : ∀ b9 : Int32 × Int32 × Int32 × Int32 × Int32 × Int32 × Wd × Wd, K59 b9 → ∀ (H : Heap) (locs : List Loc) (ls : Array Slot), Wo D A s (cS hs b9.2.2.2.2.2.2.1 ++ (cC cy hc ac b9.2.2.2.2.2.2.2)) H locs → lv_has ls 8 [(0, .ref hs), (1, .ref hc), (2, .int b9.1), (3, .int b9.2.1), (4, .int b9.2.2.1), (5, .int b9.2.2.2.1), (6, .int b9.2.2.2.2.1), (7, .int b9.2.2.2.2.2.1)] → W p l e (rM 3 82) s m args below meth c H locs 0 0 (MQ below (QV D (S := Wd × Wd) (fun u => Q u.1 u.2) (fun u => (cS hs u.1 ++ (cC cy hc ac u.2))) A) args s 0 0 A) (F0 m 59 ls [])) (hC : Cx D cy cz t1 t2 p s m args meth c cX1_sweep 8 none RX1 A) (x2 : Int32) (x3 : Int32) (x4 : Int32) (x5 : Int32) (x6 : Int32) (x7 : Int32) (ws : Wd) (wc : Wd) {H : Heap} {locs : List Loc} {ls : Array Slot} (hq : k_X1_sweep_59 K25 K49 K59 Q x2 x3 x4 x5 x6 x7 ws wc) (hW : Wo D A s (cS hs ws ++ (cC cy hc ac wc)) H locs) (hl : lv_has ls 8 [(0, .ref hs), (1, .ref hc), (2, .int x2), (3, .int x3), (4, .int x4), (5, .int x5), (6, .int x6), (7, .int x7)]) : W p l e (rM 3 82) s m args below meth c H locs 0 0 (MQ below (QV D (S := Wd × Wd) (fun u => Q u.1 u.2) (fun u => (cS hs u.1 ++ (cC cy hc ac u.2))) A) args s 0 0 A) (F0 m 59 ls []) := by
  unfold k_X1_sweep_59 at hq
  refine lv_iload hC.x hC.b dX1_sweep_59 (lv_at hl 7 rfl) ?_
  refine lv_iload hC.x hC.b dX1_sweep_61 (lv_at hl 5 rfl) ?_
  refine lv_icmp_gt (tgt := 93) hC.x hC.b dX1_sweep_63 (by decide) (fun hc9 => ?_) (fun hc9 => ?_)
  · replace hq := hq.1 hc9
    refine lv_iinc (v := (x6 + 1)) (lv' := [(6, .int (x6 + 1)), (0, .ref hs), (1, .ref hc), (2, .int x2), (3, .int x3), (4, .int x4), (5, .int x5), (7, .int x7)]) hC.x hC.b dX1_sweep_93 hl (k := 6) rfl rfl (by decide) rfl (fun ls hl => ?_)
    refine lv_goto (tgt := 49) hC.x hC.b dX1_sweep_96 (by decide) ?_
    exact hK49 (x2, x3, x4, x5, (x6 + 1), ws, wc) hq _ _ _ hW (lv_sub hl [1, 2, 3, 4, 5, 6, 0] rfl)
  · replace hq := hq.2 hc9
    refine lv_aload_n hC.x hC.b dX1_sweep_66 rfl (lv_at hl 1 rfl) ?_
    refine lv_iload_n hC.x hC.b dX1_sweep_67 rfl (lv_at hl 3 rfl) ?_
    refine lv_iload hC.x hC.b dX1_sweep_68 (lv_at hl 6 rfl) ?_
    refine lv_iload hC.x hC.b dX1_sweep_70 (lv_at hl 7 rfl) ?_
    refine hc_goI hC hW (hc_rV hC (c_X0_reasonWithinReach l D cy cz t1 t2 hc ac x3 x6 x7 wc _ hq) (hc_preS hC hW [1, 2, 3, 4, 5, 6, 7, 8, 9, 10, 11, 12, 13, 14] rfl rfl) hW 1 0 rfl rfl q_329 q_157 q_158 q_14 q_159 hd_X0_reasonWithinReach ⟨rfl, rfl⟩ ⟨Nat.le_of_ble_eq_true rfl, Nat.le_of_ble_eq_true rfl⟩ rfl hl.1 rfl (Nat.le_of_ble_eq_true rfl) dX1_sweep_72 ⟨Nat.zero_le _, Nat.zero_le _⟩) [1, 2, 3, 4, 5, 6, 7, 8, 9, 10, 11, 12, 13, 14] [0] [0, 1, 2, 3, 4, 5, 6, 7, 8, 9, 10, 11, 12, 13, 14] (cS hs ws) (fun u => (cS hs ws ++ (cC cy hc ac u))) rfl rfl (by decide) (by decide) (by decide) (fun u => rfl) (fun r72 u9 H locs hq hW => ?_)
    obtain ⟨wc72, rfl⟩ : ∃ z, z = u9 := ⟨_, rfl⟩
    try dsimp only at hq hW
    refine lv_if_ne (tgt := 87) hC.x hC.b dX1_sweep_75 (by decide) (fun hc9 => ?_) (fun hc9 => ?_)
    · replace hq := hq.1 hc9
      exact B_X1_sweep_87 hs hc ac Q K25 hK25 K49 hK49 K59 hK59 hC x2 x3 x4 x5 x6 x7 ws wc72 hq hW (lv_sub hl [0, 1, 2, 3, 4, 5, 6, 7] rfl)
    · replace hq := hq.2 hc9
      refine lv_aload_n hC.x hC.b dX1_sweep_78 rfl (lv_at hl 0 rfl) ?_
      refine lv_iload_n hC.x hC.b dX1_sweep_79 rfl (lv_at hl 3 rfl) ?_
      refine lv_iload hC.x hC.b dX1_sweep_80 (lv_at hl 6 rfl) ?_
      refine lv_iload hC.x hC.b dX1_sweep_82 (lv_at hl 7 rfl) ?_
      refine hc_goV hC hW (hc_rV hC (c_X1_meet l D cy cz t1 t2 hs x3 x6 x7 ws _ hq) (hc_preS hC hW [0] rfl rfl) hW 0 1 rfl rfl q_330 q_331 q_332 q_21 q_333 hd_X1_meet ⟨rfl, rfl⟩ ⟨Nat.le_of_ble_eq_true rfl, Nat.le_of_ble_eq_true rfl⟩ rfl hl.1 rfl (Nat.le_of_ble_eq_true rfl) dX1_sweep_84 ⟨Nat.zero_le _, Nat.zero_le _⟩) [0] [1, 2, 3, 4, 5, 6, 7, 8, 9, 10, 11, 12, 13, 14] [14, 0, 1, 2, 3, 4, 5, 6, 7, 8, 9, 10, 11, 12, 13] (cC cy hc ac wc72) (fun u => (cS hs u ++ (cC cy hc ac wc72))) rfl rfl (by decide) (by decide) (by decide) (fun u => rfl) (fun u9 H locs hq hW => ?_)
      obtain ⟨ws84, rfl⟩ : ∃ z, z = u9 := ⟨_, rfl⟩
      try dsimp only at hq hW
      exact B_X1_sweep_87 hs hc ac Q K25 hK25 K49 hK49 K59 hK59 hC x2 x3 x4 x5 x6 x7 ws84 wc72 hq hW (lv_sub hl [0, 1, 2, 3, 4, 5, 6, 7] rfl)
def k_X1_sweep_49 (K25 : (Int32 × Int32 × Wd × Wd) → Prop) (K49 : (Int32 × Int32 × Int32 × Int32 × Int32 × Wd × Wd) → Prop) (Q : Wd → Wd → Prop) (x2 : Int32) (x3 : Int32) (x4 : Int32) (x5 : Int32) (x6 : Int32) (ws : Wd) (wc : Wd) : Prop :=
 ((x4 < x6 → (K25 (x2, (x3 + 1), ws, wc))) ∧
 (¬ x4 < x6 → (∃ n : Nat, lpf (fun (K : (Int32 × Int32 × Int32 × Int32 × Int32 × Int32 × Wd × Wd) → Prop) (u : Int32 × Int32 × Int32 × Int32 × Int32 × Int32 × Wd × Wd) => k_X1_sweep_59 K25 K49 K Q u.1 u.2.1 u.2.2.1 u.2.2.2.1 u.2.2.2.2.1 u.2.2.2.2.2.1 u.2.2.2.2.2.2.1 u.2.2.2.2.2.2.2) n (x2, x3, x4, x5, x6, 1, ws, wc))))
set_option maxHeartbeats 4000000 in
set_option maxRecDepth 100000 in
theorem B_X1_sweep_49 {l : Launch} {p : Program} {e : Env} {s : State} {m : MethodId} {args : Array Value} {below : List Frame} {meth : Method} {c : Code} {A : Nat → Prop} {D : va_G} {cy cz : ClassId} {t1 t2 : Nat} (hs : Nat) (hc : Nat) (ac : Nat → Nat) (Q : Wd → Wd → Prop) (K25 : (Int32 × Int32 × Wd × Wd) → Prop) (hK25 : ∀ b9 : Int32 × Int32 × Wd × Wd, K25 b9 → ∀ (H : Heap) (locs : List Loc) (ls : Array Slot), Wo D A s (cS hs b9.2.2.1 ++ (cC cy hc ac b9.2.2.2)) H locs → lv_has ls 8 [(0, .ref hs), (1, .ref hc), (2, .int b9.1), (3, .int b9.2.1)] → W p l e (rM 3 82) s m args below meth c H locs 0 0 (MQ below (QV D (S := Wd × Wd) (fun u => Q u.1 u.2) (fun u => (cS hs u.1 ++ (cC cy hc ac u.2))) A) args s 0 0 A) (F0 m 25 ls [])) (K49 : (Int32 × Int32 × Int32 × Int32 × Int32 × Wd × Wd) → Prop) (hK49 : ∀ b9 : Int32 × Int32 × Int32 × Int32 × Int32 × Wd × Wd, K49 b9 → ∀ (H : Heap) (locs : List Loc) (ls : Array Slot), Wo D A s (cS hs b9.2.2.2.2.2.1 ++ (cC cy hc ac b9.2.2.2.2.2.2)) H locs → lv_has ls 8 [(0, .ref hs), (1, .ref hc), (2, .int b9.1), (3, .int b9.2.1), (4, .int b9.2.2.1), (5, .int b9.2.2.2.1), (6, .int b9.2.2.2.2.1)] → W p l e (rM 3 82) s m args below meth c H locs 0 0 (MQ below (QV D (S := Wd × Wd) (fun u => Q u.1 u.2) (fun u => (cS hs u.1 ++ (cC cy hc ac u.2))) A) args s 0 0 A) (F0 m 49 ls [])) (hC : Cx D cy cz t1 t2 p s m args meth c cX1_sweep 8 none RX1 A) (x2 : Int32) (x3 : Int32) (x4 : Int32) (x5 : Int32) (x6 : Int32) (ws : Wd) (wc : Wd) {H : Heap} {locs : List Loc} {ls : Array Slot} (hq : k_X1_sweep_49 K25 K49 Q x2 x3 x4 x5 x6 ws wc) (hW : Wo D A s (cS hs ws ++ (cC cy hc ac wc)) H locs) (hl : lv_has ls 8 [(0, .ref hs), (1, .ref hc), (2, .int x2), (3, .int x3), (4, .int x4), (5, .int x5), (6, .int x6)]) : W p l e (rM 3 82) s m args below meth c H locs 0 0 (MQ below (QV D (S := Wd × Wd) (fun u => Q u.1 u.2) (fun u => (cS hs u.1 ++ (cC cy hc ac u.2))) A) args s 0 0 A) (F0 m 49 ls []) := by
  unfold k_X1_sweep_49 at hq
  refine lv_iload hC.x hC.b dX1_sweep_49 (lv_at hl 6 rfl) ?_
  refine lv_iload hC.x hC.b dX1_sweep_51 (lv_at hl 4 rfl) ?_
  refine lv_icmp_gt (tgt := 99) hC.x hC.b dX1_sweep_53 (by decide) (fun hc9 => ?_) (fun hc9 => ?_)
  · replace hq := hq.1 hc9
    refine lv_iinc (v := (x3 + 1)) (lv' := [(3, .int (x3 + 1)), (0, .ref hs), (1, .ref hc), (2, .int x2), (4, .int x4), (5, .int x5), (6, .int x6)]) hC.x hC.b dX1_sweep_99 hl (k := 3) rfl rfl (by decide) rfl (fun ls hl => ?_)
    refine lv_goto (tgt := 25) hC.x hC.b dX1_sweep_102 (by decide) ?_
    exact hK25 (x2, (x3 + 1), ws, wc) hq _ _ _ hW (lv_sub hl [1, 2, 3, 0] rfl)
  · replace hq := hq.2 hc9
    refine lv_iconst (v := 1) hC.x hC.b dX1_sweep_56 (by decide) ?_
    refine lv_istore (lv' := [(7, .int 1), (0, .ref hs), (1, .ref hc), (2, .int x2), (3, .int x3), (4, .int x4), (5, .int x5), (6, .int x6)]) hC.x hC.b dX1_sweep_57 hl (by decide) rfl (fun ls hl => ?_)
    obtain ⟨n9, hq⟩ := hq
    exact lpf_use (G := (fun (u : Int32 × Int32 × Int32 × Int32 × Int32 × Int32 × Wd × Wd) => ∀ (H : Heap) (locs : List Loc) (ls : Array Slot), Wo D A s (cS hs u.2.2.2.2.2.2.1 ++ (cC cy hc ac u.2.2.2.2.2.2.2)) H locs → lv_has ls 8 [(0, .ref hs), (1, .ref hc), (2, .int u.1), (3, .int u.2.1), (4, .int u.2.2.1), (5, .int u.2.2.2.1), (6, .int u.2.2.2.2.1), (7, .int u.2.2.2.2.2.1)] → W p l e (rM 3 82) s m args below meth c H locs 0 0 (MQ below (QV D (S := Wd × Wd) (fun u => Q u.1 u.2) (fun u => (cS hs u.1 ++ (cC cy hc ac u.2))) A) args s 0 0 A) (F0 m 59 ls []))) (fun K hK u hq H locs ls hW hl => B_X1_sweep_59 hs hc ac Q K25 hK25 K49 hK49 K hK hC u.1 u.2.1 u.2.2.1 u.2.2.2.1 u.2.2.2.2.1 u.2.2.2.2.2.1 u.2.2.2.2.2.2.1 u.2.2.2.2.2.2.2 hq hW hl) n9 _ hq _ _ _ hW (lv_sub hl [1, 2, 3, 4, 5, 6, 7, 0] rfl)
def k_X1_sweep_25 (K25 : (Int32 × Int32 × Wd × Wd) → Prop) (Q : Wd → Wd → Prop) (x2 : Int32) (x3 : Int32) (ws : Wd) (wc : Wd) : Prop :=
 ((x2 ≤ x3 → (Q ws wc)) ∧
 (¬ x2 ≤ x3 → (k_X0_reach x3 0 wc (fun r33 wc33 => (k_X0_reach x3 1 wc33 (fun r41 wc41 => (∃ n : Nat, lpf (fun (K : (Int32 × Int32 × Int32 × Int32 × Int32 × Wd × Wd) → Prop) (u : Int32 × Int32 × Int32 × Int32 × Int32 × Wd × Wd) => k_X1_sweep_49 K25 K Q u.1 u.2.1 u.2.2.1 u.2.2.2.1 u.2.2.2.2.1 u.2.2.2.2.2.1 u.2.2.2.2.2.2) n (x2, x3, r33, r41, 1, ws, wc41))))))))
set_option maxHeartbeats 4000000 in
set_option maxRecDepth 100000 in
theorem B_X1_sweep_25 {l : Launch} {p : Program} {e : Env} {s : State} {m : MethodId} {args : Array Value} {below : List Frame} {meth : Method} {c : Code} {A : Nat → Prop} {D : va_G} {cy cz : ClassId} {t1 t2 : Nat} (hs : Nat) (hc : Nat) (ac : Nat → Nat) (Q : Wd → Wd → Prop) (K25 : (Int32 × Int32 × Wd × Wd) → Prop) (hK25 : ∀ b9 : Int32 × Int32 × Wd × Wd, K25 b9 → ∀ (H : Heap) (locs : List Loc) (ls : Array Slot), Wo D A s (cS hs b9.2.2.1 ++ (cC cy hc ac b9.2.2.2)) H locs → lv_has ls 8 [(0, .ref hs), (1, .ref hc), (2, .int b9.1), (3, .int b9.2.1)] → W p l e (rM 3 82) s m args below meth c H locs 0 0 (MQ below (QV D (S := Wd × Wd) (fun u => Q u.1 u.2) (fun u => (cS hs u.1 ++ (cC cy hc ac u.2))) A) args s 0 0 A) (F0 m 25 ls [])) (hC : Cx D cy cz t1 t2 p s m args meth c cX1_sweep 8 none RX1 A) (x2 : Int32) (x3 : Int32) (ws : Wd) (wc : Wd) {H : Heap} {locs : List Loc} {ls : Array Slot} (hq : k_X1_sweep_25 K25 Q x2 x3 ws wc) (hW : Wo D A s (cS hs ws ++ (cC cy hc ac wc)) H locs) (hl : lv_has ls 8 [(0, .ref hs), (1, .ref hc), (2, .int x2), (3, .int x3)]) : W p l e (rM 3 82) s m args below meth c H locs 0 0 (MQ below (QV D (S := Wd × Wd) (fun u => Q u.1 u.2) (fun u => (cS hs u.1 ++ (cC cy hc ac u.2))) A) args s 0 0 A) (F0 m 25 ls []) := by
  unfold k_X1_sweep_25 at hq
  refine lv_iload_n hC.x hC.b dX1_sweep_25 rfl (lv_at hl 3 rfl) ?_
  refine lv_iload_n hC.x hC.b dX1_sweep_26 rfl (lv_at hl 2 rfl) ?_
  refine lv_icmp_ge (tgt := 105) hC.x hC.b dX1_sweep_27 (by decide) (fun hc9 => ?_) (fun hc9 => ?_)
  · replace hq := hq.1 hc9
    exact hc_vret hC (ws, wc) hW hq dX1_sweep_105
  · replace hq := hq.2 hc9
    refine lv_aload_n hC.x hC.b dX1_sweep_30 rfl (lv_at hl 1 rfl) ?_
    refine lv_iload_n hC.x hC.b dX1_sweep_31 rfl (lv_at hl 3 rfl) ?_
    refine lv_iconst (v := 0) hC.x hC.b dX1_sweep_32 (by decide) ?_
    refine hc_goI hC hW (hc_rV hC (c_X0_reach l D cy cz t1 t2 hc ac x3 0 wc _ hq) (hc_preS hC hW [1, 2, 3, 4, 5, 6, 7, 8, 9, 10, 11, 12, 13, 14] rfl rfl) hW 1 0 rfl rfl q_328 q_147 q_148 q_14 q_149 hd_X0_reach ⟨rfl, rfl⟩ ⟨Nat.le_of_ble_eq_true rfl, Nat.le_of_ble_eq_true rfl⟩ rfl hl.1 rfl (Nat.le_of_ble_eq_true rfl) dX1_sweep_33 ⟨Nat.zero_le _, Nat.zero_le _⟩) [1, 2, 3, 4, 5, 6, 7, 8, 9, 10, 11, 12, 13, 14] [0] [0, 1, 2, 3, 4, 5, 6, 7, 8, 9, 10, 11, 12, 13, 14] (cS hs ws) (fun u => (cS hs ws ++ (cC cy hc ac u))) rfl rfl (by decide) (by decide) (by decide) (fun u => rfl) (fun r33 u9 H locs hq hW => ?_)
    obtain ⟨wc33, rfl⟩ : ∃ z, z = u9 := ⟨_, rfl⟩
    try dsimp only at hq hW
    refine lv_istore (lv' := [(4, .int r33), (0, .ref hs), (1, .ref hc), (2, .int x2), (3, .int x3)]) hC.x hC.b dX1_sweep_36 hl (by decide) rfl (fun ls hl => ?_)
    refine lv_aload_n hC.x hC.b dX1_sweep_38 rfl (lv_at hl 2 rfl) ?_
    refine lv_iload_n hC.x hC.b dX1_sweep_39 rfl (lv_at hl 4 rfl) ?_
    refine lv_iconst (v := 1) hC.x hC.b dX1_sweep_40 (by decide) ?_
    refine hc_goI hC hW (hc_rV hC (c_X0_reach l D cy cz t1 t2 hc ac x3 1 wc33 _ hq) (hc_preS hC hW [1, 2, 3, 4, 5, 6, 7, 8, 9, 10, 11, 12, 13, 14] rfl rfl) hW 1 0 rfl rfl q_328 q_147 q_148 q_14 q_149 hd_X0_reach ⟨rfl, rfl⟩ ⟨Nat.le_of_ble_eq_true rfl, Nat.le_of_ble_eq_true rfl⟩ rfl hl.1 rfl (Nat.le_of_ble_eq_true rfl) dX1_sweep_41 ⟨Nat.zero_le _, Nat.zero_le _⟩) [1, 2, 3, 4, 5, 6, 7, 8, 9, 10, 11, 12, 13, 14] [0] [0, 1, 2, 3, 4, 5, 6, 7, 8, 9, 10, 11, 12, 13, 14] (cS hs ws) (fun u => (cS hs ws ++ (cC cy hc ac u))) rfl rfl (by decide) (by decide) (by decide) (fun u => rfl) (fun r41 u9 H locs hq hW => ?_)
    obtain ⟨wc41, rfl⟩ : ∃ z, z = u9 := ⟨_, rfl⟩
    try dsimp only at hq hW
    refine lv_istore (lv' := [(5, .int r41), (4, .int r33), (0, .ref hs), (1, .ref hc), (2, .int x2), (3, .int x3)]) hC.x hC.b dX1_sweep_44 hl (by decide) rfl (fun ls hl => ?_)
    refine lv_iconst (v := 1) hC.x hC.b dX1_sweep_46 (by decide) ?_
    refine lv_istore (lv' := [(6, .int 1), (5, .int r41), (4, .int r33), (0, .ref hs), (1, .ref hc), (2, .int x2), (3, .int x3)]) hC.x hC.b dX1_sweep_47 hl (by decide) rfl (fun ls hl => ?_)
    obtain ⟨n9, hq⟩ := hq
    exact lpf_use (G := (fun (u : Int32 × Int32 × Int32 × Int32 × Int32 × Wd × Wd) => ∀ (H : Heap) (locs : List Loc) (ls : Array Slot), Wo D A s (cS hs u.2.2.2.2.2.1 ++ (cC cy hc ac u.2.2.2.2.2.2)) H locs → lv_has ls 8 [(0, .ref hs), (1, .ref hc), (2, .int u.1), (3, .int u.2.1), (4, .int u.2.2.1), (5, .int u.2.2.2.1), (6, .int u.2.2.2.2.1)] → W p l e (rM 3 82) s m args below meth c H locs 0 0 (MQ below (QV D (S := Wd × Wd) (fun u => Q u.1 u.2) (fun u => (cS hs u.1 ++ (cC cy hc ac u.2))) A) args s 0 0 A) (F0 m 49 ls []))) (fun K hK u hq H locs ls hW hl => B_X1_sweep_49 hs hc ac Q K25 hK25 K hK hC u.1 u.2.1 u.2.2.1 u.2.2.2.1 u.2.2.2.2.1 u.2.2.2.2.2.1 u.2.2.2.2.2.2 hq hW hl) n9 _ hq _ _ _ hW (lv_sub hl [3, 4, 5, 6, 2, 1, 0] rfl)
def k_X1_sweep  (ws : Wd) (wc : Wd) (Q : Wd → Wd → Prop) : Prop :=
 (k_X0_isFull wc (fun r11 wc11 => ((r11 = 0 → (k_X0_corners wc11 (fun r19 wc19 => (∃ n : Nat, lpf (fun (K : (Int32 × Int32 × Wd × Wd) → Prop) (u : Int32 × Int32 × Wd × Wd) => k_X1_sweep_25  K Q u.1 u.2.1 u.2.2.1 u.2.2.2) n (r19, 0, (up2 (up2 ws 0 0 0) 1 0 0), wc19))))) ∧
 (¬ r11 = 0 → (Q (up2 (up2 ws 0 0 0) 1 0 0) wc11)))))
set_option maxHeartbeats 4000000 in
set_option maxRecDepth 100000 in
theorem c_X1_sweep (l : Launch) (D : va_G) (cy cz : ClassId) (t1 t2 : Nat) (hs : Nat) (hc : Nat) (ac : Nat → Nat)  (ws : Wd) (wc : Wd) (Q : Wd → Wd → Prop) (hq : k_X1_sweep ws wc Q) : Ct l D cy cz t1 t2 yX1_sweep cX1_sweep 8 none (rM 3 82) [.ref hs, .ref hc] (cS hs ws ++ (cC cy hc ac wc)) (QV D (S := Wd × Wd) (fun u => Q u.1 u.2) (fun u => (cS hs u.1 ++ (cC cy hc ac u.2)))) := by
  refine Ct.of (own := RX1) (by decide) rfl (Nat.le_of_ble_eq_true rfl) ?_
  intro p e s m below meth c A ls hC hW hl
  unfold k_X1_sweep at hq
  have hl : lv_has ls 8 [(0, .ref hs), (1, .ref hc)] := hl
  refine lv_aload_n hC.x hC.b dX1_sweep_0 rfl (lv_at hl 0 rfl) ?_
  refine lv_iconst (v := 0) hC.x hC.b dX1_sweep_1 (by decide) ?_
  refine hc_put (ws' := (cS hs (up2 ws 0 0 0) ++ (cC cy hc ac wc))) hC hW 0 1 0 inX1 tyX1 tyX1_ok nmX1 rfl rfl (by decide) q_324 rfl rfl rfl rfl (Nat.le_of_ble_eq_true rfl) rfl dX1_sweep_2 (fun H locs hW => ?_)
  refine lv_aload_n hC.x hC.b dX1_sweep_5 rfl (lv_at hl 0 rfl) ?_
  refine lv_iconst (v := 0) hC.x hC.b dX1_sweep_6 (by decide) ?_
  refine hc_put (ws' := (cS hs (up2 (up2 ws 0 0 0) 1 0 0) ++ (cC cy hc ac wc))) hC hW 0 1 1 inX1 tyX1 tyX1_ok nmX1 rfl rfl (by decide) q_325 rfl rfl rfl rfl (Nat.le_of_ble_eq_true rfl) rfl dX1_sweep_7 (fun H locs hW => ?_)
  refine lv_aload_n hC.x hC.b dX1_sweep_10 rfl (lv_at hl 1 rfl) ?_
  refine hc_goI hC hW (hc_rV hC (c_X0_isFull l D cy cz t1 t2 hc ac wc _ hq) (hc_preS hC hW [1, 2, 3, 4, 5, 6, 7, 8, 9, 10, 11, 12, 13, 14] rfl rfl) hW 1 0 rfl rfl q_326 q_139 q_140 q_14 q_141 hd_X0_isFull ⟨rfl, rfl⟩ ⟨Nat.le_of_ble_eq_true rfl, Nat.le_of_ble_eq_true rfl⟩ rfl hl.1 rfl (Nat.le_of_ble_eq_true rfl) dX1_sweep_11 ⟨Nat.zero_le _, Nat.zero_le _⟩) [1, 2, 3, 4, 5, 6, 7, 8, 9, 10, 11, 12, 13, 14] [0] [0, 1, 2, 3, 4, 5, 6, 7, 8, 9, 10, 11, 12, 13, 14] (cS hs (up2 (up2 ws 0 0 0) 1 0 0)) (fun u => (cS hs (up2 (up2 ws 0 0 0) 1 0 0) ++ (cC cy hc ac u))) rfl rfl (by decide) (by decide) (by decide) (fun u => rfl) (fun r11 u9 H locs hq hW => ?_)
  obtain ⟨wc11, rfl⟩ : ∃ z, z = u9 := ⟨_, rfl⟩
  try dsimp only at hq hW
  refine lv_if_eq (tgt := 18) hC.x hC.b dX1_sweep_14 (by decide) (fun hc9 => ?_) (fun hc9 => ?_)
  · replace hq := hq.1 hc9
    refine lv_aload_n hC.x hC.b dX1_sweep_18 rfl (lv_at hl 1 rfl) ?_
    refine hc_goI hC hW (hc_rV hC (c_X0_corners l D cy cz t1 t2 hc ac wc11 _ hq) (hc_preS hC hW [1, 2, 3, 4, 5, 6, 7, 8, 9, 10, 11, 12, 13, 14] rfl rfl) hW 1 0 rfl rfl q_327 q_132 q_133 q_14 q_134 hd_X0_corners ⟨rfl, rfl⟩ ⟨Nat.le_of_ble_eq_true rfl, Nat.le_of_ble_eq_true rfl⟩ rfl hl.1 rfl (Nat.le_of_ble_eq_true rfl) dX1_sweep_19 ⟨Nat.zero_le _, Nat.zero_le _⟩) [1, 2, 3, 4, 5, 6, 7, 8, 9, 10, 11, 12, 13, 14] [0] [0, 1, 2, 3, 4, 5, 6, 7, 8, 9, 10, 11, 12, 13, 14] (cS hs (up2 (up2 ws 0 0 0) 1 0 0)) (fun u => (cS hs (up2 (up2 ws 0 0 0) 1 0 0) ++ (cC cy hc ac u))) rfl rfl (by decide) (by decide) (by decide) (fun u => rfl) (fun r19 u9 H locs hq hW => ?_)
    obtain ⟨wc19, rfl⟩ : ∃ z, z = u9 := ⟨_, rfl⟩
    try dsimp only at hq hW
    refine lv_istore_n (lv' := [(2, .int r19), (0, .ref hs), (1, .ref hc)]) hC.x hC.b dX1_sweep_22 rfl hl (by decide) rfl (fun ls hl => ?_)
    refine lv_iconst (v := 0) hC.x hC.b dX1_sweep_23 (by decide) ?_
    refine lv_istore_n (lv' := [(3, .int 0), (2, .int r19), (0, .ref hs), (1, .ref hc)]) hC.x hC.b dX1_sweep_24 rfl hl (by decide) rfl (fun ls hl => ?_)
    obtain ⟨n9, hq⟩ := hq
    exact lpf_use (G := (fun (u : Int32 × Int32 × Wd × Wd) => ∀ (H : Heap) (locs : List Loc) (ls : Array Slot), Wo D A s (cS hs u.2.2.1 ++ (cC cy hc ac u.2.2.2)) H locs → lv_has ls 8 [(0, .ref hs), (1, .ref hc), (2, .int u.1), (3, .int u.2.1)] → W p l e (rM 3 82) s m _ below meth c H locs 0 0 (MQ below (QV D (S := Wd × Wd) (fun u => Q u.1 u.2) (fun u => (cS hs u.1 ++ (cC cy hc ac u.2))) A) _ s 0 0 A) (F0 m 25 ls []))) (fun K hK u hq H locs ls hW hl => B_X1_sweep_25 hs hc ac Q  K hK hC u.1 u.2.1 u.2.2.1 u.2.2.2 hq hW hl) n9 _ hq _ _ _ hW (lv_sub hl [2, 3, 1, 0] rfl)
  · replace hq := hq.2 hc9
    exact hc_vret hC ((up2 (up2 ws 0 0 0) 1 0 0), wc11) hW hq dX1_sweep_17
def k_X1_sizeBehind (x2 : Int32) (x3 : Int32) (x4 : Int32) (ws : Wd) (wc : Wd) (Q : Int32 → Wd → Wd → Prop) : Prop :=
 (k_X0_addBox x2 x3 x4 wc (fun wc5 => (k_X1_sweep ws wc5 (fun ws10 wc10 => (k_X0_dropBox wc10 (fun wc14 => (Q (ws10 1 0) ws10 wc14)))))))
set_option maxHeartbeats 4000000 in
set_option maxRecDepth 100000 in
theorem c_X1_sizeBehind (l : Launch) (D : va_G) (cy cz : ClassId) (t1 t2 : Nat) (hs : Nat) (hc : Nat) (ac : Nat → Nat) (x2 : Int32) (x3 : Int32) (x4 : Int32) (ws : Wd) (wc : Wd) (Q : Int32 → Wd → Wd → Prop) (hq : k_X1_sizeBehind x2 x3 x4 ws wc Q) : Ct l D cy cz t1 t2 yX1_sizeBehind cX1_sizeBehind 5 (some .int) (rM 4 109) [.ref hs, .ref hc, .int x2, .int x3, .int x4] (cS hs ws ++ (cC cy hc ac wc)) (QI D (S := Wd × Wd) (fun r u => Q r u.1 u.2) (fun u => (cS hs u.1 ++ (cC cy hc ac u.2)))) := by
  refine Ct.of (own := RX1) (by decide) rfl (Nat.le_of_ble_eq_true rfl) ?_
  intro p e s m below meth c A ls hC hW hl
  unfold k_X1_sizeBehind at hq
  have hl : lv_has ls 5 [(0, .ref hs), (1, .ref hc), (2, .int x2), (3, .int x3), (4, .int x4)] := hl
  refine lv_aload_n hC.x hC.b dX1_sizeBehind_0 rfl (lv_at hl 1 rfl) ?_
  refine lv_iload_n hC.x hC.b dX1_sizeBehind_1 rfl (lv_at hl 2 rfl) ?_
  refine lv_iload_n hC.x hC.b dX1_sizeBehind_2 rfl (lv_at hl 3 rfl) ?_
  refine lv_iload hC.x hC.b dX1_sizeBehind_3 (lv_at hl 4 rfl) ?_
  refine hc_goV hC hW (hc_rV hC (c_X0_addBox l D cy cz t1 t2 hc ac x2 x3 x4 wc _ hq) (hc_preS hC hW [1, 2, 3, 4, 5, 6, 7, 8, 9, 10, 11, 12, 13, 14] rfl rfl) hW 1 0 rfl rfl q_379 q_172 q_173 q_14 q_174 hd_X0_addBox ⟨rfl, rfl⟩ ⟨Nat.le_of_ble_eq_true rfl, Nat.le_of_ble_eq_true rfl⟩ rfl hl.1 rfl (Nat.le_of_ble_eq_true rfl) dX1_sizeBehind_5 ⟨Nat.zero_le _, Nat.zero_le _⟩) [1, 2, 3, 4, 5, 6, 7, 8, 9, 10, 11, 12, 13, 14] [0] [0, 1, 2, 3, 4, 5, 6, 7, 8, 9, 10, 11, 12, 13, 14] (cS hs ws) (fun u => (cS hs ws ++ (cC cy hc ac u))) rfl rfl (by decide) (by decide) (by decide) (fun u => rfl) (fun u9 H locs hq hW => ?_)
  obtain ⟨wc5, rfl⟩ : ∃ z, z = u9 := ⟨_, rfl⟩
  try dsimp only at hq hW
  refine lv_aload_n hC.x hC.b dX1_sizeBehind_8 rfl (lv_at hl 0 rfl) ?_
  refine lv_aload_n hC.x hC.b dX1_sizeBehind_9 rfl (lv_at hl 1 rfl) ?_
  refine hc_goVW hC hW (hc_rV hC (c_X1_sweep l D cy cz t1 t2 hs hc ac ws wc5 _ hq) (hc_preW hC hW) hW 0 1 rfl rfl q_380 q_321 q_322 q_21 q_323 hd_X1_sweep ⟨rfl, rfl⟩ ⟨Nat.le_of_ble_eq_true rfl, Nat.le_of_ble_eq_true rfl⟩ rfl hl.1 rfl (Nat.le_of_ble_eq_true rfl) dX1_sizeBehind_10 ⟨Nat.zero_le _, Nat.zero_le _⟩) (fun u9 H locs hq hW => ?_)
  obtain ⟨ws10, wc10⟩ := u9
  try dsimp only at hq hW
  refine lv_aload_n hC.x hC.b dX1_sizeBehind_13 rfl (lv_at hl 1 rfl) ?_
  refine hc_goV hC hW (hc_rV hC (c_X0_dropBox l D cy cz t1 t2 hc ac wc10 _ hq) (hc_preS hC hW [1, 2, 3, 4, 5, 6, 7, 8, 9, 10, 11, 12, 13, 14] rfl rfl) hW 1 0 rfl rfl q_381 q_238 q_239 q_14 q_240 hd_X0_dropBox ⟨rfl, rfl⟩ ⟨Nat.le_of_ble_eq_true rfl, Nat.le_of_ble_eq_true rfl⟩ rfl hl.1 rfl (Nat.le_of_ble_eq_true rfl) dX1_sizeBehind_14 ⟨Nat.zero_le _, Nat.zero_le _⟩) [1, 2, 3, 4, 5, 6, 7, 8, 9, 10, 11, 12, 13, 14] [0] [0, 1, 2, 3, 4, 5, 6, 7, 8, 9, 10, 11, 12, 13, 14] (cS hs ws10) (fun u => (cS hs ws10 ++ (cC cy hc ac u))) rfl rfl (by decide) (by decide) (by decide) (fun u => rfl) (fun u9 H locs hq hW => ?_)
  obtain ⟨wc14, rfl⟩ : ∃ z, z = u9 := ⟨_, rfl⟩
  try dsimp only at hq hW
  refine lv_aload_n hC.x hC.b dX1_sizeBehind_17 rfl (lv_at hl 0 rfl) ?_
  refine hc_get (v := .int (ws10 1 0)) hC hW 0 1 1 inX1 rfl rfl (by decide) q_325 rfl dX1_sizeBehind_18 ?_
  exact hc_iret hC (ws10, wc14) hW hq dX1_sizeBehind_21
def k_X1_bestTwo_101 (K19 : (Int32 × Int32 × Int32 × Wd × Wd) → Prop) (K46 : (Int32 × Int32 × Int32 × Int32 × Int32 × Int32 × Wd × Wd) → Prop) (K56 : (Int32 × Int32 × Int32 × Int32 × Int32 × Int32 × Int32 × Wd × Wd) → Prop) (Q : Int32 → Wd → Wd → Prop) (x2 : Int32) (x3 : Int32) (x4 : Int32) (x5 : Int32) (x6 : Int32) (x7 : Int32) (x8 : Int32) (ws : Wd) (wc : Wd) : Prop :=
 (K56 (x2, x3, x4, x5, x6, x7, (x8 + 1), ws, wc))
set_option maxHeartbeats 4000000 in
set_option maxRecDepth 100000 in
theorem B_X1_bestTwo_101 {l : Launch} {p : Program} {e : Env} {s : State} {m : MethodId} {args : Array Value} {below : List Frame} {meth : Method} {c : Code} {A : Nat → Prop} {D : va_G} {cy cz : ClassId} {t1 t2 : Nat} (hs : Nat) (hc : Nat) (ac : Nat → Nat) (Q : Int32 → Wd → Wd → Prop) (K19 : (Int32 × Int32 × Int32 × Wd × Wd) → Prop) (hK19 : ∀ b9 : Int32 × Int32 × Int32 × Wd × Wd, K19 b9 → ∀ (H : Heap) (locs : List Loc) (ls : Array Slot), Wo D A s (cS hs b9.2.2.2.1 ++ (cC cy hc ac b9.2.2.2.2)) H locs → lv_has ls 9 [(0, .ref hs), (1, .ref hc), (2, .int b9.1), (3, .int b9.2.1), (4, .int b9.2.2.1)] → W p l e (rM 5 133) s m args below meth c H locs 0 0 (MQ below (QI D (S := Wd × Wd) (fun r u => Q r u.1 u.2) (fun u => (cS hs u.1 ++ (cC cy hc ac u.2))) A) args s 0 0 A) (F0 m 19 ls [])) (K46 : (Int32 × Int32 × Int32 × Int32 × Int32 × Int32 × Wd × Wd) → Prop) (hK46 : ∀ b9 : Int32 × Int32 × Int32 × Int32 × Int32 × Int32 × Wd × Wd, K46 b9 → ∀ (H : Heap) (locs : List Loc) (ls : Array Slot), Wo D A s (cS hs b9.2.2.2.2.2.2.1 ++ (cC cy hc ac b9.2.2.2.2.2.2.2)) H locs → lv_has ls 9 [(0, .ref hs), (1, .ref hc), (2, .int b9.1), (3, .int b9.2.1), (4, .int b9.2.2.1), (5, .int b9.2.2.2.1), (6, .int b9.2.2.2.2.1), (7, .int b9.2.2.2.2.2.1)] → W p l e (rM 5 133) s m args below meth c H locs 0 0 (MQ below (QI D (S := Wd × Wd) (fun r u => Q r u.1 u.2) (fun u => (cS hs u.1 ++ (cC cy hc ac u.2))) A) args s 0 0 A) (F0 m 46 ls [])) (K56 : (Int32 × Int32 × Int32 × Int32 × Int32 × Int32 × Int32 × Wd × Wd) → Prop) (hK56 : ∀ b9 : Int32 × Int32 × Int32 × Int32 × Int32 × Int32 × Int32 × Wd × Wd, K56 b9 → ∀ (H : Heap) (locs : List Loc) (ls : Array Slot), Wo D A s (cS hs b9.2.2.2.2.2.2.2.1 ++ (cC cy hc ac b9.2.2.2.2.2.2.2.2)) H locs → lv_has ls 9 [(0, .ref hs), (1, .ref hc), (2, .int b9.1), (3, .int b9.2.1), (4, .int b9.2.2.1), (5, .int b9.2.2.2.1), (6, .int b9.2.2.2.2.1), (7, .int b9.2.2.2.2.2.1), (8, .int b9.2.2.2.2.2.2.1)] → W p l e (rM 5 133) s m args below meth c H locs 0 0 (MQ below (QI D (S := Wd × Wd) (fun r u => Q r u.1 u.2) (fun u => (cS hs u.1 ++ (cC cy hc ac u.2))) A) args s 0 0 A) (F0 m 56 ls [])) (hC : Cx D cy cz t1 t2 p s m args meth c cX1_bestTwo 9 (some .int) RX1 A) (x2 : Int32) (x3 : Int32) (x4 : Int32) (x5 : Int32) (x6 : Int32) (x7 : Int32) (x8 : Int32) (ws : Wd) (wc : Wd) {H : Heap} {locs : List Loc} {ls : Array Slot} (hq : k_X1_bestTwo_101 K19 K46 K56 Q x2 x3 x4 x5 x6 x7 x8 ws wc) (hW : Wo D A s (cS hs ws ++ (cC cy hc ac wc)) H locs) (hl : lv_has ls 9 [(0, .ref hs), (1, .ref hc), (2, .int x2), (3, .int x3), (4, .int x4), (5, .int x5), (6, .int x6), (7, .int x7), (8, .int x8)]) : W p l e (rM 5 133) s m args below meth c H locs 0 0 (MQ below (QI D (S := Wd × Wd) (fun r u => Q r u.1 u.2) (fun u => (cS hs u.1 ++ (cC cy hc ac u.2))) A) args s 0 0 A) (F0 m 101 ls []) := by
  unfold k_X1_bestTwo_101 at hq
  refine lv_iinc (v := (x8 + 1)) (lv' := [(8, .int (x8 + 1)), (0, .ref hs), (1, .ref hc), (2, .int x2), (3, .int x3), (4, .int x4), (5, .int x5), (6, .int x6), (7, .int x7)]) hC.x hC.b dX1_bestTwo_101 hl (k := 8) rfl rfl (by decide) rfl (fun ls hl => ?_)
  refine lv_goto (tgt := 56) hC.x hC.b dX1_bestTwo_104 (by decide) ?_
  exact hK56 (x2, x3, x4, x5, x6, x7, (x8 + 1), ws, wc) hq _ _ _ hW (lv_sub hl [1, 2, 3, 4, 5, 6, 7, 8, 0] rfl)
def k_X1_bestTwo_56 (K19 : (Int32 × Int32 × Int32 × Wd × Wd) → Prop) (K46 : (Int32 × Int32 × Int32 × Int32 × Int32 × Int32 × Wd × Wd) → Prop) (K56 : (Int32 × Int32 × Int32 × Int32 × Int32 × Int32 × Int32 × Wd × Wd) → Prop) (Q : Int32 → Wd → Wd → Prop) (x2 : Int32) (x3 : Int32) (x4 : Int32) (x5 : Int32) (x6 : Int32) (x7 : Int32) (x8 : Int32) (ws : Wd) (wc : Wd) : Prop :=
 ((x6 < x8 → (K46 (x2, x3, x4, x5, x6, (x7 + 1), ws, wc))) ∧
 (¬ x6 < x8 → (k_X0_reasonWithinReach x4 x7 x8 wc (fun r70 wc70 => ((r70 = 0 → (k_X1_sizeBehind x4 x7 x8 ws wc70 (fun r93 ws93 wc93 => (k_X1_bestTwo_101 K19 K46 K56 Q (if x2 < ((x7 * x8) + r93) then ((x7 * x8) + r93) else x2) x3 x4 x5 x6 x7 x8 ws93 wc93)))) ∧
 (¬ r70 = 0 → (k_X1_bestTwo_101 K19 K46 K56 Q x2 x3 x4 x5 x6 x7 x8 ws wc70)))))))
set_option maxHeartbeats 4000000 in
set_option maxRecDepth 100000 in
theorem B_X1_bestTwo_56 {l : Launch} {p : Program} {e : Env} {s : State} {m : MethodId} {args : Array Value} {below : List Frame} {meth : Method} {c : Code} {A : Nat → Prop} {D : va_G} {cy cz : ClassId} {t1 t2 : Nat} (hs : Nat) (hc : Nat) (ac : Nat → Nat) (Q : Int32 → Wd → Wd → Prop) (K19 : (Int32 × Int32 × Int32 × Wd × Wd) → Prop) (hK19 : ∀ b9 : Int32 × Int32 × Int32 × Wd × Wd, K19 b9 → ∀ (H : Heap) (locs : List Loc) (ls : Array Slot), Wo D A s (cS hs b9.2.2.2.1 ++ (cC cy hc ac b9.2.2.2.2)) H locs → lv_has ls 9 [(0, .ref hs), (1, .ref hc), (2, .int b9.1), (3, .int b9.2.1), (4, .int b9.2.2.1)] → W p l e (rM 5 133) s m args below meth c H locs 0 0 (MQ below (QI D (S := Wd × Wd) (fun r u => Q r u.1 u.2) (fun u => (cS hs u.1 ++ (cC cy hc ac u.2))) A) args s 0 0 A) (F0 m 19 ls [])) (K46 : (Int32 × Int32 × Int32 × Int32 × Int32 × Int32 × Wd × Wd) → Prop) (hK46 : ∀ b9 : Int32 × Int32 × Int32 × Int32 × Int32 × Int32 × Wd × Wd, K46 b9 → ∀ (H : Heap) (locs : List Loc) (ls : Array Slot), Wo D A s (cS hs b9.2.2.2.2.2.2.1 ++ (cC cy hc ac b9.2.2.2.2.2.2.2)) H locs → lv_has ls 9 [(0, .ref hs), (1, .ref hc), (2, .int b9.1), (3, .int b9.2.1), (4, .int b9.2.2.1), (5, .int b9.2.2.2.1), (6, .int b9.2.2.2.2.1), (7, .int b9.2.2.2.2.2.1)] → W p l e (rM 5 133) s m args below meth c H locs 0 0 (MQ below (QI D (S := Wd × Wd) (fun r u => Q r u.1 u.2) (fun u => (cS hs u.1 ++ (cC cy hc ac u.2))) A) args s 0 0 A) (F0 m 46 ls [])) (K56 : (Int32 × Int32 × Int32 × Int32 × Int32 × Int32 × Int32 × Wd × Wd) → Prop) (hK56 : ∀ b9 : Int32 × Int32 × Int32 × Int32 × Int32 × Int32 × Int32 × Wd × Wd, K56 b9 → ∀ (H : Heap) (locs : List Loc) (ls : Array Slot), Wo D A s (cS hs b9.2.2.2.2.2.2.2.1 ++ (cC cy hc ac b9.2.2.2.2.2.2.2.2)) H locs → lv_has ls 9 [(0, .ref hs), (1, .ref hc), (2, .int b9.1), (3, .int b9.2.1), (4, .int b9.2.2.1), (5, .int b9.2.2.2.1), (6, .int b9.2.2.2.2.1), (7, .int b9.2.2.2.2.2.1), (8, .int b9.2.2.2.2.2.2.1)] → W p l e (rM 5 133) s m args below meth c H locs 0 0 (MQ below (QI D (S := Wd × Wd) (fun r u => Q r u.1 u.2) (fun u => (cS hs u.1 ++ (cC cy hc ac u.2))) A) args s 0 0 A) (F0 m 56 ls [])) (hC : Cx D cy cz t1 t2 p s m args meth c cX1_bestTwo 9 (some .int) RX1 A) (x2 : Int32) (x3 : Int32) (x4 : Int32) (x5 : Int32) (x6 : Int32) (x7 : Int32) (x8 : Int32) (ws : Wd) (wc : Wd) {H : Heap} {locs : List Loc} {ls : Array Slot} (hq : k_X1_bestTwo_56 K19 K46 K56 Q x2 x3 x4 x5 x6 x7 x8 ws wc) (hW : Wo D A s (cS hs ws ++ (cC cy hc ac wc)) H locs) (hl : lv_has ls 9 [(0, .ref hs), (1, .ref hc), (2, .int x2), (3, .int x3), (4, .int x4), (5, .int x5), (6, .int x6), (7, .int x7), (8, .int x8)]) : W p l e (rM 5 133) s m args below meth c H locs 0 0 (MQ below (QI D (S := Wd × Wd) (fun r u => Q r u.1 u.2) (fun u => (cS hs u.1 ++ (cC cy hc ac u.2))) A) args s 0 0 A) (F0 m 56 ls []) := by
  unfold k_X1_bestTwo_56 at hq
  refine lv_iload hC.x hC.b dX1_bestTwo_56 (lv_at hl 8 rfl) ?_
  refine lv_iload hC.x hC.b dX1_bestTwo_58 (lv_at hl 6 rfl) ?_
  refine lv_icmp_gt (tgt := 107) hC.x hC.b dX1_bestTwo_60 (by decide) (fun hc9 => ?_) (fun hc9 => ?_)
  · replace hq := hq.1 hc9
    refine lv_iinc (v := (x7 + 1)) (lv' := [(7, .int (x7 + 1)), (0, .ref hs), (1, .ref hc), (2, .int x2), (3, .int x3), (4, .int x4), (5, .int x5), (6, .int x6), (8, .int x8)]) hC.x hC.b dX1_bestTwo_107 hl (k := 7) rfl rfl (by decide) rfl (fun ls hl => ?_)
    refine lv_goto (tgt := 46) hC.x hC.b dX1_bestTwo_110 (by decide) ?_
    exact hK46 (x2, x3, x4, x5, x6, (x7 + 1), ws, wc) hq _ _ _ hW (lv_sub hl [1, 2, 3, 4, 5, 6, 7, 0] rfl)
  · replace hq := hq.2 hc9
    refine lv_aload_n hC.x hC.b dX1_bestTwo_63 rfl (lv_at hl 1 rfl) ?_
    refine lv_iload hC.x hC.b dX1_bestTwo_64 (lv_at hl 4 rfl) ?_
    refine lv_iload hC.x hC.b dX1_bestTwo_66 (lv_at hl 7 rfl) ?_
    refine lv_iload hC.x hC.b dX1_bestTwo_68 (lv_at hl 8 rfl) ?_
    refine hc_goI hC hW (hc_rV hC (c_X0_reasonWithinReach l D cy cz t1 t2 hc ac x4 x7 x8 wc _ hq) (hc_preS hC hW [1, 2, 3, 4, 5, 6, 7, 8, 9, 10, 11, 12, 13, 14] rfl rfl) hW 1 0 rfl rfl q_329 q_157 q_158 q_14 q_159 hd_X0_reasonWithinReach ⟨rfl, rfl⟩ ⟨Nat.le_of_ble_eq_true rfl, Nat.le_of_ble_eq_true rfl⟩ rfl hl.1 rfl (Nat.le_of_ble_eq_true rfl) dX1_bestTwo_70 ⟨Nat.zero_le _, Nat.zero_le _⟩) [1, 2, 3, 4, 5, 6, 7, 8, 9, 10, 11, 12, 13, 14] [0] [0, 1, 2, 3, 4, 5, 6, 7, 8, 9, 10, 11, 12, 13, 14] (cS hs ws) (fun u => (cS hs ws ++ (cC cy hc ac u))) rfl rfl (by decide) (by decide) (by decide) (fun u => rfl) (fun r70 u9 H locs hq hW => ?_)
    obtain ⟨wc70, rfl⟩ : ∃ z, z = u9 := ⟨_, rfl⟩
    try dsimp only at hq hW
    refine lv_if_eq (tgt := 79) hC.x hC.b dX1_bestTwo_73 (by decide) (fun hc9 => ?_) (fun hc9 => ?_)
    · replace hq := hq.1 hc9
      refine lv_iload_n hC.x hC.b dX1_bestTwo_79 rfl (lv_at hl 2 rfl) ?_
      refine lv_iload hC.x hC.b dX1_bestTwo_80 (lv_at hl 7 rfl) ?_
      refine lv_iload hC.x hC.b dX1_bestTwo_82 (lv_at hl 8 rfl) ?_
      refine lv_imul hC.x hC.b dX1_bestTwo_84 ?_
      refine lv_aload_n hC.x hC.b dX1_bestTwo_85 rfl (lv_at hl 0 rfl) ?_
      refine lv_aload_n hC.x hC.b dX1_bestTwo_86 rfl (lv_at hl 1 rfl) ?_
      refine lv_iload hC.x hC.b dX1_bestTwo_87 (lv_at hl 4 rfl) ?_
      refine lv_iload hC.x hC.b dX1_bestTwo_89 (lv_at hl 7 rfl) ?_
      refine lv_iload hC.x hC.b dX1_bestTwo_91 (lv_at hl 8 rfl) ?_
      refine hc_goIW hC hW (hc_rV hC (c_X1_sizeBehind l D cy cz t1 t2 hs hc ac x4 x7 x8 ws wc70 _ hq) (hc_preW hC hW) hW 0 1 rfl rfl q_375 q_376 q_377 q_21 q_378 hd_X1_sizeBehind ⟨rfl, rfl⟩ ⟨Nat.le_of_ble_eq_true rfl, Nat.le_of_ble_eq_true rfl⟩ rfl hl.1 rfl (Nat.le_of_ble_eq_true rfl) dX1_bestTwo_93 ⟨Nat.zero_le _, Nat.zero_le _⟩) (fun r93 u9 H locs hq hW => ?_)
      obtain ⟨ws93, wc93⟩ := u9
      try dsimp only at hq hW
      refine lv_iadd hC.x hC.b dX1_bestTwo_96 ?_
      refine hc_max hC hl q_374 q_169 q_166 q_170 (Nat.le_of_ble_eq_true rfl) (Nat.le_of_ble_eq_true rfl) (Nat.zero_le _) (Nat.zero_le _) dX1_bestTwo_97 ?_
      refine lv_istore_n (lv' := [(2, .int (if x2 < ((x7 * x8) + r93) then ((x7 * x8) + r93) else x2)), (0, .ref hs), (1, .ref hc), (3, .int x3), (4, .int x4), (5, .int x5), (6, .int x6), (7, .int x7), (8, .int x8)]) hC.x hC.b dX1_bestTwo_100 rfl hl (by decide) rfl (fun ls hl => ?_)
      exact B_X1_bestTwo_101 hs hc ac Q K19 hK19 K46 hK46 K56 hK56 hC (if x2 < ((x7 * x8) + r93) then ((x7 * x8) + r93) else x2) x3 x4 x5 x6 x7 x8 ws93 wc93 hq hW (lv_sub hl [1, 2, 0, 3, 4, 5, 6, 7, 8] rfl)
    · replace hq := hq.2 hc9
      refine lv_goto (tgt := 101) hC.x hC.b dX1_bestTwo_76 (by decide) ?_
      exact B_X1_bestTwo_101 hs hc ac Q K19 hK19 K46 hK46 K56 hK56 hC x2 x3 x4 x5 x6 x7 x8 ws wc70 hq hW (lv_sub hl [0, 1, 2, 3, 4, 5, 6, 7, 8] rfl)
def k_X1_bestTwo_46 (K19 : (Int32 × Int32 × Int32 × Wd × Wd) → Prop) (K46 : (Int32 × Int32 × Int32 × Int32 × Int32 × Int32 × Wd × Wd) → Prop) (Q : Int32 → Wd → Wd → Prop) (x2 : Int32) (x3 : Int32) (x4 : Int32) (x5 : Int32) (x6 : Int32) (x7 : Int32) (ws : Wd) (wc : Wd) : Prop :=
 ((x5 < x7 → (K19 (x2, x3, (x4 + 1), ws, wc))) ∧
 (¬ x5 < x7 → (∃ n : Nat, lpf (fun (K : (Int32 × Int32 × Int32 × Int32 × Int32 × Int32 × Int32 × Wd × Wd) → Prop) (u : Int32 × Int32 × Int32 × Int32 × Int32 × Int32 × Int32 × Wd × Wd) => k_X1_bestTwo_56 K19 K46 K Q u.1 u.2.1 u.2.2.1 u.2.2.2.1 u.2.2.2.2.1 u.2.2.2.2.2.1 u.2.2.2.2.2.2.1 u.2.2.2.2.2.2.2.1 u.2.2.2.2.2.2.2.2) n (x2, x3, x4, x5, x6, x7, 1, ws, wc))))
set_option maxHeartbeats 4000000 in
set_option maxRecDepth 100000 in
theorem B_X1_bestTwo_46 {l : Launch} {p : Program} {e : Env} {s : State} {m : MethodId} {args : Array Value} {below : List Frame} {meth : Method} {c : Code} {A : Nat → Prop} {D : va_G} {cy cz : ClassId} {t1 t2 : Nat} (hs : Nat) (hc : Nat) (ac : Nat → Nat) (Q : Int32 → Wd → Wd → Prop) (K19 : (Int32 × Int32 × Int32 × Wd × Wd) → Prop) (hK19 : ∀ b9 : Int32 × Int32 × Int32 × Wd × Wd, K19 b9 → ∀ (H : Heap) (locs : List Loc) (ls : Array Slot), Wo D A s (cS hs b9.2.2.2.1 ++ (cC cy hc ac b9.2.2.2.2)) H locs → lv_has ls 9 [(0, .ref hs), (1, .ref hc), (2, .int b9.1), (3, .int b9.2.1), (4, .int b9.2.2.1)] → W p l e (rM 5 133) s m args below meth c H locs 0 0 (MQ below (QI D (S := Wd × Wd) (fun r u => Q r u.1 u.2) (fun u => (cS hs u.1 ++ (cC cy hc ac u.2))) A) args s 0 0 A) (F0 m 19 ls [])) (K46 : (Int32 × Int32 × Int32 × Int32 × Int32 × Int32 × Wd × Wd) → Prop) (hK46 : ∀ b9 : Int32 × Int32 × Int32 × Int32 × Int32 × Int32 × Wd × Wd, K46 b9 → ∀ (H : Heap) (locs : List Loc) (ls : Array Slot), Wo D A s (cS hs b9.2.2.2.2.2.2.1 ++ (cC cy hc ac b9.2.2.2.2.2.2.2)) H locs → lv_has ls 9 [(0, .ref hs), (1, .ref hc), (2, .int b9.1), (3, .int b9.2.1), (4, .int b9.2.2.1), (5, .int b9.2.2.2.1), (6, .int b9.2.2.2.2.1), (7, .int b9.2.2.2.2.2.1)] → W p l e (rM 5 133) s m args below meth c H locs 0 0 (MQ below (QI D (S := Wd × Wd) (fun r u => Q r u.1 u.2) (fun u => (cS hs u.1 ++ (cC cy hc ac u.2))) A) args s 0 0 A) (F0 m 46 ls [])) (hC : Cx D cy cz t1 t2 p s m args meth c cX1_bestTwo 9 (some .int) RX1 A) (x2 : Int32) (x3 : Int32) (x4 : Int32) (x5 : Int32) (x6 : Int32) (x7 : Int32) (ws : Wd) (wc : Wd) {H : Heap} {locs : List Loc} {ls : Array Slot} (hq : k_X1_bestTwo_46 K19 K46 Q x2 x3 x4 x5 x6 x7 ws wc) (hW : Wo D A s (cS hs ws ++ (cC cy hc ac wc)) H locs) (hl : lv_has ls 9 [(0, .ref hs), (1, .ref hc), (2, .int x2), (3, .int x3), (4, .int x4), (5, .int x5), (6, .int x6), (7, .int x7)]) : W p l e (rM 5 133) s m args below meth c H locs 0 0 (MQ below (QI D (S := Wd × Wd) (fun r u => Q r u.1 u.2) (fun u => (cS hs u.1 ++ (cC cy hc ac u.2))) A) args s 0 0 A) (F0 m 46 ls []) := by
  unfold k_X1_bestTwo_46 at hq
  refine lv_iload hC.x hC.b dX1_bestTwo_46 (lv_at hl 7 rfl) ?_
  refine lv_iload hC.x hC.b dX1_bestTwo_48 (lv_at hl 5 rfl) ?_
  refine lv_icmp_gt (tgt := 113) hC.x hC.b dX1_bestTwo_50 (by decide) (fun hc9 => ?_) (fun hc9 => ?_)
  · replace hq := hq.1 hc9
    refine lv_iinc (v := (x4 + 1)) (lv' := [(4, .int (x4 + 1)), (0, .ref hs), (1, .ref hc), (2, .int x2), (3, .int x3), (5, .int x5), (6, .int x6), (7, .int x7)]) hC.x hC.b dX1_bestTwo_113 hl (k := 4) rfl rfl (by decide) rfl (fun ls hl => ?_)
    refine lv_goto (tgt := 19) hC.x hC.b dX1_bestTwo_116 (by decide) ?_
    exact hK19 (x2, x3, (x4 + 1), ws, wc) hq _ _ _ hW (lv_sub hl [1, 2, 3, 4, 0] rfl)
  · replace hq := hq.2 hc9
    refine lv_iconst (v := 1) hC.x hC.b dX1_bestTwo_53 (by decide) ?_
    refine lv_istore (lv' := [(8, .int 1), (0, .ref hs), (1, .ref hc), (2, .int x2), (3, .int x3), (4, .int x4), (5, .int x5), (6, .int x6), (7, .int x7)]) hC.x hC.b dX1_bestTwo_54 hl (by decide) rfl (fun ls hl => ?_)
    obtain ⟨n9, hq⟩ := hq
    exact lpf_use (G := (fun (u : Int32 × Int32 × Int32 × Int32 × Int32 × Int32 × Int32 × Wd × Wd) => ∀ (H : Heap) (locs : List Loc) (ls : Array Slot), Wo D A s (cS hs u.2.2.2.2.2.2.2.1 ++ (cC cy hc ac u.2.2.2.2.2.2.2.2)) H locs → lv_has ls 9 [(0, .ref hs), (1, .ref hc), (2, .int u.1), (3, .int u.2.1), (4, .int u.2.2.1), (5, .int u.2.2.2.1), (6, .int u.2.2.2.2.1), (7, .int u.2.2.2.2.2.1), (8, .int u.2.2.2.2.2.2.1)] → W p l e (rM 5 133) s m args below meth c H locs 0 0 (MQ below (QI D (S := Wd × Wd) (fun r u => Q r u.1 u.2) (fun u => (cS hs u.1 ++ (cC cy hc ac u.2))) A) args s 0 0 A) (F0 m 56 ls []))) (fun K hK u hq H locs ls hW hl => B_X1_bestTwo_56 hs hc ac Q K19 hK19 K46 hK46 K hK hC u.1 u.2.1 u.2.2.1 u.2.2.2.1 u.2.2.2.2.1 u.2.2.2.2.2.1 u.2.2.2.2.2.2.1 u.2.2.2.2.2.2.2.1 u.2.2.2.2.2.2.2.2 hq hW hl) n9 _ hq _ _ _ hW (lv_sub hl [1, 2, 3, 4, 5, 6, 7, 8, 0] rfl)
def k_X1_bestTwo_19 (K19 : (Int32 × Int32 × Int32 × Wd × Wd) → Prop) (Q : Int32 → Wd → Wd → Prop) (x2 : Int32) (x3 : Int32) (x4 : Int32) (ws : Wd) (wc : Wd) : Prop :=
 ((x3 ≤ x4 → (Q x2 ws wc)) ∧
 (¬ x3 ≤ x4 → (k_X0_reach x4 0 wc (fun r29 wc29 => (k_X0_reach x4 1 wc29 (fun r38 wc38 => (∃ n : Nat, lpf (fun (K : (Int32 × Int32 × Int32 × Int32 × Int32 × Int32 × Wd × Wd) → Prop) (u : Int32 × Int32 × Int32 × Int32 × Int32 × Int32 × Wd × Wd) => k_X1_bestTwo_46 K19 K Q u.1 u.2.1 u.2.2.1 u.2.2.2.1 u.2.2.2.2.1 u.2.2.2.2.2.1 u.2.2.2.2.2.2.1 u.2.2.2.2.2.2.2) n (x2, x3, x4, r29, r38, 1, ws, wc38))))))))
set_option maxHeartbeats 4000000 in
set_option maxRecDepth 100000 in
theorem B_X1_bestTwo_19 {l : Launch} {p : Program} {e : Env} {s : State} {m : MethodId} {args : Array Value} {below : List Frame} {meth : Method} {c : Code} {A : Nat → Prop} {D : va_G} {cy cz : ClassId} {t1 t2 : Nat} (hs : Nat) (hc : Nat) (ac : Nat → Nat) (Q : Int32 → Wd → Wd → Prop) (K19 : (Int32 × Int32 × Int32 × Wd × Wd) → Prop) (hK19 : ∀ b9 : Int32 × Int32 × Int32 × Wd × Wd, K19 b9 → ∀ (H : Heap) (locs : List Loc) (ls : Array Slot), Wo D A s (cS hs b9.2.2.2.1 ++ (cC cy hc ac b9.2.2.2.2)) H locs → lv_has ls 9 [(0, .ref hs), (1, .ref hc), (2, .int b9.1), (3, .int b9.2.1), (4, .int b9.2.2.1)] → W p l e (rM 5 133) s m args below meth c H locs 0 0 (MQ below (QI D (S := Wd × Wd) (fun r u => Q r u.1 u.2) (fun u => (cS hs u.1 ++ (cC cy hc ac u.2))) A) args s 0 0 A) (F0 m 19 ls [])) (hC : Cx D cy cz t1 t2 p s m args meth c cX1_bestTwo 9 (some .int) RX1 A) (x2 : Int32) (x3 : Int32) (x4 : Int32) (ws : Wd) (wc : Wd) {H : Heap} {locs : List Loc} {ls : Array Slot} (hq : k_X1_bestTwo_19 K19 Q x2 x3 x4 ws wc) (hW : Wo D A s (cS hs ws ++ (cC cy hc ac wc)) H locs) (hl : lv_has ls 9 [(0, .ref hs), (1, .ref hc), (2, .int x2), (3, .int x3), (4, .int x4)]) : W p l e (rM 5 133) s m args below meth c H locs 0 0 (MQ below (QI D (S := Wd × Wd) (fun r u => Q r u.1 u.2) (fun u => (cS hs u.1 ++ (cC cy hc ac u.2))) A) args s 0 0 A) (F0 m 19 ls []) := by
  unfold k_X1_bestTwo_19 at hq
  refine lv_iload hC.x hC.b dX1_bestTwo_19 (lv_at hl 4 rfl) ?_
  refine lv_iload_n hC.x hC.b dX1_bestTwo_21 rfl (lv_at hl 3 rfl) ?_
  refine lv_icmp_ge (tgt := 119) hC.x hC.b dX1_bestTwo_22 (by decide) (fun hc9 => ?_) (fun hc9 => ?_)
  · replace hq := hq.1 hc9
    refine lv_iload_n hC.x hC.b dX1_bestTwo_119 rfl (lv_at hl 2 rfl) ?_
    exact hc_iret hC (ws, wc) hW hq dX1_bestTwo_120
  · replace hq := hq.2 hc9
    refine lv_aload_n hC.x hC.b dX1_bestTwo_25 rfl (lv_at hl 1 rfl) ?_
    refine lv_iload hC.x hC.b dX1_bestTwo_26 (lv_at hl 4 rfl) ?_
    refine lv_iconst (v := 0) hC.x hC.b dX1_bestTwo_28 (by decide) ?_
    refine hc_goI hC hW (hc_rV hC (c_X0_reach l D cy cz t1 t2 hc ac x4 0 wc _ hq) (hc_preS hC hW [1, 2, 3, 4, 5, 6, 7, 8, 9, 10, 11, 12, 13, 14] rfl rfl) hW 1 0 rfl rfl q_328 q_147 q_148 q_14 q_149 hd_X0_reach ⟨rfl, rfl⟩ ⟨Nat.le_of_ble_eq_true rfl, Nat.le_of_ble_eq_true rfl⟩ rfl hl.1 rfl (Nat.le_of_ble_eq_true rfl) dX1_bestTwo_29 ⟨Nat.zero_le _, Nat.zero_le _⟩) [1, 2, 3, 4, 5, 6, 7, 8, 9, 10, 11, 12, 13, 14] [0] [0, 1, 2, 3, 4, 5, 6, 7, 8, 9, 10, 11, 12, 13, 14] (cS hs ws) (fun u => (cS hs ws ++ (cC cy hc ac u))) rfl rfl (by decide) (by decide) (by decide) (fun u => rfl) (fun r29 u9 H locs hq hW => ?_)
    obtain ⟨wc29, rfl⟩ : ∃ z, z = u9 := ⟨_, rfl⟩
    try dsimp only at hq hW
    refine lv_istore (lv' := [(5, .int r29), (0, .ref hs), (1, .ref hc), (2, .int x2), (3, .int x3), (4, .int x4)]) hC.x hC.b dX1_bestTwo_32 hl (by decide) rfl (fun ls hl => ?_)
    refine lv_aload_n hC.x hC.b dX1_bestTwo_34 rfl (lv_at hl 2 rfl) ?_
    refine lv_iload hC.x hC.b dX1_bestTwo_35 (lv_at hl 5 rfl) ?_
    refine lv_iconst (v := 1) hC.x hC.b dX1_bestTwo_37 (by decide) ?_
    refine hc_goI hC hW (hc_rV hC (c_X0_reach l D cy cz t1 t2 hc ac x4 1 wc29 _ hq) (hc_preS hC hW [1, 2, 3, 4, 5, 6, 7, 8, 9, 10, 11, 12, 13, 14] rfl rfl) hW 1 0 rfl rfl q_328 q_147 q_148 q_14 q_149 hd_X0_reach ⟨rfl, rfl⟩ ⟨Nat.le_of_ble_eq_true rfl, Nat.le_of_ble_eq_true rfl⟩ rfl hl.1 rfl (Nat.le_of_ble_eq_true rfl) dX1_bestTwo_38 ⟨Nat.zero_le _, Nat.zero_le _⟩) [1, 2, 3, 4, 5, 6, 7, 8, 9, 10, 11, 12, 13, 14] [0] [0, 1, 2, 3, 4, 5, 6, 7, 8, 9, 10, 11, 12, 13, 14] (cS hs ws) (fun u => (cS hs ws ++ (cC cy hc ac u))) rfl rfl (by decide) (by decide) (by decide) (fun u => rfl) (fun r38 u9 H locs hq hW => ?_)
    obtain ⟨wc38, rfl⟩ : ∃ z, z = u9 := ⟨_, rfl⟩
    try dsimp only at hq hW
    refine lv_istore (lv' := [(6, .int r38), (5, .int r29), (0, .ref hs), (1, .ref hc), (2, .int x2), (3, .int x3), (4, .int x4)]) hC.x hC.b dX1_bestTwo_41 hl (by decide) rfl (fun ls hl => ?_)
    refine lv_iconst (v := 1) hC.x hC.b dX1_bestTwo_43 (by decide) ?_
    refine lv_istore (lv' := [(7, .int 1), (6, .int r38), (5, .int r29), (0, .ref hs), (1, .ref hc), (2, .int x2), (3, .int x3), (4, .int x4)]) hC.x hC.b dX1_bestTwo_44 hl (by decide) rfl (fun ls hl => ?_)
    obtain ⟨n9, hq⟩ := hq
    exact lpf_use (G := (fun (u : Int32 × Int32 × Int32 × Int32 × Int32 × Int32 × Wd × Wd) => ∀ (H : Heap) (locs : List Loc) (ls : Array Slot), Wo D A s (cS hs u.2.2.2.2.2.2.1 ++ (cC cy hc ac u.2.2.2.2.2.2.2)) H locs → lv_has ls 9 [(0, .ref hs), (1, .ref hc), (2, .int u.1), (3, .int u.2.1), (4, .int u.2.2.1), (5, .int u.2.2.2.1), (6, .int u.2.2.2.2.1), (7, .int u.2.2.2.2.2.1)] → W p l e (rM 5 133) s m args below meth c H locs 0 0 (MQ below (QI D (S := Wd × Wd) (fun r u => Q r u.1 u.2) (fun u => (cS hs u.1 ++ (cC cy hc ac u.2))) A) args s 0 0 A) (F0 m 46 ls []))) (fun K hK u hq H locs ls hW hl => B_X1_bestTwo_46 hs hc ac Q K19 hK19 K hK hC u.1 u.2.1 u.2.2.1 u.2.2.2.1 u.2.2.2.2.1 u.2.2.2.2.2.1 u.2.2.2.2.2.2.1 u.2.2.2.2.2.2.2 hq hW hl) n9 _ hq _ _ _ hW (lv_sub hl [3, 4, 5, 6, 7, 2, 1, 0] rfl)
def k_X1_bestTwo  (ws : Wd) (wc : Wd) (Q : Int32 → Wd → Wd → Prop) : Prop :=
 (k_X0_isFull wc (fun r3 wc3 => ((r3 = 0 → (k_X0_corners wc3 (fun r12 wc12 => (∃ n : Nat, lpf (fun (K : (Int32 × Int32 × Int32 × Wd × Wd) → Prop) (u : Int32 × Int32 × Int32 × Wd × Wd) => k_X1_bestTwo_19  K Q u.1 u.2.1 u.2.2.1 u.2.2.2.1 u.2.2.2.2) n (0, r12, 0, ws, wc12))))) ∧
 (¬ r3 = 0 → (Q 0 ws wc3)))))
set_option maxHeartbeats 4000000 in
set_option maxRecDepth 100000 in
theorem c_X1_bestTwo (l : Launch) (D : va_G) (cy cz : ClassId) (t1 t2 : Nat) (hs : Nat) (hc : Nat) (ac : Nat → Nat)  (ws : Wd) (wc : Wd) (Q : Int32 → Wd → Wd → Prop) (hq : k_X1_bestTwo ws wc Q) : Ct l D cy cz t1 t2 yX1_bestTwo cX1_bestTwo 9 (some .int) (rM 5 133) [.ref hs, .ref hc] (cS hs ws ++ (cC cy hc ac wc)) (QI D (S := Wd × Wd) (fun r u => Q r u.1 u.2) (fun u => (cS hs u.1 ++ (cC cy hc ac u.2)))) := by
  refine Ct.of (own := RX1) (by decide) rfl (Nat.le_of_ble_eq_true rfl) ?_
  intro p e s m below meth c A ls hC hW hl
  unfold k_X1_bestTwo at hq
  have hl : lv_has ls 9 [(0, .ref hs), (1, .ref hc)] := hl
  refine lv_iconst (v := 0) hC.x hC.b dX1_bestTwo_0 (by decide) ?_
  refine lv_istore_n (lv' := [(2, .int 0), (0, .ref hs), (1, .ref hc)]) hC.x hC.b dX1_bestTwo_1 rfl hl (by decide) rfl (fun ls hl => ?_)
  refine lv_aload_n hC.x hC.b dX1_bestTwo_2 rfl (lv_at hl 2 rfl) ?_
  refine hc_goI hC hW (hc_rV hC (c_X0_isFull l D cy cz t1 t2 hc ac wc _ hq) (hc_preS hC hW [1, 2, 3, 4, 5, 6, 7, 8, 9, 10, 11, 12, 13, 14] rfl rfl) hW 1 0 rfl rfl q_326 q_139 q_140 q_14 q_141 hd_X0_isFull ⟨rfl, rfl⟩ ⟨Nat.le_of_ble_eq_true rfl, Nat.le_of_ble_eq_true rfl⟩ rfl hl.1 rfl (Nat.le_of_ble_eq_true rfl) dX1_bestTwo_3 ⟨Nat.zero_le _, Nat.zero_le _⟩) [1, 2, 3, 4, 5, 6, 7, 8, 9, 10, 11, 12, 13, 14] [0] [0, 1, 2, 3, 4, 5, 6, 7, 8, 9, 10, 11, 12, 13, 14] (cS hs ws) (fun u => (cS hs ws ++ (cC cy hc ac u))) rfl rfl (by decide) (by decide) (by decide) (fun u => rfl) (fun r3 u9 H locs hq hW => ?_)
  obtain ⟨wc3, rfl⟩ : ∃ z, z = u9 := ⟨_, rfl⟩
  try dsimp only at hq hW
  refine lv_if_eq (tgt := 11) hC.x hC.b dX1_bestTwo_6 (by decide) (fun hc9 => ?_) (fun hc9 => ?_)
  · replace hq := hq.1 hc9
    refine lv_aload_n hC.x hC.b dX1_bestTwo_11 rfl (lv_at hl 2 rfl) ?_
    refine hc_goI hC hW (hc_rV hC (c_X0_corners l D cy cz t1 t2 hc ac wc3 _ hq) (hc_preS hC hW [1, 2, 3, 4, 5, 6, 7, 8, 9, 10, 11, 12, 13, 14] rfl rfl) hW 1 0 rfl rfl q_327 q_132 q_133 q_14 q_134 hd_X0_corners ⟨rfl, rfl⟩ ⟨Nat.le_of_ble_eq_true rfl, Nat.le_of_ble_eq_true rfl⟩ rfl hl.1 rfl (Nat.le_of_ble_eq_true rfl) dX1_bestTwo_12 ⟨Nat.zero_le _, Nat.zero_le _⟩) [1, 2, 3, 4, 5, 6, 7, 8, 9, 10, 11, 12, 13, 14] [0] [0, 1, 2, 3, 4, 5, 6, 7, 8, 9, 10, 11, 12, 13, 14] (cS hs ws) (fun u => (cS hs ws ++ (cC cy hc ac u))) rfl rfl (by decide) (by decide) (by decide) (fun u => rfl) (fun r12 u9 H locs hq hW => ?_)
    obtain ⟨wc12, rfl⟩ : ∃ z, z = u9 := ⟨_, rfl⟩
    try dsimp only at hq hW
    refine lv_istore_n (lv' := [(3, .int r12), (2, .int 0), (0, .ref hs), (1, .ref hc)]) hC.x hC.b dX1_bestTwo_15 rfl hl (by decide) rfl (fun ls hl => ?_)
    refine lv_iconst (v := 0) hC.x hC.b dX1_bestTwo_16 (by decide) ?_
    refine lv_istore (lv' := [(4, .int 0), (3, .int r12), (2, .int 0), (0, .ref hs), (1, .ref hc)]) hC.x hC.b dX1_bestTwo_17 hl (by decide) rfl (fun ls hl => ?_)
    obtain ⟨n9, hq⟩ := hq
    exact lpf_use (G := (fun (u : Int32 × Int32 × Int32 × Wd × Wd) => ∀ (H : Heap) (locs : List Loc) (ls : Array Slot), Wo D A s (cS hs u.2.2.2.1 ++ (cC cy hc ac u.2.2.2.2)) H locs → lv_has ls 9 [(0, .ref hs), (1, .ref hc), (2, .int u.1), (3, .int u.2.1), (4, .int u.2.2.1)] → W p l e (rM 5 133) s m _ below meth c H locs 0 0 (MQ below (QI D (S := Wd × Wd) (fun r u => Q r u.1 u.2) (fun u => (cS hs u.1 ++ (cC cy hc ac u.2))) A) _ s 0 0 A) (F0 m 19 ls []))) (fun K hK u hq H locs ls hW hl => B_X1_bestTwo_19 hs hc ac Q  K hK hC u.1 u.2.1 u.2.2.1 u.2.2.2.1 u.2.2.2.2 hq hW hl) n9 _ hq _ _ _ hW (lv_sub hl [3, 4, 2, 1, 0] rfl)
  · replace hq := hq.2 hc9
    refine lv_iload_n hC.x hC.b dX1_bestTwo_9 rfl (lv_at hl 0 rfl) ?_
    exact hc_iret hC (ws, wc3) hW hq dX1_bestTwo_10
