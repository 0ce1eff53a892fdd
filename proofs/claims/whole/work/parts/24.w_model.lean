def k_X4_in (x0 : Int32) (x1 : Int32) (x2 : Int32)  (Q : Int32 → Prop) : Prop :=
 ((x0 < x1 → (Q 0)) ∧
 (¬ x0 < x1 → ((x2 < x0 → (Q 0)) ∧
 (¬ x2 < x0 → (Q 1)))))
set_option maxHeartbeats 4000000 in
set_option maxRecDepth 100000 in
theorem c_X4_in (l : Launch) (D : va_G) (cy cz : ClassId) (t1 t2 : Nat)  (x0 : Int32) (x1 : Int32) (x2 : Int32)  (Q : Int32 → Prop) (hq : k_X4_in x0 x1 x2 Q) : Ct l D cy cz t1 t2 yX4_in cX4_in 3 (some .boolean) (rM 0 0) [.int x0, .int x1, .int x2] ([] : va_W) (QI D (S := Unit) (fun r u => Q r ) (fun _ => ([] : va_W))) := by
  refine Ct.of (own := RX4) (by decide) rfl (Nat.le_of_ble_eq_true rfl) ?_
  intro p e s m below meth c A ls hC hW hl
  unfold k_X4_in at hq
  have hl : lv_has ls 3 [(0, .int x0), (1, .int x1), (2, .int x2)] := hl
  refine lv_iload_n hC.x hC.b dX4_in_0 rfl (lv_at hl 0 rfl) ?_
  refine lv_iload_n hC.x hC.b dX4_in_1 rfl (lv_at hl 1 rfl) ?_
  refine lv_icmp_lt (tgt := 14) hC.x hC.b dX4_in_2 (by decide) (fun hc9 => ?_) (fun hc9 => ?_)
  · replace hq := hq.1 hc9
    refine lv_iconst (v := 0) hC.x hC.b dX4_in_14 (by decide) ?_
    exact hc_zret hC () hW rfl hq dX4_in_15
  · replace hq := hq.2 hc9
    refine lv_iload_n hC.x hC.b dX4_in_5 rfl (lv_at hl 0 rfl) ?_
    refine lv_iload_n hC.x hC.b dX4_in_6 rfl (lv_at hl 2 rfl) ?_
    refine lv_icmp_gt (tgt := 14) hC.x hC.b dX4_in_7 (by decide) (fun hc9 => ?_) (fun hc9 => ?_)
    · replace hq := hq.1 hc9
      refine lv_iconst (v := 0) hC.x hC.b dX4_in_14 (by decide) ?_
      exact hc_zret hC () hW rfl hq dX4_in_15
    · replace hq := hq.2 hc9
      refine lv_iconst (v := 1) hC.x hC.b dX4_in_10 (by decide) ?_
      refine lv_goto (tgt := 15) hC.x hC.b dX4_in_11 (by decide) ?_
      exact hc_zret hC () hW rfl hq dX4_in_15
def k_X4_at (x0 : Int32) (x1 : Int32)  (Q : Int32 → Prop) : Prop :=
 (Q ((13 * x1) + x0))
set_option maxHeartbeats 4000000 in
set_option maxRecDepth 100000 in
theorem c_X4_at (l : Launch) (D : va_G) (cy cz : ClassId) (t1 t2 : Nat)  (x0 : Int32) (x1 : Int32)  (Q : Int32 → Prop) (hq : k_X4_at x0 x1 Q) : Ct l D cy cz t1 t2 yX4_at cX4_at 2 (some .int) (rM 0 0) [.int x0, .int x1] ([] : va_W) (QI D (S := Unit) (fun r u => Q r ) (fun _ => ([] : va_W))) := by
  refine Ct.of (own := RX4) (by decide) rfl (Nat.le_of_ble_eq_true rfl) ?_
  intro p e s m below meth c A ls hC hW hl
  unfold k_X4_at at hq
  have hl : lv_has ls 2 [(0, .int x0), (1, .int x1)] := hl
  refine lv_bipush (v := 13) hC.x hC.b dX4_at_0 (by decide) ?_
  refine lv_iload_n hC.x hC.b dX4_at_2 rfl (lv_at hl 1 rfl) ?_
  refine lv_imul hC.x hC.b dX4_at_3 ?_
  refine lv_iload_n hC.x hC.b dX4_at_4 rfl (lv_at hl 0 rfl) ?_
  refine lv_iadd hC.x hC.b dX4_at_5 ?_
  exact hc_iret hC () hW hq dX4_at_6
def k_X4_mark_130 (K2 : (Int32 × Int32 × Int32 × Wd) → Prop) (Q : Wd → Prop) (x1 : Int32) (x2 : Int32) (x3 : Int32) (wm : Wd) : Prop :=
 (K2 (x1, x2, (x3 + 1), wm))
set_option maxHeartbeats 4000000 in
set_option maxRecDepth 100000 in
theorem B_X4_mark_130 {l : Launch} {p : Program} {e : Env} {s : State} {m : MethodId} {args : Array Value} {below : List Frame} {meth : Method} {c : Code} {A : Nat → Prop} {D : va_G} {cy cz : ClassId} {t1 t2 : Nat} (hm : Nat) (am : Nat → Nat) (Q : Wd → Prop) (K2 : (Int32 × Int32 × Int32 × Wd) → Prop) (hK2 : ∀ b9 : Int32 × Int32 × Int32 × Wd, K2 b9 → ∀ (H : Heap) (locs : List Loc) (ls : Array Slot), Wo D A s (cM cy cz hm am b9.2.2.2) H locs → lv_has ls 5 [(0, .ref hm), (1, .int b9.1), (2, .int b9.2.1), (3, .int b9.2.2.1)] → W p l e (rM 1 21) s m args below meth c H locs 0 0 (MQ below (QV D (S := Wd) (fun u => Q u) (fun u => (cM cy cz hm am u)) A) args s 0 0 A) (F0 m 2 ls [])) (hC : Cx D cy cz t1 t2 p s m args meth c cX4_mark 5 none RX4 A) (x1 : Int32) (x2 : Int32) (x3 : Int32) (wm : Wd) {H : Heap} {locs : List Loc} {ls : Array Slot} (hq : k_X4_mark_130 K2 Q x1 x2 x3 wm) (hW : Wo D A s (cM cy cz hm am wm) H locs) (hl : lv_has ls 5 [(0, .ref hm), (1, .int x1), (2, .int x2), (3, .int x3)]) : W p l e (rM 1 21) s m args below meth c H locs 0 0 (MQ below (QV D (S := Wd) (fun u => Q u) (fun u => (cM cy cz hm am u)) A) args s 0 0 A) (F0 m 130 ls []) := by
  unfold k_X4_mark_130 at hq
  refine lv_iinc (v := (x3 + 1)) (lv' := [(3, .int (x3 + 1)), (0, .ref hm), (1, .int x1), (2, .int x2)]) hC.x hC.b dX4_mark_130 hl (k := 3) rfl rfl (by decide) rfl (fun ls hl => ?_)
  refine lv_goto (tgt := 2) hC.x hC.b dX4_mark_133 (by decide) ?_
  exact hK2 (x1, x2, (x3 + 1), wm) hq _ _ _ hW (lv_sub hl [1, 2, 3, 0] rfl)
def k_X4_mark_128 (K2 : (Int32 × Int32 × Int32 × Wd) → Prop) (Q : Wd → Prop) (x1 : Int32) (x2 : Int32) (x3 : Int32) (y0 : Int32) (y1 : Int32) (y2 : Int32) (wm : Wd) : Prop :=
 (vp_in y2 169 ∧ (k_X4_mark_130 K2 Q x1 x2 x3 (up2 wm 14 (y2).toNatClampNeg (y1 + y0))))
set_option maxHeartbeats 4000000 in
set_option maxRecDepth 100000 in
theorem B_X4_mark_128 {l : Launch} {p : Program} {e : Env} {s : State} {m : MethodId} {args : Array Value} {below : List Frame} {meth : Method} {c : Code} {A : Nat → Prop} {D : va_G} {cy cz : ClassId} {t1 t2 : Nat} (hm : Nat) (am : Nat → Nat) (Q : Wd → Prop) (K2 : (Int32 × Int32 × Int32 × Wd) → Prop) (hK2 : ∀ b9 : Int32 × Int32 × Int32 × Wd, K2 b9 → ∀ (H : Heap) (locs : List Loc) (ls : Array Slot), Wo D A s (cM cy cz hm am b9.2.2.2) H locs → lv_has ls 5 [(0, .ref hm), (1, .int b9.1), (2, .int b9.2.1), (3, .int b9.2.2.1)] → W p l e (rM 1 21) s m args below meth c H locs 0 0 (MQ below (QV D (S := Wd) (fun u => Q u) (fun u => (cM cy cz hm am u)) A) args s 0 0 A) (F0 m 2 ls [])) (hC : Cx D cy cz t1 t2 p s m args meth c cX4_mark 5 none RX4 A) (x1 : Int32) (x2 : Int32) (x3 : Int32) (y0 : Int32) (y1 : Int32) (y2 : Int32) (wm : Wd) {H : Heap} {locs : List Loc} {ls : Array Slot} (hq : k_X4_mark_128 K2 Q x1 x2 x3 y0 y1 y2 wm) (hW : Wo D A s (cM cy cz hm am wm) H locs) (hl : lv_has ls 5 [(0, .ref hm), (1, .int x1), (2, .int x2), (3, .int x3)]) : W p l e (rM 1 21) s m args below meth c H locs 0 0 (MQ below (QV D (S := Wd) (fun u => Q u) (fun u => (cM cy cz hm am u)) A) args s 0 0 A) (F0 m 128 ls [.int y0, .int y1, .int y2, .ref (am 14)]) := by
  unfold k_X4_mark_128 at hq
  refine lv_iadd hC.x hC.b dX4_mark_128 ?_
  refine hc_iast (ws' := (cM cy cz hm am (up2 wm 14 (y2).toNatClampNeg (y1 + y0)))) hC hW 13 rfl hq.1 (cM_set_14 ..) dX4_mark_129 (fun H locs hW => ?_)
  replace hq := hq.2
  exact B_X4_mark_130 hm am Q K2 hK2 hC x1 x2 x3 (up2 wm 14 (y2).toNatClampNeg (y1 + y0)) hq hW (lv_sub hl [0, 1, 2, 3] rfl)
def k_X4_mark_103 (K2 : (Int32 × Int32 × Int32 × Wd) → Prop) (Q : Wd → Prop) (x1 : Int32) (x2 : Int32) (x3 : Int32) (x4 : Int32) (y0 : Int32) (y1 : Int32) (y2 : Int32) (wm : Wd) : Prop :=
 (vp_in y2 169 ∧ (vp_in x4 169 ∧ (vp_in x1 18 ∧ ((¬ ((up2 wm 13 (y2).toNatClampNeg (y1 + y0)) 3 (x1).toNatClampNeg) = 1 → (k_X4_mark_128 K2 Q x1 x2 x3 0 ((up2 wm 13 (y2).toNatClampNeg (y1 + y0)) 14 (x4).toNatClampNeg) x4 (up2 wm 13 (y2).toNatClampNeg (y1 + y0)))) ∧
 (((up2 wm 13 (y2).toNatClampNeg (y1 + y0)) 3 (x1).toNatClampNeg) = 1 → (k_X4_mark_128 K2 Q x1 x2 x3 x2 ((up2 wm 13 (y2).toNatClampNeg (y1 + y0)) 14 (x4).toNatClampNeg) x4 (up2 wm 13 (y2).toNatClampNeg (y1 + y0))))))))
set_option maxHeartbeats 4000000 in
set_option maxRecDepth 100000 in
theorem B_X4_mark_103 {l : Launch} {p : Program} {e : Env} {s : State} {m : MethodId} {args : Array Value} {below : List Frame} {meth : Method} {c : Code} {A : Nat → Prop} {D : va_G} {cy cz : ClassId} {t1 t2 : Nat} (hm : Nat) (am : Nat → Nat) (Q : Wd → Prop) (K2 : (Int32 × Int32 × Int32 × Wd) → Prop) (hK2 : ∀ b9 : Int32 × Int32 × Int32 × Wd, K2 b9 → ∀ (H : Heap) (locs : List Loc) (ls : Array Slot), Wo D A s (cM cy cz hm am b9.2.2.2) H locs → lv_has ls 5 [(0, .ref hm), (1, .int b9.1), (2, .int b9.2.1), (3, .int b9.2.2.1)] → W p l e (rM 1 21) s m args below meth c H locs 0 0 (MQ below (QV D (S := Wd) (fun u => Q u) (fun u => (cM cy cz hm am u)) A) args s 0 0 A) (F0 m 2 ls [])) (hC : Cx D cy cz t1 t2 p s m args meth c cX4_mark 5 none RX4 A) (x1 : Int32) (x2 : Int32) (x3 : Int32) (x4 : Int32) (y0 : Int32) (y1 : Int32) (y2 : Int32) (wm : Wd) {H : Heap} {locs : List Loc} {ls : Array Slot} (hq : k_X4_mark_103 K2 Q x1 x2 x3 x4 y0 y1 y2 wm) (hW : Wo D A s (cM cy cz hm am wm) H locs) (hl : lv_has ls 5 [(0, .ref hm), (1, .int x1), (2, .int x2), (3, .int x3), (4, .int x4)]) : W p l e (rM 1 21) s m args below meth c H locs 0 0 (MQ below (QV D (S := Wd) (fun u => Q u) (fun u => (cM cy cz hm am u)) A) args s 0 0 A) (F0 m 103 ls [.int y0, .int y1, .int y2, .ref (am 13)]) := by
  unfold k_X4_mark_103 at hq
  refine lv_iadd hC.x hC.b dX4_mark_103 ?_
  refine hc_iast (ws' := (cM cy cz hm am (up2 wm 13 (y2).toNatClampNeg (y1 + y0)))) hC hW 12 rfl hq.1 (cM_set_13 ..) dX4_mark_104 (fun H locs hW => ?_)
  replace hq := hq.2
  refine lv_aload_n hC.x hC.b dX4_mark_105 rfl (lv_at hl 0 rfl) ?_
  refine hc_get (v := .ref (am 14)) hC hW 0 4 14 inX4 rfl rfl (by decide) q_104 rfl dX4_mark_106 ?_
  refine lv_iload hC.x hC.b dX4_mark_109 (lv_at hl 4 rfl) ?_
  refine lv_dup2_11 hC.x hC.b dX4_mark_111 rfl rfl ?_
  refine hc_iald hC hW 13 rfl hq.1 dX4_mark_112 ?_
  replace hq := hq.2
  refine lv_aload_n hC.x hC.b dX4_mark_113 rfl (lv_at hl 0 rfl) ?_
  refine hc_get (v := .ref (am 3)) hC hW 0 4 3 inX4 rfl rfl (by decide) q_95 rfl dX4_mark_114 ?_
  refine lv_iload_n hC.x hC.b dX4_mark_117 rfl (lv_at hl 1 rfl) ?_
  refine hc_iald hC hW 4 rfl hq.1 dX4_mark_118 ?_
  replace hq := hq.2
  refine lv_iconst (v := 1) hC.x hC.b dX4_mark_119 (by decide) ?_
  refine lv_icmp_ne (tgt := 127) hC.x hC.b dX4_mark_120 (by decide) (fun hc9 => ?_) (fun hc9 => ?_)
  · replace hq := hq.1 hc9
    refine lv_iconst (v := 0) hC.x hC.b dX4_mark_127 (by decide) ?_
    exact B_X4_mark_128 hm am Q K2 hK2 hC x1 x2 x3 0 ((up2 wm 13 (y2).toNatClampNeg (y1 + y0)) 14 (x4).toNatClampNeg) x4 (up2 wm 13 (y2).toNatClampNeg (y1 + y0)) hq hW (lv_sub hl [0, 1, 2, 3] rfl)
  · replace hq := hq.2 hc9
    refine lv_iload_n hC.x hC.b dX4_mark_123 rfl (lv_at hl 2 rfl) ?_
    refine lv_goto (tgt := 128) hC.x hC.b dX4_mark_124 (by decide) ?_
    exact B_X4_mark_128 hm am Q K2 hK2 hC x1 x2 x3 x2 ((up2 wm 13 (y2).toNatClampNeg (y1 + y0)) 14 (x4).toNatClampNeg) x4 (up2 wm 13 (y2).toNatClampNeg (y1 + y0)) hq hW (lv_sub hl [0, 1, 2, 3] rfl)
def k_X4_mark_58 (K2 : (Int32 × Int32 × Int32 × Wd) → Prop) (Q : Wd → Prop) (x1 : Int32) (x2 : Int32) (x3 : Int32) (y0 : Int32) (wm : Wd) : Prop :=
 (vp_in y0 169 ∧ (vp_in y0 169 ∧ (vp_in x1 18 ∧ ((((up2 wm 15 (y0).toNatClampNeg ((wm 15 (y0).toNatClampNeg) + x2)) 6 (x1).toNatClampNeg) ≤ x3 → (k_X4_mark_130 K2 Q x1 x2 x3 (up2 wm 15 (y0).toNatClampNeg ((wm 15 (y0).toNatClampNeg) + x2)))) ∧
 (¬ ((up2 wm 15 (y0).toNatClampNeg ((wm 15 (y0).toNatClampNeg) + x2)) 6 (x1).toNatClampNeg) ≤ x3 → (vp_in y0 169 ∧ (vp_in x1 18 ∧ ((¬ ((up2 wm 15 (y0).toNatClampNeg ((wm 15 (y0).toNatClampNeg) + x2)) 3 (x1).toNatClampNeg) = 0 → (k_X4_mark_103 K2 Q x1 x2 x3 y0 0 ((up2 wm 15 (y0).toNatClampNeg ((wm 15 (y0).toNatClampNeg) + x2)) 13 (y0).toNatClampNeg) y0 (up2 wm 15 (y0).toNatClampNeg ((wm 15 (y0).toNatClampNeg) + x2)))) ∧
 (((up2 wm 15 (y0).toNatClampNeg ((wm 15 (y0).toNatClampNeg) + x2)) 3 (x1).toNatClampNeg) = 0 → (k_X4_mark_103 K2 Q x1 x2 x3 y0 x2 ((up2 wm 15 (y0).toNatClampNeg ((wm 15 (y0).toNatClampNeg) + x2)) 13 (y0).toNatClampNeg) y0 (up2 wm 15 (y0).toNatClampNeg ((wm 15 (y0).toNatClampNeg) + x2))))))))))))
set_option maxHeartbeats 4000000 in
set_option maxRecDepth 100000 in
theorem B_X4_mark_58 {l : Launch} {p : Program} {e : Env} {s : State} {m : MethodId} {args : Array Value} {below : List Frame} {meth : Method} {c : Code} {A : Nat → Prop} {D : va_G} {cy cz : ClassId} {t1 t2 : Nat} (hm : Nat) (am : Nat → Nat) (Q : Wd → Prop) (K2 : (Int32 × Int32 × Int32 × Wd) → Prop) (hK2 : ∀ b9 : Int32 × Int32 × Int32 × Wd, K2 b9 → ∀ (H : Heap) (locs : List Loc) (ls : Array Slot), Wo D A s (cM cy cz hm am b9.2.2.2) H locs → lv_has ls 5 [(0, .ref hm), (1, .int b9.1), (2, .int b9.2.1), (3, .int b9.2.2.1)] → W p l e (rM 1 21) s m args below meth c H locs 0 0 (MQ below (QV D (S := Wd) (fun u => Q u) (fun u => (cM cy cz hm am u)) A) args s 0 0 A) (F0 m 2 ls [])) (hC : Cx D cy cz t1 t2 p s m args meth c cX4_mark 5 none RX4 A) (x1 : Int32) (x2 : Int32) (x3 : Int32) (y0 : Int32) (wm : Wd) {H : Heap} {locs : List Loc} {ls : Array Slot} (hq : k_X4_mark_58 K2 Q x1 x2 x3 y0 wm) (hW : Wo D A s (cM cy cz hm am wm) H locs) (hl : lv_has ls 5 [(0, .ref hm), (1, .int x1), (2, .int x2), (3, .int x3)]) : W p l e (rM 1 21) s m args below meth c H locs 0 0 (MQ below (QV D (S := Wd) (fun u => Q u) (fun u => (cM cy cz hm am u)) A) args s 0 0 A) (F0 m 58 ls [.int y0]) := by
  unfold k_X4_mark_58 at hq
  refine lv_istore (lv' := [(4, .int y0), (0, .ref hm), (1, .int x1), (2, .int x2), (3, .int x3)]) hC.x hC.b dX4_mark_58 hl (by decide) rfl (fun ls hl => ?_)
  refine lv_aload_n hC.x hC.b dX4_mark_60 rfl (lv_at hl 1 rfl) ?_
  refine hc_get (v := .ref (am 15)) hC hW 0 4 15 inX4 rfl rfl (by decide) q_105 rfl dX4_mark_61 ?_
  refine lv_iload hC.x hC.b dX4_mark_64 (lv_at hl 0 rfl) ?_
  refine lv_dup2_11 hC.x hC.b dX4_mark_66 rfl rfl ?_
  refine hc_iald hC hW 14 rfl hq.1 dX4_mark_67 ?_
  replace hq := hq.2
  refine lv_iload_n hC.x hC.b dX4_mark_68 rfl (lv_at hl 3 rfl) ?_
  refine lv_iadd hC.x hC.b dX4_mark_69 ?_
  refine hc_iast (ws' := (cM cy cz hm am (up2 wm 15 (y0).toNatClampNeg ((wm 15 (y0).toNatClampNeg) + x2)))) hC hW 14 rfl hq.1 (cM_set_15 ..) dX4_mark_70 (fun H locs hW => ?_)
  replace hq := hq.2
  refine lv_iload_n hC.x hC.b dX4_mark_71 rfl (lv_at hl 4 rfl) ?_
  refine lv_aload_n hC.x hC.b dX4_mark_72 rfl (lv_at hl 1 rfl) ?_
  refine hc_get (v := .ref (am 6)) hC hW 0 4 6 inX4 rfl rfl (by decide) q_98 rfl dX4_mark_73 ?_
  refine lv_iload_n hC.x hC.b dX4_mark_76 rfl (lv_at hl 2 rfl) ?_
  refine hc_iald hC hW 7 rfl hq.1 dX4_mark_77 ?_
  replace hq := hq.2
  refine lv_icmp_ge (tgt := 130) hC.x hC.b dX4_mark_78 (by decide) (fun hc9 => ?_) (fun hc9 => ?_)
  · replace hq := hq.1 hc9
    exact B_X4_mark_130 hm am Q K2 hK2 hC x1 x2 x3 (up2 wm 15 (y0).toNatClampNeg ((wm 15 (y0).toNatClampNeg) + x2)) hq hW (lv_sub hl [1, 2, 3, 4] rfl)
  · replace hq := hq.2 hc9
    refine lv_aload_n hC.x hC.b dX4_mark_81 rfl (lv_at hl 1 rfl) ?_
    refine hc_get (v := .ref (am 13)) hC hW 0 4 13 inX4 rfl rfl (by decide) q_103 rfl dX4_mark_82 ?_
    refine lv_iload hC.x hC.b dX4_mark_85 (lv_at hl 0 rfl) ?_
    refine lv_dup2_11 hC.x hC.b dX4_mark_87 rfl rfl ?_
    refine hc_iald hC hW 12 rfl hq.1 dX4_mark_88 ?_
    replace hq := hq.2
    refine lv_aload_n hC.x hC.b dX4_mark_89 rfl (lv_at hl 1 rfl) ?_
    refine hc_get (v := .ref (am 3)) hC hW 0 4 3 inX4 rfl rfl (by decide) q_95 rfl dX4_mark_90 ?_
    refine lv_iload_n hC.x hC.b dX4_mark_93 rfl (lv_at hl 2 rfl) ?_
    refine hc_iald hC hW 4 rfl hq.1 dX4_mark_94 ?_
    replace hq := hq.2
    refine lv_if_ne (tgt := 102) hC.x hC.b dX4_mark_95 (by decide) (fun hc9 => ?_) (fun hc9 => ?_)
    · replace hq := hq.1 hc9
      refine lv_iconst (v := 0) hC.x hC.b dX4_mark_102 (by decide) ?_
      exact B_X4_mark_103 hm am Q K2 hK2 hC x1 x2 x3 y0 0 ((up2 wm 15 (y0).toNatClampNeg ((wm 15 (y0).toNatClampNeg) + x2)) 13 (y0).toNatClampNeg) y0 (up2 wm 15 (y0).toNatClampNeg ((wm 15 (y0).toNatClampNeg) + x2)) hq hW (lv_sub hl [1, 2, 3, 4, 0] rfl)
    · replace hq := hq.2 hc9
      refine lv_iload_n hC.x hC.b dX4_mark_98 rfl (lv_at hl 3 rfl) ?_
      refine lv_goto (tgt := 103) hC.x hC.b dX4_mark_99 (by decide) ?_
      exact B_X4_mark_103 hm am Q K2 hK2 hC x1 x2 x3 y0 x2 ((up2 wm 15 (y0).toNatClampNeg ((wm 15 (y0).toNatClampNeg) + x2)) 13 (y0).toNatClampNeg) y0 (up2 wm 15 (y0).toNatClampNeg ((wm 15 (y0).toNatClampNeg) + x2)) hq hW (lv_sub hl [1, 2, 3, 4, 0] rfl)
def k_X4_mark_2 (K2 : (Int32 × Int32 × Int32 × Wd) → Prop) (Q : Wd → Prop) (x1 : Int32) (x2 : Int32) (x3 : Int32) (wm : Wd) : Prop :=
 (vp_in x1 18 ∧ (((wm 6 (x1).toNatClampNeg) < x3 → (Q wm)) ∧
 (¬ (wm 6 (x1).toNatClampNeg) < x3 → (vp_in x1 18 ∧ ((¬ (wm 3 (x1).toNatClampNeg) = 0 → (vp_in x1 18 ∧ (vp_in x1 18 ∧ (k_X4_at (wm 4 (x1).toNatClampNeg) ((wm 5 (x1).toNatClampNeg) + x3) (fun r55 => (k_X4_mark_58 K2 Q x1 x2 x3 r55 wm)))))) ∧
 ((wm 3 (x1).toNatClampNeg) = 0 → (vp_in x1 18 ∧ (vp_in x1 18 ∧ (k_X4_at ((wm 4 (x1).toNatClampNeg) + x3) (wm 5 (x1).toNatClampNeg) (fun r35 => (k_X4_mark_58 K2 Q x1 x2 x3 r35 wm)))))))))))
set_option maxHeartbeats 4000000 in
set_option maxRecDepth 100000 in
theorem B_X4_mark_2 {l : Launch} {p : Program} {e : Env} {s : State} {m : MethodId} {args : Array Value} {below : List Frame} {meth : Method} {c : Code} {A : Nat → Prop} {D : va_G} {cy cz : ClassId} {t1 t2 : Nat} (hm : Nat) (am : Nat → Nat) (Q : Wd → Prop) (K2 : (Int32 × Int32 × Int32 × Wd) → Prop) (hK2 : ∀ b9 : Int32 × Int32 × Int32 × Wd, K2 b9 → ∀ (H : Heap) (locs : List Loc) (ls : Array Slot), Wo D A s (cM cy cz hm am b9.2.2.2) H locs → lv_has ls 5 [(0, .ref hm), (1, .int b9.1), (2, .int b9.2.1), (3, .int b9.2.2.1)] → W p l e (rM 1 21) s m args below meth c H locs 0 0 (MQ below (QV D (S := Wd) (fun u => Q u) (fun u => (cM cy cz hm am u)) A) args s 0 0 A) (F0 m 2 ls [])) (hC : Cx D cy cz t1 t2 p s m args meth c cX4_mark 5 none RX4 A) (x1 : Int32) (x2 : Int32) (x3 : Int32) (wm : Wd) {H : Heap} {locs : List Loc} {ls : Array Slot} (hq : k_X4_mark_2 K2 Q x1 x2 x3 wm) (hW : Wo D A s (cM cy cz hm am wm) H locs) (hl : lv_has ls 5 [(0, .ref hm), (1, .int x1), (2, .int x2), (3, .int x3)]) : W p l e (rM 1 21) s m args below meth c H locs 0 0 (MQ below (QV D (S := Wd) (fun u => Q u) (fun u => (cM cy cz hm am u)) A) args s 0 0 A) (F0 m 2 ls []) := by
  unfold k_X4_mark_2 at hq
  refine lv_iload_n hC.x hC.b dX4_mark_2 rfl (lv_at hl 3 rfl) ?_
  refine lv_aload_n hC.x hC.b dX4_mark_3 rfl (lv_at hl 0 rfl) ?_
  refine hc_get (v := .ref (am 6)) hC hW 0 4 6 inX4 rfl rfl (by decide) q_98 rfl dX4_mark_4 ?_
  refine lv_iload_n hC.x hC.b dX4_mark_7 rfl (lv_at hl 1 rfl) ?_
  refine hc_iald hC hW 7 rfl hq.1 dX4_mark_8 ?_
  replace hq := hq.2
  refine lv_icmp_gt (tgt := 136) hC.x hC.b dX4_mark_9 (by decide) (fun hc9 => ?_) (fun hc9 => ?_)
  · replace hq := hq.1 hc9
    exact hc_vret hC (wm) hW hq dX4_mark_136
  · replace hq := hq.2 hc9
    refine lv_aload_n hC.x hC.b dX4_mark_12 rfl (lv_at hl 0 rfl) ?_
    refine hc_get (v := .ref (am 3)) hC hW 0 4 3 inX4 rfl rfl (by decide) q_95 rfl dX4_mark_13 ?_
    refine lv_iload_n hC.x hC.b dX4_mark_16 rfl (lv_at hl 1 rfl) ?_
    refine hc_iald hC hW 4 rfl hq.1 dX4_mark_17 ?_
    replace hq := hq.2
    refine lv_if_ne (tgt := 41) hC.x hC.b dX4_mark_18 (by decide) (fun hc9 => ?_) (fun hc9 => ?_)
    · replace hq := hq.1 hc9
      refine lv_aload_n hC.x hC.b dX4_mark_41 rfl (lv_at hl 0 rfl) ?_
      refine hc_get (v := .ref (am 4)) hC hW 0 4 4 inX4 rfl rfl (by decide) q_96 rfl dX4_mark_42 ?_
      refine lv_iload_n hC.x hC.b dX4_mark_45 rfl (lv_at hl 1 rfl) ?_
      refine hc_iald hC hW 5 rfl hq.1 dX4_mark_46 ?_
      replace hq := hq.2
      refine lv_aload_n hC.x hC.b dX4_mark_47 rfl (lv_at hl 0 rfl) ?_
      refine hc_get (v := .ref (am 5)) hC hW 0 4 5 inX4 rfl rfl (by decide) q_97 rfl dX4_mark_48 ?_
      refine lv_iload_n hC.x hC.b dX4_mark_51 rfl (lv_at hl 1 rfl) ?_
      refine hc_iald hC hW 6 rfl hq.1 dX4_mark_52 ?_
      replace hq := hq.2
      refine lv_iload_n hC.x hC.b dX4_mark_53 rfl (lv_at hl 3 rfl) ?_
      refine lv_iadd hC.x hC.b dX4_mark_54 ?_
      refine hc_goP hC hW (hc_rS hC (c_X4_at l D cy cz t1 t2 (wm 4 (x1).toNatClampNeg) ((wm 5 (x1).toNatClampNeg) + x3) _ hq) (hc_preP hC hW) q_195 q_196 q_5 q_197 hd_X4_at ⟨rfl, rfl⟩ ⟨Nat.le_of_ble_eq_true rfl, Nat.le_of_ble_eq_true rfl⟩ rfl hl.1 rfl (Nat.le_of_ble_eq_true rfl) dX4_mark_55 ⟨Nat.zero_le _, Nat.zero_le _⟩) (fun r55 H locs hq hW => ?_)
      try dsimp only at hq
      exact B_X4_mark_58 hm am Q K2 hK2 hC x1 x2 x3 r55 wm hq hW (lv_sub hl [0, 1, 2, 3] rfl)
    · replace hq := hq.2 hc9
      refine lv_aload_n hC.x hC.b dX4_mark_21 rfl (lv_at hl 0 rfl) ?_
      refine hc_get (v := .ref (am 4)) hC hW 0 4 4 inX4 rfl rfl (by decide) q_96 rfl dX4_mark_22 ?_
      refine lv_iload_n hC.x hC.b dX4_mark_25 rfl (lv_at hl 1 rfl) ?_
      refine hc_iald hC hW 5 rfl hq.1 dX4_mark_26 ?_
      replace hq := hq.2
      refine lv_iload_n hC.x hC.b dX4_mark_27 rfl (lv_at hl 3 rfl) ?_
      refine lv_iadd hC.x hC.b dX4_mark_28 ?_
      refine lv_aload_n hC.x hC.b dX4_mark_29 rfl (lv_at hl 0 rfl) ?_
      refine hc_get (v := .ref (am 5)) hC hW 0 4 5 inX4 rfl rfl (by decide) q_97 rfl dX4_mark_30 ?_
      refine lv_iload_n hC.x hC.b dX4_mark_33 rfl (lv_at hl 1 rfl) ?_
      refine hc_iald hC hW 6 rfl hq.1 dX4_mark_34 ?_
      replace hq := hq.2
      refine hc_goP hC hW (hc_rS hC (c_X4_at l D cy cz t1 t2 ((wm 4 (x1).toNatClampNeg) + x3) (wm 5 (x1).toNatClampNeg) _ hq) (hc_preP hC hW) q_195 q_196 q_5 q_197 hd_X4_at ⟨rfl, rfl⟩ ⟨Nat.le_of_ble_eq_true rfl, Nat.le_of_ble_eq_true rfl⟩ rfl hl.1 rfl (Nat.le_of_ble_eq_true rfl) dX4_mark_35 ⟨Nat.zero_le _, Nat.zero_le _⟩) (fun r35 H locs hq hW => ?_)
      try dsimp only at hq
      refine lv_goto (tgt := 58) hC.x hC.b dX4_mark_38 (by decide) ?_
      exact B_X4_mark_58 hm am Q K2 hK2 hC x1 x2 x3 r35 wm hq hW (lv_sub hl [0, 1, 2, 3] rfl)
def k_X4_mark (x1 : Int32) (x2 : Int32) (wm : Wd) (Q : Wd → Prop) : Prop :=
 (∃ n : Nat, lpf (fun (K : (Int32 × Int32 × Int32 × Wd) → Prop) (u : Int32 × Int32 × Int32 × Wd) => k_X4_mark_2  K Q u.1 u.2.1 u.2.2.1 u.2.2.2) n (x1, x2, 0, wm))
set_option maxHeartbeats 4000000 in
set_option maxRecDepth 100000 in
theorem c_X4_mark (l : Launch) (D : va_G) (cy cz : ClassId) (t1 t2 : Nat) (hm : Nat) (am : Nat → Nat) (x1 : Int32) (x2 : Int32) (wm : Wd) (Q : Wd → Prop) (hq : k_X4_mark x1 x2 wm Q) : Ct l D cy cz t1 t2 yX4_mark cX4_mark 5 none (rM 1 21) [.ref hm, .int x1, .int x2] (cM cy cz hm am wm) (QV D (S := Wd) (fun u => Q u) (fun u => (cM cy cz hm am u))) := by
  refine Ct.of (own := RX4) (by decide) rfl (Nat.le_of_ble_eq_true rfl) ?_
  intro p e s m below meth c A ls hC hW hl
  unfold k_X4_mark at hq
  have hl : lv_has ls 5 [(0, .ref hm), (1, .int x1), (2, .int x2)] := hl
  refine lv_iconst (v := 0) hC.x hC.b dX4_mark_0 (by decide) ?_
  refine lv_istore_n (lv' := [(3, .int 0), (0, .ref hm), (1, .int x1), (2, .int x2)]) hC.x hC.b dX4_mark_1 rfl hl (by decide) rfl (fun ls hl => ?_)
  obtain ⟨n9, hq⟩ := hq
  exact lpf_use (G := (fun (u : Int32 × Int32 × Int32 × Wd) => ∀ (H : Heap) (locs : List Loc) (ls : Array Slot), Wo D A s (cM cy cz hm am u.2.2.2) H locs → lv_has ls 5 [(0, .ref hm), (1, .int u.1), (2, .int u.2.1), (3, .int u.2.2.1)] → W p l e (rM 1 21) s m _ below meth c H locs 0 0 (MQ below (QV D (S := Wd) (fun u => Q u) (fun u => (cM cy cz hm am u)) A) _ s 0 0 A) (F0 m 2 ls []))) (fun K hK u hq H locs ls hW hl => B_X4_mark_2 hm am Q  K hK hC u.1 u.2.1 u.2.2.1 u.2.2.2 hq hW hl) n9 _ hq _ _ _ hW (lv_sub hl [1, 2, 3, 0] rfl)
def k_X4_addFace (x1 : Int32) (x2 : Int32) (x3 : Int32) (x4 : Int32) (wm : Wd) (Q : Wd → Prop) : Prop :=
 (vp_in (wm 7 0) 18 ∧ (vp_in ((up2 wm 3 ((wm 7 0)).toNatClampNeg x1) 7 0) 18 ∧ (vp_in ((up2 (up2 wm 3 ((wm 7 0)).toNatClampNeg x1) 4 (((up2 wm 3 ((wm 7 0)).toNatClampNeg x1) 7 0)).toNatClampNeg x2) 7 0) 18 ∧ (vp_in ((up2 (up2 (up2 wm 3 ((wm 7 0)).toNatClampNeg x1) 4 (((up2 wm 3 ((wm 7 0)).toNatClampNeg x1) 7 0)).toNatClampNeg x2) 5 (((up2 (up2 wm 3 ((wm 7 0)).toNatClampNeg x1) 4 (((up2 wm 3 ((wm 7 0)).toNatClampNeg x1) 7 0)).toNatClampNeg x2) 7 0)).toNatClampNeg x3) 7 0) 18 ∧ (k_X4_mark ((up2 (up2 (up2 (up2 wm 3 ((wm 7 0)).toNatClampNeg x1) 4 (((up2 wm 3 ((wm 7 0)).toNatClampNeg x1) 7 0)).toNatClampNeg x2) 5 (((up2 (up2 wm 3 ((wm 7 0)).toNatClampNeg x1) 4 (((up2 wm 3 ((wm 7 0)).toNatClampNeg x1) 7 0)).toNatClampNeg x2) 7 0)).toNatClampNeg x3) 6 (((up2 (up2 (up2 wm 3 ((wm 7 0)).toNatClampNeg x1) 4 (((up2 wm 3 ((wm 7 0)).toNatClampNeg x1) 7 0)).toNatClampNeg x2) 5 (((up2 (up2 wm 3 ((wm 7 0)).toNatClampNeg x1) 4 (((up2 wm 3 ((wm 7 0)).toNatClampNeg x1) 7 0)).toNatClampNeg x2) 7 0)).toNatClampNeg x3) 7 0)).toNatClampNeg x4) 7 0) 1 (up2 (up2 (up2 (up2 wm 3 ((wm 7 0)).toNatClampNeg x1) 4 (((up2 wm 3 ((wm 7 0)).toNatClampNeg x1) 7 0)).toNatClampNeg x2) 5 (((up2 (up2 wm 3 ((wm 7 0)).toNatClampNeg x1) 4 (((up2 wm 3 ((wm 7 0)).toNatClampNeg x1) 7 0)).toNatClampNeg x2) 7 0)).toNatClampNeg x3) 6 (((up2 (up2 (up2 wm 3 ((wm 7 0)).toNatClampNeg x1) 4 (((up2 wm 3 ((wm 7 0)).toNatClampNeg x1) 7 0)).toNatClampNeg x2) 5 (((up2 (up2 wm 3 ((wm 7 0)).toNatClampNeg x1) 4 (((up2 wm 3 ((wm 7 0)).toNatClampNeg x1) 7 0)).toNatClampNeg x2) 7 0)).toNatClampNeg x3) 7 0)).toNatClampNeg x4) (fun wm47 => (Q (up2 wm47 7 0 ((wm47 7 0) + 1)))))))))
set_option maxHeartbeats 4000000 in
set_option maxRecDepth 100000 in
theorem c_X4_addFace (l : Launch) (D : va_G) (cy cz : ClassId) (t1 t2 : Nat) (hm : Nat) (am : Nat → Nat) (x1 : Int32) (x2 : Int32) (x3 : Int32) (x4 : Int32) (wm : Wd) (Q : Wd → Prop) (hq : k_X4_addFace x1 x2 x3 x4 wm Q) : Ct l D cy cz t1 t2 yX4_addFace cX4_addFace 5 none (rM 2 45) [.ref hm, .int x1, .int x2, .int x3, .int x4] (cM cy cz hm am wm) (QV D (S := Wd) (fun u => Q u) (fun u => (cM cy cz hm am u))) := by
  refine Ct.of (own := RX4) (by decide) rfl (Nat.le_of_ble_eq_true rfl) ?_
  intro p e s m below meth c A ls hC hW hl
  unfold k_X4_addFace at hq
  have hl : lv_has ls 5 [(0, .ref hm), (1, .int x1), (2, .int x2), (3, .int x3), (4, .int x4)] := hl
  refine lv_aload_n hC.x hC.b dX4_addFace_0 rfl (lv_at hl 0 rfl) ?_
  refine hc_get (v := .ref (am 3)) hC hW 0 4 3 inX4 rfl rfl (by decide) q_95 rfl dX4_addFace_1 ?_
  refine lv_aload_n hC.x hC.b dX4_addFace_4 rfl (lv_at hl 0 rfl) ?_
  refine hc_get (v := .int (wm 7 0)) hC hW 0 4 7 inX4 rfl rfl (by decide) q_181 rfl dX4_addFace_5 ?_
  refine lv_iload_n hC.x hC.b dX4_addFace_8 rfl (lv_at hl 1 rfl) ?_
  refine hc_iast (ws' := (cM cy cz hm am (up2 wm 3 ((wm 7 0)).toNatClampNeg x1))) hC hW 4 rfl hq.1 (cM_set_3 ..) dX4_addFace_9 (fun H locs hW => ?_)
  replace hq := hq.2
  refine lv_aload_n hC.x hC.b dX4_addFace_10 rfl (lv_at hl 0 rfl) ?_
  refine hc_get (v := .ref (am 4)) hC hW 0 4 4 inX4 rfl rfl (by decide) q_96 rfl dX4_addFace_11 ?_
  refine lv_aload_n hC.x hC.b dX4_addFace_14 rfl (lv_at hl 0 rfl) ?_
  refine hc_get (v := .int ((up2 wm 3 ((wm 7 0)).toNatClampNeg x1) 7 0)) hC hW 0 4 7 inX4 rfl rfl (by decide) q_181 rfl dX4_addFace_15 ?_
  refine lv_iload_n hC.x hC.b dX4_addFace_18 rfl (lv_at hl 2 rfl) ?_
  refine hc_iast (ws' := (cM cy cz hm am (up2 (up2 wm 3 ((wm 7 0)).toNatClampNeg x1) 4 (((up2 wm 3 ((wm 7 0)).toNatClampNeg x1) 7 0)).toNatClampNeg x2))) hC hW 5 rfl hq.1 (cM_set_4 ..) dX4_addFace_19 (fun H locs hW => ?_)
  replace hq := hq.2
  refine lv_aload_n hC.x hC.b dX4_addFace_20 rfl (lv_at hl 0 rfl) ?_
  refine hc_get (v := .ref (am 5)) hC hW 0 4 5 inX4 rfl rfl (by decide) q_97 rfl dX4_addFace_21 ?_
  refine lv_aload_n hC.x hC.b dX4_addFace_24 rfl (lv_at hl 0 rfl) ?_
  refine hc_get (v := .int ((up2 (up2 wm 3 ((wm 7 0)).toNatClampNeg x1) 4 (((up2 wm 3 ((wm 7 0)).toNatClampNeg x1) 7 0)).toNatClampNeg x2) 7 0)) hC hW 0 4 7 inX4 rfl rfl (by decide) q_181 rfl dX4_addFace_25 ?_
  refine lv_iload_n hC.x hC.b dX4_addFace_28 rfl (lv_at hl 3 rfl) ?_
  refine hc_iast (ws' := (cM cy cz hm am (up2 (up2 (up2 wm 3 ((wm 7 0)).toNatClampNeg x1) 4 (((up2 wm 3 ((wm 7 0)).toNatClampNeg x1) 7 0)).toNatClampNeg x2) 5 (((up2 (up2 wm 3 ((wm 7 0)).toNatClampNeg x1) 4 (((up2 wm 3 ((wm 7 0)).toNatClampNeg x1) 7 0)).toNatClampNeg x2) 7 0)).toNatClampNeg x3))) hC hW 6 rfl hq.1 (cM_set_5 ..) dX4_addFace_29 (fun H locs hW => ?_)
  replace hq := hq.2
  refine lv_aload_n hC.x hC.b dX4_addFace_30 rfl (lv_at hl 0 rfl) ?_
  refine hc_get (v := .ref (am 6)) hC hW 0 4 6 inX4 rfl rfl (by decide) q_98 rfl dX4_addFace_31 ?_
  refine lv_aload_n hC.x hC.b dX4_addFace_34 rfl (lv_at hl 0 rfl) ?_
  refine hc_get (v := .int ((up2 (up2 (up2 wm 3 ((wm 7 0)).toNatClampNeg x1) 4 (((up2 wm 3 ((wm 7 0)).toNatClampNeg x1) 7 0)).toNatClampNeg x2) 5 (((up2 (up2 wm 3 ((wm 7 0)).toNatClampNeg x1) 4 (((up2 wm 3 ((wm 7 0)).toNatClampNeg x1) 7 0)).toNatClampNeg x2) 7 0)).toNatClampNeg x3) 7 0)) hC hW 0 4 7 inX4 rfl rfl (by decide) q_181 rfl dX4_addFace_35 ?_
  refine lv_iload hC.x hC.b dX4_addFace_38 (lv_at hl 4 rfl) ?_
  refine hc_iast (ws' := (cM cy cz hm am (up2 (up2 (up2 (up2 wm 3 ((wm 7 0)).toNatClampNeg x1) 4 (((up2 wm 3 ((wm 7 0)).toNatClampNeg x1) 7 0)).toNatClampNeg x2) 5 (((up2 (up2 wm 3 ((wm 7 0)).toNatClampNeg x1) 4 (((up2 wm 3 ((wm 7 0)).toNatClampNeg x1) 7 0)).toNatClampNeg x2) 7 0)).toNatClampNeg x3) 6 (((up2 (up2 (up2 wm 3 ((wm 7 0)).toNatClampNeg x1) 4 (((up2 wm 3 ((wm 7 0)).toNatClampNeg x1) 7 0)).toNatClampNeg x2) 5 (((up2 (up2 wm 3 ((wm 7 0)).toNatClampNeg x1) 4 (((up2 wm 3 ((wm 7 0)).toNatClampNeg x1) 7 0)).toNatClampNeg x2) 7 0)).toNatClampNeg x3) 7 0)).toNatClampNeg x4))) hC hW 7 rfl hq.1 (cM_set_6 ..) dX4_addFace_40 (fun H locs hW => ?_)
  replace hq := hq.2
  refine lv_aload_n hC.x hC.b dX4_addFace_41 rfl (lv_at hl 0 rfl) ?_
  refine lv_aload_n hC.x hC.b dX4_addFace_42 rfl (lv_at hl 0 rfl) ?_
  refine hc_get (v := .int ((up2 (up2 (up2 (up2 wm 3 ((wm 7 0)).toNatClampNeg x1) 4 (((up2 wm 3 ((wm 7 0)).toNatClampNeg x1) 7 0)).toNatClampNeg x2) 5 (((up2 (up2 wm 3 ((wm 7 0)).toNatClampNeg x1) 4 (((up2 wm 3 ((wm 7 0)).toNatClampNeg x1) 7 0)).toNatClampNeg x2) 7 0)).toNatClampNeg x3) 6 (((up2 (up2 (up2 wm 3 ((wm 7 0)).toNatClampNeg x1) 4 (((up2 wm 3 ((wm 7 0)).toNatClampNeg x1) 7 0)).toNatClampNeg x2) 5 (((up2 (up2 wm 3 ((wm 7 0)).toNatClampNeg x1) 4 (((up2 wm 3 ((wm 7 0)).toNatClampNeg x1) 7 0)).toNatClampNeg x2) 7 0)).toNatClampNeg x3) 7 0)).toNatClampNeg x4) 7 0)) hC hW 0 4 7 inX4 rfl rfl (by decide) q_181 rfl dX4_addFace_43 ?_
  refine lv_iconst (v := 1) hC.x hC.b dX4_addFace_46 (by decide) ?_
  refine hc_goVW hC hW (hc_rV hC (c_X4_mark l D cy cz t1 t2 hm am ((up2 (up2 (up2 (up2 wm 3 ((wm 7 0)).toNatClampNeg x1) 4 (((up2 wm 3 ((wm 7 0)).toNatClampNeg x1) 7 0)).toNatClampNeg x2) 5 (((up2 (up2 wm 3 ((wm 7 0)).toNatClampNeg x1) 4 (((up2 wm 3 ((wm 7 0)).toNatClampNeg x1) 7 0)).toNatClampNeg x2) 7 0)).toNatClampNeg x3) 6 (((up2 (up2 (up2 wm 3 ((wm 7 0)).toNatClampNeg x1) 4 (((up2 wm 3 ((wm 7 0)).toNatClampNeg x1) 7 0)).toNatClampNeg x2) 5 (((up2 (up2 wm 3 ((wm 7 0)).toNatClampNeg x1) 4 (((up2 wm 3 ((wm 7 0)).toNatClampNeg x1) 7 0)).toNatClampNeg x2) 7 0)).toNatClampNeg x3) 7 0)).toNatClampNeg x4) 7 0) 1 (up2 (up2 (up2 (up2 wm 3 ((wm 7 0)).toNatClampNeg x1) 4 (((up2 wm 3 ((wm 7 0)).toNatClampNeg x1) 7 0)).toNatClampNeg x2) 5 (((up2 (up2 wm 3 ((wm 7 0)).toNatClampNeg x1) 4 (((up2 wm 3 ((wm 7 0)).toNatClampNeg x1) 7 0)).toNatClampNeg x2) 7 0)).toNatClampNeg x3) 6 (((up2 (up2 (up2 wm 3 ((wm 7 0)).toNatClampNeg x1) 4 (((up2 wm 3 ((wm 7 0)).toNatClampNeg x1) 7 0)).toNatClampNeg x2) 5 (((up2 (up2 wm 3 ((wm 7 0)).toNatClampNeg x1) 4 (((up2 wm 3 ((wm 7 0)).toNatClampNeg x1) 7 0)).toNatClampNeg x2) 7 0)).toNatClampNeg x3) 7 0)).toNatClampNeg x4) _ hq) (hc_preW hC hW) hW 0 4 rfl rfl q_191 q_192 q_193 q_5 q_194 hd_X4_mark ⟨rfl, rfl⟩ ⟨Nat.le_of_ble_eq_true rfl, Nat.le_of_ble_eq_true rfl⟩ rfl hl.1 rfl (Nat.le_of_ble_eq_true rfl) dX4_addFace_47 ⟨Nat.zero_le _, Nat.zero_le _⟩) (fun u9 H locs hq hW => ?_)
  obtain ⟨wm47, rfl⟩ : ∃ z, z = u9 := ⟨_, rfl⟩
  try dsimp only at hq hW
  refine lv_aload_n hC.x hC.b dX4_addFace_50 rfl (lv_at hl 0 rfl) ?_
  refine lv_dup hC.x hC.b dX4_addFace_51 rfl ?_
  refine hc_get (v := .int (wm47 7 0)) hC hW 0 4 7 inX4 rfl rfl (by decide) q_181 rfl dX4_addFace_52 ?_
  refine lv_iconst (v := 1) hC.x hC.b dX4_addFace_55 (by decide) ?_
  refine lv_iadd hC.x hC.b dX4_addFace_56 ?_
  refine hc_put (ws' := (cM cy cz hm am (up2 wm47 7 0 ((wm47 7 0) + 1)))) hC hW 0 4 7 inX4 tyX4 tyX4_ok nmX4 rfl rfl (by decide) q_181 rfl rfl rfl rfl (Nat.le_of_ble_eq_true rfl) (cM_put_7 ..) dX4_addFace_57 (fun H locs hW => ?_)
  exact hc_vret hC ((up2 wm47 7 0 ((wm47 7 0) + 1))) hW hq dX4_addFace_60
def k_X4_addCorner (x1 : Int32) (x2 : Int32) (x3 : Int32) (x4 : Int32) (wm : Wd) (Q : Wd → Prop) : Prop :=
 (vp_in (wm 12 0) 41 ∧ (vp_in ((up2 wm 8 ((wm 12 0)).toNatClampNeg x1) 12 0) 41 ∧ (vp_in ((up2 (up2 wm 8 ((wm 12 0)).toNatClampNeg x1) 9 (((up2 wm 8 ((wm 12 0)).toNatClampNeg x1) 12 0)).toNatClampNeg x2) 12 0) 41 ∧ (vp_in ((up2 (up2 (up2 wm 8 ((wm 12 0)).toNatClampNeg x1) 9 (((up2 wm 8 ((wm 12 0)).toNatClampNeg x1) 12 0)).toNatClampNeg x2) 10 (((up2 (up2 wm 8 ((wm 12 0)).toNatClampNeg x1) 9 (((up2 wm 8 ((wm 12 0)).toNatClampNeg x1) 12 0)).toNatClampNeg x2) 12 0)).toNatClampNeg x3) 12 0) 41 ∧ (Q (up2 (up2 (up2 (up2 (up2 wm 8 ((wm 12 0)).toNatClampNeg x1) 9 (((up2 wm 8 ((wm 12 0)).toNatClampNeg x1) 12 0)).toNatClampNeg x2) 10 (((up2 (up2 wm 8 ((wm 12 0)).toNatClampNeg x1) 9 (((up2 wm 8 ((wm 12 0)).toNatClampNeg x1) 12 0)).toNatClampNeg x2) 12 0)).toNatClampNeg x3) 11 (((up2 (up2 (up2 wm 8 ((wm 12 0)).toNatClampNeg x1) 9 (((up2 wm 8 ((wm 12 0)).toNatClampNeg x1) 12 0)).toNatClampNeg x2) 10 (((up2 (up2 wm 8 ((wm 12 0)).toNatClampNeg x1) 9 (((up2 wm 8 ((wm 12 0)).toNatClampNeg x1) 12 0)).toNatClampNeg x2) 12 0)).toNatClampNeg x3) 12 0)).toNatClampNeg x4) 12 0 (((up2 (up2 (up2 (up2 wm 8 ((wm 12 0)).toNatClampNeg x1) 9 (((up2 wm 8 ((wm 12 0)).toNatClampNeg x1) 12 0)).toNatClampNeg x2) 10 (((up2 (up2 wm 8 ((wm 12 0)).toNatClampNeg x1) 9 (((up2 wm 8 ((wm 12 0)).toNatClampNeg x1) 12 0)).toNatClampNeg x2) 12 0)).toNatClampNeg x3) 11 (((up2 (up2 (up2 wm 8 ((wm 12 0)).toNatClampNeg x1) 9 (((up2 wm 8 ((wm 12 0)).toNatClampNeg x1) 12 0)).toNatClampNeg x2) 10 (((up2 (up2 wm 8 ((wm 12 0)).toNatClampNeg x1) 9 (((up2 wm 8 ((wm 12 0)).toNatClampNeg x1) 12 0)).toNatClampNeg x2) 12 0)).toNatClampNeg x3) 12 0)).toNatClampNeg x4) 12 0) + 1)))))))
set_option maxHeartbeats 4000000 in
set_option maxRecDepth 100000 in
theorem c_X4_addCorner (l : Launch) (D : va_G) (cy cz : ClassId) (t1 t2 : Nat) (hm : Nat) (am : Nat → Nat) (x1 : Int32) (x2 : Int32) (x3 : Int32) (x4 : Int32) (wm : Wd) (Q : Wd → Prop) (hq : k_X4_addCorner x1 x2 x3 x4 wm Q) : Ct l D cy cz t1 t2 yX4_addCorner cX4_addCorner 5 none (rM 0 0) [.ref hm, .int x1, .int x2, .int x3, .int x4] (cM cy cz hm am wm) (QV D (S := Wd) (fun u => Q u) (fun u => (cM cy cz hm am u))) := by
  refine Ct.of (own := RX4) (by decide) rfl (Nat.le_of_ble_eq_true rfl) ?_
  intro p e s m below meth c A ls hC hW hl
  unfold k_X4_addCorner at hq
  have hl : lv_has ls 5 [(0, .ref hm), (1, .int x1), (2, .int x2), (3, .int x3), (4, .int x4)] := hl
  refine lv_aload_n hC.x hC.b dX4_addCorner_0 rfl (lv_at hl 0 rfl) ?_
  refine hc_get (v := .ref (am 8)) hC hW 0 4 8 inX4 rfl rfl (by decide) q_99 rfl dX4_addCorner_1 ?_
  refine lv_aload_n hC.x hC.b dX4_addCorner_4 rfl (lv_at hl 0 rfl) ?_
  refine hc_get (v := .int (wm 12 0)) hC hW 0 4 12 inX4 rfl rfl (by decide) q_186 rfl dX4_addCorner_5 ?_
  refine lv_iload_n hC.x hC.b dX4_addCorner_8 rfl (lv_at hl 1 rfl) ?_
  refine hc_iast (ws' := (cM cy cz hm am (up2 wm 8 ((wm 12 0)).toNatClampNeg x1))) hC hW 8 rfl hq.1 (cM_set_8 ..) dX4_addCorner_9 (fun H locs hW => ?_)
  replace hq := hq.2
  refine lv_aload_n hC.x hC.b dX4_addCorner_10 rfl (lv_at hl 0 rfl) ?_
  refine hc_get (v := .ref (am 9)) hC hW 0 4 9 inX4 rfl rfl (by decide) q_100 rfl dX4_addCorner_11 ?_
  refine lv_aload_n hC.x hC.b dX4_addCorner_14 rfl (lv_at hl 0 rfl) ?_
  refine hc_get (v := .int ((up2 wm 8 ((wm 12 0)).toNatClampNeg x1) 12 0)) hC hW 0 4 12 inX4 rfl rfl (by decide) q_186 rfl dX4_addCorner_15 ?_
  refine lv_iload_n hC.x hC.b dX4_addCorner_18 rfl (lv_at hl 2 rfl) ?_
  refine hc_iast (ws' := (cM cy cz hm am (up2 (up2 wm 8 ((wm 12 0)).toNatClampNeg x1) 9 (((up2 wm 8 ((wm 12 0)).toNatClampNeg x1) 12 0)).toNatClampNeg x2))) hC hW 9 rfl hq.1 (cM_set_9 ..) dX4_addCorner_19 (fun H locs hW => ?_)
  replace hq := hq.2
  refine lv_aload_n hC.x hC.b dX4_addCorner_20 rfl (lv_at hl 0 rfl) ?_
  refine hc_get (v := .ref (am 10)) hC hW 0 4 10 inX4 rfl rfl (by decide) q_101 rfl dX4_addCorner_21 ?_
  refine lv_aload_n hC.x hC.b dX4_addCorner_24 rfl (lv_at hl 0 rfl) ?_
  refine hc_get (v := .int ((up2 (up2 wm 8 ((wm 12 0)).toNatClampNeg x1) 9 (((up2 wm 8 ((wm 12 0)).toNatClampNeg x1) 12 0)).toNatClampNeg x2) 12 0)) hC hW 0 4 12 inX4 rfl rfl (by decide) q_186 rfl dX4_addCorner_25 ?_
  refine lv_iload_n hC.x hC.b dX4_addCorner_28 rfl (lv_at hl 3 rfl) ?_
  refine hc_iast (ws' := (cM cy cz hm am (up2 (up2 (up2 wm 8 ((wm 12 0)).toNatClampNeg x1) 9 (((up2 wm 8 ((wm 12 0)).toNatClampNeg x1) 12 0)).toNatClampNeg x2) 10 (((up2 (up2 wm 8 ((wm 12 0)).toNatClampNeg x1) 9 (((up2 wm 8 ((wm 12 0)).toNatClampNeg x1) 12 0)).toNatClampNeg x2) 12 0)).toNatClampNeg x3))) hC hW 10 rfl hq.1 (cM_set_10 ..) dX4_addCorner_29 (fun H locs hW => ?_)
  replace hq := hq.2
  refine lv_aload_n hC.x hC.b dX4_addCorner_30 rfl (lv_at hl 0 rfl) ?_
  refine hc_get (v := .ref (am 11)) hC hW 0 4 11 inX4 rfl rfl (by decide) q_102 rfl dX4_addCorner_31 ?_
  refine lv_aload_n hC.x hC.b dX4_addCorner_34 rfl (lv_at hl 0 rfl) ?_
  refine hc_get (v := .int ((up2 (up2 (up2 wm 8 ((wm 12 0)).toNatClampNeg x1) 9 (((up2 wm 8 ((wm 12 0)).toNatClampNeg x1) 12 0)).toNatClampNeg x2) 10 (((up2 (up2 wm 8 ((wm 12 0)).toNatClampNeg x1) 9 (((up2 wm 8 ((wm 12 0)).toNatClampNeg x1) 12 0)).toNatClampNeg x2) 12 0)).toNatClampNeg x3) 12 0)) hC hW 0 4 12 inX4 rfl rfl (by decide) q_186 rfl dX4_addCorner_35 ?_
  refine lv_iload hC.x hC.b dX4_addCorner_38 (lv_at hl 4 rfl) ?_
  refine hc_iast (ws' := (cM cy cz hm am (up2 (up2 (up2 (up2 wm 8 ((wm 12 0)).toNatClampNeg x1) 9 (((up2 wm 8 ((wm 12 0)).toNatClampNeg x1) 12 0)).toNatClampNeg x2) 10 (((up2 (up2 wm 8 ((wm 12 0)).toNatClampNeg x1) 9 (((up2 wm 8 ((wm 12 0)).toNatClampNeg x1) 12 0)).toNatClampNeg x2) 12 0)).toNatClampNeg x3) 11 (((up2 (up2 (up2 wm 8 ((wm 12 0)).toNatClampNeg x1) 9 (((up2 wm 8 ((wm 12 0)).toNatClampNeg x1) 12 0)).toNatClampNeg x2) 10 (((up2 (up2 wm 8 ((wm 12 0)).toNatClampNeg x1) 9 (((up2 wm 8 ((wm 12 0)).toNatClampNeg x1) 12 0)).toNatClampNeg x2) 12 0)).toNatClampNeg x3) 12 0)).toNatClampNeg x4))) hC hW 11 rfl hq.1 (cM_set_11 ..) dX4_addCorner_40 (fun H locs hW => ?_)
  replace hq := hq.2
  refine lv_aload_n hC.x hC.b dX4_addCorner_41 rfl (lv_at hl 0 rfl) ?_
  refine lv_dup hC.x hC.b dX4_addCorner_42 rfl ?_
  refine hc_get (v := .int ((up2 (up2 (up2 (up2 wm 8 ((wm 12 0)).toNatClampNeg x1) 9 (((up2 wm 8 ((wm 12 0)).toNatClampNeg x1) 12 0)).toNatClampNeg x2) 10 (((up2 (up2 wm 8 ((wm 12 0)).toNatClampNeg x1) 9 (((up2 wm 8 ((wm 12 0)).toNatClampNeg x1) 12 0)).toNatClampNeg x2) 12 0)).toNatClampNeg x3) 11 (((up2 (up2 (up2 wm 8 ((wm 12 0)).toNatClampNeg x1) 9 (((up2 wm 8 ((wm 12 0)).toNatClampNeg x1) 12 0)).toNatClampNeg x2) 10 (((up2 (up2 wm 8 ((wm 12 0)).toNatClampNeg x1) 9 (((up2 wm 8 ((wm 12 0)).toNatClampNeg x1) 12 0)).toNatClampNeg x2) 12 0)).toNatClampNeg x3) 12 0)).toNatClampNeg x4) 12 0)) hC hW 0 4 12 inX4 rfl rfl (by decide) q_186 rfl dX4_addCorner_43 ?_
  refine lv_iconst (v := 1) hC.x hC.b dX4_addCorner_46 (by decide) ?_
  refine lv_iadd hC.x hC.b dX4_addCorner_47 ?_
  refine hc_put (ws' := (cM cy cz hm am (up2 (up2 (up2 (up2 (up2 wm 8 ((wm 12 0)).toNatClampNeg x1) 9 (((up2 wm 8 ((wm 12 0)).toNatClampNeg x1) 12 0)).toNatClampNeg x2) 10 (((up2 (up2 wm 8 ((wm 12 0)).toNatClampNeg x1) 9 (((up2 wm 8 ((wm 12 0)).toNatClampNeg x1) 12 0)).toNatClampNeg x2) 12 0)).toNatClampNeg x3) 11 (((up2 (up2 (up2 wm 8 ((wm 12 0)).toNatClampNeg x1) 9 (((up2 wm 8 ((wm 12 0)).toNatClampNeg x1) 12 0)).toNatClampNeg x2) 10 (((up2 (up2 wm 8 ((wm 12 0)).toNatClampNeg x1) 9 (((up2 wm 8 ((wm 12 0)).toNatClampNeg x1) 12 0)).toNatClampNeg x2) 12 0)).toNatClampNeg x3) 12 0)).toNatClampNeg x4) 12 0 (((up2 (up2 (up2 (up2 wm 8 ((wm 12 0)).toNatClampNeg x1) 9 (((up2 wm 8 ((wm 12 0)).toNatClampNeg x1) 12 0)).toNatClampNeg x2) 10 (((up2 (up2 wm 8 ((wm 12 0)).toNatClampNeg x1) 9 (((up2 wm 8 ((wm 12 0)).toNatClampNeg x1) 12 0)).toNatClampNeg x2) 12 0)).toNatClampNeg x3) 11 (((up2 (up2 (up2 wm 8 ((wm 12 0)).toNatClampNeg x1) 9 (((up2 wm 8 ((wm 12 0)).toNatClampNeg x1) 12 0)).toNatClampNeg x2) 10 (((up2 (up2 wm 8 ((wm 12 0)).toNatClampNeg x1) 9 (((up2 wm 8 ((wm 12 0)).toNatClampNeg x1) 12 0)).toNatClampNeg x2) 12 0)).toNatClampNeg x3) 12 0)).toNatClampNeg x4) 12 0) + 1)))) hC hW 0 4 12 inX4 tyX4 tyX4_ok nmX4 rfl rfl (by decide) q_186 rfl rfl rfl rfl (Nat.le_of_ble_eq_true rfl) (cM_put_12 ..) dX4_addCorner_48 (fun H locs hW => ?_)
  exact hc_vret hC ((up2 (up2 (up2 (up2 (up2 wm 8 ((wm 12 0)).toNatClampNeg x1) 9 (((up2 wm 8 ((wm 12 0)).toNatClampNeg x1) 12 0)).toNatClampNeg x2) 10 (((up2 (up2 wm 8 ((wm 12 0)).toNatClampNeg x1) 9 (((up2 wm 8 ((wm 12 0)).toNatClampNeg x1) 12 0)).toNatClampNeg x2) 12 0)).toNatClampNeg x3) 11 (((up2 (up2 (up2 wm 8 ((wm 12 0)).toNatClampNeg x1) 9 (((up2 wm 8 ((wm 12 0)).toNatClampNeg x1) 12 0)).toNatClampNeg x2) 10 (((up2 (up2 wm 8 ((wm 12 0)).toNatClampNeg x1) 9 (((up2 wm 8 ((wm 12 0)).toNatClampNeg x1) 12 0)).toNatClampNeg x2) 12 0)).toNatClampNeg x3) 12 0)).toNatClampNeg x4) 12 0 (((up2 (up2 (up2 (up2 wm 8 ((wm 12 0)).toNatClampNeg x1) 9 (((up2 wm 8 ((wm 12 0)).toNatClampNeg x1) 12 0)).toNatClampNeg x2) 10 (((up2 (up2 wm 8 ((wm 12 0)).toNatClampNeg x1) 9 (((up2 wm 8 ((wm 12 0)).toNatClampNeg x1) 12 0)).toNatClampNeg x2) 12 0)).toNatClampNeg x3) 11 (((up2 (up2 (up2 wm 8 ((wm 12 0)).toNatClampNeg x1) 9 (((up2 wm 8 ((wm 12 0)).toNatClampNeg x1) 12 0)).toNatClampNeg x2) 10 (((up2 (up2 wm 8 ((wm 12 0)).toNatClampNeg x1) 9 (((up2 wm 8 ((wm 12 0)).toNatClampNeg x1) 12 0)).toNatClampNeg x2) 12 0)).toNatClampNeg x3) 12 0)).toNatClampNeg x4) 12 0) + 1))) hW hq dX4_addCorner_51
def k_X4_less (x0 : Int32) (x1 : Int32)  (Q : Int32 → Prop) : Prop :=
 ((x1 ≤ x0 → (Q x1)) ∧
 (¬ x1 ≤ x0 → (Q x0)))
set_option maxHeartbeats 4000000 in
set_option maxRecDepth 100000 in
theorem c_X4_less (l : Launch) (D : va_G) (cy cz : ClassId) (t1 t2 : Nat)  (x0 : Int32) (x1 : Int32)  (Q : Int32 → Prop) (hq : k_X4_less x0 x1 Q) : Ct l D cy cz t1 t2 yX4_less cX4_less 2 (some .int) (rM 0 0) [.int x0, .int x1] ([] : va_W) (QI D (S := Unit) (fun r u => Q r ) (fun _ => ([] : va_W))) := by
  refine Ct.of (own := RX4) (by decide) rfl (Nat.le_of_ble_eq_true rfl) ?_
  intro p e s m below meth c A ls hC hW hl
  unfold k_X4_less at hq
  have hl : lv_has ls 2 [(0, .int x0), (1, .int x1)] := hl
  refine lv_iload_n hC.x hC.b dX4_less_0 rfl (lv_at hl 0 rfl) ?_
  refine lv_iload_n hC.x hC.b dX4_less_1 rfl (lv_at hl 1 rfl) ?_
  refine lv_icmp_ge (tgt := 9) hC.x hC.b dX4_less_2 (by decide) (fun hc9 => ?_) (fun hc9 => ?_)
  · replace hq := hq.1 hc9
    refine lv_iload_n hC.x hC.b dX4_less_9 rfl (lv_at hl 1 rfl) ?_
    exact hc_iret hC () hW hq dX4_less_10
  · replace hq := hq.2 hc9
    refine lv_iload_n hC.x hC.b dX4_less_5 rfl (lv_at hl 0 rfl) ?_
    refine lv_goto (tgt := 10) hC.x hC.b dX4_less_6 (by decide) ?_
    exact hc_iret hC () hW hq dX4_less_10
def k_X4_push (x1 : Int32) (x2 : Int32) (x3 : Int32) (wm : Wd) (Q : Wd → Prop) : Prop :=
 (vp_in x1 41 ∧ (vp_in x1 41 ∧ (vp_in x1 41 ∧ (vp_in x1 41 ∧ (k_X4_less (wm 9 (x1).toNatClampNeg) ((wm 9 (x1).toNatClampNeg) + ((wm 11 (x1).toNatClampNeg) * x3)) (fun r58 => (k_X4_addFace 1 ((wm 8 (x1).toNatClampNeg) + ((wm 10 (x1).toNatClampNeg) * x2)) r58 x3 wm (fun wm62 => (k_X4_less (wm 8 (x1).toNatClampNeg) ((wm 8 (x1).toNatClampNeg) + ((wm 10 (x1).toNatClampNeg) * x2)) (fun r71 => (k_X4_addFace 0 r71 ((wm 9 (x1).toNatClampNeg) + ((wm 11 (x1).toNatClampNeg) * x3)) x2 wm62 (fun wm77 => (k_X4_addCorner ((wm 8 (x1).toNatClampNeg) + ((wm 10 (x1).toNatClampNeg) * x2)) (wm 9 (x1).toNatClampNeg) (-(wm 10 (x1).toNatClampNeg)) (wm 11 (x1).toNatClampNeg) wm77 (fun wm90 => (k_X4_addCorner ((wm 8 (x1).toNatClampNeg) + ((wm 10 (x1).toNatClampNeg) * x2)) (wm 9 (x1).toNatClampNeg) (wm 10 (x1).toNatClampNeg) (wm 11 (x1).toNatClampNeg) wm90 (fun wm102 => (k_X4_addCorner (wm 8 (x1).toNatClampNeg) ((wm 9 (x1).toNatClampNeg) + ((wm 11 (x1).toNatClampNeg) * x3)) (wm 10 (x1).toNatClampNeg) (-(wm 11 (x1).toNatClampNeg)) wm102 (fun wm115 => (k_X4_addCorner (wm 8 (x1).toNatClampNeg) ((wm 9 (x1).toNatClampNeg) + ((wm 11 (x1).toNatClampNeg) * x3)) (wm 10 (x1).toNatClampNeg) (wm 11 (x1).toNatClampNeg) wm115 (fun wm127 => (k_X4_addCorner ((wm 8 (x1).toNatClampNeg) + ((wm 10 (x1).toNatClampNeg) * x2)) ((wm 9 (x1).toNatClampNeg) + ((wm 11 (x1).toNatClampNeg) * x3)) (-(wm 10 (x1).toNatClampNeg)) (-(wm 11 (x1).toNatClampNeg)) wm127 (fun wm141 => (Q wm141)))))))))))))))))))))))
set_option maxHeartbeats 4000000 in
set_option maxRecDepth 100000 in
theorem c_X4_push (l : Launch) (D : va_G) (cy cz : ClassId) (t1 t2 : Nat) (hm : Nat) (am : Nat → Nat) (x1 : Int32) (x2 : Int32) (x3 : Int32) (wm : Wd) (Q : Wd → Prop) (hq : k_X4_push x1 x2 x3 wm Q) : Ct l D cy cz t1 t2 yX4_push cX4_push 10 none (rM 3 69) [.ref hm, .int x1, .int x2, .int x3] (cM cy cz hm am wm) (QV D (S := Wd) (fun u => Q u) (fun u => (cM cy cz hm am u))) := by
  refine Ct.of (own := RX4) (by decide) rfl (Nat.le_of_ble_eq_true rfl) ?_
  intro p e s m below meth c A ls hC hW hl
  unfold k_X4_push at hq
  have hl : lv_has ls 10 [(0, .ref hm), (1, .int x1), (2, .int x2), (3, .int x3)] := hl
  refine lv_aload_n hC.x hC.b dX4_push_0 rfl (lv_at hl 0 rfl) ?_
  refine hc_get (v := .ref (am 8)) hC hW 0 4 8 inX4 rfl rfl (by decide) q_99 rfl dX4_push_1 ?_
  refine lv_iload_n hC.x hC.b dX4_push_4 rfl (lv_at hl 1 rfl) ?_
  refine hc_iald hC hW 8 rfl hq.1 dX4_push_5 ?_
  replace hq := hq.2
  refine lv_istore (lv' := [(4, .int (wm 8 (x1).toNatClampNeg)), (0, .ref hm), (1, .int x1), (2, .int x2), (3, .int x3)]) hC.x hC.b dX4_push_6 hl (by decide) rfl (fun ls hl => ?_)
  refine lv_aload_n hC.x hC.b dX4_push_8 rfl (lv_at hl 1 rfl) ?_
  refine hc_get (v := .ref (am 9)) hC hW 0 4 9 inX4 rfl rfl (by decide) q_100 rfl dX4_push_9 ?_
  refine lv_iload_n hC.x hC.b dX4_push_12 rfl (lv_at hl 2 rfl) ?_
  refine hc_iald hC hW 9 rfl hq.1 dX4_push_13 ?_
  replace hq := hq.2
  refine lv_istore (lv' := [(5, .int (wm 9 (x1).toNatClampNeg)), (4, .int (wm 8 (x1).toNatClampNeg)), (0, .ref hm), (1, .int x1), (2, .int x2), (3, .int x3)]) hC.x hC.b dX4_push_14 hl (by decide) rfl (fun ls hl => ?_)
  refine lv_aload_n hC.x hC.b dX4_push_16 rfl (lv_at hl 2 rfl) ?_
  refine hc_get (v := .ref (am 10)) hC hW 0 4 10 inX4 rfl rfl (by decide) q_101 rfl dX4_push_17 ?_
  refine lv_iload_n hC.x hC.b dX4_push_20 rfl (lv_at hl 3 rfl) ?_
  refine hc_iald hC hW 10 rfl hq.1 dX4_push_21 ?_
  replace hq := hq.2
  refine lv_istore (lv' := [(6, .int (wm 10 (x1).toNatClampNeg)), (5, .int (wm 9 (x1).toNatClampNeg)), (4, .int (wm 8 (x1).toNatClampNeg)), (0, .ref hm), (1, .int x1), (2, .int x2), (3, .int x3)]) hC.x hC.b dX4_push_22 hl (by decide) rfl (fun ls hl => ?_)
  refine lv_aload_n hC.x hC.b dX4_push_24 rfl (lv_at hl 3 rfl) ?_
  refine hc_get (v := .ref (am 11)) hC hW 0 4 11 inX4 rfl rfl (by decide) q_102 rfl dX4_push_25 ?_
  refine lv_iload_n hC.x hC.b dX4_push_28 rfl (lv_at hl 4 rfl) ?_
  refine hc_iald hC hW 11 rfl hq.1 dX4_push_29 ?_
  replace hq := hq.2
  refine lv_istore (lv' := [(7, .int (wm 11 (x1).toNatClampNeg)), (6, .int (wm 10 (x1).toNatClampNeg)), (5, .int (wm 9 (x1).toNatClampNeg)), (4, .int (wm 8 (x1).toNatClampNeg)), (0, .ref hm), (1, .int x1), (2, .int x2), (3, .int x3)]) hC.x hC.b dX4_push_30 hl (by decide) rfl (fun ls hl => ?_)
  refine lv_iload hC.x hC.b dX4_push_32 (lv_at hl 3 rfl) ?_
  refine lv_iload hC.x hC.b dX4_push_34 (lv_at hl 1 rfl) ?_
  refine lv_iload_n hC.x hC.b dX4_push_36 rfl (lv_at hl 6 rfl) ?_
  refine lv_imul hC.x hC.b dX4_push_37 ?_
  refine lv_iadd hC.x hC.b dX4_push_38 ?_
  refine lv_istore (lv' := [(8, .int ((wm 8 (x1).toNatClampNeg) + ((wm 10 (x1).toNatClampNeg) * x2))), (7, .int (wm 11 (x1).toNatClampNeg)), (6, .int (wm 10 (x1).toNatClampNeg)), (5, .int (wm 9 (x1).toNatClampNeg)), (4, .int (wm 8 (x1).toNatClampNeg)), (0, .ref hm), (1, .int x1), (2, .int x2), (3, .int x3)]) hC.x hC.b dX4_push_39 hl (by decide) rfl (fun ls hl => ?_)
  refine lv_iload hC.x hC.b dX4_push_41 (lv_at hl 3 rfl) ?_
  refine lv_iload hC.x hC.b dX4_push_43 (lv_at hl 1 rfl) ?_
  refine lv_iload_n hC.x hC.b dX4_push_45 rfl (lv_at hl 8 rfl) ?_
  refine lv_imul hC.x hC.b dX4_push_46 ?_
  refine lv_iadd hC.x hC.b dX4_push_47 ?_
  refine lv_istore (lv' := [(9, .int ((wm 9 (x1).toNatClampNeg) + ((wm 11 (x1).toNatClampNeg) * x3))), (8, .int ((wm 8 (x1).toNatClampNeg) + ((wm 10 (x1).toNatClampNeg) * x2))), (7, .int (wm 11 (x1).toNatClampNeg)), (6, .int (wm 10 (x1).toNatClampNeg)), (5, .int (wm 9 (x1).toNatClampNeg)), (4, .int (wm 8 (x1).toNatClampNeg)), (0, .ref hm), (1, .int x1), (2, .int x2), (3, .int x3)]) hC.x hC.b dX4_push_48 hl (by decide) rfl (fun ls hl => ?_)
  refine lv_aload_n hC.x hC.b dX4_push_50 rfl (lv_at hl 6 rfl) ?_
  refine lv_iconst (v := 1) hC.x hC.b dX4_push_51 (by decide) ?_
  refine lv_iload hC.x hC.b dX4_push_52 (lv_at hl 1 rfl) ?_
  refine lv_iload hC.x hC.b dX4_push_54 (lv_at hl 4 rfl) ?_
  refine lv_iload hC.x hC.b dX4_push_56 (lv_at hl 0 rfl) ?_
  refine hc_goP hC hW (hc_rS hC (c_X4_less l D cy cz t1 t2 (wm 9 (x1).toNatClampNeg) ((wm 9 (x1).toNatClampNeg) + ((wm 11 (x1).toNatClampNeg) * x3)) _ hq) (hc_preP hC hW) q_206 q_207 q_5 q_208 hd_X4_less ⟨rfl, rfl⟩ ⟨Nat.le_of_ble_eq_true rfl, Nat.le_of_ble_eq_true rfl⟩ rfl hl.1 rfl (Nat.le_of_ble_eq_true rfl) dX4_push_58 ⟨Nat.zero_le _, Nat.zero_le _⟩) (fun r58 H locs hq hW => ?_)
  try dsimp only at hq
  refine lv_iload_n hC.x hC.b dX4_push_61 rfl (lv_at hl 9 rfl) ?_
  refine hc_goVW hC hW (hc_rV hC (c_X4_addFace l D cy cz t1 t2 hm am 1 ((wm 8 (x1).toNatClampNeg) + ((wm 10 (x1).toNatClampNeg) * x2)) r58 x3 wm _ hq) (hc_preW hC hW) hW 0 4 rfl rfl q_187 q_188 q_189 q_5 q_190 hd_X4_addFace ⟨rfl, rfl⟩ ⟨Nat.le_of_ble_eq_true rfl, Nat.le_of_ble_eq_true rfl⟩ rfl hl.1 rfl (Nat.le_of_ble_eq_true rfl) dX4_push_62 ⟨Nat.zero_le _, Nat.zero_le _⟩) (fun u9 H locs hq hW => ?_)
  obtain ⟨wm62, rfl⟩ : ∃ z, z = u9 := ⟨_, rfl⟩
  try dsimp only at hq hW
  refine lv_aload_n hC.x hC.b dX4_push_65 rfl (lv_at hl 6 rfl) ?_
  refine lv_iconst (v := 0) hC.x hC.b dX4_push_66 (by decide) ?_
  refine lv_iload hC.x hC.b dX4_push_67 (lv_at hl 5 rfl) ?_
  refine lv_iload hC.x hC.b dX4_push_69 (lv_at hl 1 rfl) ?_
  refine hc_goP hC hW (hc_rS hC (c_X4_less l D cy cz t1 t2 (wm 8 (x1).toNatClampNeg) ((wm 8 (x1).toNatClampNeg) + ((wm 10 (x1).toNatClampNeg) * x2)) _ hq) (hc_preP hC hW) q_206 q_207 q_5 q_208 hd_X4_less ⟨rfl, rfl⟩ ⟨Nat.le_of_ble_eq_true rfl, Nat.le_of_ble_eq_true rfl⟩ rfl hl.1 rfl (Nat.le_of_ble_eq_true rfl) dX4_push_71 ⟨Nat.zero_le _, Nat.zero_le _⟩) (fun r71 H locs hq hW => ?_)
  try dsimp only at hq
  refine lv_iload hC.x hC.b dX4_push_74 (lv_at hl 0 rfl) ?_
  refine lv_iload_n hC.x hC.b dX4_push_76 rfl (lv_at hl 8 rfl) ?_
  refine hc_goVW hC hW (hc_rV hC (c_X4_addFace l D cy cz t1 t2 hm am 0 r71 ((wm 9 (x1).toNatClampNeg) + ((wm 11 (x1).toNatClampNeg) * x3)) x2 wm62 _ hq) (hc_preW hC hW) hW 0 4 rfl rfl q_187 q_188 q_189 q_5 q_190 hd_X4_addFace ⟨rfl, rfl⟩ ⟨Nat.le_of_ble_eq_true rfl, Nat.le_of_ble_eq_true rfl⟩ rfl hl.1 rfl (Nat.le_of_ble_eq_true rfl) dX4_push_77 ⟨Nat.zero_le _, Nat.zero_le _⟩) (fun u9 H locs hq hW => ?_)
  obtain ⟨wm77, rfl⟩ : ∃ z, z = u9 := ⟨_, rfl⟩
  try dsimp only at hq hW
  refine lv_aload_n hC.x hC.b dX4_push_80 rfl (lv_at hl 6 rfl) ?_
  refine lv_iload hC.x hC.b dX4_push_81 (lv_at hl 1 rfl) ?_
  refine lv_iload hC.x hC.b dX4_push_83 (lv_at hl 4 rfl) ?_
  refine lv_iload hC.x hC.b dX4_push_85 (lv_at hl 3 rfl) ?_
  refine lv_ineg hC.x hC.b dX4_push_87 ?_
  refine lv_iload hC.x hC.b dX4_push_88 (lv_at hl 2 rfl) ?_
  refine hc_goVW hC hW (hc_rV hC (c_X4_addCorner l D cy cz t1 t2 hm am ((wm 8 (x1).toNatClampNeg) + ((wm 10 (x1).toNatClampNeg) * x2)) (wm 9 (x1).toNatClampNeg) (-(wm 10 (x1).toNatClampNeg)) (wm 11 (x1).toNatClampNeg) wm77 _ hq) (hc_preW hC hW) hW 0 4 rfl rfl q_198 q_199 q_200 q_5 q_201 hd_X4_addCorner ⟨rfl, rfl⟩ ⟨Nat.le_of_ble_eq_true rfl, Nat.le_of_ble_eq_true rfl⟩ rfl hl.1 rfl (Nat.le_of_ble_eq_true rfl) dX4_push_90 ⟨Nat.zero_le _, Nat.zero_le _⟩) (fun u9 H locs hq hW => ?_)
  obtain ⟨wm90, rfl⟩ : ∃ z, z = u9 := ⟨_, rfl⟩
  try dsimp only at hq hW
  refine lv_aload_n hC.x hC.b dX4_push_93 rfl (lv_at hl 6 rfl) ?_
  refine lv_iload hC.x hC.b dX4_push_94 (lv_at hl 1 rfl) ?_
  refine lv_iload hC.x hC.b dX4_push_96 (lv_at hl 4 rfl) ?_
  refine lv_iload hC.x hC.b dX4_push_98 (lv_at hl 3 rfl) ?_
  refine lv_iload hC.x hC.b dX4_push_100 (lv_at hl 2 rfl) ?_
  refine hc_goVW hC hW (hc_rV hC (c_X4_addCorner l D cy cz t1 t2 hm am ((wm 8 (x1).toNatClampNeg) + ((wm 10 (x1).toNatClampNeg) * x2)) (wm 9 (x1).toNatClampNeg) (wm 10 (x1).toNatClampNeg) (wm 11 (x1).toNatClampNeg) wm90 _ hq) (hc_preW hC hW) hW 0 4 rfl rfl q_198 q_199 q_200 q_5 q_201 hd_X4_addCorner ⟨rfl, rfl⟩ ⟨Nat.le_of_ble_eq_true rfl, Nat.le_of_ble_eq_true rfl⟩ rfl hl.1 rfl (Nat.le_of_ble_eq_true rfl) dX4_push_102 ⟨Nat.zero_le _, Nat.zero_le _⟩) (fun u9 H locs hq hW => ?_)
  obtain ⟨wm102, rfl⟩ : ∃ z, z = u9 := ⟨_, rfl⟩
  try dsimp only at hq hW
  refine lv_aload_n hC.x hC.b dX4_push_105 rfl (lv_at hl 6 rfl) ?_
  refine lv_iload hC.x hC.b dX4_push_106 (lv_at hl 5 rfl) ?_
  refine lv_iload hC.x hC.b dX4_push_108 (lv_at hl 0 rfl) ?_
  refine lv_iload hC.x hC.b dX4_push_110 (lv_at hl 3 rfl) ?_
  refine lv_iload hC.x hC.b dX4_push_112 (lv_at hl 2 rfl) ?_
  refine lv_ineg hC.x hC.b dX4_push_114 ?_
  refine hc_goVW hC hW (hc_rV hC (c_X4_addCorner l D cy cz t1 t2 hm am (wm 8 (x1).toNatClampNeg) ((wm 9 (x1).toNatClampNeg) + ((wm 11 (x1).toNatClampNeg) * x3)) (wm 10 (x1).toNatClampNeg) (-(wm 11 (x1).toNatClampNeg)) wm102 _ hq) (hc_preW hC hW) hW 0 4 rfl rfl q_198 q_199 q_200 q_5 q_201 hd_X4_addCorner ⟨rfl, rfl⟩ ⟨Nat.le_of_ble_eq_true rfl, Nat.le_of_ble_eq_true rfl⟩ rfl hl.1 rfl (Nat.le_of_ble_eq_true rfl) dX4_push_115 ⟨Nat.zero_le _, Nat.zero_le _⟩) (fun u9 H locs hq hW => ?_)
  obtain ⟨wm115, rfl⟩ : ∃ z, z = u9 := ⟨_, rfl⟩
  try dsimp only at hq hW
  refine lv_aload_n hC.x hC.b dX4_push_118 rfl (lv_at hl 6 rfl) ?_
  refine lv_iload hC.x hC.b dX4_push_119 (lv_at hl 5 rfl) ?_
  refine lv_iload hC.x hC.b dX4_push_121 (lv_at hl 0 rfl) ?_
  refine lv_iload hC.x hC.b dX4_push_123 (lv_at hl 3 rfl) ?_
  refine lv_iload hC.x hC.b dX4_push_125 (lv_at hl 2 rfl) ?_
  refine hc_goVW hC hW (hc_rV hC (c_X4_addCorner l D cy cz t1 t2 hm am (wm 8 (x1).toNatClampNeg) ((wm 9 (x1).toNatClampNeg) + ((wm 11 (x1).toNatClampNeg) * x3)) (wm 10 (x1).toNatClampNeg) (wm 11 (x1).toNatClampNeg) wm115 _ hq) (hc_preW hC hW) hW 0 4 rfl rfl q_198 q_199 q_200 q_5 q_201 hd_X4_addCorner ⟨rfl, rfl⟩ ⟨Nat.le_of_ble_eq_true rfl, Nat.le_of_ble_eq_true rfl⟩ rfl hl.1 rfl (Nat.le_of_ble_eq_true rfl) dX4_push_127 ⟨Nat.zero_le _, Nat.zero_le _⟩) (fun u9 H locs hq hW => ?_)
  obtain ⟨wm127, rfl⟩ : ∃ z, z = u9 := ⟨_, rfl⟩
  try dsimp only at hq hW
  refine lv_aload_n hC.x hC.b dX4_push_130 rfl (lv_at hl 6 rfl) ?_
  refine lv_iload hC.x hC.b dX4_push_131 (lv_at hl 1 rfl) ?_
  refine lv_iload hC.x hC.b dX4_push_133 (lv_at hl 0 rfl) ?_
  refine lv_iload hC.x hC.b dX4_push_135 (lv_at hl 3 rfl) ?_
  refine lv_ineg hC.x hC.b dX4_push_137 ?_
  refine lv_iload hC.x hC.b dX4_push_138 (lv_at hl 2 rfl) ?_
  refine lv_ineg hC.x hC.b dX4_push_140 ?_
  refine hc_goVW hC hW (hc_rV hC (c_X4_addCorner l D cy cz t1 t2 hm am ((wm 8 (x1).toNatClampNeg) + ((wm 10 (x1).toNatClampNeg) * x2)) ((wm 9 (x1).toNatClampNeg) + ((wm 11 (x1).toNatClampNeg) * x3)) (-(wm 10 (x1).toNatClampNeg)) (-(wm 11 (x1).toNatClampNeg)) wm127 _ hq) (hc_preW hC hW) hW 0 4 rfl rfl q_198 q_199 q_200 q_5 q_201 hd_X4_addCorner ⟨rfl, rfl⟩ ⟨Nat.le_of_ble_eq_true rfl, Nat.le_of_ble_eq_true rfl⟩ rfl hl.1 rfl (Nat.le_of_ble_eq_true rfl) dX4_push_141 ⟨Nat.zero_le _, Nat.zero_le _⟩) (fun u9 H locs hq hW => ?_)
  obtain ⟨wm141, rfl⟩ : ∃ z, z = u9 := ⟨_, rfl⟩
  try dsimp only at hq hW
  exact hc_vret hC (wm141) hW hq dX4_push_144
def k_X4_pop_2 (K2 : (Int32 × Wd) → Prop) (Q : Wd → Prop) (x1 : Int32) (wm : Wd) : Prop :=
 (((2 : Int32) ≤ x1 → (Q (up2 wm 12 0 ((wm 12 0) - 5)))) ∧
 (¬ (2 : Int32) ≤ x1 → (k_X4_mark ((up2 wm 7 0 ((wm 7 0) - 1)) 7 0) (-1) (up2 wm 7 0 ((wm 7 0) - 1)) (fun wm23 => (K2 ((x1 + 1), wm23))))))
set_option maxHeartbeats 4000000 in
set_option maxRecDepth 100000 in
theorem B_X4_pop_2 {l : Launch} {p : Program} {e : Env} {s : State} {m : MethodId} {args : Array Value} {below : List Frame} {meth : Method} {c : Code} {A : Nat → Prop} {D : va_G} {cy cz : ClassId} {t1 t2 : Nat} (hm : Nat) (am : Nat → Nat) (Q : Wd → Prop) (K2 : (Int32 × Wd) → Prop) (hK2 : ∀ b9 : Int32 × Wd, K2 b9 → ∀ (H : Heap) (locs : List Loc) (ls : Array Slot), Wo D A s (cM cy cz hm am b9.2) H locs → lv_has ls 2 [(0, .ref hm), (1, .int b9.1)] → W p l e (rM 2 45) s m args below meth c H locs 0 0 (MQ below (QV D (S := Wd) (fun u => Q u) (fun u => (cM cy cz hm am u)) A) args s 0 0 A) (F0 m 2 ls [])) (hC : Cx D cy cz t1 t2 p s m args meth c cX4_pop 2 none RX4 A) (x1 : Int32) (wm : Wd) {H : Heap} {locs : List Loc} {ls : Array Slot} (hq : k_X4_pop_2 K2 Q x1 wm) (hW : Wo D A s (cM cy cz hm am wm) H locs) (hl : lv_has ls 2 [(0, .ref hm), (1, .int x1)]) : W p l e (rM 2 45) s m args below meth c H locs 0 0 (MQ below (QV D (S := Wd) (fun u => Q u) (fun u => (cM cy cz hm am u)) A) args s 0 0 A) (F0 m 2 ls []) := by
  unfold k_X4_pop_2 at hq
  refine lv_iload_n hC.x hC.b dX4_pop_2 rfl (lv_at hl 1 rfl) ?_
  refine lv_iconst (v := 2) hC.x hC.b dX4_pop_3 (by decide) ?_
  refine lv_icmp_ge (tgt := 32) hC.x hC.b dX4_pop_4 (by decide) (fun hc9 => ?_) (fun hc9 => ?_)
  · replace hq := hq.1 hc9
    refine lv_aload_n hC.x hC.b dX4_pop_32 rfl (lv_at hl 0 rfl) ?_
    refine lv_dup hC.x hC.b dX4_pop_33 rfl ?_
    refine hc_get (v := .int (wm 12 0)) hC hW 0 4 12 inX4 rfl rfl (by decide) q_186 rfl dX4_pop_34 ?_
    refine lv_iconst (v := 5) hC.x hC.b dX4_pop_37 (by decide) ?_
    refine lv_isub hC.x hC.b dX4_pop_38 ?_
    refine hc_put (ws' := (cM cy cz hm am (up2 wm 12 0 ((wm 12 0) - 5)))) hC hW 0 4 12 inX4 tyX4 tyX4_ok nmX4 rfl rfl (by decide) q_186 rfl rfl rfl rfl (Nat.le_of_ble_eq_true rfl) (cM_put_12 ..) dX4_pop_39 (fun H locs hW => ?_)
    exact hc_vret hC ((up2 wm 12 0 ((wm 12 0) - 5))) hW hq dX4_pop_42
  · replace hq := hq.2 hc9
    refine lv_aload_n hC.x hC.b dX4_pop_7 rfl (lv_at hl 0 rfl) ?_
    refine lv_dup hC.x hC.b dX4_pop_8 rfl ?_
    refine hc_get (v := .int (wm 7 0)) hC hW 0 4 7 inX4 rfl rfl (by decide) q_181 rfl dX4_pop_9 ?_
    refine lv_iconst (v := 1) hC.x hC.b dX4_pop_12 (by decide) ?_
    refine lv_isub hC.x hC.b dX4_pop_13 ?_
    refine hc_put (ws' := (cM cy cz hm am (up2 wm 7 0 ((wm 7 0) - 1)))) hC hW 0 4 7 inX4 tyX4 tyX4_ok nmX4 rfl rfl (by decide) q_181 rfl rfl rfl rfl (Nat.le_of_ble_eq_true rfl) (cM_put_7 ..) dX4_pop_14 (fun H locs hW => ?_)
    refine lv_aload_n hC.x hC.b dX4_pop_17 rfl (lv_at hl 0 rfl) ?_
    refine lv_aload_n hC.x hC.b dX4_pop_18 rfl (lv_at hl 0 rfl) ?_
    refine hc_get (v := .int ((up2 wm 7 0 ((wm 7 0) - 1)) 7 0)) hC hW 0 4 7 inX4 rfl rfl (by decide) q_181 rfl dX4_pop_19 ?_
    refine lv_iconst (v := (-1)) hC.x hC.b dX4_pop_22 (by decide) ?_
    refine hc_goVW hC hW (hc_rV hC (c_X4_mark l D cy cz t1 t2 hm am ((up2 wm 7 0 ((wm 7 0) - 1)) 7 0) (-1) (up2 wm 7 0 ((wm 7 0) - 1)) _ hq) (hc_preW hC hW) hW 0 4 rfl rfl q_191 q_192 q_193 q_5 q_194 hd_X4_mark ⟨rfl, rfl⟩ ⟨Nat.le_of_ble_eq_true rfl, Nat.le_of_ble_eq_true rfl⟩ rfl hl.1 rfl (Nat.le_of_ble_eq_true rfl) dX4_pop_23 ⟨Nat.zero_le _, Nat.zero_le _⟩) (fun u9 H locs hq hW => ?_)
    obtain ⟨wm23, rfl⟩ : ∃ z, z = u9 := ⟨_, rfl⟩
    try dsimp only at hq hW
    refine lv_iinc (v := (x1 + 1)) (lv' := [(1, .int (x1 + 1)), (0, .ref hm)]) hC.x hC.b dX4_pop_26 hl (k := 1) rfl rfl (by decide) rfl (fun ls hl => ?_)
    refine lv_goto (tgt := 2) hC.x hC.b dX4_pop_29 (by decide) ?_
    exact hK2 ((x1 + 1), wm23) hq _ _ _ hW (lv_sub hl [1, 0] rfl)
def k_X4_pop  (wm : Wd) (Q : Wd → Prop) : Prop :=
 (∃ n : Nat, lpf (fun (K : (Int32 × Wd) → Prop) (u : Int32 × Wd) => k_X4_pop_2  K Q u.1 u.2) n (0, wm))
set_option maxHeartbeats 4000000 in
set_option maxRecDepth 100000 in
theorem c_X4_pop (l : Launch) (D : va_G) (cy cz : ClassId) (t1 t2 : Nat) (hm : Nat) (am : Nat → Nat)  (wm : Wd) (Q : Wd → Prop) (hq : k_X4_pop wm Q) : Ct l D cy cz t1 t2 yX4_pop cX4_pop 2 none (rM 2 45) [.ref hm] (cM cy cz hm am wm) (QV D (S := Wd) (fun u => Q u) (fun u => (cM cy cz hm am u))) := by
  refine Ct.of (own := RX4) (by decide) rfl (Nat.le_of_ble_eq_true rfl) ?_
  intro p e s m below meth c A ls hC hW hl
  unfold k_X4_pop at hq
  have hl : lv_has ls 2 [(0, .ref hm)] := hl
  refine lv_iconst (v := 0) hC.x hC.b dX4_pop_0 (by decide) ?_
  refine lv_istore_n (lv' := [(1, .int 0), (0, .ref hm)]) hC.x hC.b dX4_pop_1 rfl hl (by decide) rfl (fun ls hl => ?_)
  obtain ⟨n9, hq⟩ := hq
  exact lpf_use (G := (fun (u : Int32 × Wd) => ∀ (H : Heap) (locs : List Loc) (ls : Array Slot), Wo D A s (cM cy cz hm am u.2) H locs → lv_has ls 2 [(0, .ref hm), (1, .int u.1)] → W p l e (rM 2 45) s m _ below meth c H locs 0 0 (MQ below (QV D (S := Wd) (fun u => Q u) (fun u => (cM cy cz hm am u)) A) _ s 0 0 A) (F0 m 2 ls []))) (fun K hK u hq H locs ls hW hl => B_X4_pop_2 hm am Q  K hK hC u.1 u.2 hq hW hl) n9 _ hq _ _ _ hW (lv_sub hl [1, 0] rfl)
def k_X4_lay_82 (K82 : (Int32 × Wd) → Prop) (Q : Wd → Prop) (x1 : Int32) (wm : Wd) : Prop :=
 (vp_in 1 20 ∧ (((wm 0 ((1 : Int32)).toNatClampNeg) ≤ x1 → (Q wm)) ∧
 (¬ (wm 0 ((1 : Int32)).toNatClampNeg) ≤ x1 → (vp_in (2 + (3 * x1)) 20 ∧ (vp_in ((2 + (3 * x1)) + 1) 20 ∧ (vp_in ((2 + (3 * x1)) + 2) 20 ∧ (k_X4_push (wm 0 ((2 + (3 * x1))).toNatClampNeg) (wm 0 (((2 + (3 * x1)) + 1)).toNatClampNeg) (wm 0 (((2 + (3 * x1)) + 2)).toNatClampNeg) wm (fun wm127 => (K82 ((x1 + 1), wm127))))))))))
set_option maxHeartbeats 4000000 in
set_option maxRecDepth 100000 in
theorem B_X4_lay_82 {l : Launch} {p : Program} {e : Env} {s : State} {m : MethodId} {args : Array Value} {below : List Frame} {meth : Method} {c : Code} {A : Nat → Prop} {D : va_G} {cy cz : ClassId} {t1 t2 : Nat} (hm : Nat) (am : Nat → Nat) (Q : Wd → Prop) (K82 : (Int32 × Wd) → Prop) (hK82 : ∀ b9 : Int32 × Wd, K82 b9 → ∀ (H : Heap) (locs : List Loc) (ls : Array Slot), Wo D A s (cM cy cz hm am b9.2) H locs → lv_has ls 2 [(0, .ref hm), (1, .int b9.1)] → W p l e (rM 4 98) s m args below meth c H locs 0 0 (MQ below (QV D (S := Wd) (fun u => Q u) (fun u => (cM cy cz hm am u)) A) args s 0 0 A) (F0 m 82 ls [])) (hC : Cx D cy cz t1 t2 p s m args meth c cX4_lay 2 none RX4 A) (x1 : Int32) (wm : Wd) {H : Heap} {locs : List Loc} {ls : Array Slot} (hq : k_X4_lay_82 K82 Q x1 wm) (hW : Wo D A s (cM cy cz hm am wm) H locs) (hl : lv_has ls 2 [(0, .ref hm), (1, .int x1)]) : W p l e (rM 4 98) s m args below meth c H locs 0 0 (MQ below (QV D (S := Wd) (fun u => Q u) (fun u => (cM cy cz hm am u)) A) args s 0 0 A) (F0 m 82 ls []) := by
  unfold k_X4_lay_82 at hq
  refine lv_iload_n hC.x hC.b dX4_lay_82 rfl (lv_at hl 1 rfl) ?_
  refine lv_aload_n hC.x hC.b dX4_lay_83 rfl (lv_at hl 0 rfl) ?_
  refine hc_get (v := .ref (am 0)) hC hW 0 4 0 inX4 rfl rfl (by decide) q_91 rfl dX4_lay_84 ?_
  refine lv_iconst (v := 1) hC.x hC.b dX4_lay_87 (by decide) ?_
  refine hc_iald hC hW 1 rfl hq.1 dX4_lay_88 ?_
  replace hq := hq.2
  refine lv_icmp_ge (tgt := 136) hC.x hC.b dX4_lay_89 (by decide) (fun hc9 => ?_) (fun hc9 => ?_)
  · replace hq := hq.1 hc9
    exact hc_vret hC (wm) hW hq dX4_lay_136
  · replace hq := hq.2 hc9
    refine lv_aload_n hC.x hC.b dX4_lay_92 rfl (lv_at hl 0 rfl) ?_
    refine lv_aload_n hC.x hC.b dX4_lay_93 rfl (lv_at hl 0 rfl) ?_
    refine hc_get (v := .ref (am 0)) hC hW 0 4 0 inX4 rfl rfl (by decide) q_91 rfl dX4_lay_94 ?_
    refine lv_iconst (v := 2) hC.x hC.b dX4_lay_97 (by decide) ?_
    refine lv_iconst (v := 3) hC.x hC.b dX4_lay_98 (by decide) ?_
    refine lv_iload_n hC.x hC.b dX4_lay_99 rfl (lv_at hl 1 rfl) ?_
    refine lv_imul hC.x hC.b dX4_lay_100 ?_
    refine lv_iadd hC.x hC.b dX4_lay_101 ?_
    refine hc_iald hC hW 1 rfl hq.1 dX4_lay_102 ?_
    replace hq := hq.2
    refine lv_aload_n hC.x hC.b dX4_lay_103 rfl (lv_at hl 0 rfl) ?_
    refine hc_get (v := .ref (am 0)) hC hW 0 4 0 inX4 rfl rfl (by decide) q_91 rfl dX4_lay_104 ?_
    refine lv_iconst (v := 2) hC.x hC.b dX4_lay_107 (by decide) ?_
    refine lv_iconst (v := 3) hC.x hC.b dX4_lay_108 (by decide) ?_
    refine lv_iload_n hC.x hC.b dX4_lay_109 rfl (lv_at hl 1 rfl) ?_
    refine lv_imul hC.x hC.b dX4_lay_110 ?_
    refine lv_iadd hC.x hC.b dX4_lay_111 ?_
    refine lv_iconst (v := 1) hC.x hC.b dX4_lay_112 (by decide) ?_
    refine lv_iadd hC.x hC.b dX4_lay_113 ?_
    refine hc_iald hC hW 1 rfl hq.1 dX4_lay_114 ?_
    replace hq := hq.2
    refine lv_aload_n hC.x hC.b dX4_lay_115 rfl (lv_at hl 0 rfl) ?_
    refine hc_get (v := .ref (am 0)) hC hW 0 4 0 inX4 rfl rfl (by decide) q_91 rfl dX4_lay_116 ?_
    refine lv_iconst (v := 2) hC.x hC.b dX4_lay_119 (by decide) ?_
    refine lv_iconst (v := 3) hC.x hC.b dX4_lay_120 (by decide) ?_
    refine lv_iload_n hC.x hC.b dX4_lay_121 rfl (lv_at hl 1 rfl) ?_
    refine lv_imul hC.x hC.b dX4_lay_122 ?_
    refine lv_iadd hC.x hC.b dX4_lay_123 ?_
    refine lv_iconst (v := 2) hC.x hC.b dX4_lay_124 (by decide) ?_
    refine lv_iadd hC.x hC.b dX4_lay_125 ?_
    refine hc_iald hC hW 1 rfl hq.1 dX4_lay_126 ?_
    replace hq := hq.2
    refine hc_goVW hC hW (hc_rV hC (c_X4_push l D cy cz t1 t2 hm am (wm 0 ((2 + (3 * x1))).toNatClampNeg) (wm 0 (((2 + (3 * x1)) + 1)).toNatClampNeg) (wm 0 (((2 + (3 * x1)) + 2)).toNatClampNeg) wm _ hq) (hc_preW hC hW) hW 0 4 rfl rfl q_202 q_203 q_204 q_5 q_205 hd_X4_push ⟨rfl, rfl⟩ ⟨Nat.le_of_ble_eq_true rfl, Nat.le_of_ble_eq_true rfl⟩ rfl hl.1 rfl (Nat.le_of_ble_eq_true rfl) dX4_lay_127 ⟨Nat.zero_le _, Nat.zero_le _⟩) (fun u9 H locs hq hW => ?_)
    obtain ⟨wm127, rfl⟩ : ∃ z, z = u9 := ⟨_, rfl⟩
    try dsimp only at hq hW
    refine lv_iinc (v := (x1 + 1)) (lv' := [(1, .int (x1 + 1)), (0, .ref hm)]) hC.x hC.b dX4_lay_130 hl (k := 1) rfl rfl (by decide) rfl (fun ls hl => ?_)
    refine lv_goto (tgt := 82) hC.x hC.b dX4_lay_133 (by decide) ?_
    exact hK82 ((x1 + 1), wm127) hq _ _ _ hW (lv_sub hl [1, 0] rfl)
def k_X4_lay_12 (K12 : (Int32 × Wd) → Prop) (Q : Wd → Prop) (x1 : Int32) (wm : Wd) : Prop :=
 (((169 : Int32) ≤ x1 → (vp_in 0 20 ∧ (k_X4_addFace 0 0 0 (wm 0 ((0 : Int32)).toNatClampNeg) wm (fun wm56 => (vp_in 0 20 ∧ (k_X4_addFace 1 0 0 (wm56 0 ((0 : Int32)).toNatClampNeg) wm56 (fun wm69 => (k_X4_addCorner 0 0 1 1 wm69 (fun wm77 => (∃ n : Nat, lpf (fun (K : (Int32 × Wd) → Prop) (u : Int32 × Wd) => k_X4_lay_82  K Q u.1 u.2) n (0, wm77))))))))))) ∧
 (¬ (169 : Int32) ≤ x1 → (vp_in x1 169 ∧ (vp_in x1 169 ∧ (vp_in x1 169 ∧ (K12 ((x1 + 1), (up2 (up2 (up2 wm 13 (x1).toNatClampNeg 0) 14 (x1).toNatClampNeg 0) 15 (x1).toNatClampNeg 0))))))))
set_option maxHeartbeats 4000000 in
set_option maxRecDepth 100000 in
theorem B_X4_lay_12 {l : Launch} {p : Program} {e : Env} {s : State} {m : MethodId} {args : Array Value} {below : List Frame} {meth : Method} {c : Code} {A : Nat → Prop} {D : va_G} {cy cz : ClassId} {t1 t2 : Nat} (hm : Nat) (am : Nat → Nat) (Q : Wd → Prop) (K12 : (Int32 × Wd) → Prop) (hK12 : ∀ b9 : Int32 × Wd, K12 b9 → ∀ (H : Heap) (locs : List Loc) (ls : Array Slot), Wo D A s (cM cy cz hm am b9.2) H locs → lv_has ls 2 [(0, .ref hm), (1, .int b9.1)] → W p l e (rM 4 98) s m args below meth c H locs 0 0 (MQ below (QV D (S := Wd) (fun u => Q u) (fun u => (cM cy cz hm am u)) A) args s 0 0 A) (F0 m 12 ls [])) (hC : Cx D cy cz t1 t2 p s m args meth c cX4_lay 2 none RX4 A) (x1 : Int32) (wm : Wd) {H : Heap} {locs : List Loc} {ls : Array Slot} (hq : k_X4_lay_12 K12 Q x1 wm) (hW : Wo D A s (cM cy cz hm am wm) H locs) (hl : lv_has ls 2 [(0, .ref hm), (1, .int x1)]) : W p l e (rM 4 98) s m args below meth c H locs 0 0 (MQ below (QV D (S := Wd) (fun u => Q u) (fun u => (cM cy cz hm am u)) A) args s 0 0 A) (F0 m 12 ls []) := by
  unfold k_X4_lay_12 at hq
  refine lv_iload_n hC.x hC.b dX4_lay_12 rfl (lv_at hl 1 rfl) ?_
  refine lv_sipush (v := 169) hC.x hC.b dX4_lay_13 (by decide) ?_
  refine lv_icmp_ge (tgt := 46) hC.x hC.b dX4_lay_16 (by decide) (fun hc9 => ?_) (fun hc9 => ?_)
  · replace hq := hq.1 hc9
    refine lv_aload_n hC.x hC.b dX4_lay_46 rfl (lv_at hl 0 rfl) ?_
    refine lv_iconst (v := 0) hC.x hC.b dX4_lay_47 (by decide) ?_
    refine lv_iconst (v := 0) hC.x hC.b dX4_lay_48 (by decide) ?_
    refine lv_iconst (v := 0) hC.x hC.b dX4_lay_49 (by decide) ?_
    refine lv_aload_n hC.x hC.b dX4_lay_50 rfl (lv_at hl 0 rfl) ?_
    refine hc_get (v := .ref (am 0)) hC hW 0 4 0 inX4 rfl rfl (by decide) q_91 rfl dX4_lay_51 ?_
    refine lv_iconst (v := 0) hC.x hC.b dX4_lay_54 (by decide) ?_
    refine hc_iald hC hW 1 rfl hq.1 dX4_lay_55 ?_
    replace hq := hq.2
    refine hc_goVW hC hW (hc_rV hC (c_X4_addFace l D cy cz t1 t2 hm am 0 0 0 (wm 0 ((0 : Int32)).toNatClampNeg) wm _ hq) (hc_preW hC hW) hW 0 4 rfl rfl q_187 q_188 q_189 q_5 q_190 hd_X4_addFace ⟨rfl, rfl⟩ ⟨Nat.le_of_ble_eq_true rfl, Nat.le_of_ble_eq_true rfl⟩ rfl hl.1 rfl (Nat.le_of_ble_eq_true rfl) dX4_lay_56 ⟨Nat.zero_le _, Nat.zero_le _⟩) (fun u9 H locs hq hW => ?_)
    obtain ⟨wm56, rfl⟩ : ∃ z, z = u9 := ⟨_, rfl⟩
    try dsimp only at hq hW
    refine lv_aload_n hC.x hC.b dX4_lay_59 rfl (lv_at hl 0 rfl) ?_
    refine lv_iconst (v := 1) hC.x hC.b dX4_lay_60 (by decide) ?_
    refine lv_iconst (v := 0) hC.x hC.b dX4_lay_61 (by decide) ?_
    refine lv_iconst (v := 0) hC.x hC.b dX4_lay_62 (by decide) ?_
    refine lv_aload_n hC.x hC.b dX4_lay_63 rfl (lv_at hl 0 rfl) ?_
    refine hc_get (v := .ref (am 0)) hC hW 0 4 0 inX4 rfl rfl (by decide) q_91 rfl dX4_lay_64 ?_
    refine lv_iconst (v := 0) hC.x hC.b dX4_lay_67 (by decide) ?_
    refine hc_iald hC hW 1 rfl hq.1 dX4_lay_68 ?_
    replace hq := hq.2
    refine hc_goVW hC hW (hc_rV hC (c_X4_addFace l D cy cz t1 t2 hm am 1 0 0 (wm56 0 ((0 : Int32)).toNatClampNeg) wm56 _ hq) (hc_preW hC hW) hW 0 4 rfl rfl q_187 q_188 q_189 q_5 q_190 hd_X4_addFace ⟨rfl, rfl⟩ ⟨Nat.le_of_ble_eq_true rfl, Nat.le_of_ble_eq_true rfl⟩ rfl hl.1 rfl (Nat.le_of_ble_eq_true rfl) dX4_lay_69 ⟨Nat.zero_le _, Nat.zero_le _⟩) (fun u9 H locs hq hW => ?_)
    obtain ⟨wm69, rfl⟩ : ∃ z, z = u9 := ⟨_, rfl⟩
    try dsimp only at hq hW
    refine lv_aload_n hC.x hC.b dX4_lay_72 rfl (lv_at hl 0 rfl) ?_
    refine lv_iconst (v := 0) hC.x hC.b dX4_lay_73 (by decide) ?_
    refine lv_iconst (v := 0) hC.x hC.b dX4_lay_74 (by decide) ?_
    refine lv_iconst (v := 1) hC.x hC.b dX4_lay_75 (by decide) ?_
    refine lv_iconst (v := 1) hC.x hC.b dX4_lay_76 (by decide) ?_
    refine hc_goVW hC hW (hc_rV hC (c_X4_addCorner l D cy cz t1 t2 hm am 0 0 1 1 wm69 _ hq) (hc_preW hC hW) hW 0 4 rfl rfl q_198 q_199 q_200 q_5 q_201 hd_X4_addCorner ⟨rfl, rfl⟩ ⟨Nat.le_of_ble_eq_true rfl, Nat.le_of_ble_eq_true rfl⟩ rfl hl.1 rfl (Nat.le_of_ble_eq_true rfl) dX4_lay_77 ⟨Nat.zero_le _, Nat.zero_le _⟩) (fun u9 H locs hq hW => ?_)
    obtain ⟨wm77, rfl⟩ : ∃ z, z = u9 := ⟨_, rfl⟩
    try dsimp only at hq hW
    refine lv_iconst (v := 0) hC.x hC.b dX4_lay_80 (by decide) ?_
    refine lv_istore_n (lv' := [(1, .int 0), (0, .ref hm)]) hC.x hC.b dX4_lay_81 rfl hl (by decide) rfl (fun ls hl => ?_)
    obtain ⟨n9, hq⟩ := hq
    exact lpf_use (G := (fun (u : Int32 × Wd) => ∀ (H : Heap) (locs : List Loc) (ls : Array Slot), Wo D A s (cM cy cz hm am u.2) H locs → lv_has ls 2 [(0, .ref hm), (1, .int u.1)] → W p l e (rM 4 98) s m args below meth c H locs 0 0 (MQ below (QV D (S := Wd) (fun u => Q u) (fun u => (cM cy cz hm am u)) A) args s 0 0 A) (F0 m 82 ls []))) (fun K hK u hq H locs ls hW hl => B_X4_lay_82 hm am Q  K hK hC u.1 u.2 hq hW hl) n9 _ hq _ _ _ hW (lv_sub hl [1, 0] rfl)
  · replace hq := hq.2 hc9
    refine lv_aload_n hC.x hC.b dX4_lay_19 rfl (lv_at hl 0 rfl) ?_
    refine hc_get (v := .ref (am 13)) hC hW 0 4 13 inX4 rfl rfl (by decide) q_103 rfl dX4_lay_20 ?_
    refine lv_iload_n hC.x hC.b dX4_lay_23 rfl (lv_at hl 1 rfl) ?_
    refine lv_iconst (v := 0) hC.x hC.b dX4_lay_24 (by decide) ?_
    refine hc_iast (ws' := (cM cy cz hm am (up2 wm 13 (x1).toNatClampNeg 0))) hC hW 12 rfl hq.1 (cM_set_13 ..) dX4_lay_25 (fun H locs hW => ?_)
    replace hq := hq.2
    refine lv_aload_n hC.x hC.b dX4_lay_26 rfl (lv_at hl 0 rfl) ?_
    refine hc_get (v := .ref (am 14)) hC hW 0 4 14 inX4 rfl rfl (by decide) q_104 rfl dX4_lay_27 ?_
    refine lv_iload_n hC.x hC.b dX4_lay_30 rfl (lv_at hl 1 rfl) ?_
    refine lv_iconst (v := 0) hC.x hC.b dX4_lay_31 (by decide) ?_
    refine hc_iast (ws' := (cM cy cz hm am (up2 (up2 wm 13 (x1).toNatClampNeg 0) 14 (x1).toNatClampNeg 0))) hC hW 13 rfl hq.1 (cM_set_14 ..) dX4_lay_32 (fun H locs hW => ?_)
    replace hq := hq.2
    refine lv_aload_n hC.x hC.b dX4_lay_33 rfl (lv_at hl 0 rfl) ?_
    refine hc_get (v := .ref (am 15)) hC hW 0 4 15 inX4 rfl rfl (by decide) q_105 rfl dX4_lay_34 ?_
    refine lv_iload_n hC.x hC.b dX4_lay_37 rfl (lv_at hl 1 rfl) ?_
    refine lv_iconst (v := 0) hC.x hC.b dX4_lay_38 (by decide) ?_
    refine hc_iast (ws' := (cM cy cz hm am (up2 (up2 (up2 wm 13 (x1).toNatClampNeg 0) 14 (x1).toNatClampNeg 0) 15 (x1).toNatClampNeg 0))) hC hW 14 rfl hq.1 (cM_set_15 ..) dX4_lay_39 (fun H locs hW => ?_)
    replace hq := hq.2
    refine lv_iinc (v := (x1 + 1)) (lv' := [(1, .int (x1 + 1)), (0, .ref hm)]) hC.x hC.b dX4_lay_40 hl (k := 1) rfl rfl (by decide) rfl (fun ls hl => ?_)
    refine lv_goto (tgt := 12) hC.x hC.b dX4_lay_43 (by decide) ?_
    exact hK12 ((x1 + 1), (up2 (up2 (up2 wm 13 (x1).toNatClampNeg 0) 14 (x1).toNatClampNeg 0) 15 (x1).toNatClampNeg 0)) hq _ _ _ hW (lv_sub hl [1, 0] rfl)
def k_X4_lay  (wm : Wd) (Q : Wd → Prop) : Prop :=
 (∃ n : Nat, lpf (fun (K : (Int32 × Wd) → Prop) (u : Int32 × Wd) => k_X4_lay_12  K Q u.1 u.2) n (0, (up2 (up2 wm 7 0 0) 12 0 0)))
set_option maxHeartbeats 4000000 in
set_option maxRecDepth 100000 in
theorem c_X4_lay (l : Launch) (D : va_G) (cy cz : ClassId) (t1 t2 : Nat) (hm : Nat) (am : Nat → Nat)  (wm : Wd) (Q : Wd → Prop) (hq : k_X4_lay wm Q) : Ct l D cy cz t1 t2 yX4_lay cX4_lay 2 none (rM 4 98) [.ref hm] (cM cy cz hm am wm) (QV D (S := Wd) (fun u => Q u) (fun u => (cM cy cz hm am u))) := by
  refine Ct.of (own := RX4) (by decide) rfl (Nat.le_of_ble_eq_true rfl) ?_
  intro p e s m below meth c A ls hC hW hl
  unfold k_X4_lay at hq
  have hl : lv_has ls 2 [(0, .ref hm)] := hl
  refine lv_aload_n hC.x hC.b dX4_lay_0 rfl (lv_at hl 0 rfl) ?_
  refine lv_iconst (v := 0) hC.x hC.b dX4_lay_1 (by decide) ?_
  refine hc_put (ws' := (cM cy cz hm am (up2 wm 7 0 0))) hC hW 0 4 7 inX4 tyX4 tyX4_ok nmX4 rfl rfl (by decide) q_181 rfl rfl rfl rfl (Nat.le_of_ble_eq_true rfl) (cM_put_7 ..) dX4_lay_2 (fun H locs hW => ?_)
  refine lv_aload_n hC.x hC.b dX4_lay_5 rfl (lv_at hl 0 rfl) ?_
  refine lv_iconst (v := 0) hC.x hC.b dX4_lay_6 (by decide) ?_
  refine hc_put (ws' := (cM cy cz hm am (up2 (up2 wm 7 0 0) 12 0 0))) hC hW 0 4 12 inX4 tyX4 tyX4_ok nmX4 rfl rfl (by decide) q_186 rfl rfl rfl rfl (Nat.le_of_ble_eq_true rfl) (cM_put_12 ..) dX4_lay_7 (fun H locs hW => ?_)
  refine lv_iconst (v := 0) hC.x hC.b dX4_lay_10 (by decide) ?_
  refine lv_istore_n (lv' := [(1, .int 0), (0, .ref hm)]) hC.x hC.b dX4_lay_11 rfl hl (by decide) rfl (fun ls hl => ?_)
  obtain ⟨n9, hq⟩ := hq
  exact lpf_use (G := (fun (u : Int32 × Wd) => ∀ (H : Heap) (locs : List Loc) (ls : Array Slot), Wo D A s (cM cy cz hm am u.2) H locs → lv_has ls 2 [(0, .ref hm), (1, .int u.1)] → W p l e (rM 4 98) s m _ below meth c H locs 0 0 (MQ below (QV D (S := Wd) (fun u => Q u) (fun u => (cM cy cz hm am u)) A) _ s 0 0 A) (F0 m 12 ls []))) (fun K hK u hq H locs ls hW hl => B_X4_lay_12 hm am Q  K hK hC u.1 u.2 hq hW hl) n9 _ hq _ _ _ hW (lv_sub hl [1, 0] rfl)
def k_X4_isPiece_43  (Q : Int32 → Wd → Prop) (x4 : Int32) (x5 : Int32) (y0 : Int32) (wm : Wd) : Prop :=
 (k_X4_in x5 0 12 (fun r50 => ((r50 = 0 → (Q 0 wm)) ∧
 (¬ r50 = 0 → (k_X4_in y0 0 12 (fun r61 => ((r61 = 0 → (Q 0 wm)) ∧
 (¬ r61 = 0 → ((¬ x4 = 0 → (k_X4_at x5 y0 (fun r87 => (vp_in r87 169 ∧ (((wm 14 (r87).toNatClampNeg) ≤ 0 → (Q 0 wm)) ∧
 (¬ (wm 14 (r87).toNatClampNeg) ≤ 0 → (Q 1 wm))))))) ∧
 (x4 = 0 → (k_X4_at x5 y0 (fun r87 => (vp_in r87 169 ∧ (((wm 13 (r87).toNatClampNeg) ≤ 0 → (Q 0 wm)) ∧
 (¬ (wm 13 (r87).toNatClampNeg) ≤ 0 → (Q 1 wm))))))))))))))))
set_option maxHeartbeats 4000000 in
set_option maxRecDepth 100000 in
theorem B_X4_isPiece_43 {l : Launch} {p : Program} {e : Env} {s : State} {m : MethodId} {args : Array Value} {below : List Frame} {meth : Method} {c : Code} {A : Nat → Prop} {D : va_G} {cy cz : ClassId} {t1 t2 : Nat} (hm : Nat) (am : Nat → Nat) (Q : Int32 → Wd → Prop)  (hC : Cx D cy cz t1 t2 p s m args meth c cX4_isPiece 7 (some .boolean) RX4 A) (x4 : Int32) (x5 : Int32) (y0 : Int32) (wm : Wd) {H : Heap} {locs : List Loc} {ls : Array Slot} (hq : k_X4_isPiece_43  Q x4 x5 y0 wm) (hW : Wo D A s (cM cy cz hm am wm) H locs) (hl : lv_has ls 7 [(0, .ref hm), (4, .int x4), (5, .int x5)]) : W p l e (rM 1 22) s m args below meth c H locs 0 0 (MQ below (QI D (S := Wd) (fun r u => Q r u) (fun u => (cM cy cz hm am u)) A) args s 0 0 A) (F0 m 43 ls [.int y0]) := by
  unfold k_X4_isPiece_43 at hq
  refine lv_istore (lv' := [(6, .int y0), (0, .ref hm), (4, .int x4), (5, .int x5)]) hC.x hC.b dX4_isPiece_43 hl (by decide) rfl (fun ls hl => ?_)
  refine lv_iload hC.x hC.b dX4_isPiece_45 (lv_at hl 3 rfl) ?_
  refine lv_iconst (v := 0) hC.x hC.b dX4_isPiece_47 (by decide) ?_
  refine lv_bipush (v := 12) hC.x hC.b dX4_isPiece_48 (by decide) ?_
  refine hc_goP hC hW (hc_rS hC (c_X4_in l D cy cz t1 t2 x5 0 12 _ hq) (hc_preP hC hW) q_120 q_121 q_5 q_122 hd_X4_in ⟨rfl, rfl⟩ ⟨Nat.le_of_ble_eq_true rfl, Nat.le_of_ble_eq_true rfl⟩ rfl hl.1 rfl (Nat.le_of_ble_eq_true rfl) dX4_isPiece_50 ⟨Nat.zero_le _, Nat.zero_le _⟩) (fun r50 H locs hq hW => ?_)
  try dsimp only at hq
  refine lv_if_eq (tgt := 98) hC.x hC.b dX4_isPiece_53 (by decide) (fun hc9 => ?_) (fun hc9 => ?_)
  · replace hq := hq.1 hc9
    refine lv_iconst (v := 0) hC.x hC.b dX4_isPiece_98 (by decide) ?_
    exact hc_zret hC (wm) hW rfl hq dX4_isPiece_99
  · replace hq := hq.2 hc9
    refine lv_iload hC.x hC.b dX4_isPiece_56 (lv_at hl 0 rfl) ?_
    refine lv_iconst (v := 0) hC.x hC.b dX4_isPiece_58 (by decide) ?_
    refine lv_bipush (v := 12) hC.x hC.b dX4_isPiece_59 (by decide) ?_
    refine hc_goP hC hW (hc_rS hC (c_X4_in l D cy cz t1 t2 y0 0 12 _ hq) (hc_preP hC hW) q_120 q_121 q_5 q_122 hd_X4_in ⟨rfl, rfl⟩ ⟨Nat.le_of_ble_eq_true rfl, Nat.le_of_ble_eq_true rfl⟩ rfl hl.1 rfl (Nat.le_of_ble_eq_true rfl) dX4_isPiece_61 ⟨Nat.zero_le _, Nat.zero_le _⟩) (fun r61 H locs hq hW => ?_)
    try dsimp only at hq
    refine lv_if_eq (tgt := 98) hC.x hC.b dX4_isPiece_64 (by decide) (fun hc9 => ?_) (fun hc9 => ?_)
    · replace hq := hq.1 hc9
      refine lv_iconst (v := 0) hC.x hC.b dX4_isPiece_98 (by decide) ?_
      exact hc_zret hC (wm) hW rfl hq dX4_isPiece_99
    · replace hq := hq.2 hc9
      refine lv_iload hC.x hC.b dX4_isPiece_67 (lv_at hl 2 rfl) ?_
      refine lv_if_ne (tgt := 79) hC.x hC.b dX4_isPiece_69 (by decide) (fun hc9 => ?_) (fun hc9 => ?_)
      · replace hq := hq.1 hc9
        refine lv_aload_n hC.x hC.b dX4_isPiece_79 rfl (lv_at hl 1 rfl) ?_
        refine hc_get (v := .ref (am 14)) hC hW 0 4 14 inX4 rfl rfl (by decide) q_104 rfl dX4_isPiece_80 ?_
        refine lv_iload hC.x hC.b dX4_isPiece_83 (lv_at hl 3 rfl) ?_
        refine lv_iload hC.x hC.b dX4_isPiece_85 (lv_at hl 0 rfl) ?_
        refine hc_goP hC hW (hc_rS hC (c_X4_at l D cy cz t1 t2 x5 y0 _ hq) (hc_preP hC hW) q_195 q_196 q_5 q_197 hd_X4_at ⟨rfl, rfl⟩ ⟨Nat.le_of_ble_eq_true rfl, Nat.le_of_ble_eq_true rfl⟩ rfl hl.1 rfl (Nat.le_of_ble_eq_true rfl) dX4_isPiece_87 ⟨Nat.zero_le _, Nat.zero_le _⟩) (fun r87 H locs hq hW => ?_)
        try dsimp only at hq
        refine hc_iald hC hW 13 rfl hq.1 dX4_isPiece_90 ?_
        replace hq := hq.2
        refine lv_if_le (tgt := 98) hC.x hC.b dX4_isPiece_91 (by decide) (fun hc9 => ?_) (fun hc9 => ?_)
        · replace hq := hq.1 hc9
          refine lv_iconst (v := 0) hC.x hC.b dX4_isPiece_98 (by decide) ?_
          exact hc_zret hC (wm) hW rfl hq dX4_isPiece_99
        · replace hq := hq.2 hc9
          refine lv_iconst (v := 1) hC.x hC.b dX4_isPiece_94 (by decide) ?_
          refine lv_goto (tgt := 99) hC.x hC.b dX4_isPiece_95 (by decide) ?_
          exact hc_zret hC (wm) hW rfl hq dX4_isPiece_99
      · replace hq := hq.2 hc9
        refine lv_aload_n hC.x hC.b dX4_isPiece_72 rfl (lv_at hl 1 rfl) ?_
        refine hc_get (v := .ref (am 13)) hC hW 0 4 13 inX4 rfl rfl (by decide) q_103 rfl dX4_isPiece_73 ?_
        refine lv_goto (tgt := 83) hC.x hC.b dX4_isPiece_76 (by decide) ?_
        refine lv_iload hC.x hC.b dX4_isPiece_83 (lv_at hl 3 rfl) ?_
        refine lv_iload hC.x hC.b dX4_isPiece_85 (lv_at hl 0 rfl) ?_
        refine hc_goP hC hW (hc_rS hC (c_X4_at l D cy cz t1 t2 x5 y0 _ hq) (hc_preP hC hW) q_195 q_196 q_5 q_197 hd_X4_at ⟨rfl, rfl⟩ ⟨Nat.le_of_ble_eq_true rfl, Nat.le_of_ble_eq_true rfl⟩ rfl hl.1 rfl (Nat.le_of_ble_eq_true rfl) dX4_isPiece_87 ⟨Nat.zero_le _, Nat.zero_le _⟩) (fun r87 H locs hq hW => ?_)
        try dsimp only at hq
        refine hc_iald hC hW 12 rfl hq.1 dX4_isPiece_90 ?_
        replace hq := hq.2
        refine lv_if_le (tgt := 98) hC.x hC.b dX4_isPiece_91 (by decide) (fun hc9 => ?_) (fun hc9 => ?_)
        · replace hq := hq.1 hc9
          refine lv_iconst (v := 0) hC.x hC.b dX4_isPiece_98 (by decide) ?_
          exact hc_zret hC (wm) hW rfl hq dX4_isPiece_99
        · replace hq := hq.2 hc9
          refine lv_iconst (v := 1) hC.x hC.b dX4_isPiece_94 (by decide) ?_
          refine lv_goto (tgt := 99) hC.x hC.b dX4_isPiece_95 (by decide) ?_
          exact hc_zret hC (wm) hW rfl hq dX4_isPiece_99
def k_X4_isPiece_20  (Q : Int32 → Wd → Prop) (x2 : Int32) (x3 : Int32) (x4 : Int32) (y0 : Int32) (wm : Wd) : Prop :=
 ((¬ x4 = 1 → (k_X4_isPiece_43  Q x4 y0 x2 wm)) ∧
 (x4 = 1 → (((0 : Int32) ≤ x3 → (k_X4_isPiece_43  Q x4 y0 x2 wm)) ∧
 (¬ (0 : Int32) ≤ x3 → (k_X4_isPiece_43  Q x4 y0 (x2 - 1) wm)))))
set_option maxHeartbeats 4000000 in
set_option maxRecDepth 100000 in
theorem B_X4_isPiece_20 {l : Launch} {p : Program} {e : Env} {s : State} {m : MethodId} {args : Array Value} {below : List Frame} {meth : Method} {c : Code} {A : Nat → Prop} {D : va_G} {cy cz : ClassId} {t1 t2 : Nat} (hm : Nat) (am : Nat → Nat) (Q : Int32 → Wd → Prop)  (hC : Cx D cy cz t1 t2 p s m args meth c cX4_isPiece 7 (some .boolean) RX4 A) (x2 : Int32) (x3 : Int32) (x4 : Int32) (y0 : Int32) (wm : Wd) {H : Heap} {locs : List Loc} {ls : Array Slot} (hq : k_X4_isPiece_20  Q x2 x3 x4 y0 wm) (hW : Wo D A s (cM cy cz hm am wm) H locs) (hl : lv_has ls 7 [(0, .ref hm), (2, .int x2), (3, .int x3), (4, .int x4)]) : W p l e (rM 1 22) s m args below meth c H locs 0 0 (MQ below (QI D (S := Wd) (fun r u => Q r u) (fun u => (cM cy cz hm am u)) A) args s 0 0 A) (F0 m 20 ls [.int y0]) := by
  unfold k_X4_isPiece_20 at hq
  refine lv_istore (lv' := [(5, .int y0), (0, .ref hm), (2, .int x2), (3, .int x3), (4, .int x4)]) hC.x hC.b dX4_isPiece_20 hl (by decide) rfl (fun ls hl => ?_)
  refine lv_iload hC.x hC.b dX4_isPiece_22 (lv_at hl 4 rfl) ?_
  refine lv_iconst (v := 1) hC.x hC.b dX4_isPiece_24 (by decide) ?_
  refine lv_icmp_ne (tgt := 42) hC.x hC.b dX4_isPiece_25 (by decide) (fun hc9 => ?_) (fun hc9 => ?_)
  · replace hq := hq.1 hc9
    refine lv_iload_n hC.x hC.b dX4_isPiece_42 rfl (lv_at hl 2 rfl) ?_
    exact B_X4_isPiece_43 hm am Q  hC x4 y0 x2 wm hq hW (lv_sub hl [1, 4, 0] rfl)
  · replace hq := hq.2 hc9
    refine lv_iload_n hC.x hC.b dX4_isPiece_28 rfl (lv_at hl 3 rfl) ?_
    refine lv_if_ge (tgt := 38) hC.x hC.b dX4_isPiece_29 (by decide) (fun hc9 => ?_) (fun hc9 => ?_)
    · replace hq := hq.1 hc9
      refine lv_iload_n hC.x hC.b dX4_isPiece_38 rfl (lv_at hl 2 rfl) ?_
      refine lv_goto (tgt := 43) hC.x hC.b dX4_isPiece_39 (by decide) ?_
      exact B_X4_isPiece_43 hm am Q  hC x4 y0 x2 wm hq hW (lv_sub hl [1, 4, 0] rfl)
    · replace hq := hq.2 hc9
      refine lv_iload_n hC.x hC.b dX4_isPiece_32 rfl (lv_at hl 2 rfl) ?_
      refine lv_iconst (v := 1) hC.x hC.b dX4_isPiece_33 (by decide) ?_
      refine lv_isub hC.x hC.b dX4_isPiece_34 ?_
      refine lv_goto (tgt := 43) hC.x hC.b dX4_isPiece_35 (by decide) ?_
      exact B_X4_isPiece_43 hm am Q  hC x4 y0 (x2 - 1) wm hq hW (lv_sub hl [1, 4, 0] rfl)
def k_X4_isPiece (x1 : Int32) (x2 : Int32) (x3 : Int32) (x4 : Int32) (wm : Wd) (Q : Int32 → Wd → Prop) : Prop :=
 ((¬ x4 = 0 → (k_X4_isPiece_20  Q x2 x3 x4 x1 wm)) ∧
 (x4 = 0 → (((0 : Int32) ≤ x3 → (k_X4_isPiece_20  Q x2 x3 x4 x1 wm)) ∧
 (¬ (0 : Int32) ≤ x3 → (k_X4_isPiece_20  Q x2 x3 x4 (x1 - 1) wm)))))
set_option maxHeartbeats 4000000 in
set_option maxRecDepth 100000 in
theorem c_X4_isPiece (l : Launch) (D : va_G) (cy cz : ClassId) (t1 t2 : Nat) (hm : Nat) (am : Nat → Nat) (x1 : Int32) (x2 : Int32) (x3 : Int32) (x4 : Int32) (wm : Wd) (Q : Int32 → Wd → Prop) (hq : k_X4_isPiece x1 x2 x3 x4 wm Q) : Ct l D cy cz t1 t2 yX4_isPiece cX4_isPiece 7 (some .boolean) (rM 1 22) [.ref hm, .int x1, .int x2, .int x3, .int x4] (cM cy cz hm am wm) (QI D (S := Wd) (fun r u => Q r u) (fun u => (cM cy cz hm am u))) := by
  refine Ct.of (own := RX4) (by decide) rfl (Nat.le_of_ble_eq_true rfl) ?_
  intro p e s m below meth c A ls hC hW hl
  unfold k_X4_isPiece at hq
  have hl : lv_has ls 7 [(0, .ref hm), (1, .int x1), (2, .int x2), (3, .int x3), (4, .int x4)] := hl
  refine lv_iload hC.x hC.b dX4_isPiece_0 (lv_at hl 4 rfl) ?_
  refine lv_if_ne (tgt := 19) hC.x hC.b dX4_isPiece_2 (by decide) (fun hc9 => ?_) (fun hc9 => ?_)
  · replace hq := hq.1 hc9
    refine lv_iload_n hC.x hC.b dX4_isPiece_19 rfl (lv_at hl 1 rfl) ?_
    exact B_X4_isPiece_20 hm am Q  hC x2 x3 x4 x1 wm hq hW (lv_sub hl [0, 2, 3, 4] rfl)
  · replace hq := hq.2 hc9
    refine lv_iload_n hC.x hC.b dX4_isPiece_5 rfl (lv_at hl 3 rfl) ?_
    refine lv_if_ge (tgt := 15) hC.x hC.b dX4_isPiece_6 (by decide) (fun hc9 => ?_) (fun hc9 => ?_)
    · replace hq := hq.1 hc9
      refine lv_iload_n hC.x hC.b dX4_isPiece_15 rfl (lv_at hl 1 rfl) ?_
      refine lv_goto (tgt := 20) hC.x hC.b dX4_isPiece_16 (by decide) ?_
      exact B_X4_isPiece_20 hm am Q  hC x2 x3 x4 x1 wm hq hW (lv_sub hl [0, 2, 3, 4] rfl)
    · replace hq := hq.2 hc9
      refine lv_iload_n hC.x hC.b dX4_isPiece_9 rfl (lv_at hl 1 rfl) ?_
      refine lv_iconst (v := 1) hC.x hC.b dX4_isPiece_10 (by decide) ?_
      refine lv_isub hC.x hC.b dX4_isPiece_11 ?_
      refine lv_goto (tgt := 20) hC.x hC.b dX4_isPiece_12 (by decide) ?_
      exact B_X4_isPiece_20 hm am Q  hC x2 x3 x4 (x1 - 1) wm hq hW (lv_sub hl [0, 2, 3, 4] rfl)
def k_X4_reach_62 (K23 : (Int32 × Int32 × Int32 × Int32 × Wd) → Prop) (Q : Int32 → Wd → Prop) (x1 : Int32) (x2 : Int32) (x3 : Int32) (x4 : Int32) (y0 : Int32) (y1 : Int32) (y2 : Int32) (wm : Wd) : Prop :=
 (k_X4_isPiece y2 (y1 + y0) x3 x2 wm (fun r65 wm65 => ((r65 = 0 → (Q x4 wm65)) ∧
 (¬ r65 = 0 → (K23 (x1, x2, x3, (x4 + 1), wm65))))))
set_option maxHeartbeats 4000000 in
set_option maxRecDepth 100000 in
theorem B_X4_reach_62 {l : Launch} {p : Program} {e : Env} {s : State} {m : MethodId} {args : Array Value} {below : List Frame} {meth : Method} {c : Code} {A : Nat → Prop} {D : va_G} {cy cz : ClassId} {t1 t2 : Nat} (hm : Nat) (am : Nat → Nat) (Q : Int32 → Wd → Prop) (K23 : (Int32 × Int32 × Int32 × Int32 × Wd) → Prop) (hK23 : ∀ b9 : Int32 × Int32 × Int32 × Int32 × Wd, K23 b9 → ∀ (H : Heap) (locs : List Loc) (ls : Array Slot), Wo D A s (cM cy cz hm am b9.2.2.2.2) H locs → lv_has ls 5 [(0, .ref hm), (1, .int b9.1), (2, .int b9.2.1), (3, .int b9.2.2.1), (4, .int b9.2.2.2.1)] → W p l e (rM 2 48) s m args below meth c H locs 0 0 (MQ below (QI D (S := Wd) (fun r u => Q r u) (fun u => (cM cy cz hm am u)) A) args s 0 0 A) (F0 m 23 ls [])) (hC : Cx D cy cz t1 t2 p s m args meth c cX4_reach 5 (some .int) RX4 A) (x1 : Int32) (x2 : Int32) (x3 : Int32) (x4 : Int32) (y0 : Int32) (y1 : Int32) (y2 : Int32) (wm : Wd) {H : Heap} {locs : List Loc} {ls : Array Slot} (hq : k_X4_reach_62 K23 Q x1 x2 x3 x4 y0 y1 y2 wm) (hW : Wo D A s (cM cy cz hm am wm) H locs) (hl : lv_has ls 5 [(0, .ref hm), (1, .int x1), (2, .int x2), (3, .int x3), (4, .int x4)]) : W p l e (rM 2 48) s m args below meth c H locs 0 0 (MQ below (QI D (S := Wd) (fun r u => Q r u) (fun u => (cM cy cz hm am u)) A) args s 0 0 A) (F0 m 62 ls [.int y0, .int y1, .int y2, .ref hm]) := by
  unfold k_X4_reach_62 at hq
  refine lv_iadd hC.x hC.b dX4_reach_62 ?_
  refine lv_iload_n hC.x hC.b dX4_reach_63 rfl (lv_at hl 3 rfl) ?_
  refine lv_iload_n hC.x hC.b dX4_reach_64 rfl (lv_at hl 2 rfl) ?_
  refine hc_goIW hC hW (hc_rV hC (c_X4_isPiece l D cy cz t1 t2 hm am y2 (y1 + y0) x3 x2 wm _ hq) (hc_preW hC hW) hW 0 4 rfl rfl q_221 q_222 q_223 q_5 q_224 hd_X4_isPiece ⟨rfl, rfl⟩ ⟨Nat.le_of_ble_eq_true rfl, Nat.le_of_ble_eq_true rfl⟩ rfl hl.1 rfl (Nat.le_of_ble_eq_true rfl) dX4_reach_65 ⟨Nat.zero_le _, Nat.zero_le _⟩) (fun r65 u9 H locs hq hW => ?_)
  obtain ⟨wm65, rfl⟩ : ∃ z, z = u9 := ⟨_, rfl⟩
  try dsimp only at hq hW
  refine lv_if_eq (tgt := 77) hC.x hC.b dX4_reach_68 (by decide) (fun hc9 => ?_) (fun hc9 => ?_)
  · replace hq := hq.1 hc9
    refine lv_iload hC.x hC.b dX4_reach_77 (lv_at hl 4 rfl) ?_
    exact hc_iret hC (wm65) hW hq dX4_reach_79
  · replace hq := hq.2 hc9
    refine lv_iinc (v := (x4 + 1)) (lv' := [(4, .int (x4 + 1)), (0, .ref hm), (1, .int x1), (2, .int x2), (3, .int x3)]) hC.x hC.b dX4_reach_71 hl (k := 4) rfl rfl (by decide) rfl (fun ls hl => ?_)
    refine lv_goto (tgt := 23) hC.x hC.b dX4_reach_74 (by decide) ?_
    exact hK23 (x1, x2, x3, (x4 + 1), wm65) hq _ _ _ hW (lv_sub hl [1, 2, 3, 4, 0] rfl)
def k_X4_reach_42 (K23 : (Int32 × Int32 × Int32 × Int32 × Wd) → Prop) (Q : Int32 → Wd → Prop) (x1 : Int32) (x2 : Int32) (x3 : Int32) (x4 : Int32) (y0 : Int32) (y1 : Int32) (wm : Wd) : Prop :=
 (vp_in x1 41 ∧ ((¬ x2 = 1 → (k_X4_reach_62 K23 Q x1 x2 x3 x4 0 (wm 9 (x1).toNatClampNeg) (y1 + y0) wm)) ∧
 (x2 = 1 → (k_X4_reach_62 K23 Q x1 x2 x3 x4 (x3 * x4) (wm 9 (x1).toNatClampNeg) (y1 + y0) wm))))
set_option maxHeartbeats 4000000 in
set_option maxRecDepth 100000 in
theorem B_X4_reach_42 {l : Launch} {p : Program} {e : Env} {s : State} {m : MethodId} {args : Array Value} {below : List Frame} {meth : Method} {c : Code} {A : Nat → Prop} {D : va_G} {cy cz : ClassId} {t1 t2 : Nat} (hm : Nat) (am : Nat → Nat) (Q : Int32 → Wd → Prop) (K23 : (Int32 × Int32 × Int32 × Int32 × Wd) → Prop) (hK23 : ∀ b9 : Int32 × Int32 × Int32 × Int32 × Wd, K23 b9 → ∀ (H : Heap) (locs : List Loc) (ls : Array Slot), Wo D A s (cM cy cz hm am b9.2.2.2.2) H locs → lv_has ls 5 [(0, .ref hm), (1, .int b9.1), (2, .int b9.2.1), (3, .int b9.2.2.1), (4, .int b9.2.2.2.1)] → W p l e (rM 2 48) s m args below meth c H locs 0 0 (MQ below (QI D (S := Wd) (fun r u => Q r u) (fun u => (cM cy cz hm am u)) A) args s 0 0 A) (F0 m 23 ls [])) (hC : Cx D cy cz t1 t2 p s m args meth c cX4_reach 5 (some .int) RX4 A) (x1 : Int32) (x2 : Int32) (x3 : Int32) (x4 : Int32) (y0 : Int32) (y1 : Int32) (wm : Wd) {H : Heap} {locs : List Loc} {ls : Array Slot} (hq : k_X4_reach_42 K23 Q x1 x2 x3 x4 y0 y1 wm) (hW : Wo D A s (cM cy cz hm am wm) H locs) (hl : lv_has ls 5 [(0, .ref hm), (1, .int x1), (2, .int x2), (3, .int x3), (4, .int x4)]) : W p l e (rM 2 48) s m args below meth c H locs 0 0 (MQ below (QI D (S := Wd) (fun r u => Q r u) (fun u => (cM cy cz hm am u)) A) args s 0 0 A) (F0 m 42 ls [.int y0, .int y1, .ref hm]) := by
  unfold k_X4_reach_42 at hq
  refine lv_iadd hC.x hC.b dX4_reach_42 ?_
  refine lv_aload_n hC.x hC.b dX4_reach_43 rfl (lv_at hl 0 rfl) ?_
  refine hc_get (v := .ref (am 9)) hC hW 0 4 9 inX4 rfl rfl (by decide) q_100 rfl dX4_reach_44 ?_
  refine lv_iload_n hC.x hC.b dX4_reach_47 rfl (lv_at hl 1 rfl) ?_
  refine hc_iald hC hW 9 rfl hq.1 dX4_reach_48 ?_
  replace hq := hq.2
  refine lv_iload_n hC.x hC.b dX4_reach_49 rfl (lv_at hl 2 rfl) ?_
  refine lv_iconst (v := 1) hC.x hC.b dX4_reach_50 (by decide) ?_
  refine lv_icmp_ne (tgt := 61) hC.x hC.b dX4_reach_51 (by decide) (fun hc9 => ?_) (fun hc9 => ?_)
  · replace hq := hq.1 hc9
    refine lv_iconst (v := 0) hC.x hC.b dX4_reach_61 (by decide) ?_
    exact B_X4_reach_62 hm am Q K23 hK23 hC x1 x2 x3 x4 0 (wm 9 (x1).toNatClampNeg) (y1 + y0) wm hq hW (lv_sub hl [0, 1, 2, 3, 4] rfl)
  · replace hq := hq.2 hc9
    refine lv_iload_n hC.x hC.b dX4_reach_54 rfl (lv_at hl 3 rfl) ?_
    refine lv_iload hC.x hC.b dX4_reach_55 (lv_at hl 4 rfl) ?_
    refine lv_imul hC.x hC.b dX4_reach_57 ?_
    refine lv_goto (tgt := 62) hC.x hC.b dX4_reach_58 (by decide) ?_
    exact B_X4_reach_62 hm am Q K23 hK23 hC x1 x2 x3 x4 (x3 * x4) (wm 9 (x1).toNatClampNeg) (y1 + y0) wm hq hW (lv_sub hl [0, 1, 2, 3, 4] rfl)
def k_X4_reach_23 (K23 : (Int32 × Int32 × Int32 × Int32 × Wd) → Prop) (Q : Int32 → Wd → Prop) (x1 : Int32) (x2 : Int32) (x3 : Int32) (x4 : Int32) (wm : Wd) : Prop :=
 (vp_in x1 41 ∧ ((¬ x2 = 0 → (k_X4_reach_42 K23 Q x1 x2 x3 x4 0 (wm 8 (x1).toNatClampNeg) wm)) ∧
 (x2 = 0 → (k_X4_reach_42 K23 Q x1 x2 x3 x4 (x3 * x4) (wm 8 (x1).toNatClampNeg) wm))))
set_option maxHeartbeats 4000000 in
set_option maxRecDepth 100000 in
theorem B_X4_reach_23 {l : Launch} {p : Program} {e : Env} {s : State} {m : MethodId} {args : Array Value} {below : List Frame} {meth : Method} {c : Code} {A : Nat → Prop} {D : va_G} {cy cz : ClassId} {t1 t2 : Nat} (hm : Nat) (am : Nat → Nat) (Q : Int32 → Wd → Prop) (K23 : (Int32 × Int32 × Int32 × Int32 × Wd) → Prop) (hK23 : ∀ b9 : Int32 × Int32 × Int32 × Int32 × Wd, K23 b9 → ∀ (H : Heap) (locs : List Loc) (ls : Array Slot), Wo D A s (cM cy cz hm am b9.2.2.2.2) H locs → lv_has ls 5 [(0, .ref hm), (1, .int b9.1), (2, .int b9.2.1), (3, .int b9.2.2.1), (4, .int b9.2.2.2.1)] → W p l e (rM 2 48) s m args below meth c H locs 0 0 (MQ below (QI D (S := Wd) (fun r u => Q r u) (fun u => (cM cy cz hm am u)) A) args s 0 0 A) (F0 m 23 ls [])) (hC : Cx D cy cz t1 t2 p s m args meth c cX4_reach 5 (some .int) RX4 A) (x1 : Int32) (x2 : Int32) (x3 : Int32) (x4 : Int32) (wm : Wd) {H : Heap} {locs : List Loc} {ls : Array Slot} (hq : k_X4_reach_23 K23 Q x1 x2 x3 x4 wm) (hW : Wo D A s (cM cy cz hm am wm) H locs) (hl : lv_has ls 5 [(0, .ref hm), (1, .int x1), (2, .int x2), (3, .int x3), (4, .int x4)]) : W p l e (rM 2 48) s m args below meth c H locs 0 0 (MQ below (QI D (S := Wd) (fun r u => Q r u) (fun u => (cM cy cz hm am u)) A) args s 0 0 A) (F0 m 23 ls []) := by
  unfold k_X4_reach_23 at hq
  refine lv_aload_n hC.x hC.b dX4_reach_23 rfl (lv_at hl 0 rfl) ?_
  refine lv_aload_n hC.x hC.b dX4_reach_24 rfl (lv_at hl 0 rfl) ?_
  refine hc_get (v := .ref (am 8)) hC hW 0 4 8 inX4 rfl rfl (by decide) q_99 rfl dX4_reach_25 ?_
  refine lv_iload_n hC.x hC.b dX4_reach_28 rfl (lv_at hl 1 rfl) ?_
  refine hc_iald hC hW 8 rfl hq.1 dX4_reach_29 ?_
  replace hq := hq.2
  refine lv_iload_n hC.x hC.b dX4_reach_30 rfl (lv_at hl 2 rfl) ?_
  refine lv_if_ne (tgt := 41) hC.x hC.b dX4_reach_31 (by decide) (fun hc9 => ?_) (fun hc9 => ?_)
  · replace hq := hq.1 hc9
    refine lv_iconst (v := 0) hC.x hC.b dX4_reach_41 (by decide) ?_
    exact B_X4_reach_42 hm am Q K23 hK23 hC x1 x2 x3 x4 0 (wm 8 (x1).toNatClampNeg) wm hq hW (lv_sub hl [0, 1, 2, 3, 4] rfl)
  · replace hq := hq.2 hc9
    refine lv_iload_n hC.x hC.b dX4_reach_34 rfl (lv_at hl 3 rfl) ?_
    refine lv_iload hC.x hC.b dX4_reach_35 (lv_at hl 4 rfl) ?_
    refine lv_imul hC.x hC.b dX4_reach_37 ?_
    refine lv_goto (tgt := 42) hC.x hC.b dX4_reach_38 (by decide) ?_
    exact B_X4_reach_42 hm am Q K23 hK23 hC x1 x2 x3 x4 (x3 * x4) (wm 8 (x1).toNatClampNeg) wm hq hW (lv_sub hl [0, 1, 2, 3, 4] rfl)
def k_X4_reach_19  (Q : Int32 → Wd → Prop) (x1 : Int32) (x2 : Int32) (y0 : Int32) (wm : Wd) : Prop :=
 (∃ n : Nat, lpf (fun (K : (Int32 × Int32 × Int32 × Int32 × Wd) → Prop) (u : Int32 × Int32 × Int32 × Int32 × Wd) => k_X4_reach_23  K Q u.1 u.2.1 u.2.2.1 u.2.2.2.1 u.2.2.2.2) n (x1, x2, y0, 0, wm))
set_option maxHeartbeats 4000000 in
set_option maxRecDepth 100000 in
theorem B_X4_reach_19 {l : Launch} {p : Program} {e : Env} {s : State} {m : MethodId} {args : Array Value} {below : List Frame} {meth : Method} {c : Code} {A : Nat → Prop} {D : va_G} {cy cz : ClassId} {t1 t2 : Nat} (hm : Nat) (am : Nat → Nat) (Q : Int32 → Wd → Prop)  (hC : Cx D cy cz t1 t2 p s m args meth c cX4_reach 5 (some .int) RX4 A) (x1 : Int32) (x2 : Int32) (y0 : Int32) (wm : Wd) {H : Heap} {locs : List Loc} {ls : Array Slot} (hq : k_X4_reach_19  Q x1 x2 y0 wm) (hW : Wo D A s (cM cy cz hm am wm) H locs) (hl : lv_has ls 5 [(0, .ref hm), (1, .int x1), (2, .int x2)]) : W p l e (rM 2 48) s m args below meth c H locs 0 0 (MQ below (QI D (S := Wd) (fun r u => Q r u) (fun u => (cM cy cz hm am u)) A) args s 0 0 A) (F0 m 19 ls [.int y0]) := by
  unfold k_X4_reach_19 at hq
  refine lv_istore_n (lv' := [(3, .int y0), (0, .ref hm), (1, .int x1), (2, .int x2)]) hC.x hC.b dX4_reach_19 rfl hl (by decide) rfl (fun ls hl => ?_)
  refine lv_iconst (v := 0) hC.x hC.b dX4_reach_20 (by decide) ?_
  refine lv_istore (lv' := [(4, .int 0), (3, .int y0), (0, .ref hm), (1, .int x1), (2, .int x2)]) hC.x hC.b dX4_reach_21 hl (by decide) rfl (fun ls hl => ?_)
  obtain ⟨n9, hq⟩ := hq
  exact lpf_use (G := (fun (u : Int32 × Int32 × Int32 × Int32 × Wd) => ∀ (H : Heap) (locs : List Loc) (ls : Array Slot), Wo D A s (cM cy cz hm am u.2.2.2.2) H locs → lv_has ls 5 [(0, .ref hm), (1, .int u.1), (2, .int u.2.1), (3, .int u.2.2.1), (4, .int u.2.2.2.1)] → W p l e (rM 2 48) s m args below meth c H locs 0 0 (MQ below (QI D (S := Wd) (fun r u => Q r u) (fun u => (cM cy cz hm am u)) A) args s 0 0 A) (F0 m 23 ls []))) (fun K hK u hq H locs ls hW hl => B_X4_reach_23 hm am Q  K hK hC u.1 u.2.1 u.2.2.1 u.2.2.2.1 u.2.2.2.2 hq hW hl) n9 _ hq _ _ _ hW (lv_sub hl [2, 3, 4, 1, 0] rfl)
def k_X4_reach (x1 : Int32) (x2 : Int32) (wm : Wd) (Q : Int32 → Wd → Prop) : Prop :=
 ((¬ x2 = 0 → (vp_in x1 41 ∧ (k_X4_reach_19  Q x1 x2 (wm 11 (x1).toNatClampNeg) wm))) ∧
 (x2 = 0 → (vp_in x1 41 ∧ (k_X4_reach_19  Q x1 x2 (wm 10 (x1).toNatClampNeg) wm))))
set_option maxHeartbeats 4000000 in
set_option maxRecDepth 100000 in
theorem c_X4_reach (l : Launch) (D : va_G) (cy cz : ClassId) (t1 t2 : Nat) (hm : Nat) (am : Nat → Nat) (x1 : Int32) (x2 : Int32) (wm : Wd) (Q : Int32 → Wd → Prop) (hq : k_X4_reach x1 x2 wm Q) : Ct l D cy cz t1 t2 yX4_reach cX4_reach 5 (some .int) (rM 2 48) [.ref hm, .int x1, .int x2] (cM cy cz hm am wm) (QI D (S := Wd) (fun r u => Q r u) (fun u => (cM cy cz hm am u))) := by
  refine Ct.of (own := RX4) (by decide) rfl (Nat.le_of_ble_eq_true rfl) ?_
  intro p e s m below meth c A ls hC hW hl
  unfold k_X4_reach at hq
  have hl : lv_has ls 5 [(0, .ref hm), (1, .int x1), (2, .int x2)] := hl
  refine lv_iload_n hC.x hC.b dX4_reach_0 rfl (lv_at hl 2 rfl) ?_
  refine lv_if_ne (tgt := 13) hC.x hC.b dX4_reach_1 (by decide) (fun hc9 => ?_) (fun hc9 => ?_)
  · replace hq := hq.1 hc9
    refine lv_aload_n hC.x hC.b dX4_reach_13 rfl (lv_at hl 0 rfl) ?_
    refine hc_get (v := .ref (am 11)) hC hW 0 4 11 inX4 rfl rfl (by decide) q_102 rfl dX4_reach_14 ?_
    refine lv_iload_n hC.x hC.b dX4_reach_17 rfl (lv_at hl 1 rfl) ?_
    refine hc_iald hC hW 11 rfl hq.1 dX4_reach_18 ?_
    replace hq := hq.2
    exact B_X4_reach_19 hm am Q  hC x1 x2 (wm 11 (x1).toNatClampNeg) wm hq hW (lv_sub hl [0, 1, 2] rfl)
  · replace hq := hq.2 hc9
    refine lv_aload_n hC.x hC.b dX4_reach_4 rfl (lv_at hl 0 rfl) ?_
    refine hc_get (v := .ref (am 10)) hC hW 0 4 10 inX4 rfl rfl (by decide) q_101 rfl dX4_reach_5 ?_
    refine lv_iload_n hC.x hC.b dX4_reach_8 rfl (lv_at hl 1 rfl) ?_
    refine hc_iald hC hW 10 rfl hq.1 dX4_reach_9 ?_
    replace hq := hq.2
    refine lv_goto (tgt := 19) hC.x hC.b dX4_reach_10 (by decide) ?_
    exact B_X4_reach_19 hm am Q  hC x1 x2 (wm 10 (x1).toNatClampNeg) wm hq hW (lv_sub hl [0, 1, 2] rfl)
def k_X4_isFree (x1 : Int32) (x2 : Int32) (wm : Wd) (Q : Int32 → Wd → Prop) : Prop :=
 (k_X4_at x1 x2 (fun r6 => (vp_in r6 169 ∧ ((¬ (wm 15 (r6).toNatClampNeg) = 0 → (Q 0 wm)) ∧
 ((wm 15 (r6).toNatClampNeg) = 0 → (Q 1 wm))))))
set_option maxHeartbeats 4000000 in
set_option maxRecDepth 100000 in
theorem c_X4_isFree (l : Launch) (D : va_G) (cy cz : ClassId) (t1 t2 : Nat) (hm : Nat) (am : Nat → Nat) (x1 : Int32) (x2 : Int32) (wm : Wd) (Q : Int32 → Wd → Prop) (hq : k_X4_isFree x1 x2 wm Q) : Ct l D cy cz t1 t2 yX4_isFree cX4_isFree 3 (some .boolean) (rM 1 21) [.ref hm, .int x1, .int x2] (cM cy cz hm am wm) (QI D (S := Wd) (fun r u => Q r u) (fun u => (cM cy cz hm am u))) := by
  refine Ct.of (own := RX4) (by decide) rfl (Nat.le_of_ble_eq_true rfl) ?_
  intro p e s m below meth c A ls hC hW hl
  unfold k_X4_isFree at hq
  have hl : lv_has ls 3 [(0, .ref hm), (1, .int x1), (2, .int x2)] := hl
  refine lv_aload_n hC.x hC.b dX4_isFree_0 rfl (lv_at hl 0 rfl) ?_
  refine hc_get (v := .ref (am 15)) hC hW 0 4 15 inX4 rfl rfl (by decide) q_105 rfl dX4_isFree_1 ?_
  refine lv_iload_n hC.x hC.b dX4_isFree_4 rfl (lv_at hl 1 rfl) ?_
  refine lv_iload_n hC.x hC.b dX4_isFree_5 rfl (lv_at hl 2 rfl) ?_
  refine hc_goP hC hW (hc_rS hC (c_X4_at l D cy cz t1 t2 x1 x2 _ hq) (hc_preP hC hW) q_195 q_196 q_5 q_197 hd_X4_at ⟨rfl, rfl⟩ ⟨Nat.le_of_ble_eq_true rfl, Nat.le_of_ble_eq_true rfl⟩ rfl hl.1 rfl (Nat.le_of_ble_eq_true rfl) dX4_isFree_6 ⟨Nat.zero_le _, Nat.zero_le _⟩) (fun r6 H locs hq hW => ?_)
  try dsimp only at hq
  refine hc_iald hC hW 14 rfl hq.1 dX4_isFree_9 ?_
  replace hq := hq.2
  refine lv_if_ne (tgt := 17) hC.x hC.b dX4_isFree_10 (by decide) (fun hc9 => ?_) (fun hc9 => ?_)
  · replace hq := hq.1 hc9
    refine lv_iconst (v := 0) hC.x hC.b dX4_isFree_17 (by decide) ?_
    exact hc_zret hC (wm) hW rfl hq dX4_isFree_18
  · replace hq := hq.2 hc9
    refine lv_iconst (v := 1) hC.x hC.b dX4_isFree_13 (by decide) ?_
    refine lv_goto (tgt := 18) hC.x hC.b dX4_isFree_14 (by decide) ?_
    exact hc_zret hC (wm) hW rfl hq dX4_isFree_18
def k_X4_hits_133 (K96 : (Int32 × Int32 × Int32 × Int32 × Int32 × Int32 × Wd) → Prop) (Q : Int32 → Wd → Prop) (x1 : Int32) (x2 : Int32) (x4 : Int32) (x7 : Int32) (x9 : Int32) (y0 : Int32) (wm : Wd) : Prop :=
 (K96 (x1, x2, x4, x7, y0, (x9 + 1), wm))
set_option maxHeartbeats 4000000 in
set_option maxRecDepth 100000 in
theorem B_X4_hits_133 {l : Launch} {p : Program} {e : Env} {s : State} {m : MethodId} {args : Array Value} {below : List Frame} {meth : Method} {c : Code} {A : Nat → Prop} {D : va_G} {cy cz : ClassId} {t1 t2 : Nat} (hm : Nat) (am : Nat → Nat) (Q : Int32 → Wd → Prop) (K96 : (Int32 × Int32 × Int32 × Int32 × Int32 × Int32 × Wd) → Prop) (hK96 : ∀ b9 : Int32 × Int32 × Int32 × Int32 × Int32 × Int32 × Wd, K96 b9 → ∀ (H : Heap) (locs : List Loc) (ls : Array Slot), Wo D A s (cM cy cz hm am b9.2.2.2.2.2.2) H locs → lv_has ls 10 [(0, .ref hm), (1, .int b9.1), (2, .int b9.2.1), (4, .int b9.2.2.1), (7, .int b9.2.2.2.1), (8, .int b9.2.2.2.2.1), (9, .int b9.2.2.2.2.2.1)] → W p l e (rM 2 43) s m args below meth c H locs 0 0 (MQ below (QI D (S := Wd) (fun r u => Q r u) (fun u => (cM cy cz hm am u)) A) args s 0 0 A) (F0 m 96 ls [])) (hC : Cx D cy cz t1 t2 p s m args meth c cX4_hits 10 (some .boolean) RX4 A) (x1 : Int32) (x2 : Int32) (x4 : Int32) (x7 : Int32) (x9 : Int32) (y0 : Int32) (wm : Wd) {H : Heap} {locs : List Loc} {ls : Array Slot} (hq : k_X4_hits_133 K96 Q x1 x2 x4 x7 x9 y0 wm) (hW : Wo D A s (cM cy cz hm am wm) H locs) (hl : lv_has ls 10 [(0, .ref hm), (1, .int x1), (2, .int x2), (4, .int x4), (7, .int x7), (9, .int x9)]) : W p l e (rM 2 43) s m args below meth c H locs 0 0 (MQ below (QI D (S := Wd) (fun r u => Q r u) (fun u => (cM cy cz hm am u)) A) args s 0 0 A) (F0 m 133 ls [.int y0]) := by
  unfold k_X4_hits_133 at hq
  refine lv_istore (lv' := [(8, .int y0), (0, .ref hm), (1, .int x1), (2, .int x2), (4, .int x4), (7, .int x7), (9, .int x9)]) hC.x hC.b dX4_hits_133 hl (by decide) rfl (fun ls hl => ?_)
  refine lv_iinc (v := (x9 + 1)) (lv' := [(9, .int (x9 + 1)), (8, .int y0), (0, .ref hm), (1, .int x1), (2, .int x2), (4, .int x4), (7, .int x7)]) hC.x hC.b dX4_hits_135 hl (k := 6) rfl rfl (by decide) rfl (fun ls hl => ?_)
  refine lv_goto (tgt := 96) hC.x hC.b dX4_hits_138 (by decide) ?_
  exact hK96 (x1, x2, x4, x7, y0, (x9 + 1), wm) hq _ _ _ hW (lv_sub hl [2, 3, 4, 5, 6, 1, 0] rfl)
def k_X4_hits_132 (K96 : (Int32 × Int32 × Int32 × Int32 × Int32 × Int32 × Wd) → Prop) (Q : Int32 → Wd → Prop) (x1 : Int32) (x2 : Int32) (x4 : Int32) (x7 : Int32) (x9 : Int32) (wm : Wd) : Prop :=
 (k_X4_hits_133 K96 Q x1 x2 x4 x7 x9 0 wm)
set_option maxHeartbeats 4000000 in
set_option maxRecDepth 100000 in
theorem B_X4_hits_132 {l : Launch} {p : Program} {e : Env} {s : State} {m : MethodId} {args : Array Value} {below : List Frame} {meth : Method} {c : Code} {A : Nat → Prop} {D : va_G} {cy cz : ClassId} {t1 t2 : Nat} (hm : Nat) (am : Nat → Nat) (Q : Int32 → Wd → Prop) (K96 : (Int32 × Int32 × Int32 × Int32 × Int32 × Int32 × Wd) → Prop) (hK96 : ∀ b9 : Int32 × Int32 × Int32 × Int32 × Int32 × Int32 × Wd, K96 b9 → ∀ (H : Heap) (locs : List Loc) (ls : Array Slot), Wo D A s (cM cy cz hm am b9.2.2.2.2.2.2) H locs → lv_has ls 10 [(0, .ref hm), (1, .int b9.1), (2, .int b9.2.1), (4, .int b9.2.2.1), (7, .int b9.2.2.2.1), (8, .int b9.2.2.2.2.1), (9, .int b9.2.2.2.2.2.1)] → W p l e (rM 2 43) s m args below meth c H locs 0 0 (MQ below (QI D (S := Wd) (fun r u => Q r u) (fun u => (cM cy cz hm am u)) A) args s 0 0 A) (F0 m 96 ls [])) (hC : Cx D cy cz t1 t2 p s m args meth c cX4_hits 10 (some .boolean) RX4 A) (x1 : Int32) (x2 : Int32) (x4 : Int32) (x7 : Int32) (x9 : Int32) (wm : Wd) {H : Heap} {locs : List Loc} {ls : Array Slot} (hq : k_X4_hits_132 K96 Q x1 x2 x4 x7 x9 wm) (hW : Wo D A s (cM cy cz hm am wm) H locs) (hl : lv_has ls 10 [(0, .ref hm), (1, .int x1), (2, .int x2), (4, .int x4), (7, .int x7), (9, .int x9)]) : W p l e (rM 2 43) s m args below meth c H locs 0 0 (MQ below (QI D (S := Wd) (fun r u => Q r u) (fun u => (cM cy cz hm am u)) A) args s 0 0 A) (F0 m 132 ls []) := by
  unfold k_X4_hits_132 at hq
  refine lv_iconst (v := 0) hC.x hC.b dX4_hits_132 (by decide) ?_
  exact B_X4_hits_133 hm am Q K96 hK96 hC x1 x2 x4 x7 x9 0 wm hq hW (lv_sub hl [0, 1, 2, 3, 4, 5] rfl)
def k_X4_hits_96 (K96 : (Int32 × Int32 × Int32 × Int32 × Int32 × Int32 × Wd) → Prop) (Q : Int32 → Wd → Prop) (x1 : Int32) (x2 : Int32) (x4 : Int32) (x7 : Int32) (x8 : Int32) (x9 : Int32) (wm : Wd) : Prop :=
 ((x2 < x9 → ((¬ x8 = 0 → (Q 0 wm)) ∧
 (x8 = 0 → (Q 1 wm)))) ∧
 (¬ x2 < x9 → ((x8 = 0 → (k_X4_hits_132 K96 Q x1 x2 x4 x7 x9 wm)) ∧
 (¬ x8 = 0 → (vp_in x1 41 ∧ (k_X4_isFree ((wm 8 (x1).toNatClampNeg) + (x4 * x9)) x7 wm (fun r122 wm122 => ((r122 = 0 → (k_X4_hits_132 K96 Q x1 x2 x4 x7 x9 wm122)) ∧
 (¬ r122 = 0 → (k_X4_hits_133 K96 Q x1 x2 x4 x7 x9 1 wm122))))))))))
set_option maxHeartbeats 4000000 in
set_option maxRecDepth 100000 in
theorem B_X4_hits_96 {l : Launch} {p : Program} {e : Env} {s : State} {m : MethodId} {args : Array Value} {below : List Frame} {meth : Method} {c : Code} {A : Nat → Prop} {D : va_G} {cy cz : ClassId} {t1 t2 : Nat} (hm : Nat) (am : Nat → Nat) (Q : Int32 → Wd → Prop) (K96 : (Int32 × Int32 × Int32 × Int32 × Int32 × Int32 × Wd) → Prop) (hK96 : ∀ b9 : Int32 × Int32 × Int32 × Int32 × Int32 × Int32 × Wd, K96 b9 → ∀ (H : Heap) (locs : List Loc) (ls : Array Slot), Wo D A s (cM cy cz hm am b9.2.2.2.2.2.2) H locs → lv_has ls 10 [(0, .ref hm), (1, .int b9.1), (2, .int b9.2.1), (4, .int b9.2.2.1), (7, .int b9.2.2.2.1), (8, .int b9.2.2.2.2.1), (9, .int b9.2.2.2.2.2.1)] → W p l e (rM 2 43) s m args below meth c H locs 0 0 (MQ below (QI D (S := Wd) (fun r u => Q r u) (fun u => (cM cy cz hm am u)) A) args s 0 0 A) (F0 m 96 ls [])) (hC : Cx D cy cz t1 t2 p s m args meth c cX4_hits 10 (some .boolean) RX4 A) (x1 : Int32) (x2 : Int32) (x4 : Int32) (x7 : Int32) (x8 : Int32) (x9 : Int32) (wm : Wd) {H : Heap} {locs : List Loc} {ls : Array Slot} (hq : k_X4_hits_96 K96 Q x1 x2 x4 x7 x8 x9 wm) (hW : Wo D A s (cM cy cz hm am wm) H locs) (hl : lv_has ls 10 [(0, .ref hm), (1, .int x1), (2, .int x2), (4, .int x4), (7, .int x7), (8, .int x8), (9, .int x9)]) : W p l e (rM 2 43) s m args below meth c H locs 0 0 (MQ below (QI D (S := Wd) (fun r u => Q r u) (fun u => (cM cy cz hm am u)) A) args s 0 0 A) (F0 m 96 ls []) := by
  unfold k_X4_hits_96 at hq
  refine lv_iload hC.x hC.b dX4_hits_96 (lv_at hl 6 rfl) ?_
  refine lv_iload_n hC.x hC.b dX4_hits_98 rfl (lv_at hl 2 rfl) ?_
  refine lv_icmp_gt (tgt := 141) hC.x hC.b dX4_hits_99 (by decide) (fun hc9 => ?_) (fun hc9 => ?_)
  · replace hq := hq.1 hc9
    refine lv_iload hC.x hC.b dX4_hits_141 (lv_at hl 5 rfl) ?_
    refine lv_if_ne (tgt := 150) hC.x hC.b dX4_hits_143 (by decide) (fun hc9 => ?_) (fun hc9 => ?_)
    · replace hq := hq.1 hc9
      refine lv_iconst (v := 0) hC.x hC.b dX4_hits_150 (by decide) ?_
      exact hc_zret hC (wm) hW rfl hq dX4_hits_151
    · replace hq := hq.2 hc9
      refine lv_iconst (v := 1) hC.x hC.b dX4_hits_146 (by decide) ?_
      refine lv_goto (tgt := 151) hC.x hC.b dX4_hits_147 (by decide) ?_
      exact hc_zret hC (wm) hW rfl hq dX4_hits_151
  · replace hq := hq.2 hc9
    refine lv_iload hC.x hC.b dX4_hits_102 (lv_at hl 5 rfl) ?_
    refine lv_if_eq (tgt := 132) hC.x hC.b dX4_hits_104 (by decide) (fun hc9 => ?_) (fun hc9 => ?_)
    · replace hq := hq.1 hc9
      exact B_X4_hits_132 hm am Q K96 hK96 hC x1 x2 x4 x7 x9 wm hq hW (lv_sub hl [0, 1, 2, 3, 4, 6] rfl)
    · replace hq := hq.2 hc9
      refine lv_aload_n hC.x hC.b dX4_hits_107 rfl (lv_at hl 0 rfl) ?_
      refine lv_aload_n hC.x hC.b dX4_hits_108 rfl (lv_at hl 0 rfl) ?_
      refine hc_get (v := .ref (am 8)) hC hW 0 4 8 inX4 rfl rfl (by decide) q_99 rfl dX4_hits_109 ?_
      refine lv_iload_n hC.x hC.b dX4_hits_112 rfl (lv_at hl 1 rfl) ?_
      refine hc_iald hC hW 8 rfl hq.1 dX4_hits_113 ?_
      replace hq := hq.2
      refine lv_iload hC.x hC.b dX4_hits_114 (lv_at hl 3 rfl) ?_
      refine lv_iload hC.x hC.b dX4_hits_116 (lv_at hl 6 rfl) ?_
      refine lv_imul hC.x hC.b dX4_hits_118 ?_
      refine lv_iadd hC.x hC.b dX4_hits_119 ?_
      refine lv_iload hC.x hC.b dX4_hits_120 (lv_at hl 4 rfl) ?_
      refine hc_goIW hC hW (hc_rV hC (c_X4_isFree l D cy cz t1 t2 hm am ((wm 8 (x1).toNatClampNeg) + (x4 * x9)) x7 wm _ hq) (hc_preW hC hW) hW 0 4 rfl rfl q_229 q_230 q_231 q_5 q_232 hd_X4_isFree ⟨rfl, rfl⟩ ⟨Nat.le_of_ble_eq_true rfl, Nat.le_of_ble_eq_true rfl⟩ rfl hl.1 rfl (Nat.le_of_ble_eq_true rfl) dX4_hits_122 ⟨Nat.zero_le _, Nat.zero_le _⟩) (fun r122 u9 H locs hq hW => ?_)
      obtain ⟨wm122, rfl⟩ : ∃ z, z = u9 := ⟨_, rfl⟩
      try dsimp only at hq hW
      refine lv_if_eq (tgt := 132) hC.x hC.b dX4_hits_125 (by decide) (fun hc9 => ?_) (fun hc9 => ?_)
      · replace hq := hq.1 hc9
        exact B_X4_hits_132 hm am Q K96 hK96 hC x1 x2 x4 x7 x9 wm122 hq hW (lv_sub hl [0, 1, 2, 3, 4, 6] rfl)
      · replace hq := hq.2 hc9
        refine lv_iconst (v := 1) hC.x hC.b dX4_hits_128 (by decide) ?_
        refine lv_goto (tgt := 133) hC.x hC.b dX4_hits_129 (by decide) ?_
        exact B_X4_hits_133 hm am Q K96 hK96 hC x1 x2 x4 x7 x9 1 wm122 hq hW (lv_sub hl [0, 1, 2, 3, 4, 6] rfl)
def k_X4_hits_85 (K48 : (Int32 × Int32 × Int32 × Int32 × Int32 × Int32 × Int32 × Int32 × Int32 × Wd) → Prop) (Q : Int32 → Wd → Prop) (x1 : Int32) (x2 : Int32) (x3 : Int32) (x4 : Int32) (x5 : Int32) (x6 : Int32) (x7 : Int32) (x9 : Int32) (y0 : Int32) (wm : Wd) : Prop :=
 (K48 (x1, x2, x3, x4, x5, x6, x7, y0, (x9 + 1), wm))
set_option maxHeartbeats 4000000 in
set_option maxRecDepth 100000 in
theorem B_X4_hits_85 {l : Launch} {p : Program} {e : Env} {s : State} {m : MethodId} {args : Array Value} {below : List Frame} {meth : Method} {c : Code} {A : Nat → Prop} {D : va_G} {cy cz : ClassId} {t1 t2 : Nat} (hm : Nat) (am : Nat → Nat) (Q : Int32 → Wd → Prop) (K48 : (Int32 × Int32 × Int32 × Int32 × Int32 × Int32 × Int32 × Int32 × Int32 × Wd) → Prop) (hK48 : ∀ b9 : Int32 × Int32 × Int32 × Int32 × Int32 × Int32 × Int32 × Int32 × Int32 × Wd, K48 b9 → ∀ (H : Heap) (locs : List Loc) (ls : Array Slot), Wo D A s (cM cy cz hm am b9.2.2.2.2.2.2.2.2.2) H locs → lv_has ls 10 [(0, .ref hm), (1, .int b9.1), (2, .int b9.2.1), (3, .int b9.2.2.1), (4, .int b9.2.2.2.1), (5, .int b9.2.2.2.2.1), (6, .int b9.2.2.2.2.2.1), (7, .int b9.2.2.2.2.2.2.1), (8, .int b9.2.2.2.2.2.2.2.1), (9, .int b9.2.2.2.2.2.2.2.2.1)] → W p l e (rM 2 43) s m args below meth c H locs 0 0 (MQ below (QI D (S := Wd) (fun r u => Q r u) (fun u => (cM cy cz hm am u)) A) args s 0 0 A) (F0 m 48 ls [])) (hC : Cx D cy cz t1 t2 p s m args meth c cX4_hits 10 (some .boolean) RX4 A) (x1 : Int32) (x2 : Int32) (x3 : Int32) (x4 : Int32) (x5 : Int32) (x6 : Int32) (x7 : Int32) (x9 : Int32) (y0 : Int32) (wm : Wd) {H : Heap} {locs : List Loc} {ls : Array Slot} (hq : k_X4_hits_85 K48 Q x1 x2 x3 x4 x5 x6 x7 x9 y0 wm) (hW : Wo D A s (cM cy cz hm am wm) H locs) (hl : lv_has ls 10 [(0, .ref hm), (1, .int x1), (2, .int x2), (3, .int x3), (4, .int x4), (5, .int x5), (6, .int x6), (7, .int x7), (9, .int x9)]) : W p l e (rM 2 43) s m args below meth c H locs 0 0 (MQ below (QI D (S := Wd) (fun r u => Q r u) (fun u => (cM cy cz hm am u)) A) args s 0 0 A) (F0 m 85 ls [.int y0]) := by
  unfold k_X4_hits_85 at hq
  refine lv_istore (lv' := [(8, .int y0), (0, .ref hm), (1, .int x1), (2, .int x2), (3, .int x3), (4, .int x4), (5, .int x5), (6, .int x6), (7, .int x7), (9, .int x9)]) hC.x hC.b dX4_hits_85 hl (by decide) rfl (fun ls hl => ?_)
  refine lv_iinc (v := (x9 + 1)) (lv' := [(9, .int (x9 + 1)), (8, .int y0), (0, .ref hm), (1, .int x1), (2, .int x2), (3, .int x3), (4, .int x4), (5, .int x5), (6, .int x6), (7, .int x7)]) hC.x hC.b dX4_hits_87 hl (k := 9) rfl rfl (by decide) rfl (fun ls hl => ?_)
  refine lv_goto (tgt := 48) hC.x hC.b dX4_hits_90 (by decide) ?_
  exact hK48 (x1, x2, x3, x4, x5, x6, x7, y0, (x9 + 1), wm) hq _ _ _ hW (lv_sub hl [2, 3, 4, 5, 6, 7, 8, 9, 1, 0] rfl)
def k_X4_hits_84 (K48 : (Int32 × Int32 × Int32 × Int32 × Int32 × Int32 × Int32 × Int32 × Int32 × Wd) → Prop) (Q : Int32 → Wd → Prop) (x1 : Int32) (x2 : Int32) (x3 : Int32) (x4 : Int32) (x5 : Int32) (x6 : Int32) (x7 : Int32) (x9 : Int32) (wm : Wd) : Prop :=
 (k_X4_hits_85 K48 Q x1 x2 x3 x4 x5 x6 x7 x9 0 wm)
set_option maxHeartbeats 4000000 in
set_option maxRecDepth 100000 in
theorem B_X4_hits_84 {l : Launch} {p : Program} {e : Env} {s : State} {m : MethodId} {args : Array Value} {below : List Frame} {meth : Method} {c : Code} {A : Nat → Prop} {D : va_G} {cy cz : ClassId} {t1 t2 : Nat} (hm : Nat) (am : Nat → Nat) (Q : Int32 → Wd → Prop) (K48 : (Int32 × Int32 × Int32 × Int32 × Int32 × Int32 × Int32 × Int32 × Int32 × Wd) → Prop) (hK48 : ∀ b9 : Int32 × Int32 × Int32 × Int32 × Int32 × Int32 × Int32 × Int32 × Int32 × Wd, K48 b9 → ∀ (H : Heap) (locs : List Loc) (ls : Array Slot), Wo D A s (cM cy cz hm am b9.2.2.2.2.2.2.2.2.2) H locs → lv_has ls 10 [(0, .ref hm), (1, .int b9.1), (2, .int b9.2.1), (3, .int b9.2.2.1), (4, .int b9.2.2.2.1), (5, .int b9.2.2.2.2.1), (6, .int b9.2.2.2.2.2.1), (7, .int b9.2.2.2.2.2.2.1), (8, .int b9.2.2.2.2.2.2.2.1), (9, .int b9.2.2.2.2.2.2.2.2.1)] → W p l e (rM 2 43) s m args below meth c H locs 0 0 (MQ below (QI D (S := Wd) (fun r u => Q r u) (fun u => (cM cy cz hm am u)) A) args s 0 0 A) (F0 m 48 ls [])) (hC : Cx D cy cz t1 t2 p s m args meth c cX4_hits 10 (some .boolean) RX4 A) (x1 : Int32) (x2 : Int32) (x3 : Int32) (x4 : Int32) (x5 : Int32) (x6 : Int32) (x7 : Int32) (x9 : Int32) (wm : Wd) {H : Heap} {locs : List Loc} {ls : Array Slot} (hq : k_X4_hits_84 K48 Q x1 x2 x3 x4 x5 x6 x7 x9 wm) (hW : Wo D A s (cM cy cz hm am wm) H locs) (hl : lv_has ls 10 [(0, .ref hm), (1, .int x1), (2, .int x2), (3, .int x3), (4, .int x4), (5, .int x5), (6, .int x6), (7, .int x7), (9, .int x9)]) : W p l e (rM 2 43) s m args below meth c H locs 0 0 (MQ below (QI D (S := Wd) (fun r u => Q r u) (fun u => (cM cy cz hm am u)) A) args s 0 0 A) (F0 m 84 ls []) := by
  unfold k_X4_hits_84 at hq
  refine lv_iconst (v := 0) hC.x hC.b dX4_hits_84 (by decide) ?_
  exact B_X4_hits_85 hm am Q K48 hK48 hC x1 x2 x3 x4 x5 x6 x7 x9 0 wm hq hW (lv_sub hl [0, 1, 2, 3, 4, 5, 6, 7, 8] rfl)
def k_X4_hits_48 (K48 : (Int32 × Int32 × Int32 × Int32 × Int32 × Int32 × Int32 × Int32 × Int32 × Wd) → Prop) (Q : Int32 → Wd → Prop) (x1 : Int32) (x2 : Int32) (x3 : Int32) (x4 : Int32) (x5 : Int32) (x6 : Int32) (x7 : Int32) (x8 : Int32) (x9 : Int32) (wm : Wd) : Prop :=
 ((x3 < x9 → (∃ n : Nat, lpf (fun (K : (Int32 × Int32 × Int32 × Int32 × Int32 × Int32 × Wd) → Prop) (u : Int32 × Int32 × Int32 × Int32 × Int32 × Int32 × Wd) => k_X4_hits_96  K Q u.1 u.2.1 u.2.2.1 u.2.2.2.1 u.2.2.2.2.1 u.2.2.2.2.2.1 u.2.2.2.2.2.2) n (x1, x2, x4, x7, x8, 1, wm))) ∧
 (¬ x3 < x9 → ((x8 = 0 → (k_X4_hits_84 K48 Q x1 x2 x3 x4 x5 x6 x7 x9 wm)) ∧
 (¬ x8 = 0 → (vp_in x1 41 ∧ (k_X4_isFree x6 ((wm 9 (x1).toNatClampNeg) + (x5 * x9)) wm (fun r74 wm74 => ((r74 = 0 → (k_X4_hits_84 K48 Q x1 x2 x3 x4 x5 x6 x7 x9 wm74)) ∧
 (¬ r74 = 0 → (k_X4_hits_85 K48 Q x1 x2 x3 x4 x5 x6 x7 x9 1 wm74))))))))))
set_option maxHeartbeats 4000000 in
set_option maxRecDepth 100000 in
theorem B_X4_hits_48 {l : Launch} {p : Program} {e : Env} {s : State} {m : MethodId} {args : Array Value} {below : List Frame} {meth : Method} {c : Code} {A : Nat → Prop} {D : va_G} {cy cz : ClassId} {t1 t2 : Nat} (hm : Nat) (am : Nat → Nat) (Q : Int32 → Wd → Prop) (K48 : (Int32 × Int32 × Int32 × Int32 × Int32 × Int32 × Int32 × Int32 × Int32 × Wd) → Prop) (hK48 : ∀ b9 : Int32 × Int32 × Int32 × Int32 × Int32 × Int32 × Int32 × Int32 × Int32 × Wd, K48 b9 → ∀ (H : Heap) (locs : List Loc) (ls : Array Slot), Wo D A s (cM cy cz hm am b9.2.2.2.2.2.2.2.2.2) H locs → lv_has ls 10 [(0, .ref hm), (1, .int b9.1), (2, .int b9.2.1), (3, .int b9.2.2.1), (4, .int b9.2.2.2.1), (5, .int b9.2.2.2.2.1), (6, .int b9.2.2.2.2.2.1), (7, .int b9.2.2.2.2.2.2.1), (8, .int b9.2.2.2.2.2.2.2.1), (9, .int b9.2.2.2.2.2.2.2.2.1)] → W p l e (rM 2 43) s m args below meth c H locs 0 0 (MQ below (QI D (S := Wd) (fun r u => Q r u) (fun u => (cM cy cz hm am u)) A) args s 0 0 A) (F0 m 48 ls [])) (hC : Cx D cy cz t1 t2 p s m args meth c cX4_hits 10 (some .boolean) RX4 A) (x1 : Int32) (x2 : Int32) (x3 : Int32) (x4 : Int32) (x5 : Int32) (x6 : Int32) (x7 : Int32) (x8 : Int32) (x9 : Int32) (wm : Wd) {H : Heap} {locs : List Loc} {ls : Array Slot} (hq : k_X4_hits_48 K48 Q x1 x2 x3 x4 x5 x6 x7 x8 x9 wm) (hW : Wo D A s (cM cy cz hm am wm) H locs) (hl : lv_has ls 10 [(0, .ref hm), (1, .int x1), (2, .int x2), (3, .int x3), (4, .int x4), (5, .int x5), (6, .int x6), (7, .int x7), (8, .int x8), (9, .int x9)]) : W p l e (rM 2 43) s m args below meth c H locs 0 0 (MQ below (QI D (S := Wd) (fun r u => Q r u) (fun u => (cM cy cz hm am u)) A) args s 0 0 A) (F0 m 48 ls []) := by
  unfold k_X4_hits_48 at hq
  refine lv_iload hC.x hC.b dX4_hits_48 (lv_at hl 9 rfl) ?_
  refine lv_iload_n hC.x hC.b dX4_hits_50 rfl (lv_at hl 3 rfl) ?_
  refine lv_icmp_gt (tgt := 93) hC.x hC.b dX4_hits_51 (by decide) (fun hc9 => ?_) (fun hc9 => ?_)
  · replace hq := hq.1 hc9
    refine lv_iconst (v := 1) hC.x hC.b dX4_hits_93 (by decide) ?_
    refine lv_istore (lv' := [(9, .int 1), (0, .ref hm), (1, .int x1), (2, .int x2), (3, .int x3), (4, .int x4), (5, .int x5), (6, .int x6), (7, .int x7), (8, .int x8)]) hC.x hC.b dX4_hits_94 hl (by decide) rfl (fun ls hl => ?_)
    obtain ⟨n9, hq⟩ := hq
    exact lpf_use (G := (fun (u : Int32 × Int32 × Int32 × Int32 × Int32 × Int32 × Wd) => ∀ (H : Heap) (locs : List Loc) (ls : Array Slot), Wo D A s (cM cy cz hm am u.2.2.2.2.2.2) H locs → lv_has ls 10 [(0, .ref hm), (1, .int u.1), (2, .int u.2.1), (4, .int u.2.2.1), (7, .int u.2.2.2.1), (8, .int u.2.2.2.2.1), (9, .int u.2.2.2.2.2.1)] → W p l e (rM 2 43) s m args below meth c H locs 0 0 (MQ below (QI D (S := Wd) (fun r u => Q r u) (fun u => (cM cy cz hm am u)) A) args s 0 0 A) (F0 m 96 ls []))) (fun K hK u hq H locs ls hW hl => B_X4_hits_96 hm am Q  K hK hC u.1 u.2.1 u.2.2.1 u.2.2.2.1 u.2.2.2.2.1 u.2.2.2.2.2.1 u.2.2.2.2.2.2 hq hW hl) n9 _ hq _ _ _ hW (lv_sub hl [1, 2, 3, 5, 8, 9, 0] rfl)
  · replace hq := hq.2 hc9
    refine lv_iload hC.x hC.b dX4_hits_54 (lv_at hl 8 rfl) ?_
    refine lv_if_eq (tgt := 84) hC.x hC.b dX4_hits_56 (by decide) (fun hc9 => ?_) (fun hc9 => ?_)
    · replace hq := hq.1 hc9
      exact B_X4_hits_84 hm am Q K48 hK48 hC x1 x2 x3 x4 x5 x6 x7 x9 wm hq hW (lv_sub hl [0, 1, 2, 3, 4, 5, 6, 7, 9] rfl)
    · replace hq := hq.2 hc9
      refine lv_aload_n hC.x hC.b dX4_hits_59 rfl (lv_at hl 0 rfl) ?_
      refine lv_iload hC.x hC.b dX4_hits_60 (lv_at hl 6 rfl) ?_
      refine lv_aload_n hC.x hC.b dX4_hits_62 rfl (lv_at hl 0 rfl) ?_
      refine hc_get (v := .ref (am 9)) hC hW 0 4 9 inX4 rfl rfl (by decide) q_100 rfl dX4_hits_63 ?_
      refine lv_iload_n hC.x hC.b dX4_hits_66 rfl (lv_at hl 1 rfl) ?_
      refine hc_iald hC hW 9 rfl hq.1 dX4_hits_67 ?_
      replace hq := hq.2
      refine lv_iload hC.x hC.b dX4_hits_68 (lv_at hl 5 rfl) ?_
      refine lv_iload hC.x hC.b dX4_hits_70 (lv_at hl 9 rfl) ?_
      refine lv_imul hC.x hC.b dX4_hits_72 ?_
      refine lv_iadd hC.x hC.b dX4_hits_73 ?_
      refine hc_goIW hC hW (hc_rV hC (c_X4_isFree l D cy cz t1 t2 hm am x6 ((wm 9 (x1).toNatClampNeg) + (x5 * x9)) wm _ hq) (hc_preW hC hW) hW 0 4 rfl rfl q_229 q_230 q_231 q_5 q_232 hd_X4_isFree ⟨rfl, rfl⟩ ⟨Nat.le_of_ble_eq_true rfl, Nat.le_of_ble_eq_true rfl⟩ rfl hl.1 rfl (Nat.le_of_ble_eq_true rfl) dX4_hits_74 ⟨Nat.zero_le _, Nat.zero_le _⟩) (fun r74 u9 H locs hq hW => ?_)
      obtain ⟨wm74, rfl⟩ : ∃ z, z = u9 := ⟨_, rfl⟩
      try dsimp only at hq hW
      refine lv_if_eq (tgt := 84) hC.x hC.b dX4_hits_77 (by decide) (fun hc9 => ?_) (fun hc9 => ?_)
      · replace hq := hq.1 hc9
        exact B_X4_hits_84 hm am Q K48 hK48 hC x1 x2 x3 x4 x5 x6 x7 x9 wm74 hq hW (lv_sub hl [0, 1, 2, 3, 4, 5, 6, 7, 9] rfl)
      · replace hq := hq.2 hc9
        refine lv_iconst (v := 1) hC.x hC.b dX4_hits_80 (by decide) ?_
        refine lv_goto (tgt := 85) hC.x hC.b dX4_hits_81 (by decide) ?_
        exact B_X4_hits_85 hm am Q K48 hK48 hC x1 x2 x3 x4 x5 x6 x7 x9 1 wm74 hq hW (lv_sub hl [0, 1, 2, 3, 4, 5, 6, 7, 9] rfl)
def k_X4_hits (x1 : Int32) (x2 : Int32) (x3 : Int32) (wm : Wd) (Q : Int32 → Wd → Prop) : Prop :=
 (vp_in x1 41 ∧ (vp_in x1 41 ∧ (vp_in x1 41 ∧ (vp_in x1 41 ∧ (∃ n : Nat, lpf (fun (K : (Int32 × Int32 × Int32 × Int32 × Int32 × Int32 × Int32 × Int32 × Int32 × Wd) → Prop) (u : Int32 × Int32 × Int32 × Int32 × Int32 × Int32 × Int32 × Int32 × Int32 × Wd) => k_X4_hits_48  K Q u.1 u.2.1 u.2.2.1 u.2.2.2.1 u.2.2.2.2.1 u.2.2.2.2.2.1 u.2.2.2.2.2.2.1 u.2.2.2.2.2.2.2.1 u.2.2.2.2.2.2.2.2.1 u.2.2.2.2.2.2.2.2.2) n (x1, x2, x3, (wm 10 (x1).toNatClampNeg), (wm 11 (x1).toNatClampNeg), ((wm 8 (x1).toNatClampNeg) + ((wm 10 (x1).toNatClampNeg) * x2)), ((wm 9 (x1).toNatClampNeg) + ((wm 11 (x1).toNatClampNeg) * x3)), 1, 1, wm))))))
set_option maxHeartbeats 4000000 in
set_option maxRecDepth 100000 in
theorem c_X4_hits (l : Launch) (D : va_G) (cy cz : ClassId) (t1 t2 : Nat) (hm : Nat) (am : Nat → Nat) (x1 : Int32) (x2 : Int32) (x3 : Int32) (wm : Wd) (Q : Int32 → Wd → Prop) (hq : k_X4_hits x1 x2 x3 wm Q) : Ct l D cy cz t1 t2 yX4_hits cX4_hits 10 (some .boolean) (rM 2 43) [.ref hm, .int x1, .int x2, .int x3] (cM cy cz hm am wm) (QI D (S := Wd) (fun r u => Q r u) (fun u => (cM cy cz hm am u))) := by
  refine Ct.of (own := RX4) (by decide) rfl (Nat.le_of_ble_eq_true rfl) ?_
  intro p e s m below meth c A ls hC hW hl
  unfold k_X4_hits at hq
  have hl : lv_has ls 10 [(0, .ref hm), (1, .int x1), (2, .int x2), (3, .int x3)] := hl
  refine lv_aload_n hC.x hC.b dX4_hits_0 rfl (lv_at hl 0 rfl) ?_
  refine hc_get (v := .ref (am 10)) hC hW 0 4 10 inX4 rfl rfl (by decide) q_101 rfl dX4_hits_1 ?_
  refine lv_iload_n hC.x hC.b dX4_hits_4 rfl (lv_at hl 1 rfl) ?_
  refine hc_iald hC hW 10 rfl hq.1 dX4_hits_5 ?_
  replace hq := hq.2
  refine lv_istore (lv' := [(4, .int (wm 10 (x1).toNatClampNeg)), (0, .ref hm), (1, .int x1), (2, .int x2), (3, .int x3)]) hC.x hC.b dX4_hits_6 hl (by decide) rfl (fun ls hl => ?_)
  refine lv_aload_n hC.x hC.b dX4_hits_8 rfl (lv_at hl 1 rfl) ?_
  refine hc_get (v := .ref (am 11)) hC hW 0 4 11 inX4 rfl rfl (by decide) q_102 rfl dX4_hits_9 ?_
  refine lv_iload_n hC.x hC.b dX4_hits_12 rfl (lv_at hl 2 rfl) ?_
  refine hc_iald hC hW 11 rfl hq.1 dX4_hits_13 ?_
  replace hq := hq.2
  refine lv_istore (lv' := [(5, .int (wm 11 (x1).toNatClampNeg)), (4, .int (wm 10 (x1).toNatClampNeg)), (0, .ref hm), (1, .int x1), (2, .int x2), (3, .int x3)]) hC.x hC.b dX4_hits_14 hl (by decide) rfl (fun ls hl => ?_)
  refine lv_aload_n hC.x hC.b dX4_hits_16 rfl (lv_at hl 2 rfl) ?_
  refine hc_get (v := .ref (am 8)) hC hW 0 4 8 inX4 rfl rfl (by decide) q_99 rfl dX4_hits_17 ?_
  refine lv_iload_n hC.x hC.b dX4_hits_20 rfl (lv_at hl 3 rfl) ?_
  refine hc_iald hC hW 8 rfl hq.1 dX4_hits_21 ?_
  replace hq := hq.2
  refine lv_iload hC.x hC.b dX4_hits_22 (lv_at hl 1 rfl) ?_
  refine lv_iload_n hC.x hC.b dX4_hits_24 rfl (lv_at hl 4 rfl) ?_
  refine lv_imul hC.x hC.b dX4_hits_25 ?_
  refine lv_iadd hC.x hC.b dX4_hits_26 ?_
  refine lv_istore (lv' := [(6, .int ((wm 8 (x1).toNatClampNeg) + ((wm 10 (x1).toNatClampNeg) * x2))), (5, .int (wm 11 (x1).toNatClampNeg)), (4, .int (wm 10 (x1).toNatClampNeg)), (0, .ref hm), (1, .int x1), (2, .int x2), (3, .int x3)]) hC.x hC.b dX4_hits_27 hl (by decide) rfl (fun ls hl => ?_)
  refine lv_aload_n hC.x hC.b dX4_hits_29 rfl (lv_at hl 3 rfl) ?_
  refine hc_get (v := .ref (am 9)) hC hW 0 4 9 inX4 rfl rfl (by decide) q_100 rfl dX4_hits_30 ?_
  refine lv_iload_n hC.x hC.b dX4_hits_33 rfl (lv_at hl 4 rfl) ?_
  refine hc_iald hC hW 9 rfl hq.1 dX4_hits_34 ?_
  replace hq := hq.2
  refine lv_iload hC.x hC.b dX4_hits_35 (lv_at hl 1 rfl) ?_
  refine lv_iload_n hC.x hC.b dX4_hits_37 rfl (lv_at hl 6 rfl) ?_
  refine lv_imul hC.x hC.b dX4_hits_38 ?_
  refine lv_iadd hC.x hC.b dX4_hits_39 ?_
  refine lv_istore (lv' := [(7, .int ((wm 9 (x1).toNatClampNeg) + ((wm 11 (x1).toNatClampNeg) * x3))), (6, .int ((wm 8 (x1).toNatClampNeg) + ((wm 10 (x1).toNatClampNeg) * x2))), (5, .int (wm 11 (x1).toNatClampNeg)), (4, .int (wm 10 (x1).toNatClampNeg)), (0, .ref hm), (1, .int x1), (2, .int x2), (3, .int x3)]) hC.x hC.b dX4_hits_40 hl (by decide) rfl (fun ls hl => ?_)
  refine lv_iconst (v := 1) hC.x hC.b dX4_hits_42 (by decide) ?_
  refine lv_istore (lv' := [(8, .int 1), (7, .int ((wm 9 (x1).toNatClampNeg) + ((wm 11 (x1).toNatClampNeg) * x3))), (6, .int ((wm 8 (x1).toNatClampNeg) + ((wm 10 (x1).toNatClampNeg) * x2))), (5, .int (wm 11 (x1).toNatClampNeg)), (4, .int (wm 10 (x1).toNatClampNeg)), (0, .ref hm), (1, .int x1), (2, .int x2), (3, .int x3)]) hC.x hC.b dX4_hits_43 hl (by decide) rfl (fun ls hl => ?_)
  refine lv_iconst (v := 1) hC.x hC.b dX4_hits_45 (by decide) ?_
  refine lv_istore (lv' := [(9, .int 1), (8, .int 1), (7, .int ((wm 9 (x1).toNatClampNeg) + ((wm 11 (x1).toNatClampNeg) * x3))), (6, .int ((wm 8 (x1).toNatClampNeg) + ((wm 10 (x1).toNatClampNeg) * x2))), (5, .int (wm 11 (x1).toNatClampNeg)), (4, .int (wm 10 (x1).toNatClampNeg)), (0, .ref hm), (1, .int x1), (2, .int x2), (3, .int x3)]) hC.x hC.b dX4_hits_46 hl (by decide) rfl (fun ls hl => ?_)
  obtain ⟨n9, hq⟩ := hq
  exact lpf_use (G := (fun (u : Int32 × Int32 × Int32 × Int32 × Int32 × Int32 × Int32 × Int32 × Int32 × Wd) => ∀ (H : Heap) (locs : List Loc) (ls : Array Slot), Wo D A s (cM cy cz hm am u.2.2.2.2.2.2.2.2.2) H locs → lv_has ls 10 [(0, .ref hm), (1, .int u.1), (2, .int u.2.1), (3, .int u.2.2.1), (4, .int u.2.2.2.1), (5, .int u.2.2.2.2.1), (6, .int u.2.2.2.2.2.1), (7, .int u.2.2.2.2.2.2.1), (8, .int u.2.2.2.2.2.2.2.1), (9, .int u.2.2.2.2.2.2.2.2.1)] → W p l e (rM 2 43) s m _ below meth c H locs 0 0 (MQ below (QI D (S := Wd) (fun r u => Q r u) (fun u => (cM cy cz hm am u)) A) _ s 0 0 A) (F0 m 48 ls []))) (fun K hK u hq H locs ls hW hl => B_X4_hits_48 hm am Q  K hK hC u.1 u.2.1 u.2.2.1 u.2.2.2.1 u.2.2.2.2.1 u.2.2.2.2.2.1 u.2.2.2.2.2.2.1 u.2.2.2.2.2.2.2.1 u.2.2.2.2.2.2.2.2.1 u.2.2.2.2.2.2.2.2.2 hq hW hl) n9 _ hq _ _ _ hW (lv_sub hl [6, 7, 8, 9, 5, 4, 3, 2, 1, 0] rfl)
def k_X4_whyNot (x1 : Int32) (x2 : Int32) (x3 : Int32) (wm : Wd) (Q : Int32 → Wd → Prop) : Prop :=
 (k_X4_reach x1 0 wm (fun r4 wm4 => ((r4 < x2 → (Q 1 wm4)) ∧
 (¬ r4 < x2 → (k_X4_reach x1 1 wm4 (fun r14 wm14 => ((x3 ≤ r14 → (vp_in x1 41 ∧ (vp_in x1 41 ∧ (vp_in x1 41 ∧ (vp_in x1 41 ∧ (vp_in 0 20 ∧ ((((((wm14 8 (x1).toNatClampNeg) + ((wm14 10 (x1).toNatClampNeg) * x2)) + (wm14 9 (x1).toNatClampNeg)) + ((wm14 11 (x1).toNatClampNeg) * x3)) ≤ (wm14 0 ((0 : Int32)).toNatClampNeg) → (k_X4_hits x1 x2 x3 wm14 (fun r68 wm68 => ((r68 = 0 → (Q 0 wm68)) ∧
 (¬ r68 = 0 → (Q 3 wm68)))))) ∧
 (¬ ((((wm14 8 (x1).toNatClampNeg) + ((wm14 10 (x1).toNatClampNeg) * x2)) + (wm14 9 (x1).toNatClampNeg)) + ((wm14 11 (x1).toNatClampNeg) * x3)) ≤ (wm14 0 ((0 : Int32)).toNatClampNeg) → (Q 2 wm14))))))))) ∧
 (¬ x3 ≤ r14 → (Q 1 wm14)))))))))
set_option maxHeartbeats 4000000 in
set_option maxRecDepth 100000 in
theorem c_X4_whyNot (l : Launch) (D : va_G) (cy cz : ClassId) (t1 t2 : Nat) (hm : Nat) (am : Nat → Nat) (x1 : Int32) (x2 : Int32) (x3 : Int32) (wm : Wd) (Q : Int32 → Wd → Prop) (hq : k_X4_whyNot x1 x2 x3 wm Q) : Ct l D cy cz t1 t2 yX4_whyNot cX4_whyNot 4 (some .int) (rM 3 72) [.ref hm, .int x1, .int x2, .int x3] (cM cy cz hm am wm) (QI D (S := Wd) (fun r u => Q r u) (fun u => (cM cy cz hm am u))) := by
  refine Ct.of (own := RX4) (by decide) rfl (Nat.le_of_ble_eq_true rfl) ?_
  intro p e s m below meth c A ls hC hW hl
  unfold k_X4_whyNot at hq
  have hl : lv_has ls 4 [(0, .ref hm), (1, .int x1), (2, .int x2), (3, .int x3)] := hl
  refine lv_iload_n hC.x hC.b dX4_whyNot_0 rfl (lv_at hl 2 rfl) ?_
  refine lv_aload_n hC.x hC.b dX4_whyNot_1 rfl (lv_at hl 0 rfl) ?_
  refine lv_iload_n hC.x hC.b dX4_whyNot_2 rfl (lv_at hl 1 rfl) ?_
  refine lv_iconst (v := 0) hC.x hC.b dX4_whyNot_3 (by decide) ?_
  refine hc_goIW hC hW (hc_rV hC (c_X4_reach l D cy cz t1 t2 hm am x1 0 wm _ hq) (hc_preW hC hW) hW 0 4 rfl rfl q_217 q_218 q_219 q_5 q_220 hd_X4_reach ⟨rfl, rfl⟩ ⟨Nat.le_of_ble_eq_true rfl, Nat.le_of_ble_eq_true rfl⟩ rfl hl.1 rfl (Nat.le_of_ble_eq_true rfl) dX4_whyNot_4 ⟨Nat.zero_le _, Nat.zero_le _⟩) (fun r4 u9 H locs hq hW => ?_)
  obtain ⟨wm4, rfl⟩ : ∃ z, z = u9 := ⟨_, rfl⟩
  try dsimp only at hq hW
  refine lv_icmp_gt (tgt := 20) hC.x hC.b dX4_whyNot_7 (by decide) (fun hc9 => ?_) (fun hc9 => ?_)
  · replace hq := hq.1 hc9
    refine lv_iconst (v := 1) hC.x hC.b dX4_whyNot_20 (by decide) ?_
    exact hc_iret hC (wm4) hW hq dX4_whyNot_21
  · replace hq := hq.2 hc9
    refine lv_iload_n hC.x hC.b dX4_whyNot_10 rfl (lv_at hl 3 rfl) ?_
    refine lv_aload_n hC.x hC.b dX4_whyNot_11 rfl (lv_at hl 0 rfl) ?_
    refine lv_iload_n hC.x hC.b dX4_whyNot_12 rfl (lv_at hl 1 rfl) ?_
    refine lv_iconst (v := 1) hC.x hC.b dX4_whyNot_13 (by decide) ?_
    refine hc_goIW hC hW (hc_rV hC (c_X4_reach l D cy cz t1 t2 hm am x1 1 wm4 _ hq) (hc_preW hC hW) hW 0 4 rfl rfl q_217 q_218 q_219 q_5 q_220 hd_X4_reach ⟨rfl, rfl⟩ ⟨Nat.le_of_ble_eq_true rfl, Nat.le_of_ble_eq_true rfl⟩ rfl hl.1 rfl (Nat.le_of_ble_eq_true rfl) dX4_whyNot_14 ⟨Nat.zero_le _, Nat.zero_le _⟩) (fun r14 u9 H locs hq hW => ?_)
    obtain ⟨wm14, rfl⟩ : ∃ z, z = u9 := ⟨_, rfl⟩
    try dsimp only at hq hW
    refine lv_icmp_le (tgt := 22) hC.x hC.b dX4_whyNot_17 (by decide) (fun hc9 => ?_) (fun hc9 => ?_)
    · replace hq := hq.1 hc9
      refine lv_aload_n hC.x hC.b dX4_whyNot_22 rfl (lv_at hl 0 rfl) ?_
      refine hc_get (v := .ref (am 8)) hC hW 0 4 8 inX4 rfl rfl (by decide) q_99 rfl dX4_whyNot_23 ?_
      refine lv_iload_n hC.x hC.b dX4_whyNot_26 rfl (lv_at hl 1 rfl) ?_
      refine hc_iald hC hW 8 rfl hq.1 dX4_whyNot_27 ?_
      replace hq := hq.2
      refine lv_aload_n hC.x hC.b dX4_whyNot_28 rfl (lv_at hl 0 rfl) ?_
      refine hc_get (v := .ref (am 10)) hC hW 0 4 10 inX4 rfl rfl (by decide) q_101 rfl dX4_whyNot_29 ?_
      refine lv_iload_n hC.x hC.b dX4_whyNot_32 rfl (lv_at hl 1 rfl) ?_
      refine hc_iald hC hW 10 rfl hq.1 dX4_whyNot_33 ?_
      replace hq := hq.2
      refine lv_iload_n hC.x hC.b dX4_whyNot_34 rfl (lv_at hl 2 rfl) ?_
      refine lv_imul hC.x hC.b dX4_whyNot_35 ?_
      refine lv_iadd hC.x hC.b dX4_whyNot_36 ?_
      refine lv_aload_n hC.x hC.b dX4_whyNot_37 rfl (lv_at hl 0 rfl) ?_
      refine hc_get (v := .ref (am 9)) hC hW 0 4 9 inX4 rfl rfl (by decide) q_100 rfl dX4_whyNot_38 ?_
      refine lv_iload_n hC.x hC.b dX4_whyNot_41 rfl (lv_at hl 1 rfl) ?_
      refine hc_iald hC hW 9 rfl hq.1 dX4_whyNot_42 ?_
      replace hq := hq.2
      refine lv_iadd hC.x hC.b dX4_whyNot_43 ?_
      refine lv_aload_n hC.x hC.b dX4_whyNot_44 rfl (lv_at hl 0 rfl) ?_
      refine hc_get (v := .ref (am 11)) hC hW 0 4 11 inX4 rfl rfl (by decide) q_102 rfl dX4_whyNot_45 ?_
      refine lv_iload_n hC.x hC.b dX4_whyNot_48 rfl (lv_at hl 1 rfl) ?_
      refine hc_iald hC hW 11 rfl hq.1 dX4_whyNot_49 ?_
      replace hq := hq.2
      refine lv_iload_n hC.x hC.b dX4_whyNot_50 rfl (lv_at hl 3 rfl) ?_
      refine lv_imul hC.x hC.b dX4_whyNot_51 ?_
      refine lv_iadd hC.x hC.b dX4_whyNot_52 ?_
      refine lv_aload_n hC.x hC.b dX4_whyNot_53 rfl (lv_at hl 0 rfl) ?_
      refine hc_get (v := .ref (am 0)) hC hW 0 4 0 inX4 rfl rfl (by decide) q_91 rfl dX4_whyNot_54 ?_
      refine lv_iconst (v := 0) hC.x hC.b dX4_whyNot_57 (by decide) ?_
      refine hc_iald hC hW 1 rfl hq.1 dX4_whyNot_58 ?_
      replace hq := hq.2
      refine lv_icmp_le (tgt := 64) hC.x hC.b dX4_whyNot_59 (by decide) (fun hc9 => ?_) (fun hc9 => ?_)
      · replace hq := hq.1 hc9
        refine lv_aload_n hC.x hC.b dX4_whyNot_64 rfl (lv_at hl 0 rfl) ?_
        refine lv_iload_n hC.x hC.b dX4_whyNot_65 rfl (lv_at hl 1 rfl) ?_
        refine lv_iload_n hC.x hC.b dX4_whyNot_66 rfl (lv_at hl 2 rfl) ?_
        refine lv_iload_n hC.x hC.b dX4_whyNot_67 rfl (lv_at hl 3 rfl) ?_
        refine hc_goIW hC hW (hc_rV hC (c_X4_hits l D cy cz t1 t2 hm am x1 x2 x3 wm14 _ hq) (hc_preW hC hW) hW 0 4 rfl rfl q_225 q_226 q_227 q_5 q_228 hd_X4_hits ⟨rfl, rfl⟩ ⟨Nat.le_of_ble_eq_true rfl, Nat.le_of_ble_eq_true rfl⟩ rfl hl.1 rfl (Nat.le_of_ble_eq_true rfl) dX4_whyNot_68 ⟨Nat.zero_le _, Nat.zero_le _⟩) (fun r68 u9 H locs hq hW => ?_)
        obtain ⟨wm68, rfl⟩ : ∃ z, z = u9 := ⟨_, rfl⟩
        try dsimp only at hq hW
        refine lv_if_eq (tgt := 78) hC.x hC.b dX4_whyNot_71 (by decide) (fun hc9 => ?_) (fun hc9 => ?_)
        · replace hq := hq.1 hc9
          refine lv_iconst (v := 0) hC.x hC.b dX4_whyNot_78 (by decide) ?_
          exact hc_iret hC (wm68) hW hq dX4_whyNot_79
        · replace hq := hq.2 hc9
          refine lv_iconst (v := 3) hC.x hC.b dX4_whyNot_74 (by decide) ?_
          refine lv_goto (tgt := 79) hC.x hC.b dX4_whyNot_75 (by decide) ?_
          exact hc_iret hC (wm68) hW hq dX4_whyNot_79
      · replace hq := hq.2 hc9
        refine lv_iconst (v := 2) hC.x hC.b dX4_whyNot_62 (by decide) ?_
        exact hc_iret hC (wm14) hW hq dX4_whyNot_63
    · replace hq := hq.2 hc9
      refine lv_iconst (v := 1) hC.x hC.b dX4_whyNot_20 (by decide) ?_
      exact hc_iret hC (wm14) hW hq dX4_whyNot_21
def k_X4_isCorner (x1 : Int32) (wm : Wd) (Q : Int32 → Wd → Prop) : Prop :=
 (k_X4_in x1 0 ((wm 12 0) - 1) (fun r8 => ((r8 = 0 ∨ r8 = 1) ∧ Q r8 wm)))
set_option maxHeartbeats 4000000 in
set_option maxRecDepth 100000 in
theorem c_X4_isCorner (l : Launch) (D : va_G) (cy cz : ClassId) (t1 t2 : Nat) (hm : Nat) (am : Nat → Nat) (x1 : Int32) (wm : Wd) (Q : Int32 → Wd → Prop) (hq : k_X4_isCorner x1 wm Q) : Ct l D cy cz t1 t2 yX4_isCorner cX4_isCorner 2 (some .boolean) (rM 1 22) [.ref hm, .int x1] (cM cy cz hm am wm) (QI D (S := Wd) (fun r u => Q r u) (fun u => (cM cy cz hm am u))) := by
  refine Ct.of (own := RX4) (by decide) rfl (Nat.le_of_ble_eq_true rfl) ?_
  intro p e s m below meth c A ls hC hW hl
  unfold k_X4_isCorner at hq
  have hl : lv_has ls 2 [(0, .ref hm), (1, .int x1)] := hl
  refine lv_iload_n hC.x hC.b dX4_isCorner_0 rfl (lv_at hl 1 rfl) ?_
  refine lv_iconst (v := 0) hC.x hC.b dX4_isCorner_1 (by decide) ?_
  refine lv_aload_n hC.x hC.b dX4_isCorner_2 rfl (lv_at hl 0 rfl) ?_
  refine hc_get (v := .int (wm 12 0)) hC hW 0 4 12 inX4 rfl rfl (by decide) q_186 rfl dX4_isCorner_3 ?_
  refine lv_iconst (v := 1) hC.x hC.b dX4_isCorner_6 (by decide) ?_
  refine lv_isub hC.x hC.b dX4_isCorner_7 ?_
  refine hc_goP hC hW (hc_rS hC (c_X4_in l D cy cz t1 t2 x1 0 ((wm 12 0) - 1) _ hq) (hc_preP hC hW) q_120 q_121 q_5 q_122 hd_X4_in ⟨rfl, rfl⟩ ⟨Nat.le_of_ble_eq_true rfl, Nat.le_of_ble_eq_true rfl⟩ rfl hl.1 rfl (Nat.le_of_ble_eq_true rfl) dX4_isCorner_8 ⟨Nat.zero_le _, Nat.zero_le _⟩) (fun r8 H locs hq hW => ?_)
  try dsimp only at hq
  exact hc_zret hC (wm) hW (hc_nb hq.1) hq.2 dX4_isCorner_11
def k_X4_size (x1 : Int32) (wm : Wd) (Q : Int32 → Wd → Prop) : Prop :=
 (k_X4_in x1 4 12 (fun r4 => ((¬ r4 = 0 → (vp_in 1 20 ∧ (((wm 0 ((1 : Int32)).toNatClampNeg) ≤ 0 → (vp_in 0 20 ∧ (vp_in 0 20 ∧ (Q (wm 0 ((0 : Int32)).toNatClampNeg) (up2 wm 0 ((0 : Int32)).toNatClampNeg x1))))) ∧
 (¬ (wm 0 ((1 : Int32)).toNatClampNeg) ≤ 0 → (Q (-3) wm))))) ∧
 (r4 = 0 → (Q (-2) wm)))))
set_option maxHeartbeats 4000000 in
set_option maxRecDepth 100000 in
theorem c_X4_size (l : Launch) (D : va_G) (cy cz : ClassId) (t1 t2 : Nat) (hm : Nat) (am : Nat → Nat) (x1 : Int32) (wm : Wd) (Q : Int32 → Wd → Prop) (hq : k_X4_size x1 wm Q) : Ct l D cy cz t1 t2 yX4_size cX4_size 3 (some .int) (rM 1 22) [.ref hm, .int x1] (cM cy cz hm am wm) (QI D (S := Wd) (fun r u => Q r u) (fun u => (cM cy cz hm am u))) := by
  refine Ct.of (own := RX4) (by decide) rfl (Nat.le_of_ble_eq_true rfl) ?_
  intro p e s m below meth c A ls hC hW hl
  unfold k_X4_size at hq
  have hl : lv_has ls 3 [(0, .ref hm), (1, .int x1)] := hl
  refine lv_iload_n hC.x hC.b dX4_size_0 rfl (lv_at hl 1 rfl) ?_
  refine lv_iconst (v := 4) hC.x hC.b dX4_size_1 (by decide) ?_
  refine lv_bipush (v := 12) hC.x hC.b dX4_size_2 (by decide) ?_
  refine hc_goP hC hW (hc_rS hC (c_X4_in l D cy cz t1 t2 x1 4 12 _ hq) (hc_preP hC hW) q_120 q_121 q_5 q_122 hd_X4_in ⟨rfl, rfl⟩ ⟨Nat.le_of_ble_eq_true rfl, Nat.le_of_ble_eq_true rfl⟩ rfl hl.1 rfl (Nat.le_of_ble_eq_true rfl) dX4_size_4 ⟨Nat.zero_le _, Nat.zero_le _⟩) (fun r4 H locs hq hW => ?_)
  try dsimp only at hq
  refine lv_if_ne (tgt := 13) hC.x hC.b dX4_size_7 (by decide) (fun hc9 => ?_) (fun hc9 => ?_)
  · replace hq := hq.1 hc9
    refine lv_aload_n hC.x hC.b dX4_size_13 rfl (lv_at hl 0 rfl) ?_
    refine hc_get (v := .ref (am 0)) hC hW 0 4 0 inX4 rfl rfl (by decide) q_91 rfl dX4_size_14 ?_
    refine lv_iconst (v := 1) hC.x hC.b dX4_size_17 (by decide) ?_
    refine hc_iald hC hW 1 rfl hq.1 dX4_size_18 ?_
    replace hq := hq.2
    refine lv_if_le (tgt := 25) hC.x hC.b dX4_size_19 (by decide) (fun hc9 => ?_) (fun hc9 => ?_)
    · replace hq := hq.1 hc9
      refine lv_aload_n hC.x hC.b dX4_size_25 rfl (lv_at hl 0 rfl) ?_
      refine hc_get (v := .ref (am 0)) hC hW 0 4 0 inX4 rfl rfl (by decide) q_91 rfl dX4_size_26 ?_
      refine lv_iconst (v := 0) hC.x hC.b dX4_size_29 (by decide) ?_
      refine hc_iald hC hW 1 rfl hq.1 dX4_size_30 ?_
      replace hq := hq.2
      refine lv_istore_n (lv' := [(2, .int (wm 0 ((0 : Int32)).toNatClampNeg)), (0, .ref hm), (1, .int x1)]) hC.x hC.b dX4_size_31 rfl hl (by decide) rfl (fun ls hl => ?_)
      refine lv_aload_n hC.x hC.b dX4_size_32 rfl (lv_at hl 1 rfl) ?_
      refine hc_get (v := .ref (am 0)) hC hW 0 4 0 inX4 rfl rfl (by decide) q_91 rfl dX4_size_33 ?_
      refine lv_iconst (v := 0) hC.x hC.b dX4_size_36 (by decide) ?_
      refine lv_iload_n hC.x hC.b dX4_size_37 rfl (lv_at hl 2 rfl) ?_
      refine hc_iast (ws' := (cM cy cz hm am (up2 wm 0 ((0 : Int32)).toNatClampNeg x1))) hC hW 1 rfl hq.1 (cM_set_0 ..) dX4_size_38 (fun H locs hW => ?_)
      replace hq := hq.2
      refine lv_iload_n hC.x hC.b dX4_size_39 rfl (lv_at hl 0 rfl) ?_
      exact hc_iret hC ((up2 wm 0 ((0 : Int32)).toNatClampNeg x1)) hW hq dX4_size_40
    · replace hq := hq.2 hc9
      refine lv_bipush (v := (-3)) hC.x hC.b dX4_size_22 (by decide) ?_
      exact hc_iret hC (wm) hW hq dX4_size_24
  · replace hq := hq.2 hc9
    refine lv_bipush (v := (-2)) hC.x hC.b dX4_size_10 (by decide) ?_
    exact hc_iret hC (wm) hW hq dX4_size_12
def k_X4_put (x1 : Int32) (x2 : Int32) (x3 : Int32) (wm : Wd) (Q : Int32 → Wd → Prop) : Prop :=
 (k_X4_lay wm (fun wm1 => (k_X4_isCorner x1 wm1 (fun r6 wm6 => ((¬ r6 = 0 → (k_X4_in x2 1 12 (fun r18 => ((r18 = 0 → (Q (-2) wm6)) ∧
 (¬ r18 = 0 → (k_X4_in x3 1 12 (fun r28 => ((¬ r28 = 0 → (vp_in 1 20 ∧ ((¬ (wm6 0 ((1 : Int32)).toNatClampNeg) = 6 → (k_X4_whyNot x1 x2 x3 wm6 (fun r55 wm55 => ((r55 ≤ 0 → (vp_in 1 20 ∧ (vp_in (2 + (3 * (wm55 0 ((1 : Int32)).toNatClampNeg))) 20 ∧ (vp_in ((2 + (3 * (wm55 0 ((1 : Int32)).toNatClampNeg))) + 1) 20 ∧ (vp_in ((2 + (3 * (wm55 0 ((1 : Int32)).toNatClampNeg))) + 2) 20 ∧ (vp_in 1 20 ∧ (vp_in 1 20 ∧ (Q (((up2 (up2 (up2 (up2 wm55 0 ((2 + (3 * (wm55 0 ((1 : Int32)).toNatClampNeg)))).toNatClampNeg x1) 0 (((2 + (3 * (wm55 0 ((1 : Int32)).toNatClampNeg))) + 1)).toNatClampNeg x2) 0 (((2 + (3 * (wm55 0 ((1 : Int32)).toNatClampNeg))) + 2)).toNatClampNeg x3) 0 ((1 : Int32)).toNatClampNeg (((up2 (up2 (up2 wm55 0 ((2 + (3 * (wm55 0 ((1 : Int32)).toNatClampNeg)))).toNatClampNeg x1) 0 (((2 + (3 * (wm55 0 ((1 : Int32)).toNatClampNeg))) + 1)).toNatClampNeg x2) 0 (((2 + (3 * (wm55 0 ((1 : Int32)).toNatClampNeg))) + 2)).toNatClampNeg x3) 0 ((1 : Int32)).toNatClampNeg) + 1)) 7 0) + 2) (up2 (up2 (up2 (up2 wm55 0 ((2 + (3 * (wm55 0 ((1 : Int32)).toNatClampNeg)))).toNatClampNeg x1) 0 (((2 + (3 * (wm55 0 ((1 : Int32)).toNatClampNeg))) + 1)).toNatClampNeg x2) 0 (((2 + (3 * (wm55 0 ((1 : Int32)).toNatClampNeg))) + 2)).toNatClampNeg x3) 0 ((1 : Int32)).toNatClampNeg (((up2 (up2 (up2 wm55 0 ((2 + (3 * (wm55 0 ((1 : Int32)).toNatClampNeg)))).toNatClampNeg x1) 0 (((2 + (3 * (wm55 0 ((1 : Int32)).toNatClampNeg))) + 1)).toNatClampNeg x2) 0 (((2 + (3 * (wm55 0 ((1 : Int32)).toNatClampNeg))) + 2)).toNatClampNeg x3) 0 ((1 : Int32)).toNatClampNeg) + 1)))))))))) ∧
 (¬ r55 ≤ 0 → (Q (-5) wm55)))))) ∧
 ((wm6 0 ((1 : Int32)).toNatClampNeg) = 6 → (Q (-4) wm6))))) ∧
 (r28 = 0 → (Q (-2) wm6)))))))))) ∧
 (r6 = 0 → (Q (-1) wm6)))))))
set_option maxHeartbeats 4000000 in
set_option maxRecDepth 100000 in
theorem c_X4_put (l : Launch) (D : va_G) (cy cz : ClassId) (t1 t2 : Nat) (hm : Nat) (am : Nat → Nat) (x1 : Int32) (x2 : Int32) (x3 : Int32) (wm : Wd) (Q : Int32 → Wd → Prop) (hq : k_X4_put x1 x2 x3 wm Q) : Ct l D cy cz t1 t2 yX4_put cX4_put 5 (some .int) (rM 5 119) [.ref hm, .int x1, .int x2, .int x3] (cM cy cz hm am wm) (QI D (S := Wd) (fun r u => Q r u) (fun u => (cM cy cz hm am u))) := by
  refine Ct.of (own := RX4) (by decide) rfl (Nat.le_of_ble_eq_true rfl) ?_
  intro p e s m below meth c A ls hC hW hl
  unfold k_X4_put at hq
  have hl : lv_has ls 5 [(0, .ref hm), (1, .int x1), (2, .int x2), (3, .int x3)] := hl
  refine lv_aload_n hC.x hC.b dX4_put_0 rfl (lv_at hl 0 rfl) ?_
  refine hc_goVW hC hW (hc_rV hC (c_X4_lay l D cy cz t1 t2 hm am wm _ hq) (hc_preW hC hW) hW 0 4 rfl rfl q_182 q_183 q_184 q_5 q_185 hd_X4_lay ⟨rfl, rfl⟩ ⟨Nat.le_of_ble_eq_true rfl, Nat.le_of_ble_eq_true rfl⟩ rfl hl.1 rfl (Nat.le_of_ble_eq_true rfl) dX4_put_1 ⟨Nat.zero_le _, Nat.zero_le _⟩) (fun u9 H locs hq hW => ?_)
  obtain ⟨wm1, rfl⟩ : ∃ z, z = u9 := ⟨_, rfl⟩
  try dsimp only at hq hW
  refine lv_aload_n hC.x hC.b dX4_put_4 rfl (lv_at hl 0 rfl) ?_
  refine lv_iload_n hC.x hC.b dX4_put_5 rfl (lv_at hl 1 rfl) ?_
  refine hc_goIW hC hW (hc_rV hC (c_X4_isCorner l D cy cz t1 t2 hm am x1 wm1 _ hq) (hc_preW hC hW) hW 0 4 rfl rfl q_209 q_210 q_211 q_5 q_212 hd_X4_isCorner ⟨rfl, rfl⟩ ⟨Nat.le_of_ble_eq_true rfl, Nat.le_of_ble_eq_true rfl⟩ rfl hl.1 rfl (Nat.le_of_ble_eq_true rfl) dX4_put_6 ⟨Nat.zero_le _, Nat.zero_le _⟩) (fun r6 u9 H locs hq hW => ?_)
  obtain ⟨wm6, rfl⟩ : ∃ z, z = u9 := ⟨_, rfl⟩
  try dsimp only at hq hW
  refine lv_if_ne (tgt := 14) hC.x hC.b dX4_put_9 (by decide) (fun hc9 => ?_) (fun hc9 => ?_)
  · replace hq := hq.1 hc9
    refine lv_iload_n hC.x hC.b dX4_put_14 rfl (lv_at hl 2 rfl) ?_
    refine lv_iconst (v := 1) hC.x hC.b dX4_put_15 (by decide) ?_
    refine lv_bipush (v := 12) hC.x hC.b dX4_put_16 (by decide) ?_
    refine hc_goP hC hW (hc_rS hC (c_X4_in l D cy cz t1 t2 x2 1 12 _ hq) (hc_preP hC hW) q_120 q_121 q_5 q_122 hd_X4_in ⟨rfl, rfl⟩ ⟨Nat.le_of_ble_eq_true rfl, Nat.le_of_ble_eq_true rfl⟩ rfl hl.1 rfl (Nat.le_of_ble_eq_true rfl) dX4_put_18 ⟨Nat.zero_le _, Nat.zero_le _⟩) (fun r18 H locs hq hW => ?_)
    try dsimp only at hq
    refine lv_if_eq (tgt := 34) hC.x hC.b dX4_put_21 (by decide) (fun hc9 => ?_) (fun hc9 => ?_)
    · replace hq := hq.1 hc9
      refine lv_bipush (v := (-2)) hC.x hC.b dX4_put_34 (by decide) ?_
      exact hc_iret hC (wm6) hW hq dX4_put_36
    · replace hq := hq.2 hc9
      refine lv_iload_n hC.x hC.b dX4_put_24 rfl (lv_at hl 3 rfl) ?_
      refine lv_iconst (v := 1) hC.x hC.b dX4_put_25 (by decide) ?_
      refine lv_bipush (v := 12) hC.x hC.b dX4_put_26 (by decide) ?_
      refine hc_goP hC hW (hc_rS hC (c_X4_in l D cy cz t1 t2 x3 1 12 _ hq) (hc_preP hC hW) q_120 q_121 q_5 q_122 hd_X4_in ⟨rfl, rfl⟩ ⟨Nat.le_of_ble_eq_true rfl, Nat.le_of_ble_eq_true rfl⟩ rfl hl.1 rfl (Nat.le_of_ble_eq_true rfl) dX4_put_28 ⟨Nat.zero_le _, Nat.zero_le _⟩) (fun r28 H locs hq hW => ?_)
      try dsimp only at hq
      refine lv_if_ne (tgt := 37) hC.x hC.b dX4_put_31 (by decide) (fun hc9 => ?_) (fun hc9 => ?_)
      · replace hq := hq.1 hc9
        refine lv_aload_n hC.x hC.b dX4_put_37 rfl (lv_at hl 0 rfl) ?_
        refine hc_get (v := .ref (am 0)) hC hW 0 4 0 inX4 rfl rfl (by decide) q_91 rfl dX4_put_38 ?_
        refine lv_iconst (v := 1) hC.x hC.b dX4_put_41 (by decide) ?_
        refine hc_iald hC hW 1 rfl hq.1 dX4_put_42 ?_
        replace hq := hq.2
        refine lv_bipush (v := 6) hC.x hC.b dX4_put_43 (by decide) ?_
        refine lv_icmp_ne (tgt := 51) hC.x hC.b dX4_put_45 (by decide) (fun hc9 => ?_) (fun hc9 => ?_)
        · replace hq := hq.1 hc9
          refine lv_aload_n hC.x hC.b dX4_put_51 rfl (lv_at hl 0 rfl) ?_
          refine lv_iload_n hC.x hC.b dX4_put_52 rfl (lv_at hl 1 rfl) ?_
          refine lv_iload_n hC.x hC.b dX4_put_53 rfl (lv_at hl 2 rfl) ?_
          refine lv_iload_n hC.x hC.b dX4_put_54 rfl (lv_at hl 3 rfl) ?_
          refine hc_goIW hC hW (hc_rV hC (c_X4_whyNot l D cy cz t1 t2 hm am x1 x2 x3 wm6 _ hq) (hc_preW hC hW) hW 0 4 rfl rfl q_213 q_214 q_215 q_5 q_216 hd_X4_whyNot ⟨rfl, rfl⟩ ⟨Nat.le_of_ble_eq_true rfl, Nat.le_of_ble_eq_true rfl⟩ rfl hl.1 rfl (Nat.le_of_ble_eq_true rfl) dX4_put_55 ⟨Nat.zero_le _, Nat.zero_le _⟩) (fun r55 u9 H locs hq hW => ?_)
          obtain ⟨wm55, rfl⟩ : ∃ z, z = u9 := ⟨_, rfl⟩
          try dsimp only at hq hW
          refine lv_if_le (tgt := 64) hC.x hC.b dX4_put_58 (by decide) (fun hc9 => ?_) (fun hc9 => ?_)
          · replace hq := hq.1 hc9
            refine lv_iconst (v := 2) hC.x hC.b dX4_put_64 (by decide) ?_
            refine lv_iconst (v := 3) hC.x hC.b dX4_put_65 (by decide) ?_
            refine lv_aload_n hC.x hC.b dX4_put_66 rfl (lv_at hl 0 rfl) ?_
            refine hc_get (v := .ref (am 0)) hC hW 0 4 0 inX4 rfl rfl (by decide) q_91 rfl dX4_put_67 ?_
            refine lv_iconst (v := 1) hC.x hC.b dX4_put_70 (by decide) ?_
            refine hc_iald hC hW 1 rfl hq.1 dX4_put_71 ?_
            replace hq := hq.2
            refine lv_imul hC.x hC.b dX4_put_72 ?_
            refine lv_iadd hC.x hC.b dX4_put_73 ?_
            refine lv_istore (lv' := [(4, .int (2 + (3 * (wm55 0 ((1 : Int32)).toNatClampNeg)))), (0, .ref hm), (1, .int x1), (2, .int x2), (3, .int x3)]) hC.x hC.b dX4_put_74 hl (by decide) rfl (fun ls hl => ?_)
            refine lv_aload_n hC.x hC.b dX4_put_76 rfl (lv_at hl 1 rfl) ?_
            refine hc_get (v := .ref (am 0)) hC hW 0 4 0 inX4 rfl rfl (by decide) q_91 rfl dX4_put_77 ?_
            refine lv_iload hC.x hC.b dX4_put_80 (lv_at hl 0 rfl) ?_
            refine lv_iload_n hC.x hC.b dX4_put_82 rfl (lv_at hl 2 rfl) ?_
            refine hc_iast (ws' := (cM cy cz hm am (up2 wm55 0 ((2 + (3 * (wm55 0 ((1 : Int32)).toNatClampNeg)))).toNatClampNeg x1))) hC hW 1 rfl hq.1 (cM_set_0 ..) dX4_put_83 (fun H locs hW => ?_)
            replace hq := hq.2
            refine lv_aload_n hC.x hC.b dX4_put_84 rfl (lv_at hl 1 rfl) ?_
            refine hc_get (v := .ref (am 0)) hC hW 0 4 0 inX4 rfl rfl (by decide) q_91 rfl dX4_put_85 ?_
            refine lv_iload hC.x hC.b dX4_put_88 (lv_at hl 0 rfl) ?_
            refine lv_iconst (v := 1) hC.x hC.b dX4_put_90 (by decide) ?_
            refine lv_iadd hC.x hC.b dX4_put_91 ?_
            refine lv_iload_n hC.x hC.b dX4_put_92 rfl (lv_at hl 3 rfl) ?_
            refine hc_iast (ws' := (cM cy cz hm am (up2 (up2 wm55 0 ((2 + (3 * (wm55 0 ((1 : Int32)).toNatClampNeg)))).toNatClampNeg x1) 0 (((2 + (3 * (wm55 0 ((1 : Int32)).toNatClampNeg))) + 1)).toNatClampNeg x2))) hC hW 1 rfl hq.1 (cM_set_0 ..) dX4_put_93 (fun H locs hW => ?_)
            replace hq := hq.2
            refine lv_aload_n hC.x hC.b dX4_put_94 rfl (lv_at hl 1 rfl) ?_
            refine hc_get (v := .ref (am 0)) hC hW 0 4 0 inX4 rfl rfl (by decide) q_91 rfl dX4_put_95 ?_
            refine lv_iload hC.x hC.b dX4_put_98 (lv_at hl 0 rfl) ?_
            refine lv_iconst (v := 2) hC.x hC.b dX4_put_100 (by decide) ?_
            refine lv_iadd hC.x hC.b dX4_put_101 ?_
            refine lv_iload_n hC.x hC.b dX4_put_102 rfl (lv_at hl 4 rfl) ?_
            refine hc_iast (ws' := (cM cy cz hm am (up2 (up2 (up2 wm55 0 ((2 + (3 * (wm55 0 ((1 : Int32)).toNatClampNeg)))).toNatClampNeg x1) 0 (((2 + (3 * (wm55 0 ((1 : Int32)).toNatClampNeg))) + 1)).toNatClampNeg x2) 0 (((2 + (3 * (wm55 0 ((1 : Int32)).toNatClampNeg))) + 2)).toNatClampNeg x3))) hC hW 1 rfl hq.1 (cM_set_0 ..) dX4_put_103 (fun H locs hW => ?_)
            replace hq := hq.2
            refine lv_aload_n hC.x hC.b dX4_put_104 rfl (lv_at hl 1 rfl) ?_
            refine hc_get (v := .ref (am 0)) hC hW 0 4 0 inX4 rfl rfl (by decide) q_91 rfl dX4_put_105 ?_
            refine lv_iconst (v := 1) hC.x hC.b dX4_put_108 (by decide) ?_
            refine lv_dup2_11 hC.x hC.b dX4_put_109 rfl rfl ?_
            refine hc_iald hC hW 1 rfl hq.1 dX4_put_110 ?_
            replace hq := hq.2
            refine lv_iconst (v := 1) hC.x hC.b dX4_put_111 (by decide) ?_
            refine lv_iadd hC.x hC.b dX4_put_112 ?_
            refine hc_iast (ws' := (cM cy cz hm am (up2 (up2 (up2 (up2 wm55 0 ((2 + (3 * (wm55 0 ((1 : Int32)).toNatClampNeg)))).toNatClampNeg x1) 0 (((2 + (3 * (wm55 0 ((1 : Int32)).toNatClampNeg))) + 1)).toNatClampNeg x2) 0 (((2 + (3 * (wm55 0 ((1 : Int32)).toNatClampNeg))) + 2)).toNatClampNeg x3) 0 ((1 : Int32)).toNatClampNeg (((up2 (up2 (up2 wm55 0 ((2 + (3 * (wm55 0 ((1 : Int32)).toNatClampNeg)))).toNatClampNeg x1) 0 (((2 + (3 * (wm55 0 ((1 : Int32)).toNatClampNeg))) + 1)).toNatClampNeg x2) 0 (((2 + (3 * (wm55 0 ((1 : Int32)).toNatClampNeg))) + 2)).toNatClampNeg x3) 0 ((1 : Int32)).toNatClampNeg) + 1)))) hC hW 1 rfl hq.1 (cM_set_0 ..) dX4_put_113 (fun H locs hW => ?_)
            replace hq := hq.2
            refine lv_aload_n hC.x hC.b dX4_put_114 rfl (lv_at hl 1 rfl) ?_
            refine hc_get (v := .int ((up2 (up2 (up2 (up2 wm55 0 ((2 + (3 * (wm55 0 ((1 : Int32)).toNatClampNeg)))).toNatClampNeg x1) 0 (((2 + (3 * (wm55 0 ((1 : Int32)).toNatClampNeg))) + 1)).toNatClampNeg x2) 0 (((2 + (3 * (wm55 0 ((1 : Int32)).toNatClampNeg))) + 2)).toNatClampNeg x3) 0 ((1 : Int32)).toNatClampNeg (((up2 (up2 (up2 wm55 0 ((2 + (3 * (wm55 0 ((1 : Int32)).toNatClampNeg)))).toNatClampNeg x1) 0 (((2 + (3 * (wm55 0 ((1 : Int32)).toNatClampNeg))) + 1)).toNatClampNeg x2) 0 (((2 + (3 * (wm55 0 ((1 : Int32)).toNatClampNeg))) + 2)).toNatClampNeg x3) 0 ((1 : Int32)).toNatClampNeg) + 1)) 7 0)) hC hW 0 4 7 inX4 rfl rfl (by decide) q_181 rfl dX4_put_115 ?_
            refine lv_iconst (v := 2) hC.x hC.b dX4_put_118 (by decide) ?_
            refine lv_iadd hC.x hC.b dX4_put_119 ?_
            exact hc_iret hC ((up2 (up2 (up2 (up2 wm55 0 ((2 + (3 * (wm55 0 ((1 : Int32)).toNatClampNeg)))).toNatClampNeg x1) 0 (((2 + (3 * (wm55 0 ((1 : Int32)).toNatClampNeg))) + 1)).toNatClampNeg x2) 0 (((2 + (3 * (wm55 0 ((1 : Int32)).toNatClampNeg))) + 2)).toNatClampNeg x3) 0 ((1 : Int32)).toNatClampNeg (((up2 (up2 (up2 wm55 0 ((2 + (3 * (wm55 0 ((1 : Int32)).toNatClampNeg)))).toNatClampNeg x1) 0 (((2 + (3 * (wm55 0 ((1 : Int32)).toNatClampNeg))) + 1)).toNatClampNeg x2) 0 (((2 + (3 * (wm55 0 ((1 : Int32)).toNatClampNeg))) + 2)).toNatClampNeg x3) 0 ((1 : Int32)).toNatClampNeg) + 1))) hW hq dX4_put_120
          · replace hq := hq.2 hc9
            refine lv_bipush (v := (-5)) hC.x hC.b dX4_put_61 (by decide) ?_
            exact hc_iret hC (wm55) hW hq dX4_put_63
        · replace hq := hq.2 hc9
          refine lv_bipush (v := (-4)) hC.x hC.b dX4_put_48 (by decide) ?_
          exact hc_iret hC (wm6) hW hq dX4_put_50
      · replace hq := hq.2 hc9
        refine lv_bipush (v := (-2)) hC.x hC.b dX4_put_34 (by decide) ?_
        exact hc_iret hC (wm6) hW hq dX4_put_36
  · replace hq := hq.2 hc9
    refine lv_iconst (v := (-1)) hC.x hC.b dX4_put_12 (by decide) ?_
    exact hc_iret hC (wm6) hW hq dX4_put_13
def k_X4_off  (wm : Wd) (Q : Int32 → Wd → Prop) : Prop :=
 (vp_in 1 20 ∧ ((¬ (wm 0 ((1 : Int32)).toNatClampNeg) = 0 → (vp_in 1 20 ∧ (vp_in 1 20 ∧ (vp_in 1 20 ∧ (Q ((up2 wm 0 ((1 : Int32)).toNatClampNeg ((wm 0 ((1 : Int32)).toNatClampNeg) - 1)) 0 ((1 : Int32)).toNatClampNeg) (up2 wm 0 ((1 : Int32)).toNatClampNeg ((wm 0 ((1 : Int32)).toNatClampNeg) - 1))))))) ∧
 ((wm 0 ((1 : Int32)).toNatClampNeg) = 0 → (Q (-3) wm))))
set_option maxHeartbeats 4000000 in
set_option maxRecDepth 100000 in
theorem c_X4_off (l : Launch) (D : va_G) (cy cz : ClassId) (t1 t2 : Nat) (hm : Nat) (am : Nat → Nat)  (wm : Wd) (Q : Int32 → Wd → Prop) (hq : k_X4_off wm Q) : Ct l D cy cz t1 t2 yX4_off cX4_off 1 (some .int) (rM 0 0) [.ref hm] (cM cy cz hm am wm) (QI D (S := Wd) (fun r u => Q r u) (fun u => (cM cy cz hm am u))) := by
  refine Ct.of (own := RX4) (by decide) rfl (Nat.le_of_ble_eq_true rfl) ?_
  intro p e s m below meth c A ls hC hW hl
  unfold k_X4_off at hq
  have hl : lv_has ls 1 [(0, .ref hm)] := hl
  refine lv_aload_n hC.x hC.b dX4_off_0 rfl (lv_at hl 0 rfl) ?_
  refine hc_get (v := .ref (am 0)) hC hW 0 4 0 inX4 rfl rfl (by decide) q_91 rfl dX4_off_1 ?_
  refine lv_iconst (v := 1) hC.x hC.b dX4_off_4 (by decide) ?_
  refine hc_iald hC hW 1 rfl hq.1 dX4_off_5 ?_
  replace hq := hq.2
  refine lv_if_ne (tgt := 12) hC.x hC.b dX4_off_6 (by decide) (fun hc9 => ?_) (fun hc9 => ?_)
  · replace hq := hq.1 hc9
    refine lv_aload_n hC.x hC.b dX4_off_12 rfl (lv_at hl 0 rfl) ?_
    refine hc_get (v := .ref (am 0)) hC hW 0 4 0 inX4 rfl rfl (by decide) q_91 rfl dX4_off_13 ?_
    refine lv_iconst (v := 1) hC.x hC.b dX4_off_16 (by decide) ?_
    refine lv_dup2_11 hC.x hC.b dX4_off_17 rfl rfl ?_
    refine hc_iald hC hW 1 rfl hq.1 dX4_off_18 ?_
    replace hq := hq.2
    refine lv_iconst (v := 1) hC.x hC.b dX4_off_19 (by decide) ?_
    refine lv_isub hC.x hC.b dX4_off_20 ?_
    refine hc_iast (ws' := (cM cy cz hm am (up2 wm 0 ((1 : Int32)).toNatClampNeg ((wm 0 ((1 : Int32)).toNatClampNeg) - 1)))) hC hW 1 rfl hq.1 (cM_set_0 ..) dX4_off_21 (fun H locs hW => ?_)
    replace hq := hq.2
    refine lv_aload_n hC.x hC.b dX4_off_22 rfl (lv_at hl 0 rfl) ?_
    refine hc_get (v := .ref (am 0)) hC hW 0 4 0 inX4 rfl rfl (by decide) q_91 rfl dX4_off_23 ?_
    refine lv_iconst (v := 1) hC.x hC.b dX4_off_26 (by decide) ?_
    refine hc_iald hC hW 1 rfl hq.1 dX4_off_27 ?_
    replace hq := hq.2
    exact hc_iret hC ((up2 wm 0 ((1 : Int32)).toNatClampNeg ((wm 0 ((1 : Int32)).toNatClampNeg) - 1))) hW hq dX4_off_28
  · replace hq := hq.2 hc9
    refine lv_bipush (v := (-3)) hC.x hC.b dX4_off_9 (by decide) ?_
    exact hc_iret hC (wm) hW hq dX4_off_11
def k_X4_why (x1 : Int32) (x2 : Int32) (x3 : Int32) (wm : Wd) (Q : Int32 → Wd → Prop) : Prop :=
 (k_X4_lay wm (fun wm1 => (k_X4_isCorner x1 wm1 (fun r6 wm6 => ((¬ r6 = 0 → (k_X4_in x2 1 12 (fun r18 => ((r18 = 0 → (Q (-2) wm6)) ∧
 (¬ r18 = 0 → (k_X4_in x3 1 12 (fun r28 => ((r28 = 0 → (Q (-2) wm6)) ∧
 (¬ r28 = 0 → (k_X4_whyNot x1 x2 x3 wm6 (fun r38 wm38 => (Q r38 wm38)))))))))))) ∧
 (r6 = 0 → (Q (-1) wm6)))))))
set_option maxHeartbeats 4000000 in
set_option maxRecDepth 100000 in
theorem c_X4_why (l : Launch) (D : va_G) (cy cz : ClassId) (t1 t2 : Nat) (hm : Nat) (am : Nat → Nat) (x1 : Int32) (x2 : Int32) (x3 : Int32) (wm : Wd) (Q : Int32 → Wd → Prop) (hq : k_X4_why x1 x2 x3 wm Q) : Ct l D cy cz t1 t2 yX4_why cX4_why 4 (some .int) (rM 5 119) [.ref hm, .int x1, .int x2, .int x3] (cM cy cz hm am wm) (QI D (S := Wd) (fun r u => Q r u) (fun u => (cM cy cz hm am u))) := by
  refine Ct.of (own := RX4) (by decide) rfl (Nat.le_of_ble_eq_true rfl) ?_
  intro p e s m below meth c A ls hC hW hl
  unfold k_X4_why at hq
  have hl : lv_has ls 4 [(0, .ref hm), (1, .int x1), (2, .int x2), (3, .int x3)] := hl
  refine lv_aload_n hC.x hC.b dX4_why_0 rfl (lv_at hl 0 rfl) ?_
  refine hc_goVW hC hW (hc_rV hC (c_X4_lay l D cy cz t1 t2 hm am wm _ hq) (hc_preW hC hW) hW 0 4 rfl rfl q_182 q_183 q_184 q_5 q_185 hd_X4_lay ⟨rfl, rfl⟩ ⟨Nat.le_of_ble_eq_true rfl, Nat.le_of_ble_eq_true rfl⟩ rfl hl.1 rfl (Nat.le_of_ble_eq_true rfl) dX4_why_1 ⟨Nat.zero_le _, Nat.zero_le _⟩) (fun u9 H locs hq hW => ?_)
  obtain ⟨wm1, rfl⟩ : ∃ z, z = u9 := ⟨_, rfl⟩
  try dsimp only at hq hW
  refine lv_aload_n hC.x hC.b dX4_why_4 rfl (lv_at hl 0 rfl) ?_
  refine lv_iload_n hC.x hC.b dX4_why_5 rfl (lv_at hl 1 rfl) ?_
  refine hc_goIW hC hW (hc_rV hC (c_X4_isCorner l D cy cz t1 t2 hm am x1 wm1 _ hq) (hc_preW hC hW) hW 0 4 rfl rfl q_209 q_210 q_211 q_5 q_212 hd_X4_isCorner ⟨rfl, rfl⟩ ⟨Nat.le_of_ble_eq_true rfl, Nat.le_of_ble_eq_true rfl⟩ rfl hl.1 rfl (Nat.le_of_ble_eq_true rfl) dX4_why_6 ⟨Nat.zero_le _, Nat.zero_le _⟩) (fun r6 u9 H locs hq hW => ?_)
  obtain ⟨wm6, rfl⟩ : ∃ z, z = u9 := ⟨_, rfl⟩
  try dsimp only at hq hW
  refine lv_if_ne (tgt := 14) hC.x hC.b dX4_why_9 (by decide) (fun hc9 => ?_) (fun hc9 => ?_)
  · replace hq := hq.1 hc9
    refine lv_iload_n hC.x hC.b dX4_why_14 rfl (lv_at hl 2 rfl) ?_
    refine lv_iconst (v := 1) hC.x hC.b dX4_why_15 (by decide) ?_
    refine lv_bipush (v := 12) hC.x hC.b dX4_why_16 (by decide) ?_
    refine hc_goP hC hW (hc_rS hC (c_X4_in l D cy cz t1 t2 x2 1 12 _ hq) (hc_preP hC hW) q_120 q_121 q_5 q_122 hd_X4_in ⟨rfl, rfl⟩ ⟨Nat.le_of_ble_eq_true rfl, Nat.le_of_ble_eq_true rfl⟩ rfl hl.1 rfl (Nat.le_of_ble_eq_true rfl) dX4_why_18 ⟨Nat.zero_le _, Nat.zero_le _⟩) (fun r18 H locs hq hW => ?_)
    try dsimp only at hq
    refine lv_if_eq (tgt := 44) hC.x hC.b dX4_why_21 (by decide) (fun hc9 => ?_) (fun hc9 => ?_)
    · replace hq := hq.1 hc9
      refine lv_bipush (v := (-2)) hC.x hC.b dX4_why_44 (by decide) ?_
      exact hc_iret hC (wm6) hW hq dX4_why_46
    · replace hq := hq.2 hc9
      refine lv_iload_n hC.x hC.b dX4_why_24 rfl (lv_at hl 3 rfl) ?_
      refine lv_iconst (v := 1) hC.x hC.b dX4_why_25 (by decide) ?_
      refine lv_bipush (v := 12) hC.x hC.b dX4_why_26 (by decide) ?_
      refine hc_goP hC hW (hc_rS hC (c_X4_in l D cy cz t1 t2 x3 1 12 _ hq) (hc_preP hC hW) q_120 q_121 q_5 q_122 hd_X4_in ⟨rfl, rfl⟩ ⟨Nat.le_of_ble_eq_true rfl, Nat.le_of_ble_eq_true rfl⟩ rfl hl.1 rfl (Nat.le_of_ble_eq_true rfl) dX4_why_28 ⟨Nat.zero_le _, Nat.zero_le _⟩) (fun r28 H locs hq hW => ?_)
      try dsimp only at hq
      refine lv_if_eq (tgt := 44) hC.x hC.b dX4_why_31 (by decide) (fun hc9 => ?_) (fun hc9 => ?_)
      · replace hq := hq.1 hc9
        refine lv_bipush (v := (-2)) hC.x hC.b dX4_why_44 (by decide) ?_
        exact hc_iret hC (wm6) hW hq dX4_why_46
      · replace hq := hq.2 hc9
        refine lv_aload_n hC.x hC.b dX4_why_34 rfl (lv_at hl 0 rfl) ?_
        refine lv_iload_n hC.x hC.b dX4_why_35 rfl (lv_at hl 1 rfl) ?_
        refine lv_iload_n hC.x hC.b dX4_why_36 rfl (lv_at hl 2 rfl) ?_
        refine lv_iload_n hC.x hC.b dX4_why_37 rfl (lv_at hl 3 rfl) ?_
        refine hc_goIW hC hW (hc_rV hC (c_X4_whyNot l D cy cz t1 t2 hm am x1 x2 x3 wm6 _ hq) (hc_preW hC hW) hW 0 4 rfl rfl q_213 q_214 q_215 q_5 q_216 hd_X4_whyNot ⟨rfl, rfl⟩ ⟨Nat.le_of_ble_eq_true rfl, Nat.le_of_ble_eq_true rfl⟩ rfl hl.1 rfl (Nat.le_of_ble_eq_true rfl) dX4_why_38 ⟨Nat.zero_le _, Nat.zero_le _⟩) (fun r38 u9 H locs hq hW => ?_)
        obtain ⟨wm38, rfl⟩ : ∃ z, z = u9 := ⟨_, rfl⟩
        try dsimp only at hq hW
        refine lv_goto (tgt := 46) hC.x hC.b dX4_why_41 (by decide) ?_
        exact hc_iret hC (wm38) hW hq dX4_why_46
  · replace hq := hq.2 hc9
    refine lv_iconst (v := (-1)) hC.x hC.b dX4_why_12 (by decide) ?_
    exact hc_iret hC (wm6) hW hq dX4_why_13
def k_X4_corner (x1 : Int32) (x2 : Int32) (wm : Wd) (Q : Int32 → Wd → Prop) : Prop :=
 (k_X4_lay wm (fun wm1 => (k_X4_isCorner x1 wm1 (fun r6 wm6 => ((¬ r6 = 0 → ((x2 = 0 → (vp_in x1 41 ∧ (Q ((wm6 8 (x1).toNatClampNeg) + 100) wm6))) ∧
 (x2 = 1 → (vp_in x1 41 ∧ (Q ((wm6 9 (x1).toNatClampNeg) + 100) wm6))) ∧
 (x2 = 2 → (vp_in x1 41 ∧ (Q ((wm6 10 (x1).toNatClampNeg) + 1) wm6))) ∧
 (x2 = 3 → (vp_in x1 41 ∧ (Q ((wm6 11 (x1).toNatClampNeg) + 1) wm6))) ∧
 (x2 = 4 → (k_X4_reach x1 0 wm6 (fun r93 wm93 => (Q r93 wm93)))) ∧
 (x2 = 5 → (k_X4_reach x1 1 wm6 (fun r100 wm100 => (Q r100 wm100)))) ∧
 ((¬ x2 = 0 ∧ ¬ x2 = 1 ∧ ¬ x2 = 2 ∧ ¬ x2 = 3 ∧ ¬ x2 = 4 ∧ ¬ x2 = 5) → (Q (-2) wm6)))) ∧
 (r6 = 0 → (Q (-1) wm6)))))))
set_option maxHeartbeats 4000000 in
set_option maxRecDepth 100000 in
theorem c_X4_corner (l : Launch) (D : va_G) (cy cz : ClassId) (t1 t2 : Nat) (hm : Nat) (am : Nat → Nat) (x1 : Int32) (x2 : Int32) (wm : Wd) (Q : Int32 → Wd → Prop) (hq : k_X4_corner x1 x2 wm Q) : Ct l D cy cz t1 t2 yX4_corner cX4_corner 3 (some .int) (rM 5 119) [.ref hm, .int x1, .int x2] (cM cy cz hm am wm) (QI D (S := Wd) (fun r u => Q r u) (fun u => (cM cy cz hm am u))) := by
  refine Ct.of (own := RX4) (by decide) rfl (Nat.le_of_ble_eq_true rfl) ?_
  intro p e s m below meth c A ls hC hW hl
  unfold k_X4_corner at hq
  have hl : lv_has ls 3 [(0, .ref hm), (1, .int x1), (2, .int x2)] := hl
  refine lv_aload_n hC.x hC.b dX4_corner_0 rfl (lv_at hl 0 rfl) ?_
  refine hc_goVW hC hW (hc_rV hC (c_X4_lay l D cy cz t1 t2 hm am wm _ hq) (hc_preW hC hW) hW 0 4 rfl rfl q_182 q_183 q_184 q_5 q_185 hd_X4_lay ⟨rfl, rfl⟩ ⟨Nat.le_of_ble_eq_true rfl, Nat.le_of_ble_eq_true rfl⟩ rfl hl.1 rfl (Nat.le_of_ble_eq_true rfl) dX4_corner_1 ⟨Nat.zero_le _, Nat.zero_le _⟩) (fun u9 H locs hq hW => ?_)
  obtain ⟨wm1, rfl⟩ : ∃ z, z = u9 := ⟨_, rfl⟩
  try dsimp only at hq hW
  refine lv_aload_n hC.x hC.b dX4_corner_4 rfl (lv_at hl 0 rfl) ?_
  refine lv_iload_n hC.x hC.b dX4_corner_5 rfl (lv_at hl 1 rfl) ?_
  refine hc_goIW hC hW (hc_rV hC (c_X4_isCorner l D cy cz t1 t2 hm am x1 wm1 _ hq) (hc_preW hC hW) hW 0 4 rfl rfl q_209 q_210 q_211 q_5 q_212 hd_X4_isCorner ⟨rfl, rfl⟩ ⟨Nat.le_of_ble_eq_true rfl, Nat.le_of_ble_eq_true rfl⟩ rfl hl.1 rfl (Nat.le_of_ble_eq_true rfl) dX4_corner_6 ⟨Nat.zero_le _, Nat.zero_le _⟩) (fun r6 u9 H locs hq hW => ?_)
  obtain ⟨wm6, rfl⟩ : ∃ z, z = u9 := ⟨_, rfl⟩
  try dsimp only at hq hW
  refine lv_if_ne (tgt := 14) hC.x hC.b dX4_corner_9 (by decide) (fun hc9 => ?_) (fun hc9 => ?_)
  · replace hq := hq.1 hc9
    refine lv_iload_n hC.x hC.b dX4_corner_14 rfl (lv_at hl 2 rfl) ?_
    by_cases hs0 : x2 = 0
    · refine lv_tableIn (tgt := 52) hC.x hC.b dX4_corner_15 (by rw [hs0]; decide) (by rw [hs0]; decide) (by rw [hs0]; rfl) (by decide) ?_
      replace hq := hq.1 hs0
      refine lv_aload_n hC.x hC.b dX4_corner_52 rfl (lv_at hl 0 rfl) ?_
      refine hc_get (v := .ref (am 8)) hC hW 0 4 8 inX4 rfl rfl (by decide) q_99 rfl dX4_corner_53 ?_
      refine lv_iload_n hC.x hC.b dX4_corner_56 rfl (lv_at hl 1 rfl) ?_
      refine hc_iald hC hW 8 rfl hq.1 dX4_corner_57 ?_
      replace hq := hq.2
      refine lv_bipush (v := 100) hC.x hC.b dX4_corner_58 (by decide) ?_
      refine lv_iadd hC.x hC.b dX4_corner_60 ?_
      exact hc_iret hC (wm6) hW hq dX4_corner_61
    by_cases hs1 : x2 = 1
    · refine lv_tableIn (tgt := 62) hC.x hC.b dX4_corner_15 (by rw [hs1]; decide) (by rw [hs1]; decide) (by rw [hs1]; rfl) (by decide) ?_
      replace hq := hq.2.1 hs1
      refine lv_aload_n hC.x hC.b dX4_corner_62 rfl (lv_at hl 0 rfl) ?_
      refine hc_get (v := .ref (am 9)) hC hW 0 4 9 inX4 rfl rfl (by decide) q_100 rfl dX4_corner_63 ?_
      refine lv_iload_n hC.x hC.b dX4_corner_66 rfl (lv_at hl 1 rfl) ?_
      refine hc_iald hC hW 9 rfl hq.1 dX4_corner_67 ?_
      replace hq := hq.2
      refine lv_bipush (v := 100) hC.x hC.b dX4_corner_68 (by decide) ?_
      refine lv_iadd hC.x hC.b dX4_corner_70 ?_
      exact hc_iret hC (wm6) hW hq dX4_corner_71
    by_cases hs2 : x2 = 2
    · refine lv_tableIn (tgt := 72) hC.x hC.b dX4_corner_15 (by rw [hs2]; decide) (by rw [hs2]; decide) (by rw [hs2]; rfl) (by decide) ?_
      replace hq := hq.2.2.1 hs2
      refine lv_aload_n hC.x hC.b dX4_corner_72 rfl (lv_at hl 0 rfl) ?_
      refine hc_get (v := .ref (am 10)) hC hW 0 4 10 inX4 rfl rfl (by decide) q_101 rfl dX4_corner_73 ?_
      refine lv_iload_n hC.x hC.b dX4_corner_76 rfl (lv_at hl 1 rfl) ?_
      refine hc_iald hC hW 10 rfl hq.1 dX4_corner_77 ?_
      replace hq := hq.2
      refine lv_iconst (v := 1) hC.x hC.b dX4_corner_78 (by decide) ?_
      refine lv_iadd hC.x hC.b dX4_corner_79 ?_
      exact hc_iret hC (wm6) hW hq dX4_corner_80
    by_cases hs3 : x2 = 3
    · refine lv_tableIn (tgt := 81) hC.x hC.b dX4_corner_15 (by rw [hs3]; decide) (by rw [hs3]; decide) (by rw [hs3]; rfl) (by decide) ?_
      replace hq := hq.2.2.2.1 hs3
      refine lv_aload_n hC.x hC.b dX4_corner_81 rfl (lv_at hl 0 rfl) ?_
      refine hc_get (v := .ref (am 11)) hC hW 0 4 11 inX4 rfl rfl (by decide) q_102 rfl dX4_corner_82 ?_
      refine lv_iload_n hC.x hC.b dX4_corner_85 rfl (lv_at hl 1 rfl) ?_
      refine hc_iald hC hW 11 rfl hq.1 dX4_corner_86 ?_
      replace hq := hq.2
      refine lv_iconst (v := 1) hC.x hC.b dX4_corner_87 (by decide) ?_
      refine lv_iadd hC.x hC.b dX4_corner_88 ?_
      exact hc_iret hC (wm6) hW hq dX4_corner_89
    by_cases hs4 : x2 = 4
    · refine lv_tableIn (tgt := 90) hC.x hC.b dX4_corner_15 (by rw [hs4]; decide) (by rw [hs4]; decide) (by rw [hs4]; rfl) (by decide) ?_
      replace hq := hq.2.2.2.2.1 hs4
      refine lv_aload_n hC.x hC.b dX4_corner_90 rfl (lv_at hl 0 rfl) ?_
      refine lv_iload_n hC.x hC.b dX4_corner_91 rfl (lv_at hl 1 rfl) ?_
      refine lv_iconst (v := 0) hC.x hC.b dX4_corner_92 (by decide) ?_
      refine hc_goIW hC hW (hc_rV hC (c_X4_reach l D cy cz t1 t2 hm am x1 0 wm6 _ hq) (hc_preW hC hW) hW 0 4 rfl rfl q_217 q_218 q_219 q_5 q_220 hd_X4_reach ⟨rfl, rfl⟩ ⟨Nat.le_of_ble_eq_true rfl, Nat.le_of_ble_eq_true rfl⟩ rfl hl.1 rfl (Nat.le_of_ble_eq_true rfl) dX4_corner_93 ⟨Nat.zero_le _, Nat.zero_le _⟩) (fun r93 u9 H locs hq hW => ?_)
      obtain ⟨wm93, rfl⟩ : ∃ z, z = u9 := ⟨_, rfl⟩
      try dsimp only at hq hW
      exact hc_iret hC (wm93) hW hq dX4_corner_96
    by_cases hs5 : x2 = 5
    · refine lv_tableIn (tgt := 97) hC.x hC.b dX4_corner_15 (by rw [hs5]; decide) (by rw [hs5]; decide) (by rw [hs5]; rfl) (by decide) ?_
      replace hq := hq.2.2.2.2.2.1 hs5
      refine lv_aload_n hC.x hC.b dX4_corner_97 rfl (lv_at hl 0 rfl) ?_
      refine lv_iload_n hC.x hC.b dX4_corner_98 rfl (lv_at hl 1 rfl) ?_
      refine lv_iconst (v := 1) hC.x hC.b dX4_corner_99 (by decide) ?_
      refine hc_goIW hC hW (hc_rV hC (c_X4_reach l D cy cz t1 t2 hm am x1 1 wm6 _ hq) (hc_preW hC hW) hW 0 4 rfl rfl q_217 q_218 q_219 q_5 q_220 hd_X4_reach ⟨rfl, rfl⟩ ⟨Nat.le_of_ble_eq_true rfl, Nat.le_of_ble_eq_true rfl⟩ rfl hl.1 rfl (Nat.le_of_ble_eq_true rfl) dX4_corner_100 ⟨Nat.zero_le _, Nat.zero_le _⟩) (fun r100 u9 H locs hq hW => ?_)
      obtain ⟨wm100, rfl⟩ : ∃ z, z = u9 := ⟨_, rfl⟩
      try dsimp only at hq hW
      exact hc_iret hC (wm100) hW hq dX4_corner_103
    refine lv_tableOut (tgt := 104) hC.x hC.b dX4_corner_15 (by have e0 := lv_neT (a := 0) hs0 rfl; have e1 := lv_neT (a := 1) hs1 rfl; have e2 := lv_neT (a := 2) hs2 rfl; have e3 := lv_neT (a := 3) hs3 rfl; have e4 := lv_neT (a := 4) hs4 rfl; have e5 := lv_neT (a := 5) hs5 rfl; omega) (by decide) ?_
    replace hq := hq.2.2.2.2.2.2 ⟨hs0, hs1, hs2, hs3, hs4, hs5⟩
    refine lv_bipush (v := (-2)) hC.x hC.b dX4_corner_104 (by decide) ?_
    exact hc_iret hC (wm6) hW hq dX4_corner_106
  · replace hq := hq.2 hc9
    refine lv_iconst (v := (-1)) hC.x hC.b dX4_corner_12 (by decide) ?_
    exact hc_iret hC (wm6) hW hq dX4_corner_13
def k_X4_isFace (x1 : Int32) (wm : Wd) (Q : Int32 → Wd → Prop) : Prop :=
 (k_X4_in x1 0 ((wm 7 0) - 1) (fun r8 => ((r8 = 0 ∨ r8 = 1) ∧ Q r8 wm)))
set_option maxHeartbeats 4000000 in
set_option maxRecDepth 100000 in
theorem c_X4_isFace (l : Launch) (D : va_G) (cy cz : ClassId) (t1 t2 : Nat) (hm : Nat) (am : Nat → Nat) (x1 : Int32) (wm : Wd) (Q : Int32 → Wd → Prop) (hq : k_X4_isFace x1 wm Q) : Ct l D cy cz t1 t2 yX4_isFace cX4_isFace 2 (some .boolean) (rM 1 22) [.ref hm, .int x1] (cM cy cz hm am wm) (QI D (S := Wd) (fun r u => Q r u) (fun u => (cM cy cz hm am u))) := by
  refine Ct.of (own := RX4) (by decide) rfl (Nat.le_of_ble_eq_true rfl) ?_
  intro p e s m below meth c A ls hC hW hl
  unfold k_X4_isFace at hq
  have hl : lv_has ls 2 [(0, .ref hm), (1, .int x1)] := hl
  refine lv_iload_n hC.x hC.b dX4_isFace_0 rfl (lv_at hl 1 rfl) ?_
  refine lv_iconst (v := 0) hC.x hC.b dX4_isFace_1 (by decide) ?_
  refine lv_aload_n hC.x hC.b dX4_isFace_2 rfl (lv_at hl 0 rfl) ?_
  refine hc_get (v := .int (wm 7 0)) hC hW 0 4 7 inX4 rfl rfl (by decide) q_181 rfl dX4_isFace_3 ?_
  refine lv_iconst (v := 1) hC.x hC.b dX4_isFace_6 (by decide) ?_
  refine lv_isub hC.x hC.b dX4_isFace_7 ?_
  refine hc_goP hC hW (hc_rS hC (c_X4_in l D cy cz t1 t2 x1 0 ((wm 7 0) - 1) _ hq) (hc_preP hC hW) q_120 q_121 q_5 q_122 hd_X4_in ⟨rfl, rfl⟩ ⟨Nat.le_of_ble_eq_true rfl, Nat.le_of_ble_eq_true rfl⟩ rfl hl.1 rfl (Nat.le_of_ble_eq_true rfl) dX4_isFace_8 ⟨Nat.zero_le _, Nat.zero_le _⟩) (fun r8 H locs hq hW => ?_)
  try dsimp only at hq
  exact hc_zret hC (wm) hW (hc_nb hq.1) hq.2 dX4_isFace_11
def k_X4_face (x1 : Int32) (x2 : Int32) (wm : Wd) (Q : Int32 → Wd → Prop) : Prop :=
 (k_X4_lay wm (fun wm1 => (k_X4_isFace x1 wm1 (fun r6 wm6 => ((¬ r6 = 0 → ((x2 = 0 → (vp_in x1 18 ∧ (Q (wm6 3 (x1).toNatClampNeg) wm6))) ∧
 (x2 = 1 → (vp_in x1 18 ∧ (Q ((wm6 4 (x1).toNatClampNeg) + 100) wm6))) ∧
 (x2 = 2 → (vp_in x1 18 ∧ (Q ((wm6 5 (x1).toNatClampNeg) + 100) wm6))) ∧
 (x2 = 3 → (vp_in x1 18 ∧ (Q (wm6 6 (x1).toNatClampNeg) wm6))) ∧
 ((¬ x2 = 0 ∧ ¬ x2 = 1 ∧ ¬ x2 = 2 ∧ ¬ x2 = 3) → (Q (-2) wm6)))) ∧
 (r6 = 0 → (Q (-1) wm6)))))))
set_option maxHeartbeats 4000000 in
set_option maxRecDepth 100000 in
theorem c_X4_face (l : Launch) (D : va_G) (cy cz : ClassId) (t1 t2 : Nat) (hm : Nat) (am : Nat → Nat) (x1 : Int32) (x2 : Int32) (wm : Wd) (Q : Int32 → Wd → Prop) (hq : k_X4_face x1 x2 wm Q) : Ct l D cy cz t1 t2 yX4_face cX4_face 3 (some .int) (rM 5 119) [.ref hm, .int x1, .int x2] (cM cy cz hm am wm) (QI D (S := Wd) (fun r u => Q r u) (fun u => (cM cy cz hm am u))) := by
  refine Ct.of (own := RX4) (by decide) rfl (Nat.le_of_ble_eq_true rfl) ?_
  intro p e s m below meth c A ls hC hW hl
  unfold k_X4_face at hq
  have hl : lv_has ls 3 [(0, .ref hm), (1, .int x1), (2, .int x2)] := hl
  refine lv_aload_n hC.x hC.b dX4_face_0 rfl (lv_at hl 0 rfl) ?_
  refine hc_goVW hC hW (hc_rV hC (c_X4_lay l D cy cz t1 t2 hm am wm _ hq) (hc_preW hC hW) hW 0 4 rfl rfl q_182 q_183 q_184 q_5 q_185 hd_X4_lay ⟨rfl, rfl⟩ ⟨Nat.le_of_ble_eq_true rfl, Nat.le_of_ble_eq_true rfl⟩ rfl hl.1 rfl (Nat.le_of_ble_eq_true rfl) dX4_face_1 ⟨Nat.zero_le _, Nat.zero_le _⟩) (fun u9 H locs hq hW => ?_)
  obtain ⟨wm1, rfl⟩ : ∃ z, z = u9 := ⟨_, rfl⟩
  try dsimp only at hq hW
  refine lv_aload_n hC.x hC.b dX4_face_4 rfl (lv_at hl 0 rfl) ?_
  refine lv_iload_n hC.x hC.b dX4_face_5 rfl (lv_at hl 1 rfl) ?_
  refine hc_goIW hC hW (hc_rV hC (c_X4_isFace l D cy cz t1 t2 hm am x1 wm1 _ hq) (hc_preW hC hW) hW 0 4 rfl rfl q_289 q_290 q_291 q_5 q_292 hd_X4_isFace ⟨rfl, rfl⟩ ⟨Nat.le_of_ble_eq_true rfl, Nat.le_of_ble_eq_true rfl⟩ rfl hl.1 rfl (Nat.le_of_ble_eq_true rfl) dX4_face_6 ⟨Nat.zero_le _, Nat.zero_le _⟩) (fun r6 u9 H locs hq hW => ?_)
  obtain ⟨wm6, rfl⟩ : ∃ z, z = u9 := ⟨_, rfl⟩
  try dsimp only at hq hW
  refine lv_if_ne (tgt := 14) hC.x hC.b dX4_face_9 (by decide) (fun hc9 => ?_) (fun hc9 => ?_)
  · replace hq := hq.1 hc9
    refine lv_iload_n hC.x hC.b dX4_face_14 rfl (lv_at hl 2 rfl) ?_
    by_cases hs0 : x2 = 0
    · refine lv_tableIn (tgt := 44) hC.x hC.b dX4_face_15 (by rw [hs0]; decide) (by rw [hs0]; decide) (by rw [hs0]; rfl) (by decide) ?_
      replace hq := hq.1 hs0
      refine lv_aload_n hC.x hC.b dX4_face_44 rfl (lv_at hl 0 rfl) ?_
      refine hc_get (v := .ref (am 3)) hC hW 0 4 3 inX4 rfl rfl (by decide) q_95 rfl dX4_face_45 ?_
      refine lv_iload_n hC.x hC.b dX4_face_48 rfl (lv_at hl 1 rfl) ?_
      refine hc_iald hC hW 4 rfl hq.1 dX4_face_49 ?_
      replace hq := hq.2
      exact hc_iret hC (wm6) hW hq dX4_face_50
    by_cases hs1 : x2 = 1
    · refine lv_tableIn (tgt := 51) hC.x hC.b dX4_face_15 (by rw [hs1]; decide) (by rw [hs1]; decide) (by rw [hs1]; rfl) (by decide) ?_
      replace hq := hq.2.1 hs1
      refine lv_aload_n hC.x hC.b dX4_face_51 rfl (lv_at hl 0 rfl) ?_
      refine hc_get (v := .ref (am 4)) hC hW 0 4 4 inX4 rfl rfl (by decide) q_96 rfl dX4_face_52 ?_
      refine lv_iload_n hC.x hC.b dX4_face_55 rfl (lv_at hl 1 rfl) ?_
      refine hc_iald hC hW 5 rfl hq.1 dX4_face_56 ?_
      replace hq := hq.2
      refine lv_bipush (v := 100) hC.x hC.b dX4_face_57 (by decide) ?_
      refine lv_iadd hC.x hC.b dX4_face_59 ?_
      exact hc_iret hC (wm6) hW hq dX4_face_60
    by_cases hs2 : x2 = 2
    · refine lv_tableIn (tgt := 61) hC.x hC.b dX4_face_15 (by rw [hs2]; decide) (by rw [hs2]; decide) (by rw [hs2]; rfl) (by decide) ?_
      replace hq := hq.2.2.1 hs2
      refine lv_aload_n hC.x hC.b dX4_face_61 rfl (lv_at hl 0 rfl) ?_
      refine hc_get (v := .ref (am 5)) hC hW 0 4 5 inX4 rfl rfl (by decide) q_97 rfl dX4_face_62 ?_
      refine lv_iload_n hC.x hC.b dX4_face_65 rfl (lv_at hl 1 rfl) ?_
      refine hc_iald hC hW 6 rfl hq.1 dX4_face_66 ?_
      replace hq := hq.2
      refine lv_bipush (v := 100) hC.x hC.b dX4_face_67 (by decide) ?_
      refine lv_iadd hC.x hC.b dX4_face_69 ?_
      exact hc_iret hC (wm6) hW hq dX4_face_70
    by_cases hs3 : x2 = 3
    · refine lv_tableIn (tgt := 71) hC.x hC.b dX4_face_15 (by rw [hs3]; decide) (by rw [hs3]; decide) (by rw [hs3]; rfl) (by decide) ?_
      replace hq := hq.2.2.2.1 hs3
      refine lv_aload_n hC.x hC.b dX4_face_71 rfl (lv_at hl 0 rfl) ?_
      refine hc_get (v := .ref (am 6)) hC hW 0 4 6 inX4 rfl rfl (by decide) q_98 rfl dX4_face_72 ?_
      refine lv_iload_n hC.x hC.b dX4_face_75 rfl (lv_at hl 1 rfl) ?_
      refine hc_iald hC hW 7 rfl hq.1 dX4_face_76 ?_
      replace hq := hq.2
      exact hc_iret hC (wm6) hW hq dX4_face_77
    refine lv_tableOut (tgt := 78) hC.x hC.b dX4_face_15 (by have e0 := lv_neT (a := 0) hs0 rfl; have e1 := lv_neT (a := 1) hs1 rfl; have e2 := lv_neT (a := 2) hs2 rfl; have e3 := lv_neT (a := 3) hs3 rfl; omega) (by decide) ?_
    replace hq := hq.2.2.2.2 ⟨hs0, hs1, hs2, hs3⟩
    refine lv_bipush (v := (-2)) hC.x hC.b dX4_face_78 (by decide) ?_
    exact hc_iret hC (wm6) hW hq dX4_face_80
  · replace hq := hq.2 hc9
    refine lv_iconst (v := (-1)) hC.x hC.b dX4_face_12 (by decide) ?_
    exact hc_iret hC (wm6) hW hq dX4_face_13
def k_X4_on_37  (Q : Int32 → Wd → Prop)  (wm : Wd) : Prop :=
 (Q 0 wm)
set_option maxHeartbeats 4000000 in
set_option maxRecDepth 100000 in
theorem B_X4_on_37 {l : Launch} {p : Program} {e : Env} {s : State} {m : MethodId} {args : Array Value} {below : List Frame} {meth : Method} {c : Code} {A : Nat → Prop} {D : va_G} {cy cz : ClassId} {t1 t2 : Nat} (hm : Nat) (am : Nat → Nat) (Q : Int32 → Wd → Prop)  (hC : Cx D cy cz t1 t2 p s m args meth c cX4_on 3 (some .int) RX4 A)  (wm : Wd) {H : Heap} {locs : List Loc} {ls : Array Slot} (hq : k_X4_on_37  Q  wm) (hW : Wo D A s (cM cy cz hm am wm) H locs) (hl : lv_has ls 3 []) : W p l e (rM 5 119) s m args below meth c H locs 0 0 (MQ below (QI D (S := Wd) (fun r u => Q r u) (fun u => (cM cy cz hm am u)) A) args s 0 0 A) (F0 m 37 ls []) := by
  unfold k_X4_on_37 at hq
  refine lv_iconst (v := 0) hC.x hC.b dX4_on_37 (by decide) ?_
  refine lv_goto (tgt := 51) hC.x hC.b dX4_on_38 (by decide) ?_
  exact hc_iret hC (wm) hW hq dX4_on_51
def k_X4_on (x1 : Int32) (x2 : Int32) (wm : Wd) (Q : Int32 → Wd → Prop) : Prop :=
 (k_X4_in x1 (-12) 12 (fun r5 => ((r5 = 0 → (Q (-2) wm)) ∧
 (¬ r5 = 0 → (k_X4_in x2 (-12) 12 (fun r16 => ((¬ r16 = 0 → (k_X4_lay wm (fun wm26 => ((x1 < 0 → (k_X4_on_37  Q wm26)) ∧
 (¬ x1 < 0 → (((0 : Int32) ≤ x2 → (k_X4_at x1 x2 (fun r47 => (vp_in r47 169 ∧ (Q (wm26 15 (r47).toNatClampNeg) wm26))))) ∧
 (¬ (0 : Int32) ≤ x2 → (k_X4_on_37  Q wm26)))))))) ∧
 (r16 = 0 → (Q (-2) wm)))))))))
set_option maxHeartbeats 4000000 in
set_option maxRecDepth 100000 in
theorem c_X4_on (l : Launch) (D : va_G) (cy cz : ClassId) (t1 t2 : Nat) (hm : Nat) (am : Nat → Nat) (x1 : Int32) (x2 : Int32) (wm : Wd) (Q : Int32 → Wd → Prop) (hq : k_X4_on x1 x2 wm Q) : Ct l D cy cz t1 t2 yX4_on cX4_on 3 (some .int) (rM 5 119) [.ref hm, .int x1, .int x2] (cM cy cz hm am wm) (QI D (S := Wd) (fun r u => Q r u) (fun u => (cM cy cz hm am u))) := by
  refine Ct.of (own := RX4) (by decide) rfl (Nat.le_of_ble_eq_true rfl) ?_
  intro p e s m below meth c A ls hC hW hl
  unfold k_X4_on at hq
  have hl : lv_has ls 3 [(0, .ref hm), (1, .int x1), (2, .int x2)] := hl
  refine lv_iload_n hC.x hC.b dX4_on_0 rfl (lv_at hl 1 rfl) ?_
  refine lv_bipush (v := (-12)) hC.x hC.b dX4_on_1 (by decide) ?_
  refine lv_bipush (v := 12) hC.x hC.b dX4_on_3 (by decide) ?_
  refine hc_goP hC hW (hc_rS hC (c_X4_in l D cy cz t1 t2 x1 (-12) 12 _ hq) (hc_preP hC hW) q_120 q_121 q_5 q_122 hd_X4_in ⟨rfl, rfl⟩ ⟨Nat.le_of_ble_eq_true rfl, Nat.le_of_ble_eq_true rfl⟩ rfl hl.1 rfl (Nat.le_of_ble_eq_true rfl) dX4_on_5 ⟨Nat.zero_le _, Nat.zero_le _⟩) (fun r5 H locs hq hW => ?_)
  try dsimp only at hq
  refine lv_if_eq (tgt := 22) hC.x hC.b dX4_on_8 (by decide) (fun hc9 => ?_) (fun hc9 => ?_)
  · replace hq := hq.1 hc9
    refine lv_bipush (v := (-2)) hC.x hC.b dX4_on_22 (by decide) ?_
    exact hc_iret hC (wm) hW hq dX4_on_24
  · replace hq := hq.2 hc9
    refine lv_iload_n hC.x hC.b dX4_on_11 rfl (lv_at hl 2 rfl) ?_
    refine lv_bipush (v := (-12)) hC.x hC.b dX4_on_12 (by decide) ?_
    refine lv_bipush (v := 12) hC.x hC.b dX4_on_14 (by decide) ?_
    refine hc_goP hC hW (hc_rS hC (c_X4_in l D cy cz t1 t2 x2 (-12) 12 _ hq) (hc_preP hC hW) q_120 q_121 q_5 q_122 hd_X4_in ⟨rfl, rfl⟩ ⟨Nat.le_of_ble_eq_true rfl, Nat.le_of_ble_eq_true rfl⟩ rfl hl.1 rfl (Nat.le_of_ble_eq_true rfl) dX4_on_16 ⟨Nat.zero_le _, Nat.zero_le _⟩) (fun r16 H locs hq hW => ?_)
    try dsimp only at hq
    refine lv_if_ne (tgt := 25) hC.x hC.b dX4_on_19 (by decide) (fun hc9 => ?_) (fun hc9 => ?_)
    · replace hq := hq.1 hc9
      refine lv_aload_n hC.x hC.b dX4_on_25 rfl (lv_at hl 0 rfl) ?_
      refine hc_goVW hC hW (hc_rV hC (c_X4_lay l D cy cz t1 t2 hm am wm _ hq) (hc_preW hC hW) hW 0 4 rfl rfl q_182 q_183 q_184 q_5 q_185 hd_X4_lay ⟨rfl, rfl⟩ ⟨Nat.le_of_ble_eq_true rfl, Nat.le_of_ble_eq_true rfl⟩ rfl hl.1 rfl (Nat.le_of_ble_eq_true rfl) dX4_on_26 ⟨Nat.zero_le _, Nat.zero_le _⟩) (fun u9 H locs hq hW => ?_)
      obtain ⟨wm26, rfl⟩ : ∃ z, z = u9 := ⟨_, rfl⟩
      try dsimp only at hq hW
      refine lv_iload_n hC.x hC.b dX4_on_29 rfl (lv_at hl 1 rfl) ?_
      refine lv_if_lt (tgt := 37) hC.x hC.b dX4_on_30 (by decide) (fun hc9 => ?_) (fun hc9 => ?_)
      · replace hq := hq.1 hc9
        exact B_X4_on_37 hm am Q  hC wm26 hq hW (lv_sub hl [] rfl)
      · replace hq := hq.2 hc9
        refine lv_iload_n hC.x hC.b dX4_on_33 rfl (lv_at hl 2 rfl) ?_
        refine lv_if_ge (tgt := 41) hC.x hC.b dX4_on_34 (by decide) (fun hc9 => ?_) (fun hc9 => ?_)
        · replace hq := hq.1 hc9
          refine lv_aload_n hC.x hC.b dX4_on_41 rfl (lv_at hl 0 rfl) ?_
          refine hc_get (v := .ref (am 15)) hC hW 0 4 15 inX4 rfl rfl (by decide) q_105 rfl dX4_on_42 ?_
          refine lv_iload_n hC.x hC.b dX4_on_45 rfl (lv_at hl 1 rfl) ?_
          refine lv_iload_n hC.x hC.b dX4_on_46 rfl (lv_at hl 2 rfl) ?_
          refine hc_goP hC hW (hc_rS hC (c_X4_at l D cy cz t1 t2 x1 x2 _ hq) (hc_preP hC hW) q_195 q_196 q_5 q_197 hd_X4_at ⟨rfl, rfl⟩ ⟨Nat.le_of_ble_eq_true rfl, Nat.le_of_ble_eq_true rfl⟩ rfl hl.1 rfl (Nat.le_of_ble_eq_true rfl) dX4_on_47 ⟨Nat.zero_le _, Nat.zero_le _⟩) (fun r47 H locs hq hW => ?_)
          try dsimp only at hq
          refine hc_iald hC hW 14 rfl hq.1 dX4_on_50 ?_
          replace hq := hq.2
          exact hc_iret hC (wm26) hW hq dX4_on_51
        · replace hq := hq.2 hc9
          exact B_X4_on_37 hm am Q  hC wm26 hq hW (lv_sub hl [] rfl)
    · replace hq := hq.2 hc9
      refine lv_bipush (v := (-2)) hC.x hC.b dX4_on_22 (by decide) ?_
      exact hc_iret hC (wm) hW hq dX4_on_24
def k_X4_keepBest (x1 : Int32) (x2 : Int32) (x3 : Int32) (wm : Wd) (Q : Wd → Prop) : Prop :=
 (((x2 * x3) ≤ (wm 17 0) → (Q wm)) ∧
 (¬ (x2 * x3) ≤ (wm 17 0) → (Q (up2 (up2 (up2 (up2 wm 17 0 (x2 * x3)) 18 0 x1) 19 0 x2) 20 0 x3))))
set_option maxHeartbeats 4000000 in
set_option maxRecDepth 100000 in
theorem c_X4_keepBest (l : Launch) (D : va_G) (cy cz : ClassId) (t1 t2 : Nat) (hm : Nat) (am : Nat → Nat) (x1 : Int32) (x2 : Int32) (x3 : Int32) (wm : Wd) (Q : Wd → Prop) (hq : k_X4_keepBest x1 x2 x3 wm Q) : Ct l D cy cz t1 t2 yX4_keepBest cX4_keepBest 4 none (rM 0 0) [.ref hm, .int x1, .int x2, .int x3] (cM cy cz hm am wm) (QV D (S := Wd) (fun u => Q u) (fun u => (cM cy cz hm am u))) := by
  refine Ct.of (own := RX4) (by decide) rfl (Nat.le_of_ble_eq_true rfl) ?_
  intro p e s m below meth c A ls hC hW hl
  unfold k_X4_keepBest at hq
  have hl : lv_has ls 4 [(0, .ref hm), (1, .int x1), (2, .int x2), (3, .int x3)] := hl
  refine lv_iload_n hC.x hC.b dX4_keepBest_0 rfl (lv_at hl 2 rfl) ?_
  refine lv_iload_n hC.x hC.b dX4_keepBest_1 rfl (lv_at hl 3 rfl) ?_
  refine lv_imul hC.x hC.b dX4_keepBest_2 ?_
  refine lv_aload_n hC.x hC.b dX4_keepBest_3 rfl (lv_at hl 0 rfl) ?_
  refine hc_get (v := .int (wm 17 0)) hC hW 0 4 17 inX4 rfl rfl (by decide) q_346 rfl dX4_keepBest_4 ?_
  refine lv_icmp_le (tgt := 32) hC.x hC.b dX4_keepBest_7 (by decide) (fun hc9 => ?_) (fun hc9 => ?_)
  · replace hq := hq.1 hc9
    exact hc_vret hC (wm) hW hq dX4_keepBest_32
  · replace hq := hq.2 hc9
    refine lv_aload_n hC.x hC.b dX4_keepBest_10 rfl (lv_at hl 0 rfl) ?_
    refine lv_iload_n hC.x hC.b dX4_keepBest_11 rfl (lv_at hl 2 rfl) ?_
    refine lv_iload_n hC.x hC.b dX4_keepBest_12 rfl (lv_at hl 3 rfl) ?_
    refine lv_imul hC.x hC.b dX4_keepBest_13 ?_
    refine hc_put (ws' := (cM cy cz hm am (up2 wm 17 0 (x2 * x3)))) hC hW 0 4 17 inX4 tyX4 tyX4_ok nmX4 rfl rfl (by decide) q_346 rfl rfl rfl rfl (Nat.le_of_ble_eq_true rfl) (cM_put_17 ..) dX4_keepBest_14 (fun H locs hW => ?_)
    refine lv_aload_n hC.x hC.b dX4_keepBest_17 rfl (lv_at hl 0 rfl) ?_
    refine lv_iload_n hC.x hC.b dX4_keepBest_18 rfl (lv_at hl 1 rfl) ?_
    refine hc_put (ws' := (cM cy cz hm am (up2 (up2 wm 17 0 (x2 * x3)) 18 0 x1))) hC hW 0 4 18 inX4 tyX4 tyX4_ok nmX4 rfl rfl (by decide) q_347 rfl rfl rfl rfl (Nat.le_of_ble_eq_true rfl) (cM_put_18 ..) dX4_keepBest_19 (fun H locs hW => ?_)
    refine lv_aload_n hC.x hC.b dX4_keepBest_22 rfl (lv_at hl 0 rfl) ?_
    refine lv_iload_n hC.x hC.b dX4_keepBest_23 rfl (lv_at hl 2 rfl) ?_
    refine hc_put (ws' := (cM cy cz hm am (up2 (up2 (up2 wm 17 0 (x2 * x3)) 18 0 x1) 19 0 x2))) hC hW 0 4 19 inX4 tyX4 tyX4_ok nmX4 rfl rfl (by decide) q_348 rfl rfl rfl rfl (Nat.le_of_ble_eq_true rfl) (cM_put_19 ..) dX4_keepBest_24 (fun H locs hW => ?_)
    refine lv_aload_n hC.x hC.b dX4_keepBest_27 rfl (lv_at hl 0 rfl) ?_
    refine lv_iload_n hC.x hC.b dX4_keepBest_28 rfl (lv_at hl 3 rfl) ?_
    refine hc_put (ws' := (cM cy cz hm am (up2 (up2 (up2 (up2 wm 17 0 (x2 * x3)) 18 0 x1) 19 0 x2) 20 0 x3))) hC hW 0 4 20 inX4 tyX4 tyX4_ok nmX4 rfl rfl (by decide) q_349 rfl rfl rfl rfl (Nat.le_of_ble_eq_true rfl) (cM_put_20 ..) dX4_keepBest_29 (fun H locs hW => ?_)
    exact hc_vret hC ((up2 (up2 (up2 (up2 wm 17 0 (x2 * x3)) 18 0 x1) 19 0 x2) 20 0 x3)) hW hq dX4_keepBest_32
def k_X4_layWays_109 (K30 : (Int32 × Int32 × Wd) → Prop) (K62 : (Int32 × Int32 × Int32 × Int32 × Int32 × Wd) → Prop) (K71 : (Int32 × Int32 × Int32 × Int32 × Int32 × Int32 × Wd) → Prop) (Q : Wd → Prop) (x1 : Int32) (x2 : Int32) (x3 : Int32) (x4 : Int32) (x5 : Int32) (x6 : Int32) (wm : Wd) : Prop :=
 (K71 (x1, x2, x3, x4, x5, (x6 + 1), wm))
set_option maxHeartbeats 4000000 in
set_option maxRecDepth 100000 in
theorem B_X4_layWays_109 {l : Launch} {p : Program} {e : Env} {s : State} {m : MethodId} {args : Array Value} {below : List Frame} {meth : Method} {c : Code} {A : Nat → Prop} {D : va_G} {cy cz : ClassId} {t1 t2 : Nat} (hm : Nat) (am : Nat → Nat) (Q : Wd → Prop) (K30 : (Int32 × Int32 × Wd) → Prop) (hK30 : ∀ b9 : Int32 × Int32 × Wd, K30 b9 → ∀ (H : Heap) (locs : List Loc) (ls : Array Slot), Wo D A s (cM cy cz hm am b9.2.2) H locs → lv_has ls 7 [(0, .ref hm), (1, .int b9.1), (2, .int b9.2.1)] → W p l e (rM 4 95) s m args below meth c H locs 0 0 (MQ below (QV D (S := Wd) (fun u => Q u) (fun u => (cM cy cz hm am u)) A) args s 0 0 A) (F0 m 30 ls [])) (K62 : (Int32 × Int32 × Int32 × Int32 × Int32 × Wd) → Prop) (hK62 : ∀ b9 : Int32 × Int32 × Int32 × Int32 × Int32 × Wd, K62 b9 → ∀ (H : Heap) (locs : List Loc) (ls : Array Slot), Wo D A s (cM cy cz hm am b9.2.2.2.2.2) H locs → lv_has ls 7 [(0, .ref hm), (1, .int b9.1), (2, .int b9.2.1), (3, .int b9.2.2.1), (4, .int b9.2.2.2.1), (5, .int b9.2.2.2.2.1)] → W p l e (rM 4 95) s m args below meth c H locs 0 0 (MQ below (QV D (S := Wd) (fun u => Q u) (fun u => (cM cy cz hm am u)) A) args s 0 0 A) (F0 m 62 ls [])) (K71 : (Int32 × Int32 × Int32 × Int32 × Int32 × Int32 × Wd) → Prop) (hK71 : ∀ b9 : Int32 × Int32 × Int32 × Int32 × Int32 × Int32 × Wd, K71 b9 → ∀ (H : Heap) (locs : List Loc) (ls : Array Slot), Wo D A s (cM cy cz hm am b9.2.2.2.2.2.2) H locs → lv_has ls 7 [(0, .ref hm), (1, .int b9.1), (2, .int b9.2.1), (3, .int b9.2.2.1), (4, .int b9.2.2.2.1), (5, .int b9.2.2.2.2.1), (6, .int b9.2.2.2.2.2.1)] → W p l e (rM 4 95) s m args below meth c H locs 0 0 (MQ below (QV D (S := Wd) (fun u => Q u) (fun u => (cM cy cz hm am u)) A) args s 0 0 A) (F0 m 71 ls [])) (hC : Cx D cy cz t1 t2 p s m args meth c cX4_layWays 7 none RX4 A) (x1 : Int32) (x2 : Int32) (x3 : Int32) (x4 : Int32) (x5 : Int32) (x6 : Int32) (wm : Wd) {H : Heap} {locs : List Loc} {ls : Array Slot} (hq : k_X4_layWays_109 K30 K62 K71 Q x1 x2 x3 x4 x5 x6 wm) (hW : Wo D A s (cM cy cz hm am wm) H locs) (hl : lv_has ls 7 [(0, .ref hm), (1, .int x1), (2, .int x2), (3, .int x3), (4, .int x4), (5, .int x5), (6, .int x6)]) : W p l e (rM 4 95) s m args below meth c H locs 0 0 (MQ below (QV D (S := Wd) (fun u => Q u) (fun u => (cM cy cz hm am u)) A) args s 0 0 A) (F0 m 109 ls []) := by
  unfold k_X4_layWays_109 at hq
  refine lv_iinc (v := (x6 + 1)) (lv' := [(6, .int (x6 + 1)), (0, .ref hm), (1, .int x1), (2, .int x2), (3, .int x3), (4, .int x4), (5, .int x5)]) hC.x hC.b dX4_layWays_109 hl (k := 6) rfl rfl (by decide) rfl (fun ls hl => ?_)
  refine lv_goto (tgt := 71) hC.x hC.b dX4_layWays_112 (by decide) ?_
  exact hK71 (x1, x2, x3, x4, x5, (x6 + 1), wm) hq _ _ _ hW (lv_sub hl [1, 2, 3, 4, 5, 6, 0] rfl)
def k_X4_layWays_71 (K30 : (Int32 × Int32 × Wd) → Prop) (K62 : (Int32 × Int32 × Int32 × Int32 × Int32 × Wd) → Prop) (K71 : (Int32 × Int32 × Int32 × Int32 × Int32 × Int32 × Wd) → Prop) (Q : Wd → Prop) (x1 : Int32) (x2 : Int32) (x3 : Int32) (x4 : Int32) (x5 : Int32) (x6 : Int32) (wm : Wd) : Prop :=
 ((x4 < x6 → (K62 (x1, x2, x3, x4, (x5 + 1), wm))) ∧
 (¬ x4 < x6 → (k_X4_whyNot x2 x5 x6 wm (fun r84 wm84 => ((¬ r84 = 0 → (k_X4_layWays_109 K30 K62 K71 Q x1 x2 x3 x4 x5 x6 wm84)) ∧
 (r84 = 0 → (k_X4_keepBest x2 x5 x6 wm84 (fun wm96 => (k_X4_layWays_109 K30 K62 K71 Q x1 x2 x3 x4 x5 x6 (up2 wm96 16 0 ((wm96 16 0) + 1)))))))))))
set_option maxHeartbeats 4000000 in
set_option maxRecDepth 100000 in
theorem B_X4_layWays_71 {l : Launch} {p : Program} {e : Env} {s : State} {m : MethodId} {args : Array Value} {below : List Frame} {meth : Method} {c : Code} {A : Nat → Prop} {D : va_G} {cy cz : ClassId} {t1 t2 : Nat} (hm : Nat) (am : Nat → Nat) (Q : Wd → Prop) (K30 : (Int32 × Int32 × Wd) → Prop) (hK30 : ∀ b9 : Int32 × Int32 × Wd, K30 b9 → ∀ (H : Heap) (locs : List Loc) (ls : Array Slot), Wo D A s (cM cy cz hm am b9.2.2) H locs → lv_has ls 7 [(0, .ref hm), (1, .int b9.1), (2, .int b9.2.1)] → W p l e (rM 4 95) s m args below meth c H locs 0 0 (MQ below (QV D (S := Wd) (fun u => Q u) (fun u => (cM cy cz hm am u)) A) args s 0 0 A) (F0 m 30 ls [])) (K62 : (Int32 × Int32 × Int32 × Int32 × Int32 × Wd) → Prop) (hK62 : ∀ b9 : Int32 × Int32 × Int32 × Int32 × Int32 × Wd, K62 b9 → ∀ (H : Heap) (locs : List Loc) (ls : Array Slot), Wo D A s (cM cy cz hm am b9.2.2.2.2.2) H locs → lv_has ls 7 [(0, .ref hm), (1, .int b9.1), (2, .int b9.2.1), (3, .int b9.2.2.1), (4, .int b9.2.2.2.1), (5, .int b9.2.2.2.2.1)] → W p l e (rM 4 95) s m args below meth c H locs 0 0 (MQ below (QV D (S := Wd) (fun u => Q u) (fun u => (cM cy cz hm am u)) A) args s 0 0 A) (F0 m 62 ls [])) (K71 : (Int32 × Int32 × Int32 × Int32 × Int32 × Int32 × Wd) → Prop) (hK71 : ∀ b9 : Int32 × Int32 × Int32 × Int32 × Int32 × Int32 × Wd, K71 b9 → ∀ (H : Heap) (locs : List Loc) (ls : Array Slot), Wo D A s (cM cy cz hm am b9.2.2.2.2.2.2) H locs → lv_has ls 7 [(0, .ref hm), (1, .int b9.1), (2, .int b9.2.1), (3, .int b9.2.2.1), (4, .int b9.2.2.2.1), (5, .int b9.2.2.2.2.1), (6, .int b9.2.2.2.2.2.1)] → W p l e (rM 4 95) s m args below meth c H locs 0 0 (MQ below (QV D (S := Wd) (fun u => Q u) (fun u => (cM cy cz hm am u)) A) args s 0 0 A) (F0 m 71 ls [])) (hC : Cx D cy cz t1 t2 p s m args meth c cX4_layWays 7 none RX4 A) (x1 : Int32) (x2 : Int32) (x3 : Int32) (x4 : Int32) (x5 : Int32) (x6 : Int32) (wm : Wd) {H : Heap} {locs : List Loc} {ls : Array Slot} (hq : k_X4_layWays_71 K30 K62 K71 Q x1 x2 x3 x4 x5 x6 wm) (hW : Wo D A s (cM cy cz hm am wm) H locs) (hl : lv_has ls 7 [(0, .ref hm), (1, .int x1), (2, .int x2), (3, .int x3), (4, .int x4), (5, .int x5), (6, .int x6)]) : W p l e (rM 4 95) s m args below meth c H locs 0 0 (MQ below (QV D (S := Wd) (fun u => Q u) (fun u => (cM cy cz hm am u)) A) args s 0 0 A) (F0 m 71 ls []) := by
  unfold k_X4_layWays_71 at hq
  refine lv_iload hC.x hC.b dX4_layWays_71 (lv_at hl 6 rfl) ?_
  refine lv_iload hC.x hC.b dX4_layWays_73 (lv_at hl 4 rfl) ?_
  refine lv_icmp_gt (tgt := 115) hC.x hC.b dX4_layWays_75 (by decide) (fun hc9 => ?_) (fun hc9 => ?_)
  · replace hq := hq.1 hc9
    refine lv_iinc (v := (x5 + 1)) (lv' := [(5, .int (x5 + 1)), (0, .ref hm), (1, .int x1), (2, .int x2), (3, .int x3), (4, .int x4), (6, .int x6)]) hC.x hC.b dX4_layWays_115 hl (k := 5) rfl rfl (by decide) rfl (fun ls hl => ?_)
    refine lv_goto (tgt := 62) hC.x hC.b dX4_layWays_118 (by decide) ?_
    exact hK62 (x1, x2, x3, x4, (x5 + 1), wm) hq _ _ _ hW (lv_sub hl [1, 2, 3, 4, 5, 0] rfl)
  · replace hq := hq.2 hc9
    refine lv_aload_n hC.x hC.b dX4_layWays_78 rfl (lv_at hl 0 rfl) ?_
    refine lv_iload_n hC.x hC.b dX4_layWays_79 rfl (lv_at hl 2 rfl) ?_
    refine lv_iload hC.x hC.b dX4_layWays_80 (lv_at hl 5 rfl) ?_
    refine lv_iload hC.x hC.b dX4_layWays_82 (lv_at hl 6 rfl) ?_
    refine hc_goIW hC hW (hc_rV hC (c_X4_whyNot l D cy cz t1 t2 hm am x2 x5 x6 wm _ hq) (hc_preW hC hW) hW 0 4 rfl rfl q_213 q_214 q_215 q_5 q_216 hd_X4_whyNot ⟨rfl, rfl⟩ ⟨Nat.le_of_ble_eq_true rfl, Nat.le_of_ble_eq_true rfl⟩ rfl hl.1 rfl (Nat.le_of_ble_eq_true rfl) dX4_layWays_84 ⟨Nat.zero_le _, Nat.zero_le _⟩) (fun r84 u9 H locs hq hW => ?_)
    obtain ⟨wm84, rfl⟩ : ∃ z, z = u9 := ⟨_, rfl⟩
    try dsimp only at hq hW
    refine lv_if_ne (tgt := 109) hC.x hC.b dX4_layWays_87 (by decide) (fun hc9 => ?_) (fun hc9 => ?_)
    · replace hq := hq.1 hc9
      exact B_X4_layWays_109 hm am Q K30 hK30 K62 hK62 K71 hK71 hC x1 x2 x3 x4 x5 x6 wm84 hq hW (lv_sub hl [0, 1, 2, 3, 4, 5, 6] rfl)
    · replace hq := hq.2 hc9
      refine lv_aload_n hC.x hC.b dX4_layWays_90 rfl (lv_at hl 0 rfl) ?_
      refine lv_iload_n hC.x hC.b dX4_layWays_91 rfl (lv_at hl 2 rfl) ?_
      refine lv_iload hC.x hC.b dX4_layWays_92 (lv_at hl 5 rfl) ?_
      refine lv_iload hC.x hC.b dX4_layWays_94 (lv_at hl 6 rfl) ?_
      refine hc_goVW hC hW (hc_rV hC (c_X4_keepBest l D cy cz t1 t2 hm am x2 x5 x6 wm84 _ hq) (hc_preW hC hW) hW 0 4 rfl rfl q_350 q_351 q_352 q_5 q_353 hd_X4_keepBest ⟨rfl, rfl⟩ ⟨Nat.le_of_ble_eq_true rfl, Nat.le_of_ble_eq_true rfl⟩ rfl hl.1 rfl (Nat.le_of_ble_eq_true rfl) dX4_layWays_96 ⟨Nat.zero_le _, Nat.zero_le _⟩) (fun u9 H locs hq hW => ?_)
      obtain ⟨wm96, rfl⟩ : ∃ z, z = u9 := ⟨_, rfl⟩
      try dsimp only at hq hW
      refine lv_aload_n hC.x hC.b dX4_layWays_99 rfl (lv_at hl 0 rfl) ?_
      refine lv_dup hC.x hC.b dX4_layWays_100 rfl ?_
      refine hc_get (v := .int (wm96 16 0)) hC hW 0 4 16 inX4 rfl rfl (by decide) q_341 rfl dX4_layWays_101 ?_
      refine lv_iconst (v := 1) hC.x hC.b dX4_layWays_104 (by decide) ?_
      refine lv_iadd hC.x hC.b dX4_layWays_105 ?_
      refine hc_put (ws' := (cM cy cz hm am (up2 wm96 16 0 ((wm96 16 0) + 1)))) hC hW 0 4 16 inX4 tyX4 tyX4_ok nmX4 rfl rfl (by decide) q_341 rfl rfl rfl rfl (Nat.le_of_ble_eq_true rfl) (cM_put_16 ..) dX4_layWays_106 (fun H locs hW => ?_)
      exact B_X4_layWays_109 hm am Q K30 hK30 K62 hK62 K71 hK71 hC x1 x2 x3 x4 x5 x6 (up2 wm96 16 0 ((wm96 16 0) + 1)) hq hW (lv_sub hl [0, 1, 2, 3, 4, 5, 6] rfl)
def k_X4_layWays_62 (K30 : (Int32 × Int32 × Wd) → Prop) (K62 : (Int32 × Int32 × Int32 × Int32 × Int32 × Wd) → Prop) (Q : Wd → Prop) (x1 : Int32) (x2 : Int32) (x3 : Int32) (x4 : Int32) (x5 : Int32) (wm : Wd) : Prop :=
 ((x3 < x5 → (K30 (x1, (x2 + 1), wm))) ∧
 (¬ x3 < x5 → (∃ n : Nat, lpf (fun (K : (Int32 × Int32 × Int32 × Int32 × Int32 × Int32 × Wd) → Prop) (u : Int32 × Int32 × Int32 × Int32 × Int32 × Int32 × Wd) => k_X4_layWays_71 K30 K62 K Q u.1 u.2.1 u.2.2.1 u.2.2.2.1 u.2.2.2.2.1 u.2.2.2.2.2.1 u.2.2.2.2.2.2) n (x1, x2, x3, x4, x5, 1, wm))))
set_option maxHeartbeats 4000000 in
set_option maxRecDepth 100000 in
theorem B_X4_layWays_62 {l : Launch} {p : Program} {e : Env} {s : State} {m : MethodId} {args : Array Value} {below : List Frame} {meth : Method} {c : Code} {A : Nat → Prop} {D : va_G} {cy cz : ClassId} {t1 t2 : Nat} (hm : Nat) (am : Nat → Nat) (Q : Wd → Prop) (K30 : (Int32 × Int32 × Wd) → Prop) (hK30 : ∀ b9 : Int32 × Int32 × Wd, K30 b9 → ∀ (H : Heap) (locs : List Loc) (ls : Array Slot), Wo D A s (cM cy cz hm am b9.2.2) H locs → lv_has ls 7 [(0, .ref hm), (1, .int b9.1), (2, .int b9.2.1)] → W p l e (rM 4 95) s m args below meth c H locs 0 0 (MQ below (QV D (S := Wd) (fun u => Q u) (fun u => (cM cy cz hm am u)) A) args s 0 0 A) (F0 m 30 ls [])) (K62 : (Int32 × Int32 × Int32 × Int32 × Int32 × Wd) → Prop) (hK62 : ∀ b9 : Int32 × Int32 × Int32 × Int32 × Int32 × Wd, K62 b9 → ∀ (H : Heap) (locs : List Loc) (ls : Array Slot), Wo D A s (cM cy cz hm am b9.2.2.2.2.2) H locs → lv_has ls 7 [(0, .ref hm), (1, .int b9.1), (2, .int b9.2.1), (3, .int b9.2.2.1), (4, .int b9.2.2.2.1), (5, .int b9.2.2.2.2.1)] → W p l e (rM 4 95) s m args below meth c H locs 0 0 (MQ below (QV D (S := Wd) (fun u => Q u) (fun u => (cM cy cz hm am u)) A) args s 0 0 A) (F0 m 62 ls [])) (hC : Cx D cy cz t1 t2 p s m args meth c cX4_layWays 7 none RX4 A) (x1 : Int32) (x2 : Int32) (x3 : Int32) (x4 : Int32) (x5 : Int32) (wm : Wd) {H : Heap} {locs : List Loc} {ls : Array Slot} (hq : k_X4_layWays_62 K30 K62 Q x1 x2 x3 x4 x5 wm) (hW : Wo D A s (cM cy cz hm am wm) H locs) (hl : lv_has ls 7 [(0, .ref hm), (1, .int x1), (2, .int x2), (3, .int x3), (4, .int x4), (5, .int x5)]) : W p l e (rM 4 95) s m args below meth c H locs 0 0 (MQ below (QV D (S := Wd) (fun u => Q u) (fun u => (cM cy cz hm am u)) A) args s 0 0 A) (F0 m 62 ls []) := by
  unfold k_X4_layWays_62 at hq
  refine lv_iload hC.x hC.b dX4_layWays_62 (lv_at hl 5 rfl) ?_
  refine lv_iload_n hC.x hC.b dX4_layWays_64 rfl (lv_at hl 3 rfl) ?_
  refine lv_icmp_gt (tgt := 121) hC.x hC.b dX4_layWays_65 (by decide) (fun hc9 => ?_) (fun hc9 => ?_)
  · replace hq := hq.1 hc9
    refine lv_iinc (v := (x2 + 1)) (lv' := [(2, .int (x2 + 1)), (0, .ref hm), (1, .int x1), (3, .int x3), (4, .int x4), (5, .int x5)]) hC.x hC.b dX4_layWays_121 hl (k := 2) rfl rfl (by decide) rfl (fun ls hl => ?_)
    refine lv_goto (tgt := 30) hC.x hC.b dX4_layWays_124 (by decide) ?_
    exact hK30 (x1, (x2 + 1), wm) hq _ _ _ hW (lv_sub hl [1, 2, 0] rfl)
  · replace hq := hq.2 hc9
    refine lv_iconst (v := 1) hC.x hC.b dX4_layWays_68 (by decide) ?_
    refine lv_istore (lv' := [(6, .int 1), (0, .ref hm), (1, .int x1), (2, .int x2), (3, .int x3), (4, .int x4), (5, .int x5)]) hC.x hC.b dX4_layWays_69 hl (by decide) rfl (fun ls hl => ?_)
    obtain ⟨n9, hq⟩ := hq
    exact lpf_use (G := (fun (u : Int32 × Int32 × Int32 × Int32 × Int32 × Int32 × Wd) => ∀ (H : Heap) (locs : List Loc) (ls : Array Slot), Wo D A s (cM cy cz hm am u.2.2.2.2.2.2) H locs → lv_has ls 7 [(0, .ref hm), (1, .int u.1), (2, .int u.2.1), (3, .int u.2.2.1), (4, .int u.2.2.2.1), (5, .int u.2.2.2.2.1), (6, .int u.2.2.2.2.2.1)] → W p l e (rM 4 95) s m args below meth c H locs 0 0 (MQ below (QV D (S := Wd) (fun u => Q u) (fun u => (cM cy cz hm am u)) A) args s 0 0 A) (F0 m 71 ls []))) (fun K hK u hq H locs ls hW hl => B_X4_layWays_71 hm am Q K30 hK30 K62 hK62 K hK hC u.1 u.2.1 u.2.2.1 u.2.2.2.1 u.2.2.2.2.1 u.2.2.2.2.2.1 u.2.2.2.2.2.2 hq hW hl) n9 _ hq _ _ _ hW (lv_sub hl [1, 2, 3, 4, 5, 6, 0] rfl)
def k_X4_layWays_30 (K30 : (Int32 × Int32 × Wd) → Prop) (Q : Wd → Prop) (x1 : Int32) (x2 : Int32) (wm : Wd) : Prop :=
 (((wm 12 0) ≤ x2 → (Q wm)) ∧
 (¬ (wm 12 0) ≤ x2 → (((6 : Int32) ≤ x1 → (Q wm)) ∧
 (¬ (6 : Int32) ≤ x1 → (k_X4_reach x2 0 wm (fun r47 wm47 => (k_X4_reach x2 1 wm47 (fun r54 wm54 => (∃ n : Nat, lpf (fun (K : (Int32 × Int32 × Int32 × Int32 × Int32 × Wd) → Prop) (u : Int32 × Int32 × Int32 × Int32 × Int32 × Wd) => k_X4_layWays_62 K30 K Q u.1 u.2.1 u.2.2.1 u.2.2.2.1 u.2.2.2.2.1 u.2.2.2.2.2) n (x1, x2, r47, r54, 1, wm54))))))))))
set_option maxHeartbeats 4000000 in
set_option maxRecDepth 100000 in
theorem B_X4_layWays_30 {l : Launch} {p : Program} {e : Env} {s : State} {m : MethodId} {args : Array Value} {below : List Frame} {meth : Method} {c : Code} {A : Nat → Prop} {D : va_G} {cy cz : ClassId} {t1 t2 : Nat} (hm : Nat) (am : Nat → Nat) (Q : Wd → Prop) (K30 : (Int32 × Int32 × Wd) → Prop) (hK30 : ∀ b9 : Int32 × Int32 × Wd, K30 b9 → ∀ (H : Heap) (locs : List Loc) (ls : Array Slot), Wo D A s (cM cy cz hm am b9.2.2) H locs → lv_has ls 7 [(0, .ref hm), (1, .int b9.1), (2, .int b9.2.1)] → W p l e (rM 4 95) s m args below meth c H locs 0 0 (MQ below (QV D (S := Wd) (fun u => Q u) (fun u => (cM cy cz hm am u)) A) args s 0 0 A) (F0 m 30 ls [])) (hC : Cx D cy cz t1 t2 p s m args meth c cX4_layWays 7 none RX4 A) (x1 : Int32) (x2 : Int32) (wm : Wd) {H : Heap} {locs : List Loc} {ls : Array Slot} (hq : k_X4_layWays_30 K30 Q x1 x2 wm) (hW : Wo D A s (cM cy cz hm am wm) H locs) (hl : lv_has ls 7 [(0, .ref hm), (1, .int x1), (2, .int x2)]) : W p l e (rM 4 95) s m args below meth c H locs 0 0 (MQ below (QV D (S := Wd) (fun u => Q u) (fun u => (cM cy cz hm am u)) A) args s 0 0 A) (F0 m 30 ls []) := by
  unfold k_X4_layWays_30 at hq
  refine lv_iload_n hC.x hC.b dX4_layWays_30 rfl (lv_at hl 2 rfl) ?_
  refine lv_aload_n hC.x hC.b dX4_layWays_31 rfl (lv_at hl 0 rfl) ?_
  refine hc_get (v := .int (wm 12 0)) hC hW 0 4 12 inX4 rfl rfl (by decide) q_186 rfl dX4_layWays_32 ?_
  refine lv_icmp_ge (tgt := 127) hC.x hC.b dX4_layWays_35 (by decide) (fun hc9 => ?_) (fun hc9 => ?_)
  · replace hq := hq.1 hc9
    exact hc_vret hC (wm) hW hq dX4_layWays_127
  · replace hq := hq.2 hc9
    refine lv_iload_n hC.x hC.b dX4_layWays_38 rfl (lv_at hl 1 rfl) ?_
    refine lv_bipush (v := 6) hC.x hC.b dX4_layWays_39 (by decide) ?_
    refine lv_icmp_ge (tgt := 127) hC.x hC.b dX4_layWays_41 (by decide) (fun hc9 => ?_) (fun hc9 => ?_)
    · replace hq := hq.1 hc9
      exact hc_vret hC (wm) hW hq dX4_layWays_127
    · replace hq := hq.2 hc9
      refine lv_aload_n hC.x hC.b dX4_layWays_44 rfl (lv_at hl 0 rfl) ?_
      refine lv_iload_n hC.x hC.b dX4_layWays_45 rfl (lv_at hl 2 rfl) ?_
      refine lv_iconst (v := 0) hC.x hC.b dX4_layWays_46 (by decide) ?_
      refine hc_goIW hC hW (hc_rV hC (c_X4_reach l D cy cz t1 t2 hm am x2 0 wm _ hq) (hc_preW hC hW) hW 0 4 rfl rfl q_217 q_218 q_219 q_5 q_220 hd_X4_reach ⟨rfl, rfl⟩ ⟨Nat.le_of_ble_eq_true rfl, Nat.le_of_ble_eq_true rfl⟩ rfl hl.1 rfl (Nat.le_of_ble_eq_true rfl) dX4_layWays_47 ⟨Nat.zero_le _, Nat.zero_le _⟩) (fun r47 u9 H locs hq hW => ?_)
      obtain ⟨wm47, rfl⟩ : ∃ z, z = u9 := ⟨_, rfl⟩
      try dsimp only at hq hW
      refine lv_istore_n (lv' := [(3, .int r47), (0, .ref hm), (1, .int x1), (2, .int x2)]) hC.x hC.b dX4_layWays_50 rfl hl (by decide) rfl (fun ls hl => ?_)
      refine lv_aload_n hC.x hC.b dX4_layWays_51 rfl (lv_at hl 1 rfl) ?_
      refine lv_iload_n hC.x hC.b dX4_layWays_52 rfl (lv_at hl 3 rfl) ?_
      refine lv_iconst (v := 1) hC.x hC.b dX4_layWays_53 (by decide) ?_
      refine hc_goIW hC hW (hc_rV hC (c_X4_reach l D cy cz t1 t2 hm am x2 1 wm47 _ hq) (hc_preW hC hW) hW 0 4 rfl rfl q_217 q_218 q_219 q_5 q_220 hd_X4_reach ⟨rfl, rfl⟩ ⟨Nat.le_of_ble_eq_true rfl, Nat.le_of_ble_eq_true rfl⟩ rfl hl.1 rfl (Nat.le_of_ble_eq_true rfl) dX4_layWays_54 ⟨Nat.zero_le _, Nat.zero_le _⟩) (fun r54 u9 H locs hq hW => ?_)
      obtain ⟨wm54, rfl⟩ : ∃ z, z = u9 := ⟨_, rfl⟩
      try dsimp only at hq hW
      refine lv_istore (lv' := [(4, .int r54), (3, .int r47), (0, .ref hm), (1, .int x1), (2, .int x2)]) hC.x hC.b dX4_layWays_57 hl (by decide) rfl (fun ls hl => ?_)
      refine lv_iconst (v := 1) hC.x hC.b dX4_layWays_59 (by decide) ?_
      refine lv_istore (lv' := [(5, .int 1), (4, .int r54), (3, .int r47), (0, .ref hm), (1, .int x1), (2, .int x2)]) hC.x hC.b dX4_layWays_60 hl (by decide) rfl (fun ls hl => ?_)
      obtain ⟨n9, hq⟩ := hq
      exact lpf_use (G := (fun (u : Int32 × Int32 × Int32 × Int32 × Int32 × Wd) => ∀ (H : Heap) (locs : List Loc) (ls : Array Slot), Wo D A s (cM cy cz hm am u.2.2.2.2.2) H locs → lv_has ls 7 [(0, .ref hm), (1, .int u.1), (2, .int u.2.1), (3, .int u.2.2.1), (4, .int u.2.2.2.1), (5, .int u.2.2.2.2.1)] → W p l e (rM 4 95) s m args below meth c H locs 0 0 (MQ below (QV D (S := Wd) (fun u => Q u) (fun u => (cM cy cz hm am u)) A) args s 0 0 A) (F0 m 62 ls []))) (fun K hK u hq H locs ls hW hl => B_X4_layWays_62 hm am Q K30 hK30 K hK hC u.1 u.2.1 u.2.2.1 u.2.2.2.1 u.2.2.2.2.1 u.2.2.2.2.2 hq hW hl) n9 _ hq _ _ _ hW (lv_sub hl [3, 4, 5, 2, 1, 0] rfl)
def k_X4_layWays (x1 : Int32) (wm : Wd) (Q : Wd → Prop) : Prop :=
 (∃ n : Nat, lpf (fun (K : (Int32 × Int32 × Wd) → Prop) (u : Int32 × Int32 × Wd) => k_X4_layWays_30  K Q u.1 u.2.1 u.2.2) n (x1, 0, (up2 (up2 (up2 (up2 (up2 wm 16 0 0) 17 0 0) 18 0 (-6)) 19 0 (-6)) 20 0 (-6))))
set_option maxHeartbeats 4000000 in
set_option maxRecDepth 100000 in
theorem c_X4_layWays (l : Launch) (D : va_G) (cy cz : ClassId) (t1 t2 : Nat) (hm : Nat) (am : Nat → Nat) (x1 : Int32) (wm : Wd) (Q : Wd → Prop) (hq : k_X4_layWays x1 wm Q) : Ct l D cy cz t1 t2 yX4_layWays cX4_layWays 7 none (rM 4 95) [.ref hm, .int x1] (cM cy cz hm am wm) (QV D (S := Wd) (fun u => Q u) (fun u => (cM cy cz hm am u))) := by
  refine Ct.of (own := RX4) (by decide) rfl (Nat.le_of_ble_eq_true rfl) ?_
  intro p e s m below meth c A ls hC hW hl
  unfold k_X4_layWays at hq
  have hl : lv_has ls 7 [(0, .ref hm), (1, .int x1)] := hl
  refine lv_aload_n hC.x hC.b dX4_layWays_0 rfl (lv_at hl 0 rfl) ?_
  refine lv_iconst (v := 0) hC.x hC.b dX4_layWays_1 (by decide) ?_
  refine hc_put (ws' := (cM cy cz hm am (up2 wm 16 0 0))) hC hW 0 4 16 inX4 tyX4 tyX4_ok nmX4 rfl rfl (by decide) q_341 rfl rfl rfl rfl (Nat.le_of_ble_eq_true rfl) (cM_put_16 ..) dX4_layWays_2 (fun H locs hW => ?_)
  refine lv_aload_n hC.x hC.b dX4_layWays_5 rfl (lv_at hl 0 rfl) ?_
  refine lv_iconst (v := 0) hC.x hC.b dX4_layWays_6 (by decide) ?_
  refine hc_put (ws' := (cM cy cz hm am (up2 (up2 wm 16 0 0) 17 0 0))) hC hW 0 4 17 inX4 tyX4 tyX4_ok nmX4 rfl rfl (by decide) q_346 rfl rfl rfl rfl (Nat.le_of_ble_eq_true rfl) (cM_put_17 ..) dX4_layWays_7 (fun H locs hW => ?_)
  refine lv_aload_n hC.x hC.b dX4_layWays_10 rfl (lv_at hl 0 rfl) ?_
  refine lv_bipush (v := (-6)) hC.x hC.b dX4_layWays_11 (by decide) ?_
  refine hc_put (ws' := (cM cy cz hm am (up2 (up2 (up2 wm 16 0 0) 17 0 0) 18 0 (-6)))) hC hW 0 4 18 inX4 tyX4 tyX4_ok nmX4 rfl rfl (by decide) q_347 rfl rfl rfl rfl (Nat.le_of_ble_eq_true rfl) (cM_put_18 ..) dX4_layWays_13 (fun H locs hW => ?_)
  refine lv_aload_n hC.x hC.b dX4_layWays_16 rfl (lv_at hl 0 rfl) ?_
  refine lv_bipush (v := (-6)) hC.x hC.b dX4_layWays_17 (by decide) ?_
  refine hc_put (ws' := (cM cy cz hm am (up2 (up2 (up2 (up2 wm 16 0 0) 17 0 0) 18 0 (-6)) 19 0 (-6)))) hC hW 0 4 19 inX4 tyX4 tyX4_ok nmX4 rfl rfl (by decide) q_348 rfl rfl rfl rfl (Nat.le_of_ble_eq_true rfl) (cM_put_19 ..) dX4_layWays_19 (fun H locs hW => ?_)
  refine lv_aload_n hC.x hC.b dX4_layWays_22 rfl (lv_at hl 0 rfl) ?_
  refine lv_bipush (v := (-6)) hC.x hC.b dX4_layWays_23 (by decide) ?_
  refine hc_put (ws' := (cM cy cz hm am (up2 (up2 (up2 (up2 (up2 wm 16 0 0) 17 0 0) 18 0 (-6)) 19 0 (-6)) 20 0 (-6)))) hC hW 0 4 20 inX4 tyX4 tyX4_ok nmX4 rfl rfl (by decide) q_349 rfl rfl rfl rfl (Nat.le_of_ble_eq_true rfl) (cM_put_20 ..) dX4_layWays_25 (fun H locs hW => ?_)
  refine lv_iconst (v := 0) hC.x hC.b dX4_layWays_28 (by decide) ?_
  refine lv_istore_n (lv' := [(2, .int 0), (0, .ref hm), (1, .int x1)]) hC.x hC.b dX4_layWays_29 rfl hl (by decide) rfl (fun ls hl => ?_)
  obtain ⟨n9, hq⟩ := hq
  exact lpf_use (G := (fun (u : Int32 × Int32 × Wd) => ∀ (H : Heap) (locs : List Loc) (ls : Array Slot), Wo D A s (cM cy cz hm am u.2.2) H locs → lv_has ls 7 [(0, .ref hm), (1, .int u.1), (2, .int u.2.1)] → W p l e (rM 4 95) s m _ below meth c H locs 0 0 (MQ below (QV D (S := Wd) (fun u => Q u) (fun u => (cM cy cz hm am u)) A) _ s 0 0 A) (F0 m 30 ls []))) (fun K hK u hq H locs ls hW hl => B_X4_layWays_30 hm am Q  K hK hC u.1 u.2.1 u.2.2 hq hW hl) n9 _ hq _ _ _ hW (lv_sub hl [1, 2, 0] rfl)
def k_X4_ways  (wm : Wd) (Q : Int32 → Wd → Prop) : Prop :=
 (k_X4_lay wm (fun wm1 => (vp_in 1 20 ∧ (k_X4_layWays (wm1 0 ((1 : Int32)).toNatClampNeg) wm1 (fun wm11 => (Q (wm11 16 0) wm11))))))
set_option maxHeartbeats 4000000 in
set_option maxRecDepth 100000 in
theorem c_X4_ways (l : Launch) (D : va_G) (cy cz : ClassId) (t1 t2 : Nat) (hm : Nat) (am : Nat → Nat)  (wm : Wd) (Q : Int32 → Wd → Prop) (hq : k_X4_ways wm Q) : Ct l D cy cz t1 t2 yX4_ways cX4_ways 1 (some .int) (rM 5 121) [.ref hm] (cM cy cz hm am wm) (QI D (S := Wd) (fun r u => Q r u) (fun u => (cM cy cz hm am u))) := by
  refine Ct.of (own := RX4) (by decide) rfl (Nat.le_of_ble_eq_true rfl) ?_
  intro p e s m below meth c A ls hC hW hl
  unfold k_X4_ways at hq
  have hl : lv_has ls 1 [(0, .ref hm)] := hl
  refine lv_aload_n hC.x hC.b dX4_ways_0 rfl (lv_at hl 0 rfl) ?_
  refine hc_goVW hC hW (hc_rV hC (c_X4_lay l D cy cz t1 t2 hm am wm _ hq) (hc_preW hC hW) hW 0 4 rfl rfl q_182 q_183 q_184 q_5 q_185 hd_X4_lay ⟨rfl, rfl⟩ ⟨Nat.le_of_ble_eq_true rfl, Nat.le_of_ble_eq_true rfl⟩ rfl hl.1 rfl (Nat.le_of_ble_eq_true rfl) dX4_ways_1 ⟨Nat.zero_le _, Nat.zero_le _⟩) (fun u9 H locs hq hW => ?_)
  obtain ⟨wm1, rfl⟩ : ∃ z, z = u9 := ⟨_, rfl⟩
  try dsimp only at hq hW
  refine lv_aload_n hC.x hC.b dX4_ways_4 rfl (lv_at hl 0 rfl) ?_
  refine lv_aload_n hC.x hC.b dX4_ways_5 rfl (lv_at hl 0 rfl) ?_
  refine hc_get (v := .ref (am 0)) hC hW 0 4 0 inX4 rfl rfl (by decide) q_91 rfl dX4_ways_6 ?_
  refine lv_iconst (v := 1) hC.x hC.b dX4_ways_9 (by decide) ?_
  refine hc_iald hC hW 1 rfl hq.1 dX4_ways_10 ?_
  replace hq := hq.2
  refine hc_goVW hC hW (hc_rV hC (c_X4_layWays l D cy cz t1 t2 hm am (wm1 0 ((1 : Int32)).toNatClampNeg) wm1 _ hq) (hc_preW hC hW) hW 0 4 rfl rfl q_342 q_343 q_344 q_5 q_345 hd_X4_layWays ⟨rfl, rfl⟩ ⟨Nat.le_of_ble_eq_true rfl, Nat.le_of_ble_eq_true rfl⟩ rfl hl.1 rfl (Nat.le_of_ble_eq_true rfl) dX4_ways_11 ⟨Nat.zero_le _, Nat.zero_le _⟩) (fun u9 H locs hq hW => ?_)
  obtain ⟨wm11, rfl⟩ : ∃ z, z = u9 := ⟨_, rfl⟩
  try dsimp only at hq hW
  refine lv_aload_n hC.x hC.b dX4_ways_14 rfl (lv_at hl 0 rfl) ?_
  refine hc_get (v := .int (wm11 16 0)) hC hW 0 4 16 inX4 rfl rfl (by decide) q_341 rfl dX4_ways_15 ?_
  exact hc_iret hC (wm11) hW hq dX4_ways_18
def k_X4_greatest (x1 : Int32) (wm : Wd) (Q : Int32 → Wd → Prop) : Prop :=
 (k_X4_in x1 0 3 (fun r3 => ((¬ r3 = 0 → (k_X4_lay wm (fun wm13 => (vp_in 1 20 ∧ (k_X4_layWays (wm13 0 ((1 : Int32)).toNatClampNeg) wm13 (fun wm23 => ((¬ x1 = 0 → ((¬ x1 = 1 → ((¬ x1 = 2 → (Q (wm23 20 0) wm23)) ∧
 (x1 = 2 → (Q (wm23 19 0) wm23)))) ∧
 (x1 = 1 → (Q (wm23 18 0) wm23)))) ∧
 (x1 = 0 → (((wm23 17 0) ≤ 0 → (Q (-6) wm23)) ∧
 (¬ (wm23 17 0) ≤ 0 → (Q (wm23 17 0) wm23))))))))))) ∧
 (r3 = 0 → (Q (-2) wm)))))
set_option maxHeartbeats 4000000 in
set_option maxRecDepth 100000 in
theorem c_X4_greatest (l : Launch) (D : va_G) (cy cz : ClassId) (t1 t2 : Nat) (hm : Nat) (am : Nat → Nat) (x1 : Int32) (wm : Wd) (Q : Int32 → Wd → Prop) (hq : k_X4_greatest x1 wm Q) : Ct l D cy cz t1 t2 yX4_greatest cX4_greatest 2 (some .int) (rM 5 121) [.ref hm, .int x1] (cM cy cz hm am wm) (QI D (S := Wd) (fun r u => Q r u) (fun u => (cM cy cz hm am u))) := by
  refine Ct.of (own := RX4) (by decide) rfl (Nat.le_of_ble_eq_true rfl) ?_
  intro p e s m below meth c A ls hC hW hl
  unfold k_X4_greatest at hq
  have hl : lv_has ls 2 [(0, .ref hm), (1, .int x1)] := hl
  refine lv_iload_n hC.x hC.b dX4_greatest_0 rfl (lv_at hl 1 rfl) ?_
  refine lv_iconst (v := 0) hC.x hC.b dX4_greatest_1 (by decide) ?_
  refine lv_iconst (v := 3) hC.x hC.b dX4_greatest_2 (by decide) ?_
  refine hc_goP hC hW (hc_rS hC (c_X4_in l D cy cz t1 t2 x1 0 3 _ hq) (hc_preP hC hW) q_120 q_121 q_5 q_122 hd_X4_in ⟨rfl, rfl⟩ ⟨Nat.le_of_ble_eq_true rfl, Nat.le_of_ble_eq_true rfl⟩ rfl hl.1 rfl (Nat.le_of_ble_eq_true rfl) dX4_greatest_3 ⟨Nat.zero_le _, Nat.zero_le _⟩) (fun r3 H locs hq hW => ?_)
  try dsimp only at hq
  refine lv_if_ne (tgt := 12) hC.x hC.b dX4_greatest_6 (by decide) (fun hc9 => ?_) (fun hc9 => ?_)
  · replace hq := hq.1 hc9
    refine lv_aload_n hC.x hC.b dX4_greatest_12 rfl (lv_at hl 0 rfl) ?_
    refine hc_goVW hC hW (hc_rV hC (c_X4_lay l D cy cz t1 t2 hm am wm _ hq) (hc_preW hC hW) hW 0 4 rfl rfl q_182 q_183 q_184 q_5 q_185 hd_X4_lay ⟨rfl, rfl⟩ ⟨Nat.le_of_ble_eq_true rfl, Nat.le_of_ble_eq_true rfl⟩ rfl hl.1 rfl (Nat.le_of_ble_eq_true rfl) dX4_greatest_13 ⟨Nat.zero_le _, Nat.zero_le _⟩) (fun u9 H locs hq hW => ?_)
    obtain ⟨wm13, rfl⟩ : ∃ z, z = u9 := ⟨_, rfl⟩
    try dsimp only at hq hW
    refine lv_aload_n hC.x hC.b dX4_greatest_16 rfl (lv_at hl 0 rfl) ?_
    refine lv_aload_n hC.x hC.b dX4_greatest_17 rfl (lv_at hl 0 rfl) ?_
    refine hc_get (v := .ref (am 0)) hC hW 0 4 0 inX4 rfl rfl (by decide) q_91 rfl dX4_greatest_18 ?_
    refine lv_iconst (v := 1) hC.x hC.b dX4_greatest_21 (by decide) ?_
    refine hc_iald hC hW 1 rfl hq.1 dX4_greatest_22 ?_
    replace hq := hq.2
    refine hc_goVW hC hW (hc_rV hC (c_X4_layWays l D cy cz t1 t2 hm am (wm13 0 ((1 : Int32)).toNatClampNeg) wm13 _ hq) (hc_preW hC hW) hW 0 4 rfl rfl q_342 q_343 q_344 q_5 q_345 hd_X4_layWays ⟨rfl, rfl⟩ ⟨Nat.le_of_ble_eq_true rfl, Nat.le_of_ble_eq_true rfl⟩ rfl hl.1 rfl (Nat.le_of_ble_eq_true rfl) dX4_greatest_23 ⟨Nat.zero_le _, Nat.zero_le _⟩) (fun u9 H locs hq hW => ?_)
    obtain ⟨wm23, rfl⟩ : ∃ z, z = u9 := ⟨_, rfl⟩
    try dsimp only at hq hW
    refine lv_iload_n hC.x hC.b dX4_greatest_26 rfl (lv_at hl 1 rfl) ?_
    refine lv_if_ne (tgt := 49) hC.x hC.b dX4_greatest_27 (by decide) (fun hc9 => ?_) (fun hc9 => ?_)
    · replace hq := hq.1 hc9
      refine lv_iload_n hC.x hC.b dX4_greatest_49 rfl (lv_at hl 1 rfl) ?_
      refine lv_iconst (v := 1) hC.x hC.b dX4_greatest_50 (by decide) ?_
      refine lv_icmp_ne (tgt := 61) hC.x hC.b dX4_greatest_51 (by decide) (fun hc9 => ?_) (fun hc9 => ?_)
      · replace hq := hq.1 hc9
        refine lv_iload_n hC.x hC.b dX4_greatest_61 rfl (lv_at hl 1 rfl) ?_
        refine lv_iconst (v := 2) hC.x hC.b dX4_greatest_62 (by decide) ?_
        refine lv_icmp_ne (tgt := 73) hC.x hC.b dX4_greatest_63 (by decide) (fun hc9 => ?_) (fun hc9 => ?_)
        · replace hq := hq.1 hc9
          refine lv_aload_n hC.x hC.b dX4_greatest_73 rfl (lv_at hl 0 rfl) ?_
          refine hc_get (v := .int (wm23 20 0)) hC hW 0 4 20 inX4 rfl rfl (by decide) q_349 rfl dX4_greatest_74 ?_
          exact hc_iret hC (wm23) hW hq dX4_greatest_77
        · replace hq := hq.2 hc9
          refine lv_aload_n hC.x hC.b dX4_greatest_66 rfl (lv_at hl 0 rfl) ?_
          refine hc_get (v := .int (wm23 19 0)) hC hW 0 4 19 inX4 rfl rfl (by decide) q_348 rfl dX4_greatest_67 ?_
          refine lv_goto (tgt := 77) hC.x hC.b dX4_greatest_70 (by decide) ?_
          exact hc_iret hC (wm23) hW hq dX4_greatest_77
      · replace hq := hq.2 hc9
        refine lv_aload_n hC.x hC.b dX4_greatest_54 rfl (lv_at hl 0 rfl) ?_
        refine hc_get (v := .int (wm23 18 0)) hC hW 0 4 18 inX4 rfl rfl (by decide) q_347 rfl dX4_greatest_55 ?_
        refine lv_goto (tgt := 77) hC.x hC.b dX4_greatest_58 (by decide) ?_
        exact hc_iret hC (wm23) hW hq dX4_greatest_77
    · replace hq := hq.2 hc9
      refine lv_aload_n hC.x hC.b dX4_greatest_30 rfl (lv_at hl 0 rfl) ?_
      refine hc_get (v := .int (wm23 17 0)) hC hW 0 4 17 inX4 rfl rfl (by decide) q_346 rfl dX4_greatest_31 ?_
      refine lv_if_le (tgt := 44) hC.x hC.b dX4_greatest_34 (by decide) (fun hc9 => ?_) (fun hc9 => ?_)
      · replace hq := hq.1 hc9
        refine lv_bipush (v := (-6)) hC.x hC.b dX4_greatest_44 (by decide) ?_
        refine lv_goto (tgt := 77) hC.x hC.b dX4_greatest_46 (by decide) ?_
        exact hc_iret hC (wm23) hW hq dX4_greatest_77
      · replace hq := hq.2 hc9
        refine lv_aload_n hC.x hC.b dX4_greatest_37 rfl (lv_at hl 0 rfl) ?_
        refine hc_get (v := .int (wm23 17 0)) hC hW 0 4 17 inX4 rfl rfl (by decide) q_346 rfl dX4_greatest_38 ?_
        refine lv_goto (tgt := 77) hC.x hC.b dX4_greatest_41 (by decide) ?_
        exact hc_iret hC (wm23) hW hq dX4_greatest_77
  · replace hq := hq.2 hc9
    refine lv_bipush (v := (-2)) hC.x hC.b dX4_greatest_9 (by decide) ?_
    exact hc_iret hC (wm) hW hq dX4_greatest_11
def k_X4_sizeWith (x1 : Int32) (x2 : Int32) (x3 : Int32) (wm : Wd) (Q : Int32 → Wd → Prop) : Prop :=
 (k_X4_push x1 x2 x3 wm (fun wm4 => (vp_in 1 20 ∧ (k_X4_layWays ((wm4 0 ((1 : Int32)).toNatClampNeg) + 1) wm4 (fun wm16 => (k_X4_pop wm16 (fun wm20 => (Q ((x2 * x3) + (wm20 17 0)) wm20))))))))
set_option maxHeartbeats 4000000 in
set_option maxRecDepth 100000 in
theorem c_X4_sizeWith (l : Launch) (D : va_G) (cy cz : ClassId) (t1 t2 : Nat) (hm : Nat) (am : Nat → Nat) (x1 : Int32) (x2 : Int32) (x3 : Int32) (wm : Wd) (Q : Int32 → Wd → Prop) (hq : k_X4_sizeWith x1 x2 x3 wm Q) : Ct l D cy cz t1 t2 yX4_sizeWith cX4_sizeWith 4 (some .int) (rM 5 121) [.ref hm, .int x1, .int x2, .int x3] (cM cy cz hm am wm) (QI D (S := Wd) (fun r u => Q r u) (fun u => (cM cy cz hm am u))) := by
  refine Ct.of (own := RX4) (by decide) rfl (Nat.le_of_ble_eq_true rfl) ?_
  intro p e s m below meth c A ls hC hW hl
  unfold k_X4_sizeWith at hq
  have hl : lv_has ls 4 [(0, .ref hm), (1, .int x1), (2, .int x2), (3, .int x3)] := hl
  refine lv_aload_n hC.x hC.b dX4_sizeWith_0 rfl (lv_at hl 0 rfl) ?_
  refine lv_iload_n hC.x hC.b dX4_sizeWith_1 rfl (lv_at hl 1 rfl) ?_
  refine lv_iload_n hC.x hC.b dX4_sizeWith_2 rfl (lv_at hl 2 rfl) ?_
  refine lv_iload_n hC.x hC.b dX4_sizeWith_3 rfl (lv_at hl 3 rfl) ?_
  refine hc_goVW hC hW (hc_rV hC (c_X4_push l D cy cz t1 t2 hm am x1 x2 x3 wm _ hq) (hc_preW hC hW) hW 0 4 rfl rfl q_202 q_203 q_204 q_5 q_205 hd_X4_push ⟨rfl, rfl⟩ ⟨Nat.le_of_ble_eq_true rfl, Nat.le_of_ble_eq_true rfl⟩ rfl hl.1 rfl (Nat.le_of_ble_eq_true rfl) dX4_sizeWith_4 ⟨Nat.zero_le _, Nat.zero_le _⟩) (fun u9 H locs hq hW => ?_)
  obtain ⟨wm4, rfl⟩ : ∃ z, z = u9 := ⟨_, rfl⟩
  try dsimp only at hq hW
  refine lv_aload_n hC.x hC.b dX4_sizeWith_7 rfl (lv_at hl 0 rfl) ?_
  refine lv_aload_n hC.x hC.b dX4_sizeWith_8 rfl (lv_at hl 0 rfl) ?_
  refine hc_get (v := .ref (am 0)) hC hW 0 4 0 inX4 rfl rfl (by decide) q_91 rfl dX4_sizeWith_9 ?_
  refine lv_iconst (v := 1) hC.x hC.b dX4_sizeWith_12 (by decide) ?_
  refine hc_iald hC hW 1 rfl hq.1 dX4_sizeWith_13 ?_
  replace hq := hq.2
  refine lv_iconst (v := 1) hC.x hC.b dX4_sizeWith_14 (by decide) ?_
  refine lv_iadd hC.x hC.b dX4_sizeWith_15 ?_
  refine hc_goVW hC hW (hc_rV hC (c_X4_layWays l D cy cz t1 t2 hm am ((wm4 0 ((1 : Int32)).toNatClampNeg) + 1) wm4 _ hq) (hc_preW hC hW) hW 0 4 rfl rfl q_342 q_343 q_344 q_5 q_345 hd_X4_layWays ⟨rfl, rfl⟩ ⟨Nat.le_of_ble_eq_true rfl, Nat.le_of_ble_eq_true rfl⟩ rfl hl.1 rfl (Nat.le_of_ble_eq_true rfl) dX4_sizeWith_16 ⟨Nat.zero_le _, Nat.zero_le _⟩) (fun u9 H locs hq hW => ?_)
  obtain ⟨wm16, rfl⟩ : ∃ z, z = u9 := ⟨_, rfl⟩
  try dsimp only at hq hW
  refine lv_aload_n hC.x hC.b dX4_sizeWith_19 rfl (lv_at hl 0 rfl) ?_
  refine hc_goVW hC hW (hc_rV hC (c_X4_pop l D cy cz t1 t2 hm am wm16 _ hq) (hc_preW hC hW) hW 0 4 rfl rfl q_390 q_391 q_392 q_5 q_393 hd_X4_pop ⟨rfl, rfl⟩ ⟨Nat.le_of_ble_eq_true rfl, Nat.le_of_ble_eq_true rfl⟩ rfl hl.1 rfl (Nat.le_of_ble_eq_true rfl) dX4_sizeWith_20 ⟨Nat.zero_le _, Nat.zero_le _⟩) (fun u9 H locs hq hW => ?_)
  obtain ⟨wm20, rfl⟩ : ∃ z, z = u9 := ⟨_, rfl⟩
  try dsimp only at hq hW
  refine lv_iload_n hC.x hC.b dX4_sizeWith_23 rfl (lv_at hl 2 rfl) ?_
  refine lv_iload_n hC.x hC.b dX4_sizeWith_24 rfl (lv_at hl 3 rfl) ?_
  refine lv_imul hC.x hC.b dX4_sizeWith_25 ?_
  refine lv_aload_n hC.x hC.b dX4_sizeWith_26 rfl (lv_at hl 0 rfl) ?_
  refine hc_get (v := .int (wm20 17 0)) hC hW 0 4 17 inX4 rfl rfl (by decide) q_346 rfl dX4_sizeWith_27 ?_
  refine lv_iadd hC.x hC.b dX4_sizeWith_30 ?_
  exact hc_iret hC (wm20) hW hq dX4_sizeWith_31
def k_X4_two_106 (K29 : (Int32 × Int32 × Int32 × Wd) → Prop) (K53 : (Int32 × Int32 × Int32 × Int32 × Int32 × Int32 × Wd) → Prop) (K63 : (Int32 × Int32 × Int32 × Int32 × Int32 × Int32 × Int32 × Wd) → Prop) (Q : Int32 → Wd → Prop) (x1 : Int32) (x2 : Int32) (x3 : Int32) (x4 : Int32) (x5 : Int32) (x6 : Int32) (x7 : Int32) (wm : Wd) : Prop :=
 (K63 (x1, x2, x3, x4, x5, x6, (x7 + 1), wm))
set_option maxHeartbeats 4000000 in
set_option maxRecDepth 100000 in
theorem B_X4_two_106 {l : Launch} {p : Program} {e : Env} {s : State} {m : MethodId} {args : Array Value} {below : List Frame} {meth : Method} {c : Code} {A : Nat → Prop} {D : va_G} {cy cz : ClassId} {t1 t2 : Nat} (hm : Nat) (am : Nat → Nat) (Q : Int32 → Wd → Prop) (K29 : (Int32 × Int32 × Int32 × Wd) → Prop) (hK29 : ∀ b9 : Int32 × Int32 × Int32 × Wd, K29 b9 → ∀ (H : Heap) (locs : List Loc) (ls : Array Slot), Wo D A s (cM cy cz hm am b9.2.2.2) H locs → lv_has ls 9 [(0, .ref hm), (1, .int b9.1), (2, .int b9.2.1), (3, .int b9.2.2.1)] → W p l e (rM 6 144) s m args below meth c H locs 0 0 (MQ below (QI D (S := Wd) (fun r u => Q r u) (fun u => (cM cy cz hm am u)) A) args s 0 0 A) (F0 m 29 ls [])) (K53 : (Int32 × Int32 × Int32 × Int32 × Int32 × Int32 × Wd) → Prop) (hK53 : ∀ b9 : Int32 × Int32 × Int32 × Int32 × Int32 × Int32 × Wd, K53 b9 → ∀ (H : Heap) (locs : List Loc) (ls : Array Slot), Wo D A s (cM cy cz hm am b9.2.2.2.2.2.2) H locs → lv_has ls 9 [(0, .ref hm), (1, .int b9.1), (2, .int b9.2.1), (3, .int b9.2.2.1), (4, .int b9.2.2.2.1), (5, .int b9.2.2.2.2.1), (6, .int b9.2.2.2.2.2.1)] → W p l e (rM 6 144) s m args below meth c H locs 0 0 (MQ below (QI D (S := Wd) (fun r u => Q r u) (fun u => (cM cy cz hm am u)) A) args s 0 0 A) (F0 m 53 ls [])) (K63 : (Int32 × Int32 × Int32 × Int32 × Int32 × Int32 × Int32 × Wd) → Prop) (hK63 : ∀ b9 : Int32 × Int32 × Int32 × Int32 × Int32 × Int32 × Int32 × Wd, K63 b9 → ∀ (H : Heap) (locs : List Loc) (ls : Array Slot), Wo D A s (cM cy cz hm am b9.2.2.2.2.2.2.2) H locs → lv_has ls 9 [(0, .ref hm), (1, .int b9.1), (2, .int b9.2.1), (3, .int b9.2.2.1), (4, .int b9.2.2.2.1), (5, .int b9.2.2.2.2.1), (6, .int b9.2.2.2.2.2.1), (7, .int b9.2.2.2.2.2.2.1)] → W p l e (rM 6 144) s m args below meth c H locs 0 0 (MQ below (QI D (S := Wd) (fun r u => Q r u) (fun u => (cM cy cz hm am u)) A) args s 0 0 A) (F0 m 63 ls [])) (hC : Cx D cy cz t1 t2 p s m args meth c cX4_two 9 (some .int) RX4 A) (x1 : Int32) (x2 : Int32) (x3 : Int32) (x4 : Int32) (x5 : Int32) (x6 : Int32) (x7 : Int32) (wm : Wd) {H : Heap} {locs : List Loc} {ls : Array Slot} (hq : k_X4_two_106 K29 K53 K63 Q x1 x2 x3 x4 x5 x6 x7 wm) (hW : Wo D A s (cM cy cz hm am wm) H locs) (hl : lv_has ls 9 [(0, .ref hm), (1, .int x1), (2, .int x2), (3, .int x3), (4, .int x4), (5, .int x5), (6, .int x6), (7, .int x7)]) : W p l e (rM 6 144) s m args below meth c H locs 0 0 (MQ below (QI D (S := Wd) (fun r u => Q r u) (fun u => (cM cy cz hm am u)) A) args s 0 0 A) (F0 m 106 ls []) := by
  unfold k_X4_two_106 at hq
  refine lv_iinc (v := (x7 + 1)) (lv' := [(7, .int (x7 + 1)), (0, .ref hm), (1, .int x1), (2, .int x2), (3, .int x3), (4, .int x4), (5, .int x5), (6, .int x6)]) hC.x hC.b dX4_two_106 hl (k := 7) rfl rfl (by decide) rfl (fun ls hl => ?_)
  refine lv_goto (tgt := 63) hC.x hC.b dX4_two_109 (by decide) ?_
  exact hK63 (x1, x2, x3, x4, x5, x6, (x7 + 1), wm) hq _ _ _ hW (lv_sub hl [1, 2, 3, 4, 5, 6, 7, 0] rfl)
def k_X4_two_105 (K29 : (Int32 × Int32 × Int32 × Wd) → Prop) (K53 : (Int32 × Int32 × Int32 × Int32 × Int32 × Int32 × Wd) → Prop) (K63 : (Int32 × Int32 × Int32 × Int32 × Int32 × Int32 × Int32 × Wd) → Prop) (Q : Int32 → Wd → Prop) (x2 : Int32) (x3 : Int32) (x4 : Int32) (x5 : Int32) (x6 : Int32) (x7 : Int32) (y0 : Int32) (wm : Wd) : Prop :=
 (k_X4_two_106 K29 K53 K63 Q y0 x2 x3 x4 x5 x6 x7 wm)
set_option maxHeartbeats 4000000 in
set_option maxRecDepth 100000 in
theorem B_X4_two_105 {l : Launch} {p : Program} {e : Env} {s : State} {m : MethodId} {args : Array Value} {below : List Frame} {meth : Method} {c : Code} {A : Nat → Prop} {D : va_G} {cy cz : ClassId} {t1 t2 : Nat} (hm : Nat) (am : Nat → Nat) (Q : Int32 → Wd → Prop) (K29 : (Int32 × Int32 × Int32 × Wd) → Prop) (hK29 : ∀ b9 : Int32 × Int32 × Int32 × Wd, K29 b9 → ∀ (H : Heap) (locs : List Loc) (ls : Array Slot), Wo D A s (cM cy cz hm am b9.2.2.2) H locs → lv_has ls 9 [(0, .ref hm), (1, .int b9.1), (2, .int b9.2.1), (3, .int b9.2.2.1)] → W p l e (rM 6 144) s m args below meth c H locs 0 0 (MQ below (QI D (S := Wd) (fun r u => Q r u) (fun u => (cM cy cz hm am u)) A) args s 0 0 A) (F0 m 29 ls [])) (K53 : (Int32 × Int32 × Int32 × Int32 × Int32 × Int32 × Wd) → Prop) (hK53 : ∀ b9 : Int32 × Int32 × Int32 × Int32 × Int32 × Int32 × Wd, K53 b9 → ∀ (H : Heap) (locs : List Loc) (ls : Array Slot), Wo D A s (cM cy cz hm am b9.2.2.2.2.2.2) H locs → lv_has ls 9 [(0, .ref hm), (1, .int b9.1), (2, .int b9.2.1), (3, .int b9.2.2.1), (4, .int b9.2.2.2.1), (5, .int b9.2.2.2.2.1), (6, .int b9.2.2.2.2.2.1)] → W p l e (rM 6 144) s m args below meth c H locs 0 0 (MQ below (QI D (S := Wd) (fun r u => Q r u) (fun u => (cM cy cz hm am u)) A) args s 0 0 A) (F0 m 53 ls [])) (K63 : (Int32 × Int32 × Int32 × Int32 × Int32 × Int32 × Int32 × Wd) → Prop) (hK63 : ∀ b9 : Int32 × Int32 × Int32 × Int32 × Int32 × Int32 × Int32 × Wd, K63 b9 → ∀ (H : Heap) (locs : List Loc) (ls : Array Slot), Wo D A s (cM cy cz hm am b9.2.2.2.2.2.2.2) H locs → lv_has ls 9 [(0, .ref hm), (1, .int b9.1), (2, .int b9.2.1), (3, .int b9.2.2.1), (4, .int b9.2.2.2.1), (5, .int b9.2.2.2.2.1), (6, .int b9.2.2.2.2.2.1), (7, .int b9.2.2.2.2.2.2.1)] → W p l e (rM 6 144) s m args below meth c H locs 0 0 (MQ below (QI D (S := Wd) (fun r u => Q r u) (fun u => (cM cy cz hm am u)) A) args s 0 0 A) (F0 m 63 ls [])) (hC : Cx D cy cz t1 t2 p s m args meth c cX4_two 9 (some .int) RX4 A) (x2 : Int32) (x3 : Int32) (x4 : Int32) (x5 : Int32) (x6 : Int32) (x7 : Int32) (y0 : Int32) (wm : Wd) {H : Heap} {locs : List Loc} {ls : Array Slot} (hq : k_X4_two_105 K29 K53 K63 Q x2 x3 x4 x5 x6 x7 y0 wm) (hW : Wo D A s (cM cy cz hm am wm) H locs) (hl : lv_has ls 9 [(0, .ref hm), (2, .int x2), (3, .int x3), (4, .int x4), (5, .int x5), (6, .int x6), (7, .int x7)]) : W p l e (rM 6 144) s m args below meth c H locs 0 0 (MQ below (QI D (S := Wd) (fun r u => Q r u) (fun u => (cM cy cz hm am u)) A) args s 0 0 A) (F0 m 105 ls [.int y0]) := by
  unfold k_X4_two_105 at hq
  refine lv_istore_n (lv' := [(1, .int y0), (0, .ref hm), (2, .int x2), (3, .int x3), (4, .int x4), (5, .int x5), (6, .int x6), (7, .int x7)]) hC.x hC.b dX4_two_105 rfl hl (by decide) rfl (fun ls hl => ?_)
  exact B_X4_two_106 hm am Q K29 hK29 K53 hK53 K63 hK63 hC y0 x2 x3 x4 x5 x6 x7 wm hq hW (lv_sub hl [1, 0, 2, 3, 4, 5, 6, 7] rfl)
def k_X4_two_63 (K29 : (Int32 × Int32 × Int32 × Wd) → Prop) (K53 : (Int32 × Int32 × Int32 × Int32 × Int32 × Int32 × Wd) → Prop) (K63 : (Int32 × Int32 × Int32 × Int32 × Int32 × Int32 × Int32 × Wd) → Prop) (Q : Int32 → Wd → Prop) (x1 : Int32) (x2 : Int32) (x3 : Int32) (x4 : Int32) (x5 : Int32) (x6 : Int32) (x7 : Int32) (wm : Wd) : Prop :=
 ((x5 < x7 → (K53 (x1, x2, x3, x4, x5, (x6 + 1), wm))) ∧
 (¬ x5 < x7 → (k_X4_whyNot x3 x6 x7 wm (fun r76 wm76 => ((¬ r76 = 0 → (k_X4_two_106 K29 K53 K63 Q x1 x2 x3 x4 x5 x6 x7 wm76)) ∧
 (r76 = 0 → (k_X4_sizeWith x3 x6 x7 wm76 (fun r88 wm88 => ((r88 ≤ x1 → (k_X4_two_105 K29 K53 K63 Q x2 x3 x4 x5 x6 x7 x1 wm88)) ∧
 (¬ r88 ≤ x1 → (k_X4_two_105 K29 K53 K63 Q x2 x3 x4 x5 x6 x7 r88 wm88)))))))))))
set_option maxHeartbeats 4000000 in
set_option maxRecDepth 100000 in
theorem B_X4_two_63 {l : Launch} {p : Program} {e : Env} {s : State} {m : MethodId} {args : Array Value} {below : List Frame} {meth : Method} {c : Code} {A : Nat → Prop} {D : va_G} {cy cz : ClassId} {t1 t2 : Nat} (hm : Nat) (am : Nat → Nat) (Q : Int32 → Wd → Prop) (K29 : (Int32 × Int32 × Int32 × Wd) → Prop) (hK29 : ∀ b9 : Int32 × Int32 × Int32 × Wd, K29 b9 → ∀ (H : Heap) (locs : List Loc) (ls : Array Slot), Wo D A s (cM cy cz hm am b9.2.2.2) H locs → lv_has ls 9 [(0, .ref hm), (1, .int b9.1), (2, .int b9.2.1), (3, .int b9.2.2.1)] → W p l e (rM 6 144) s m args below meth c H locs 0 0 (MQ below (QI D (S := Wd) (fun r u => Q r u) (fun u => (cM cy cz hm am u)) A) args s 0 0 A) (F0 m 29 ls [])) (K53 : (Int32 × Int32 × Int32 × Int32 × Int32 × Int32 × Wd) → Prop) (hK53 : ∀ b9 : Int32 × Int32 × Int32 × Int32 × Int32 × Int32 × Wd, K53 b9 → ∀ (H : Heap) (locs : List Loc) (ls : Array Slot), Wo D A s (cM cy cz hm am b9.2.2.2.2.2.2) H locs → lv_has ls 9 [(0, .ref hm), (1, .int b9.1), (2, .int b9.2.1), (3, .int b9.2.2.1), (4, .int b9.2.2.2.1), (5, .int b9.2.2.2.2.1), (6, .int b9.2.2.2.2.2.1)] → W p l e (rM 6 144) s m args below meth c H locs 0 0 (MQ below (QI D (S := Wd) (fun r u => Q r u) (fun u => (cM cy cz hm am u)) A) args s 0 0 A) (F0 m 53 ls [])) (K63 : (Int32 × Int32 × Int32 × Int32 × Int32 × Int32 × Int32 × Wd) → Prop) (hK63 : ∀ b9 : Int32 × Int32 × Int32 × Int32 × Int32 × Int32 × Int32 × Wd, K63 b9 → ∀ (H : Heap) (locs : List Loc) (ls : Array Slot), Wo D A s (cM cy cz hm am b9.2.2.2.2.2.2.2) H locs → lv_has ls 9 [(0, .ref hm), (1, .int b9.1), (2, .int b9.2.1), (3, .int b9.2.2.1), (4, .int b9.2.2.2.1), (5, .int b9.2.2.2.2.1), (6, .int b9.2.2.2.2.2.1), (7, .int b9.2.2.2.2.2.2.1)] → W p l e (rM 6 144) s m args below meth c H locs 0 0 (MQ below (QI D (S := Wd) (fun r u => Q r u) (fun u => (cM cy cz hm am u)) A) args s 0 0 A) (F0 m 63 ls [])) (hC : Cx D cy cz t1 t2 p s m args meth c cX4_two 9 (some .int) RX4 A) (x1 : Int32) (x2 : Int32) (x3 : Int32) (x4 : Int32) (x5 : Int32) (x6 : Int32) (x7 : Int32) (wm : Wd) {H : Heap} {locs : List Loc} {ls : Array Slot} (hq : k_X4_two_63 K29 K53 K63 Q x1 x2 x3 x4 x5 x6 x7 wm) (hW : Wo D A s (cM cy cz hm am wm) H locs) (hl : lv_has ls 9 [(0, .ref hm), (1, .int x1), (2, .int x2), (3, .int x3), (4, .int x4), (5, .int x5), (6, .int x6), (7, .int x7)]) : W p l e (rM 6 144) s m args below meth c H locs 0 0 (MQ below (QI D (S := Wd) (fun r u => Q r u) (fun u => (cM cy cz hm am u)) A) args s 0 0 A) (F0 m 63 ls []) := by
  unfold k_X4_two_63 at hq
  refine lv_iload hC.x hC.b dX4_two_63 (lv_at hl 7 rfl) ?_
  refine lv_iload hC.x hC.b dX4_two_65 (lv_at hl 5 rfl) ?_
  refine lv_icmp_gt (tgt := 112) hC.x hC.b dX4_two_67 (by decide) (fun hc9 => ?_) (fun hc9 => ?_)
  · replace hq := hq.1 hc9
    refine lv_iinc (v := (x6 + 1)) (lv' := [(6, .int (x6 + 1)), (0, .ref hm), (1, .int x1), (2, .int x2), (3, .int x3), (4, .int x4), (5, .int x5), (7, .int x7)]) hC.x hC.b dX4_two_112 hl (k := 6) rfl rfl (by decide) rfl (fun ls hl => ?_)
    refine lv_goto (tgt := 53) hC.x hC.b dX4_two_115 (by decide) ?_
    exact hK53 (x1, x2, x3, x4, x5, (x6 + 1), wm) hq _ _ _ hW (lv_sub hl [1, 2, 3, 4, 5, 6, 0] rfl)
  · replace hq := hq.2 hc9
    refine lv_aload_n hC.x hC.b dX4_two_70 rfl (lv_at hl 0 rfl) ?_
    refine lv_iload_n hC.x hC.b dX4_two_71 rfl (lv_at hl 3 rfl) ?_
    refine lv_iload hC.x hC.b dX4_two_72 (lv_at hl 6 rfl) ?_
    refine lv_iload hC.x hC.b dX4_two_74 (lv_at hl 7 rfl) ?_
    refine hc_goIW hC hW (hc_rV hC (c_X4_whyNot l D cy cz t1 t2 hm am x3 x6 x7 wm _ hq) (hc_preW hC hW) hW 0 4 rfl rfl q_213 q_214 q_215 q_5 q_216 hd_X4_whyNot ⟨rfl, rfl⟩ ⟨Nat.le_of_ble_eq_true rfl, Nat.le_of_ble_eq_true rfl⟩ rfl hl.1 rfl (Nat.le_of_ble_eq_true rfl) dX4_two_76 ⟨Nat.zero_le _, Nat.zero_le _⟩) (fun r76 u9 H locs hq hW => ?_)
    obtain ⟨wm76, rfl⟩ : ∃ z, z = u9 := ⟨_, rfl⟩
    try dsimp only at hq hW
    refine lv_if_ne (tgt := 106) hC.x hC.b dX4_two_79 (by decide) (fun hc9 => ?_) (fun hc9 => ?_)
    · replace hq := hq.1 hc9
      exact B_X4_two_106 hm am Q K29 hK29 K53 hK53 K63 hK63 hC x1 x2 x3 x4 x5 x6 x7 wm76 hq hW (lv_sub hl [0, 1, 2, 3, 4, 5, 6, 7] rfl)
    · replace hq := hq.2 hc9
      refine lv_aload_n hC.x hC.b dX4_two_82 rfl (lv_at hl 0 rfl) ?_
      refine lv_iload_n hC.x hC.b dX4_two_83 rfl (lv_at hl 3 rfl) ?_
      refine lv_iload hC.x hC.b dX4_two_84 (lv_at hl 6 rfl) ?_
      refine lv_iload hC.x hC.b dX4_two_86 (lv_at hl 7 rfl) ?_
      refine hc_goIW hC hW (hc_rV hC (c_X4_sizeWith l D cy cz t1 t2 hm am x3 x6 x7 wm76 _ hq) (hc_preW hC hW) hW 0 4 rfl rfl q_386 q_387 q_388 q_5 q_389 hd_X4_sizeWith ⟨rfl, rfl⟩ ⟨Nat.le_of_ble_eq_true rfl, Nat.le_of_ble_eq_true rfl⟩ rfl hl.1 rfl (Nat.le_of_ble_eq_true rfl) dX4_two_88 ⟨Nat.zero_le _, Nat.zero_le _⟩) (fun r88 u9 H locs hq hW => ?_)
      obtain ⟨wm88, rfl⟩ : ∃ z, z = u9 := ⟨_, rfl⟩
      try dsimp only at hq hW
      refine lv_istore (lv' := [(8, .int r88), (0, .ref hm), (1, .int x1), (2, .int x2), (3, .int x3), (4, .int x4), (5, .int x5), (6, .int x6), (7, .int x7)]) hC.x hC.b dX4_two_91 hl (by decide) rfl (fun ls hl => ?_)
      refine lv_iload hC.x hC.b dX4_two_93 (lv_at hl 0 rfl) ?_
      refine lv_iload_n hC.x hC.b dX4_two_95 rfl (lv_at hl 2 rfl) ?_
      refine lv_icmp_le (tgt := 104) hC.x hC.b dX4_two_96 (by decide) (fun hc9 => ?_) (fun hc9 => ?_)
      · replace hq := hq.1 hc9
        refine lv_iload_n hC.x hC.b dX4_two_104 rfl (lv_at hl 2 rfl) ?_
        exact B_X4_two_105 hm am Q K29 hK29 K53 hK53 K63 hK63 hC x2 x3 x4 x5 x6 x7 x1 wm88 hq hW (lv_sub hl [1, 3, 4, 5, 6, 7, 8] rfl)
      · replace hq := hq.2 hc9
        refine lv_iload hC.x hC.b dX4_two_99 (lv_at hl 0 rfl) ?_
        refine lv_goto (tgt := 105) hC.x hC.b dX4_two_101 (by decide) ?_
        exact B_X4_two_105 hm am Q K29 hK29 K53 hK53 K63 hK63 hC x2 x3 x4 x5 x6 x7 r88 wm88 hq hW (lv_sub hl [1, 3, 4, 5, 6, 7, 8] rfl)
def k_X4_two_53 (K29 : (Int32 × Int32 × Int32 × Wd) → Prop) (K53 : (Int32 × Int32 × Int32 × Int32 × Int32 × Int32 × Wd) → Prop) (Q : Int32 → Wd → Prop) (x1 : Int32) (x2 : Int32) (x3 : Int32) (x4 : Int32) (x5 : Int32) (x6 : Int32) (wm : Wd) : Prop :=
 ((x4 < x6 → (K29 (x1, x2, (x3 + 1), wm))) ∧
 (¬ x4 < x6 → (∃ n : Nat, lpf (fun (K : (Int32 × Int32 × Int32 × Int32 × Int32 × Int32 × Int32 × Wd) → Prop) (u : Int32 × Int32 × Int32 × Int32 × Int32 × Int32 × Int32 × Wd) => k_X4_two_63 K29 K53 K Q u.1 u.2.1 u.2.2.1 u.2.2.2.1 u.2.2.2.2.1 u.2.2.2.2.2.1 u.2.2.2.2.2.2.1 u.2.2.2.2.2.2.2) n (x1, x2, x3, x4, x5, x6, 1, wm))))
set_option maxHeartbeats 4000000 in
set_option maxRecDepth 100000 in
theorem B_X4_two_53 {l : Launch} {p : Program} {e : Env} {s : State} {m : MethodId} {args : Array Value} {below : List Frame} {meth : Method} {c : Code} {A : Nat → Prop} {D : va_G} {cy cz : ClassId} {t1 t2 : Nat} (hm : Nat) (am : Nat → Nat) (Q : Int32 → Wd → Prop) (K29 : (Int32 × Int32 × Int32 × Wd) → Prop) (hK29 : ∀ b9 : Int32 × Int32 × Int32 × Wd, K29 b9 → ∀ (H : Heap) (locs : List Loc) (ls : Array Slot), Wo D A s (cM cy cz hm am b9.2.2.2) H locs → lv_has ls 9 [(0, .ref hm), (1, .int b9.1), (2, .int b9.2.1), (3, .int b9.2.2.1)] → W p l e (rM 6 144) s m args below meth c H locs 0 0 (MQ below (QI D (S := Wd) (fun r u => Q r u) (fun u => (cM cy cz hm am u)) A) args s 0 0 A) (F0 m 29 ls [])) (K53 : (Int32 × Int32 × Int32 × Int32 × Int32 × Int32 × Wd) → Prop) (hK53 : ∀ b9 : Int32 × Int32 × Int32 × Int32 × Int32 × Int32 × Wd, K53 b9 → ∀ (H : Heap) (locs : List Loc) (ls : Array Slot), Wo D A s (cM cy cz hm am b9.2.2.2.2.2.2) H locs → lv_has ls 9 [(0, .ref hm), (1, .int b9.1), (2, .int b9.2.1), (3, .int b9.2.2.1), (4, .int b9.2.2.2.1), (5, .int b9.2.2.2.2.1), (6, .int b9.2.2.2.2.2.1)] → W p l e (rM 6 144) s m args below meth c H locs 0 0 (MQ below (QI D (S := Wd) (fun r u => Q r u) (fun u => (cM cy cz hm am u)) A) args s 0 0 A) (F0 m 53 ls [])) (hC : Cx D cy cz t1 t2 p s m args meth c cX4_two 9 (some .int) RX4 A) (x1 : Int32) (x2 : Int32) (x3 : Int32) (x4 : Int32) (x5 : Int32) (x6 : Int32) (wm : Wd) {H : Heap} {locs : List Loc} {ls : Array Slot} (hq : k_X4_two_53 K29 K53 Q x1 x2 x3 x4 x5 x6 wm) (hW : Wo D A s (cM cy cz hm am wm) H locs) (hl : lv_has ls 9 [(0, .ref hm), (1, .int x1), (2, .int x2), (3, .int x3), (4, .int x4), (5, .int x5), (6, .int x6)]) : W p l e (rM 6 144) s m args below meth c H locs 0 0 (MQ below (QI D (S := Wd) (fun r u => Q r u) (fun u => (cM cy cz hm am u)) A) args s 0 0 A) (F0 m 53 ls []) := by
  unfold k_X4_two_53 at hq
  refine lv_iload hC.x hC.b dX4_two_53 (lv_at hl 6 rfl) ?_
  refine lv_iload hC.x hC.b dX4_two_55 (lv_at hl 4 rfl) ?_
  refine lv_icmp_gt (tgt := 118) hC.x hC.b dX4_two_57 (by decide) (fun hc9 => ?_) (fun hc9 => ?_)
  · replace hq := hq.1 hc9
    refine lv_iinc (v := (x3 + 1)) (lv' := [(3, .int (x3 + 1)), (0, .ref hm), (1, .int x1), (2, .int x2), (4, .int x4), (5, .int x5), (6, .int x6)]) hC.x hC.b dX4_two_118 hl (k := 3) rfl rfl (by decide) rfl (fun ls hl => ?_)
    refine lv_goto (tgt := 29) hC.x hC.b dX4_two_121 (by decide) ?_
    exact hK29 (x1, x2, (x3 + 1), wm) hq _ _ _ hW (lv_sub hl [1, 2, 3, 0] rfl)
  · replace hq := hq.2 hc9
    refine lv_iconst (v := 1) hC.x hC.b dX4_two_60 (by decide) ?_
    refine lv_istore (lv' := [(7, .int 1), (0, .ref hm), (1, .int x1), (2, .int x2), (3, .int x3), (4, .int x4), (5, .int x5), (6, .int x6)]) hC.x hC.b dX4_two_61 hl (by decide) rfl (fun ls hl => ?_)
    obtain ⟨n9, hq⟩ := hq
    exact lpf_use (G := (fun (u : Int32 × Int32 × Int32 × Int32 × Int32 × Int32 × Int32 × Wd) => ∀ (H : Heap) (locs : List Loc) (ls : Array Slot), Wo D A s (cM cy cz hm am u.2.2.2.2.2.2.2) H locs → lv_has ls 9 [(0, .ref hm), (1, .int u.1), (2, .int u.2.1), (3, .int u.2.2.1), (4, .int u.2.2.2.1), (5, .int u.2.2.2.2.1), (6, .int u.2.2.2.2.2.1), (7, .int u.2.2.2.2.2.2.1)] → W p l e (rM 6 144) s m args below meth c H locs 0 0 (MQ below (QI D (S := Wd) (fun r u => Q r u) (fun u => (cM cy cz hm am u)) A) args s 0 0 A) (F0 m 63 ls []))) (fun K hK u hq H locs ls hW hl => B_X4_two_63 hm am Q K29 hK29 K53 hK53 K hK hC u.1 u.2.1 u.2.2.1 u.2.2.2.1 u.2.2.2.2.1 u.2.2.2.2.2.1 u.2.2.2.2.2.2.1 u.2.2.2.2.2.2.2 hq hW hl) n9 _ hq _ _ _ hW (lv_sub hl [1, 2, 3, 4, 5, 6, 7, 0] rfl)
def k_X4_two_29 (K29 : (Int32 × Int32 × Int32 × Wd) → Prop) (Q : Int32 → Wd → Prop) (x1 : Int32) (x2 : Int32) (x3 : Int32) (wm : Wd) : Prop :=
 ((x2 ≤ x3 → (Q x1 wm)) ∧
 (¬ x2 ≤ x3 → (k_X4_reach x3 0 wm (fun r37 wm37 => (k_X4_reach x3 1 wm37 (fun r45 wm45 => (∃ n : Nat, lpf (fun (K : (Int32 × Int32 × Int32 × Int32 × Int32 × Int32 × Wd) → Prop) (u : Int32 × Int32 × Int32 × Int32 × Int32 × Int32 × Wd) => k_X4_two_53 K29 K Q u.1 u.2.1 u.2.2.1 u.2.2.2.1 u.2.2.2.2.1 u.2.2.2.2.2.1 u.2.2.2.2.2.2) n (x1, x2, x3, r37, r45, 1, wm45))))))))
set_option maxHeartbeats 4000000 in
set_option maxRecDepth 100000 in
theorem B_X4_two_29 {l : Launch} {p : Program} {e : Env} {s : State} {m : MethodId} {args : Array Value} {below : List Frame} {meth : Method} {c : Code} {A : Nat → Prop} {D : va_G} {cy cz : ClassId} {t1 t2 : Nat} (hm : Nat) (am : Nat → Nat) (Q : Int32 → Wd → Prop) (K29 : (Int32 × Int32 × Int32 × Wd) → Prop) (hK29 : ∀ b9 : Int32 × Int32 × Int32 × Wd, K29 b9 → ∀ (H : Heap) (locs : List Loc) (ls : Array Slot), Wo D A s (cM cy cz hm am b9.2.2.2) H locs → lv_has ls 9 [(0, .ref hm), (1, .int b9.1), (2, .int b9.2.1), (3, .int b9.2.2.1)] → W p l e (rM 6 144) s m args below meth c H locs 0 0 (MQ below (QI D (S := Wd) (fun r u => Q r u) (fun u => (cM cy cz hm am u)) A) args s 0 0 A) (F0 m 29 ls [])) (hC : Cx D cy cz t1 t2 p s m args meth c cX4_two 9 (some .int) RX4 A) (x1 : Int32) (x2 : Int32) (x3 : Int32) (wm : Wd) {H : Heap} {locs : List Loc} {ls : Array Slot} (hq : k_X4_two_29 K29 Q x1 x2 x3 wm) (hW : Wo D A s (cM cy cz hm am wm) H locs) (hl : lv_has ls 9 [(0, .ref hm), (1, .int x1), (2, .int x2), (3, .int x3)]) : W p l e (rM 6 144) s m args below meth c H locs 0 0 (MQ below (QI D (S := Wd) (fun r u => Q r u) (fun u => (cM cy cz hm am u)) A) args s 0 0 A) (F0 m 29 ls []) := by
  unfold k_X4_two_29 at hq
  refine lv_iload_n hC.x hC.b dX4_two_29 rfl (lv_at hl 3 rfl) ?_
  refine lv_iload_n hC.x hC.b dX4_two_30 rfl (lv_at hl 2 rfl) ?_
  refine lv_icmp_ge (tgt := 124) hC.x hC.b dX4_two_31 (by decide) (fun hc9 => ?_) (fun hc9 => ?_)
  · replace hq := hq.1 hc9
    refine lv_iload_n hC.x hC.b dX4_two_124 rfl (lv_at hl 1 rfl) ?_
    exact hc_iret hC (wm) hW hq dX4_two_125
  · replace hq := hq.2 hc9
    refine lv_aload_n hC.x hC.b dX4_two_34 rfl (lv_at hl 0 rfl) ?_
    refine lv_iload_n hC.x hC.b dX4_two_35 rfl (lv_at hl 3 rfl) ?_
    refine lv_iconst (v := 0) hC.x hC.b dX4_two_36 (by decide) ?_
    refine hc_goIW hC hW (hc_rV hC (c_X4_reach l D cy cz t1 t2 hm am x3 0 wm _ hq) (hc_preW hC hW) hW 0 4 rfl rfl q_217 q_218 q_219 q_5 q_220 hd_X4_reach ⟨rfl, rfl⟩ ⟨Nat.le_of_ble_eq_true rfl, Nat.le_of_ble_eq_true rfl⟩ rfl hl.1 rfl (Nat.le_of_ble_eq_true rfl) dX4_two_37 ⟨Nat.zero_le _, Nat.zero_le _⟩) (fun r37 u9 H locs hq hW => ?_)
    obtain ⟨wm37, rfl⟩ : ∃ z, z = u9 := ⟨_, rfl⟩
    try dsimp only at hq hW
    refine lv_istore (lv' := [(4, .int r37), (0, .ref hm), (1, .int x1), (2, .int x2), (3, .int x3)]) hC.x hC.b dX4_two_40 hl (by decide) rfl (fun ls hl => ?_)
    refine lv_aload_n hC.x hC.b dX4_two_42 rfl (lv_at hl 1 rfl) ?_
    refine lv_iload_n hC.x hC.b dX4_two_43 rfl (lv_at hl 4 rfl) ?_
    refine lv_iconst (v := 1) hC.x hC.b dX4_two_44 (by decide) ?_
    refine hc_goIW hC hW (hc_rV hC (c_X4_reach l D cy cz t1 t2 hm am x3 1 wm37 _ hq) (hc_preW hC hW) hW 0 4 rfl rfl q_217 q_218 q_219 q_5 q_220 hd_X4_reach ⟨rfl, rfl⟩ ⟨Nat.le_of_ble_eq_true rfl, Nat.le_of_ble_eq_true rfl⟩ rfl hl.1 rfl (Nat.le_of_ble_eq_true rfl) dX4_two_45 ⟨Nat.zero_le _, Nat.zero_le _⟩) (fun r45 u9 H locs hq hW => ?_)
    obtain ⟨wm45, rfl⟩ : ∃ z, z = u9 := ⟨_, rfl⟩
    try dsimp only at hq hW
    refine lv_istore (lv' := [(5, .int r45), (4, .int r37), (0, .ref hm), (1, .int x1), (2, .int x2), (3, .int x3)]) hC.x hC.b dX4_two_48 hl (by decide) rfl (fun ls hl => ?_)
    refine lv_iconst (v := 1) hC.x hC.b dX4_two_50 (by decide) ?_
    refine lv_istore (lv' := [(6, .int 1), (5, .int r45), (4, .int r37), (0, .ref hm), (1, .int x1), (2, .int x2), (3, .int x3)]) hC.x hC.b dX4_two_51 hl (by decide) rfl (fun ls hl => ?_)
    obtain ⟨n9, hq⟩ := hq
    exact lpf_use (G := (fun (u : Int32 × Int32 × Int32 × Int32 × Int32 × Int32 × Wd) => ∀ (H : Heap) (locs : List Loc) (ls : Array Slot), Wo D A s (cM cy cz hm am u.2.2.2.2.2.2) H locs → lv_has ls 9 [(0, .ref hm), (1, .int u.1), (2, .int u.2.1), (3, .int u.2.2.1), (4, .int u.2.2.2.1), (5, .int u.2.2.2.2.1), (6, .int u.2.2.2.2.2.1)] → W p l e (rM 6 144) s m args below meth c H locs 0 0 (MQ below (QI D (S := Wd) (fun r u => Q r u) (fun u => (cM cy cz hm am u)) A) args s 0 0 A) (F0 m 53 ls []))) (fun K hK u hq H locs ls hW hl => B_X4_two_53 hm am Q K29 hK29 K hK hC u.1 u.2.1 u.2.2.1 u.2.2.2.1 u.2.2.2.2.1 u.2.2.2.2.2.1 u.2.2.2.2.2.2 hq hW hl) n9 _ hq _ _ _ hW (lv_sub hl [3, 4, 5, 6, 2, 1, 0] rfl)
def k_X4_two_26  (Q : Int32 → Wd → Prop) (x1 : Int32) (y0 : Int32) (wm : Wd) : Prop :=
 (∃ n : Nat, lpf (fun (K : (Int32 × Int32 × Int32 × Wd) → Prop) (u : Int32 × Int32 × Int32 × Wd) => k_X4_two_29  K Q u.1 u.2.1 u.2.2.1 u.2.2.2) n (x1, y0, 0, wm))
set_option maxHeartbeats 4000000 in
set_option maxRecDepth 100000 in
theorem B_X4_two_26 {l : Launch} {p : Program} {e : Env} {s : State} {m : MethodId} {args : Array Value} {below : List Frame} {meth : Method} {c : Code} {A : Nat → Prop} {D : va_G} {cy cz : ClassId} {t1 t2 : Nat} (hm : Nat) (am : Nat → Nat) (Q : Int32 → Wd → Prop)  (hC : Cx D cy cz t1 t2 p s m args meth c cX4_two 9 (some .int) RX4 A) (x1 : Int32) (y0 : Int32) (wm : Wd) {H : Heap} {locs : List Loc} {ls : Array Slot} (hq : k_X4_two_26  Q x1 y0 wm) (hW : Wo D A s (cM cy cz hm am wm) H locs) (hl : lv_has ls 9 [(0, .ref hm), (1, .int x1)]) : W p l e (rM 6 144) s m args below meth c H locs 0 0 (MQ below (QI D (S := Wd) (fun r u => Q r u) (fun u => (cM cy cz hm am u)) A) args s 0 0 A) (F0 m 26 ls [.int y0]) := by
  unfold k_X4_two_26 at hq
  refine lv_istore_n (lv' := [(2, .int y0), (0, .ref hm), (1, .int x1)]) hC.x hC.b dX4_two_26 rfl hl (by decide) rfl (fun ls hl => ?_)
  refine lv_iconst (v := 0) hC.x hC.b dX4_two_27 (by decide) ?_
  refine lv_istore_n (lv' := [(3, .int 0), (2, .int y0), (0, .ref hm), (1, .int x1)]) hC.x hC.b dX4_two_28 rfl hl (by decide) rfl (fun ls hl => ?_)
  obtain ⟨n9, hq⟩ := hq
  exact lpf_use (G := (fun (u : Int32 × Int32 × Int32 × Wd) => ∀ (H : Heap) (locs : List Loc) (ls : Array Slot), Wo D A s (cM cy cz hm am u.2.2.2) H locs → lv_has ls 9 [(0, .ref hm), (1, .int u.1), (2, .int u.2.1), (3, .int u.2.2.1)] → W p l e (rM 6 144) s m args below meth c H locs 0 0 (MQ below (QI D (S := Wd) (fun r u => Q r u) (fun u => (cM cy cz hm am u)) A) args s 0 0 A) (F0 m 29 ls []))) (fun K hK u hq H locs ls hW hl => B_X4_two_29 hm am Q  K hK hC u.1 u.2.1 u.2.2.1 u.2.2.2 hq hW hl) n9 _ hq _ _ _ hW (lv_sub hl [2, 3, 1, 0] rfl)
def k_X4_two  (wm : Wd) (Q : Int32 → Wd → Prop) : Prop :=
 (k_X4_lay wm (fun wm1 => (vp_in 1 20 ∧ ((¬ (wm1 0 ((1 : Int32)).toNatClampNeg) = 6 → (k_X4_two_26  Q (-6) (wm1 12 0) wm1)) ∧
 ((wm1 0 ((1 : Int32)).toNatClampNeg) = 6 → (k_X4_two_26  Q (-6) 0 wm1))))))
set_option maxHeartbeats 4000000 in
set_option maxRecDepth 100000 in
theorem c_X4_two (l : Launch) (D : va_G) (cy cz : ClassId) (t1 t2 : Nat) (hm : Nat) (am : Nat → Nat)  (wm : Wd) (Q : Int32 → Wd → Prop) (hq : k_X4_two wm Q) : Ct l D cy cz t1 t2 yX4_two cX4_two 9 (some .int) (rM 6 144) [.ref hm] (cM cy cz hm am wm) (QI D (S := Wd) (fun r u => Q r u) (fun u => (cM cy cz hm am u))) := by
  refine Ct.of (own := RX4) (by decide) rfl (Nat.le_of_ble_eq_true rfl) ?_
  intro p e s m below meth c A ls hC hW hl
  unfold k_X4_two at hq
  have hl : lv_has ls 9 [(0, .ref hm)] := hl
  refine lv_aload_n hC.x hC.b dX4_two_0 rfl (lv_at hl 0 rfl) ?_
  refine hc_goVW hC hW (hc_rV hC (c_X4_lay l D cy cz t1 t2 hm am wm _ hq) (hc_preW hC hW) hW 0 4 rfl rfl q_182 q_183 q_184 q_5 q_185 hd_X4_lay ⟨rfl, rfl⟩ ⟨Nat.le_of_ble_eq_true rfl, Nat.le_of_ble_eq_true rfl⟩ rfl hl.1 rfl (Nat.le_of_ble_eq_true rfl) dX4_two_1 ⟨Nat.zero_le _, Nat.zero_le _⟩) (fun u9 H locs hq hW => ?_)
  obtain ⟨wm1, rfl⟩ : ∃ z, z = u9 := ⟨_, rfl⟩
  try dsimp only at hq hW
  refine lv_bipush (v := (-6)) hC.x hC.b dX4_two_4 (by decide) ?_
  refine lv_istore_n (lv' := [(1, .int (-6)), (0, .ref hm)]) hC.x hC.b dX4_two_6 rfl hl (by decide) rfl (fun ls hl => ?_)
  refine lv_aload_n hC.x hC.b dX4_two_7 rfl (lv_at hl 1 rfl) ?_
  refine hc_get (v := .ref (am 0)) hC hW 0 4 0 inX4 rfl rfl (by decide) q_91 rfl dX4_two_8 ?_
  refine lv_iconst (v := 1) hC.x hC.b dX4_two_11 (by decide) ?_
  refine hc_iald hC hW 1 rfl hq.1 dX4_two_12 ?_
  replace hq := hq.2
  refine lv_bipush (v := 6) hC.x hC.b dX4_two_13 (by decide) ?_
  refine lv_icmp_ne (tgt := 22) hC.x hC.b dX4_two_15 (by decide) (fun hc9 => ?_) (fun hc9 => ?_)
  · replace hq := hq.1 hc9
    refine lv_aload_n hC.x hC.b dX4_two_22 rfl (lv_at hl 1 rfl) ?_
    refine hc_get (v := .int (wm1 12 0)) hC hW 0 4 12 inX4 rfl rfl (by decide) q_186 rfl dX4_two_23 ?_
    exact B_X4_two_26 hm am Q  hC (-6) (wm1 12 0) wm1 hq hW (lv_sub hl [1, 0] rfl)
  · replace hq := hq.2 hc9
    refine lv_iconst (v := 0) hC.x hC.b dX4_two_18 (by decide) ?_
    refine lv_goto (tgt := 26) hC.x hC.b dX4_two_19 (by decide) ?_
    exact B_X4_two_26 hm am Q  hC (-6) 0 wm1 hq hW (lv_sub hl [1, 0] rfl)
def k_X4_cOfShut (x0 : Int32)  (Q : Int32 → Prop) : Prop :=
 ((x0 = 0 → (Q 25)) ∧
 (x0 = 1 → (Q 24)) ∧
 (x0 = 2 → (Q 20)) ∧
 (x0 = 3 → (Q 15)) ∧
 ((¬ x0 = 0 ∧ ¬ x0 = 1 ∧ ¬ x0 = 2 ∧ ¬ x0 = 3) → (Q 7)))
set_option maxHeartbeats 4000000 in
set_option maxRecDepth 100000 in
theorem c_X4_cOfShut (l : Launch) (D : va_G) (cy cz : ClassId) (t1 t2 : Nat)  (x0 : Int32)  (Q : Int32 → Prop) (hq : k_X4_cOfShut x0 Q) : Ct l D cy cz t1 t2 yX4_cOfShut cX4_cOfShut 1 (some .int) (rM 0 0) [.int x0] ([] : va_W) (QI D (S := Unit) (fun r u => Q r ) (fun _ => ([] : va_W))) := by
  refine Ct.of (own := RX4) (by decide) rfl (Nat.le_of_ble_eq_true rfl) ?_
  intro p e s m below meth c A ls hC hW hl
  unfold k_X4_cOfShut at hq
  have hl : lv_has ls 1 [(0, .int x0)] := hl
  refine lv_iload_n hC.x hC.b dX4_cOfShut_0 rfl (lv_at hl 0 rfl) ?_
  by_cases hs0 : x0 = 0
  · refine lv_tableIn (tgt := 32) hC.x hC.b dX4_cOfShut_1 (by rw [hs0]; decide) (by rw [hs0]; decide) (by rw [hs0]; rfl) (by decide) ?_
    replace hq := hq.1 hs0
    refine lv_bipush (v := 25) hC.x hC.b dX4_cOfShut_32 (by decide) ?_
    exact hc_iret hC () hW hq dX4_cOfShut_34
  by_cases hs1 : x0 = 1
  · refine lv_tableIn (tgt := 35) hC.x hC.b dX4_cOfShut_1 (by rw [hs1]; decide) (by rw [hs1]; decide) (by rw [hs1]; rfl) (by decide) ?_
    replace hq := hq.2.1 hs1
    refine lv_bipush (v := 24) hC.x hC.b dX4_cOfShut_35 (by decide) ?_
    exact hc_iret hC () hW hq dX4_cOfShut_37
  by_cases hs2 : x0 = 2
  · refine lv_tableIn (tgt := 38) hC.x hC.b dX4_cOfShut_1 (by rw [hs2]; decide) (by rw [hs2]; decide) (by rw [hs2]; rfl) (by decide) ?_
    replace hq := hq.2.2.1 hs2
    refine lv_bipush (v := 20) hC.x hC.b dX4_cOfShut_38 (by decide) ?_
    exact hc_iret hC () hW hq dX4_cOfShut_40
  by_cases hs3 : x0 = 3
  · refine lv_tableIn (tgt := 41) hC.x hC.b dX4_cOfShut_1 (by rw [hs3]; decide) (by rw [hs3]; decide) (by rw [hs3]; rfl) (by decide) ?_
    replace hq := hq.2.2.2.1 hs3
    refine lv_bipush (v := 15) hC.x hC.b dX4_cOfShut_41 (by decide) ?_
    exact hc_iret hC () hW hq dX4_cOfShut_43
  refine lv_tableOut (tgt := 44) hC.x hC.b dX4_cOfShut_1 (by have e0 := lv_neT (a := 0) hs0 rfl; have e1 := lv_neT (a := 1) hs1 rfl; have e2 := lv_neT (a := 2) hs2 rfl; have e3 := lv_neT (a := 3) hs3 rfl; omega) (by decide) ?_
  replace hq := hq.2.2.2.2 ⟨hs0, hs1, hs2, hs3⟩
  refine lv_bipush (v := 7) hC.x hC.b dX4_cOfShut_44 (by decide) ?_
  exact hc_iret hC () hW hq dX4_cOfShut_46
def k_X4_cOf (x0 : Int32)  (Q : Int32 → Prop) : Prop :=
 ((x0 = 0 → (Q 25)) ∧
 (x0 = 1 → (Q 24)) ∧
 (x0 = 2 → (Q 20)) ∧
 (x0 = 3 → (Q 15)) ∧
 (x0 = 4 → (Q 7)) ∧
 (x0 = 5 → (Q 0)) ∧
 ((¬ x0 = 0 ∧ ¬ x0 = 1 ∧ ¬ x0 = 2 ∧ ¬ x0 = 3 ∧ ¬ x0 = 4 ∧ ¬ x0 = 5) → (k_X4_cOfShut (10 - x0) (fun r61 => (Q (-r61))))))
set_option maxHeartbeats 4000000 in
set_option maxRecDepth 100000 in
theorem c_X4_cOf (l : Launch) (D : va_G) (cy cz : ClassId) (t1 t2 : Nat)  (x0 : Int32)  (Q : Int32 → Prop) (hq : k_X4_cOf x0 Q) : Ct l D cy cz t1 t2 yX4_cOf cX4_cOf 1 (some .int) (rM 1 20) [.int x0] ([] : va_W) (QI D (S := Unit) (fun r u => Q r ) (fun _ => ([] : va_W))) := by
  refine Ct.of (own := RX4) (by decide) rfl (Nat.le_of_ble_eq_true rfl) ?_
  intro p e s m below meth c A ls hC hW hl
  unfold k_X4_cOf at hq
  have hl : lv_has ls 1 [(0, .int x0)] := hl
  refine lv_iload_n hC.x hC.b dX4_cOf_0 rfl (lv_at hl 0 rfl) ?_
  by_cases hs0 : x0 = 0
  · refine lv_tableIn (tgt := 40) hC.x hC.b dX4_cOf_1 (by rw [hs0]; decide) (by rw [hs0]; decide) (by rw [hs0]; rfl) (by decide) ?_
    replace hq := hq.1 hs0
    refine lv_bipush (v := 25) hC.x hC.b dX4_cOf_40 (by decide) ?_
    exact hc_iret hC () hW hq dX4_cOf_42
  by_cases hs1 : x0 = 1
  · refine lv_tableIn (tgt := 43) hC.x hC.b dX4_cOf_1 (by rw [hs1]; decide) (by rw [hs1]; decide) (by rw [hs1]; rfl) (by decide) ?_
    replace hq := hq.2.1 hs1
    refine lv_bipush (v := 24) hC.x hC.b dX4_cOf_43 (by decide) ?_
    exact hc_iret hC () hW hq dX4_cOf_45
  by_cases hs2 : x0 = 2
  · refine lv_tableIn (tgt := 46) hC.x hC.b dX4_cOf_1 (by rw [hs2]; decide) (by rw [hs2]; decide) (by rw [hs2]; rfl) (by decide) ?_
    replace hq := hq.2.2.1 hs2
    refine lv_bipush (v := 20) hC.x hC.b dX4_cOf_46 (by decide) ?_
    exact hc_iret hC () hW hq dX4_cOf_48
  by_cases hs3 : x0 = 3
  · refine lv_tableIn (tgt := 49) hC.x hC.b dX4_cOf_1 (by rw [hs3]; decide) (by rw [hs3]; decide) (by rw [hs3]; rfl) (by decide) ?_
    replace hq := hq.2.2.2.1 hs3
    refine lv_bipush (v := 15) hC.x hC.b dX4_cOf_49 (by decide) ?_
    exact hc_iret hC () hW hq dX4_cOf_51
  by_cases hs4 : x0 = 4
  · refine lv_tableIn (tgt := 52) hC.x hC.b dX4_cOf_1 (by rw [hs4]; decide) (by rw [hs4]; decide) (by rw [hs4]; rfl) (by decide) ?_
    replace hq := hq.2.2.2.2.1 hs4
    refine lv_bipush (v := 7) hC.x hC.b dX4_cOf_52 (by decide) ?_
    exact hc_iret hC () hW hq dX4_cOf_54
  by_cases hs5 : x0 = 5
  · refine lv_tableIn (tgt := 55) hC.x hC.b dX4_cOf_1 (by rw [hs5]; decide) (by rw [hs5]; decide) (by rw [hs5]; rfl) (by decide) ?_
    replace hq := hq.2.2.2.2.2.1 hs5
    refine lv_iconst (v := 0) hC.x hC.b dX4_cOf_55 (by decide) ?_
    exact hc_iret hC () hW hq dX4_cOf_56
  refine lv_tableOut (tgt := 57) hC.x hC.b dX4_cOf_1 (by have e0 := lv_neT (a := 0) hs0 rfl; have e1 := lv_neT (a := 1) hs1 rfl; have e2 := lv_neT (a := 2) hs2 rfl; have e3 := lv_neT (a := 3) hs3 rfl; have e4 := lv_neT (a := 4) hs4 rfl; have e5 := lv_neT (a := 5) hs5 rfl; omega) (by decide) ?_
  replace hq := hq.2.2.2.2.2.2 ⟨hs0, hs1, hs2, hs3, hs4, hs5⟩
  refine lv_bipush (v := 10) hC.x hC.b dX4_cOf_57 (by decide) ?_
  refine lv_iload_n hC.x hC.b dX4_cOf_59 rfl (lv_at hl 0 rfl) ?_
  refine lv_isub hC.x hC.b dX4_cOf_60 ?_
  refine hc_goP hC hW (hc_rS hC (c_X4_cOfShut l D cy cz t1 t2 (10 - x0) _ hq) (hc_preP hC hW) q_441 q_442 q_5 q_443 hd_X4_cOfShut ⟨rfl, rfl⟩ ⟨Nat.le_of_ble_eq_true rfl, Nat.le_of_ble_eq_true rfl⟩ rfl hl.1 rfl (Nat.le_of_ble_eq_true rfl) dX4_cOf_61 ⟨Nat.zero_le _, Nat.zero_le _⟩) (fun r61 H locs hq hW => ?_)
  try dsimp only at hq
  refine lv_ineg hC.x hC.b dX4_cOf_64 ?_
  exact hc_iret hC () hW hq dX4_cOf_65
def k_X4_sOf_13  (Q : Int32 → Prop) (y0 : Int32)  : Prop :=
 ((y0 = 0 → (Q 0)) ∧
 (y0 = 1 → (Q 7)) ∧
 (y0 = 2 → (Q 15)) ∧
 (y0 = 3 → (Q 20)) ∧
 (y0 = 4 → (Q 24)) ∧
 ((¬ y0 = 0 ∧ ¬ y0 = 1 ∧ ¬ y0 = 2 ∧ ¬ y0 = 3 ∧ ¬ y0 = 4) → (Q 25)))
set_option maxHeartbeats 4000000 in
set_option maxRecDepth 100000 in
theorem B_X4_sOf_13 {l : Launch} {p : Program} {e : Env} {s : State} {m : MethodId} {args : Array Value} {below : List Frame} {meth : Method} {c : Code} {A : Nat → Prop} {D : va_G} {cy cz : ClassId} {t1 t2 : Nat}  (Q : Int32 → Prop)  (hC : Cx D cy cz t1 t2 p s m args meth c cX4_sOf 1 (some .int) RX4 A) (y0 : Int32)  {H : Heap} {locs : List Loc} {ls : Array Slot} (hq : k_X4_sOf_13  Q y0 ) (hW : Wo D A s ([] : va_W) H locs) (hl : lv_has ls 1 []) : W p l e (rM 0 0) s m args below meth c H locs 0 0 (MQ below (QI D (S := Unit) (fun r u => Q r ) (fun _ => ([] : va_W)) A) args s 0 0 A) (F0 m 13 ls [.int y0]) := by
  unfold k_X4_sOf_13 at hq
  by_cases hs0 : y0 = 0
  · refine lv_tableIn (tgt := 48) hC.x hC.b dX4_sOf_13 (by rw [hs0]; decide) (by rw [hs0]; decide) (by rw [hs0]; rfl) (by decide) ?_
    replace hq := hq.1 hs0
    refine lv_iconst (v := 0) hC.x hC.b dX4_sOf_48 (by decide) ?_
    exact hc_iret hC () hW hq dX4_sOf_49
  by_cases hs1 : y0 = 1
  · refine lv_tableIn (tgt := 50) hC.x hC.b dX4_sOf_13 (by rw [hs1]; decide) (by rw [hs1]; decide) (by rw [hs1]; rfl) (by decide) ?_
    replace hq := hq.2.1 hs1
    refine lv_bipush (v := 7) hC.x hC.b dX4_sOf_50 (by decide) ?_
    exact hc_iret hC () hW hq dX4_sOf_52
  by_cases hs2 : y0 = 2
  · refine lv_tableIn (tgt := 53) hC.x hC.b dX4_sOf_13 (by rw [hs2]; decide) (by rw [hs2]; decide) (by rw [hs2]; rfl) (by decide) ?_
    replace hq := hq.2.2.1 hs2
    refine lv_bipush (v := 15) hC.x hC.b dX4_sOf_53 (by decide) ?_
    exact hc_iret hC () hW hq dX4_sOf_55
  by_cases hs3 : y0 = 3
  · refine lv_tableIn (tgt := 56) hC.x hC.b dX4_sOf_13 (by rw [hs3]; decide) (by rw [hs3]; decide) (by rw [hs3]; rfl) (by decide) ?_
    replace hq := hq.2.2.2.1 hs3
    refine lv_bipush (v := 20) hC.x hC.b dX4_sOf_56 (by decide) ?_
    exact hc_iret hC () hW hq dX4_sOf_58
  by_cases hs4 : y0 = 4
  · refine lv_tableIn (tgt := 59) hC.x hC.b dX4_sOf_13 (by rw [hs4]; decide) (by rw [hs4]; decide) (by rw [hs4]; rfl) (by decide) ?_
    replace hq := hq.2.2.2.2.1 hs4
    refine lv_bipush (v := 24) hC.x hC.b dX4_sOf_59 (by decide) ?_
    exact hc_iret hC () hW hq dX4_sOf_61
  refine lv_tableOut (tgt := 62) hC.x hC.b dX4_sOf_13 (by have e0 := lv_neT (a := 0) hs0 rfl; have e1 := lv_neT (a := 1) hs1 rfl; have e2 := lv_neT (a := 2) hs2 rfl; have e3 := lv_neT (a := 3) hs3 rfl; have e4 := lv_neT (a := 4) hs4 rfl; omega) (by decide) ?_
  replace hq := hq.2.2.2.2.2 ⟨hs0, hs1, hs2, hs3, hs4⟩
  refine lv_bipush (v := 25) hC.x hC.b dX4_sOf_62 (by decide) ?_
  exact hc_iret hC () hW hq dX4_sOf_64
def k_X4_sOf (x0 : Int32)  (Q : Int32 → Prop) : Prop :=
 (((5 : Int32) ≤ x0 → (k_X4_sOf_13  Q (10 - x0))) ∧
 (¬ (5 : Int32) ≤ x0 → (k_X4_sOf_13  Q x0)))
set_option maxHeartbeats 4000000 in
set_option maxRecDepth 100000 in
theorem c_X4_sOf (l : Launch) (D : va_G) (cy cz : ClassId) (t1 t2 : Nat)  (x0 : Int32)  (Q : Int32 → Prop) (hq : k_X4_sOf x0 Q) : Ct l D cy cz t1 t2 yX4_sOf cX4_sOf 1 (some .int) (rM 0 0) [.int x0] ([] : va_W) (QI D (S := Unit) (fun r u => Q r ) (fun _ => ([] : va_W))) := by
  refine Ct.of (own := RX4) (by decide) rfl (Nat.le_of_ble_eq_true rfl) ?_
  intro p e s m below meth c A ls hC hW hl
  unfold k_X4_sOf at hq
  have hl : lv_has ls 1 [(0, .int x0)] := hl
  refine lv_iload_n hC.x hC.b dX4_sOf_0 rfl (lv_at hl 0 rfl) ?_
  refine lv_iconst (v := 5) hC.x hC.b dX4_sOf_1 (by decide) ?_
  refine lv_icmp_ge (tgt := 9) hC.x hC.b dX4_sOf_2 (by decide) (fun hc9 => ?_) (fun hc9 => ?_)
  · replace hq := hq.1 hc9
    refine lv_bipush (v := 10) hC.x hC.b dX4_sOf_9 (by decide) ?_
    refine lv_iload_n hC.x hC.b dX4_sOf_11 rfl (lv_at hl 0 rfl) ?_
    refine lv_isub hC.x hC.b dX4_sOf_12 ?_
    exact B_X4_sOf_13  Q  hC (10 - x0) hq hW (lv_sub hl [] rfl)
  · replace hq := hq.2 hc9
    refine lv_iload_n hC.x hC.b dX4_sOf_5 rfl (lv_at hl 0 rfl) ?_
    refine lv_goto (tgt := 13) hC.x hC.b dX4_sOf_6 (by decide) ?_
    exact B_X4_sOf_13  Q  hC x0 hq hW (lv_sub hl [] rfl)
def k_X4_across (x0 : Int32) (x1 : Int32) (x2 : Int32)  (Q : Int32 → Prop) : Prop :=
 (k_X4_cOf x0 (fun r5 => (Q ((25 * x1) + (r5 * x2)))))
set_option maxHeartbeats 4000000 in
set_option maxRecDepth 100000 in
theorem c_X4_across (l : Launch) (D : va_G) (cy cz : ClassId) (t1 t2 : Nat)  (x0 : Int32) (x1 : Int32) (x2 : Int32)  (Q : Int32 → Prop) (hq : k_X4_across x0 x1 x2 Q) : Ct l D cy cz t1 t2 yX4_across cX4_across 3 (some .int) (rM 2 40) [.int x0, .int x1, .int x2] ([] : va_W) (QI D (S := Unit) (fun r u => Q r ) (fun _ => ([] : va_W))) := by
  refine Ct.of (own := RX4) (by decide) rfl (Nat.le_of_ble_eq_true rfl) ?_
  intro p e s m below meth c A ls hC hW hl
  unfold k_X4_across at hq
  have hl : lv_has ls 3 [(0, .int x0), (1, .int x1), (2, .int x2)] := hl
  refine lv_bipush (v := 25) hC.x hC.b dX4_across_0 (by decide) ?_
  refine lv_iload_n hC.x hC.b dX4_across_2 rfl (lv_at hl 1 rfl) ?_
  refine lv_imul hC.x hC.b dX4_across_3 ?_
  refine lv_iload_n hC.x hC.b dX4_across_4 rfl (lv_at hl 0 rfl) ?_
  refine hc_goP hC hW (hc_rS hC (c_X4_cOf l D cy cz t1 t2 x0 _ hq) (hc_preP hC hW) q_438 q_439 q_5 q_440 hd_X4_cOf ⟨rfl, rfl⟩ ⟨Nat.le_of_ble_eq_true rfl, Nat.le_of_ble_eq_true rfl⟩ rfl hl.1 rfl (Nat.le_of_ble_eq_true rfl) dX4_across_5 ⟨Nat.zero_le _, Nat.zero_le _⟩) (fun r5 H locs hq hW => ?_)
  try dsimp only at hq
  refine lv_iload_n hC.x hC.b dX4_across_8 rfl (lv_at hl 2 rfl) ?_
  refine lv_imul hC.x hC.b dX4_across_9 ?_
  refine lv_iadd hC.x hC.b dX4_across_10 ?_
  exact hc_iret hC () hW hq dX4_across_11
def k_X4_upOf (x0 : Int32) (x1 : Int32)  (Q : Int32 → Prop) : Prop :=
 (k_X4_sOf x0 (fun r1 => (Q (r1 * x1))))
set_option maxHeartbeats 4000000 in
set_option maxRecDepth 100000 in
theorem c_X4_upOf (l : Launch) (D : va_G) (cy cz : ClassId) (t1 t2 : Nat)  (x0 : Int32) (x1 : Int32)  (Q : Int32 → Prop) (hq : k_X4_upOf x0 x1 Q) : Ct l D cy cz t1 t2 yX4_upOf cX4_upOf 2 (some .int) (rM 1 20) [.int x0, .int x1] ([] : va_W) (QI D (S := Unit) (fun r u => Q r ) (fun _ => ([] : va_W))) := by
  refine Ct.of (own := RX4) (by decide) rfl (Nat.le_of_ble_eq_true rfl) ?_
  intro p e s m below meth c A ls hC hW hl
  unfold k_X4_upOf at hq
  have hl : lv_has ls 2 [(0, .int x0), (1, .int x1)] := hl
  refine lv_iload_n hC.x hC.b dX4_upOf_0 rfl (lv_at hl 0 rfl) ?_
  refine hc_goP hC hW (hc_rS hC (c_X4_sOf l D cy cz t1 t2 x0 _ hq) (hc_preP hC hW) q_447 q_448 q_5 q_449 hd_X4_sOf ⟨rfl, rfl⟩ ⟨Nat.le_of_ble_eq_true rfl, Nat.le_of_ble_eq_true rfl⟩ rfl hl.1 rfl (Nat.le_of_ble_eq_true rfl) dX4_upOf_1 ⟨Nat.zero_le _, Nat.zero_le _⟩) (fun r1 H locs hq hW => ?_)
  try dsimp only at hq
  refine lv_iload_n hC.x hC.b dX4_upOf_4 rfl (lv_at hl 1 rfl) ?_
  refine lv_imul hC.x hC.b dX4_upOf_5 ?_
  exact hc_iret hC () hW hq dX4_upOf_6
def k_X4_endP (x1 : Int32) (wm : Wd) (Q : Int32 → Wd → Prop) : Prop :=
 (vp_in x1 18 ∧ (vp_in x1 18 ∧ ((¬ (wm 3 (x1).toNatClampNeg) = 0 → (Q ((wm 4 (x1).toNatClampNeg) + 0) wm)) ∧
 ((wm 3 (x1).toNatClampNeg) = 0 → (vp_in x1 18 ∧ (Q ((wm 4 (x1).toNatClampNeg) + (wm 6 (x1).toNatClampNeg)) wm))))))
set_option maxHeartbeats 4000000 in
set_option maxRecDepth 100000 in
theorem c_X4_endP (l : Launch) (D : va_G) (cy cz : ClassId) (t1 t2 : Nat) (hm : Nat) (am : Nat → Nat) (x1 : Int32) (wm : Wd) (Q : Int32 → Wd → Prop) (hq : k_X4_endP x1 wm Q) : Ct l D cy cz t1 t2 yX4_endP cX4_endP 2 (some .int) (rM 0 0) [.ref hm, .int x1] (cM cy cz hm am wm) (QI D (S := Wd) (fun r u => Q r u) (fun u => (cM cy cz hm am u))) := by
  refine Ct.of (own := RX4) (by decide) rfl (Nat.le_of_ble_eq_true rfl) ?_
  intro p e s m below meth c A ls hC hW hl
  unfold k_X4_endP at hq
  have hl : lv_has ls 2 [(0, .ref hm), (1, .int x1)] := hl
  refine lv_aload_n hC.x hC.b dX4_endP_0 rfl (lv_at hl 0 rfl) ?_
  refine hc_get (v := .ref (am 4)) hC hW 0 4 4 inX4 rfl rfl (by decide) q_96 rfl dX4_endP_1 ?_
  refine lv_iload_n hC.x hC.b dX4_endP_4 rfl (lv_at hl 1 rfl) ?_
  refine hc_iald hC hW 5 rfl hq.1 dX4_endP_5 ?_
  replace hq := hq.2
  refine lv_aload_n hC.x hC.b dX4_endP_6 rfl (lv_at hl 0 rfl) ?_
  refine hc_get (v := .ref (am 3)) hC hW 0 4 3 inX4 rfl rfl (by decide) q_95 rfl dX4_endP_7 ?_
  refine lv_iload_n hC.x hC.b dX4_endP_10 rfl (lv_at hl 1 rfl) ?_
  refine hc_iald hC hW 4 rfl hq.1 dX4_endP_11 ?_
  replace hq := hq.2
  refine lv_if_ne (tgt := 24) hC.x hC.b dX4_endP_12 (by decide) (fun hc9 => ?_) (fun hc9 => ?_)
  · replace hq := hq.1 hc9
    refine lv_iconst (v := 0) hC.x hC.b dX4_endP_24 (by decide) ?_
    refine lv_iadd hC.x hC.b dX4_endP_25 ?_
    exact hc_iret hC (wm) hW hq dX4_endP_26
  · replace hq := hq.2 hc9
    refine lv_aload_n hC.x hC.b dX4_endP_15 rfl (lv_at hl 0 rfl) ?_
    refine hc_get (v := .ref (am 6)) hC hW 0 4 6 inX4 rfl rfl (by decide) q_98 rfl dX4_endP_16 ?_
    refine lv_iload_n hC.x hC.b dX4_endP_19 rfl (lv_at hl 1 rfl) ?_
    refine hc_iald hC hW 7 rfl hq.1 dX4_endP_20 ?_
    replace hq := hq.2
    refine lv_goto (tgt := 25) hC.x hC.b dX4_endP_21 (by decide) ?_
    refine lv_iadd hC.x hC.b dX4_endP_25 ?_
    exact hc_iret hC (wm) hW hq dX4_endP_26
def k_X4_endQ (x1 : Int32) (wm : Wd) (Q : Int32 → Wd → Prop) : Prop :=
 (vp_in x1 18 ∧ (vp_in x1 18 ∧ ((¬ (wm 3 (x1).toNatClampNeg) = 1 → (Q ((wm 5 (x1).toNatClampNeg) + 0) wm)) ∧
 ((wm 3 (x1).toNatClampNeg) = 1 → (vp_in x1 18 ∧ (Q ((wm 5 (x1).toNatClampNeg) + (wm 6 (x1).toNatClampNeg)) wm))))))
set_option maxHeartbeats 4000000 in
set_option maxRecDepth 100000 in
theorem c_X4_endQ (l : Launch) (D : va_G) (cy cz : ClassId) (t1 t2 : Nat) (hm : Nat) (am : Nat → Nat) (x1 : Int32) (wm : Wd) (Q : Int32 → Wd → Prop) (hq : k_X4_endQ x1 wm Q) : Ct l D cy cz t1 t2 yX4_endQ cX4_endQ 2 (some .int) (rM 0 0) [.ref hm, .int x1] (cM cy cz hm am wm) (QI D (S := Wd) (fun r u => Q r u) (fun u => (cM cy cz hm am u))) := by
  refine Ct.of (own := RX4) (by decide) rfl (Nat.le_of_ble_eq_true rfl) ?_
  intro p e s m below meth c A ls hC hW hl
  unfold k_X4_endQ at hq
  have hl : lv_has ls 2 [(0, .ref hm), (1, .int x1)] := hl
  refine lv_aload_n hC.x hC.b dX4_endQ_0 rfl (lv_at hl 0 rfl) ?_
  refine hc_get (v := .ref (am 5)) hC hW 0 4 5 inX4 rfl rfl (by decide) q_97 rfl dX4_endQ_1 ?_
  refine lv_iload_n hC.x hC.b dX4_endQ_4 rfl (lv_at hl 1 rfl) ?_
  refine hc_iald hC hW 6 rfl hq.1 dX4_endQ_5 ?_
  replace hq := hq.2
  refine lv_aload_n hC.x hC.b dX4_endQ_6 rfl (lv_at hl 0 rfl) ?_
  refine hc_get (v := .ref (am 3)) hC hW 0 4 3 inX4 rfl rfl (by decide) q_95 rfl dX4_endQ_7 ?_
  refine lv_iload_n hC.x hC.b dX4_endQ_10 rfl (lv_at hl 1 rfl) ?_
  refine hc_iald hC hW 4 rfl hq.1 dX4_endQ_11 ?_
  replace hq := hq.2
  refine lv_iconst (v := 1) hC.x hC.b dX4_endQ_12 (by decide) ?_
  refine lv_icmp_ne (tgt := 25) hC.x hC.b dX4_endQ_13 (by decide) (fun hc9 => ?_) (fun hc9 => ?_)
  · replace hq := hq.1 hc9
    refine lv_iconst (v := 0) hC.x hC.b dX4_endQ_25 (by decide) ?_
    refine lv_iadd hC.x hC.b dX4_endQ_26 ?_
    exact hc_iret hC (wm) hW hq dX4_endQ_27
  · replace hq := hq.2 hc9
    refine lv_aload_n hC.x hC.b dX4_endQ_16 rfl (lv_at hl 0 rfl) ?_
    refine hc_get (v := .ref (am 6)) hC hW 0 4 6 inX4 rfl rfl (by decide) q_98 rfl dX4_endQ_17 ?_
    refine lv_iload_n hC.x hC.b dX4_endQ_20 rfl (lv_at hl 1 rfl) ?_
    refine hc_iald hC hW 7 rfl hq.1 dX4_endQ_21 ?_
    replace hq := hq.2
    refine lv_goto (tgt := 26) hC.x hC.b dX4_endQ_22 (by decide) ?_
    refine lv_iadd hC.x hC.b dX4_endQ_26 ?_
    exact hc_iret hC (wm) hW hq dX4_endQ_27
def k_X4_view_149 (K38 : (Int32 × Int32 × Int32 × Int32 × Int32 × Wd) → Prop) (K50 : (Int32 × Int32 × Int32 × Int32 × Int32 × Int32 × Wd) → Prop) (Q : Int32 → Wd → Prop) (x1 : Int32) (x2 : Int32) (x3 : Int32) (x5 : Int32) (x6 : Int32) (y0 : Int32) (wm : Wd) : Prop :=
 (K50 (x1, x2, x3, y0, x5, (x6 + 1), wm))
set_option maxHeartbeats 4000000 in
set_option maxRecDepth 100000 in
theorem B_X4_view_149 {l : Launch} {p : Program} {e : Env} {s : State} {m : MethodId} {args : Array Value} {below : List Frame} {meth : Method} {c : Code} {A : Nat → Prop} {D : va_G} {cy cz : ClassId} {t1 t2 : Nat} (hm : Nat) (am : Nat → Nat) (Q : Int32 → Wd → Prop) (K38 : (Int32 × Int32 × Int32 × Int32 × Int32 × Wd) → Prop) (hK38 : ∀ b9 : Int32 × Int32 × Int32 × Int32 × Int32 × Wd, K38 b9 → ∀ (H : Heap) (locs : List Loc) (ls : Array Slot), Wo D A s (cM cy cz hm am b9.2.2.2.2.2) H locs → lv_has ls 9 [(0, .ref hm), (1, .int b9.1), (2, .int b9.2.1), (3, .int b9.2.2.1), (4, .int b9.2.2.2.1), (5, .int b9.2.2.2.2.1)] → W p l e (rM 5 119) s m args below meth c H locs 0 0 (MQ below (QI D (S := Wd) (fun r u => Q r u) (fun u => (cM cy cz hm am u)) A) args s 0 0 A) (F0 m 38 ls [])) (K50 : (Int32 × Int32 × Int32 × Int32 × Int32 × Int32 × Wd) → Prop) (hK50 : ∀ b9 : Int32 × Int32 × Int32 × Int32 × Int32 × Int32 × Wd, K50 b9 → ∀ (H : Heap) (locs : List Loc) (ls : Array Slot), Wo D A s (cM cy cz hm am b9.2.2.2.2.2.2) H locs → lv_has ls 9 [(0, .ref hm), (1, .int b9.1), (2, .int b9.2.1), (3, .int b9.2.2.1), (4, .int b9.2.2.2.1), (5, .int b9.2.2.2.2.1), (6, .int b9.2.2.2.2.2.1)] → W p l e (rM 5 119) s m args below meth c H locs 0 0 (MQ below (QI D (S := Wd) (fun r u => Q r u) (fun u => (cM cy cz hm am u)) A) args s 0 0 A) (F0 m 50 ls [])) (hC : Cx D cy cz t1 t2 p s m args meth c cX4_view 9 (some .int) RX4 A) (x1 : Int32) (x2 : Int32) (x3 : Int32) (x5 : Int32) (x6 : Int32) (y0 : Int32) (wm : Wd) {H : Heap} {locs : List Loc} {ls : Array Slot} (hq : k_X4_view_149 K38 K50 Q x1 x2 x3 x5 x6 y0 wm) (hW : Wo D A s (cM cy cz hm am wm) H locs) (hl : lv_has ls 9 [(0, .ref hm), (1, .int x1), (2, .int x2), (3, .int x3), (5, .int x5), (6, .int x6)]) : W p l e (rM 5 119) s m args below meth c H locs 0 0 (MQ below (QI D (S := Wd) (fun r u => Q r u) (fun u => (cM cy cz hm am u)) A) args s 0 0 A) (F0 m 149 ls [.int y0]) := by
  unfold k_X4_view_149 at hq
  refine lv_istore (lv' := [(4, .int y0), (0, .ref hm), (1, .int x1), (2, .int x2), (3, .int x3), (5, .int x5), (6, .int x6)]) hC.x hC.b dX4_view_149 hl (by decide) rfl (fun ls hl => ?_)
  refine lv_iinc (v := (x6 + 1)) (lv' := [(6, .int (x6 + 1)), (4, .int y0), (0, .ref hm), (1, .int x1), (2, .int x2), (3, .int x3), (5, .int x5)]) hC.x hC.b dX4_view_151 hl (k := 6) rfl rfl (by decide) rfl (fun ls hl => ?_)
  refine lv_goto (tgt := 50) hC.x hC.b dX4_view_154 (by decide) ?_
  exact hK50 (x1, x2, x3, y0, x5, (x6 + 1), wm) hq _ _ _ hW (lv_sub hl [2, 3, 4, 5, 1, 6, 0] rfl)
def k_X4_view_134 (K38 : (Int32 × Int32 × Int32 × Int32 × Int32 × Wd) → Prop) (K50 : (Int32 × Int32 × Int32 × Int32 × Int32 × Int32 × Wd) → Prop) (Q : Int32 → Wd → Prop) (x1 : Int32) (x2 : Int32) (x4 : Int32) (x5 : Int32) (x6 : Int32) (x8 : Int32) (y0 : Int32) (wm : Wd) : Prop :=
 ((x8 ≤ x4 → (k_X4_view_149 K38 K50 Q x1 x2 y0 x5 x6 x4 wm)) ∧
 (¬ x8 ≤ x4 → (k_X4_view_149 K38 K50 Q x1 x2 y0 x5 x6 x8 wm)))
set_option maxHeartbeats 4000000 in
set_option maxRecDepth 100000 in
theorem B_X4_view_134 {l : Launch} {p : Program} {e : Env} {s : State} {m : MethodId} {args : Array Value} {below : List Frame} {meth : Method} {c : Code} {A : Nat → Prop} {D : va_G} {cy cz : ClassId} {t1 t2 : Nat} (hm : Nat) (am : Nat → Nat) (Q : Int32 → Wd → Prop) (K38 : (Int32 × Int32 × Int32 × Int32 × Int32 × Wd) → Prop) (hK38 : ∀ b9 : Int32 × Int32 × Int32 × Int32 × Int32 × Wd, K38 b9 → ∀ (H : Heap) (locs : List Loc) (ls : Array Slot), Wo D A s (cM cy cz hm am b9.2.2.2.2.2) H locs → lv_has ls 9 [(0, .ref hm), (1, .int b9.1), (2, .int b9.2.1), (3, .int b9.2.2.1), (4, .int b9.2.2.2.1), (5, .int b9.2.2.2.2.1)] → W p l e (rM 5 119) s m args below meth c H locs 0 0 (MQ below (QI D (S := Wd) (fun r u => Q r u) (fun u => (cM cy cz hm am u)) A) args s 0 0 A) (F0 m 38 ls [])) (K50 : (Int32 × Int32 × Int32 × Int32 × Int32 × Int32 × Wd) → Prop) (hK50 : ∀ b9 : Int32 × Int32 × Int32 × Int32 × Int32 × Int32 × Wd, K50 b9 → ∀ (H : Heap) (locs : List Loc) (ls : Array Slot), Wo D A s (cM cy cz hm am b9.2.2.2.2.2.2) H locs → lv_has ls 9 [(0, .ref hm), (1, .int b9.1), (2, .int b9.2.1), (3, .int b9.2.2.1), (4, .int b9.2.2.2.1), (5, .int b9.2.2.2.2.1), (6, .int b9.2.2.2.2.2.1)] → W p l e (rM 5 119) s m args below meth c H locs 0 0 (MQ below (QI D (S := Wd) (fun r u => Q r u) (fun u => (cM cy cz hm am u)) A) args s 0 0 A) (F0 m 50 ls [])) (hC : Cx D cy cz t1 t2 p s m args meth c cX4_view 9 (some .int) RX4 A) (x1 : Int32) (x2 : Int32) (x4 : Int32) (x5 : Int32) (x6 : Int32) (x8 : Int32) (y0 : Int32) (wm : Wd) {H : Heap} {locs : List Loc} {ls : Array Slot} (hq : k_X4_view_134 K38 K50 Q x1 x2 x4 x5 x6 x8 y0 wm) (hW : Wo D A s (cM cy cz hm am wm) H locs) (hl : lv_has ls 9 [(0, .ref hm), (1, .int x1), (2, .int x2), (4, .int x4), (5, .int x5), (6, .int x6), (8, .int x8)]) : W p l e (rM 5 119) s m args below meth c H locs 0 0 (MQ below (QI D (S := Wd) (fun r u => Q r u) (fun u => (cM cy cz hm am u)) A) args s 0 0 A) (F0 m 134 ls [.int y0]) := by
  unfold k_X4_view_134 at hq
  refine lv_istore_n (lv' := [(3, .int y0), (0, .ref hm), (1, .int x1), (2, .int x2), (4, .int x4), (5, .int x5), (6, .int x6), (8, .int x8)]) hC.x hC.b dX4_view_134 rfl hl (by decide) rfl (fun ls hl => ?_)
  refine lv_iload hC.x hC.b dX4_view_135 (lv_at hl 7 rfl) ?_
  refine lv_iload hC.x hC.b dX4_view_137 (lv_at hl 4 rfl) ?_
  refine lv_icmp_le (tgt := 147) hC.x hC.b dX4_view_139 (by decide) (fun hc9 => ?_) (fun hc9 => ?_)
  · replace hq := hq.1 hc9
    refine lv_iload hC.x hC.b dX4_view_147 (lv_at hl 4 rfl) ?_
    exact B_X4_view_149 hm am Q K38 hK38 K50 hK50 hC x1 x2 y0 x5 x6 x4 wm hq hW (lv_sub hl [1, 2, 3, 0, 5, 6] rfl)
  · replace hq := hq.2 hc9
    refine lv_iload hC.x hC.b dX4_view_142 (lv_at hl 7 rfl) ?_
    refine lv_goto (tgt := 149) hC.x hC.b dX4_view_144 (by decide) ?_
    exact B_X4_view_149 hm am Q K38 hK38 K50 hK50 hC x1 x2 y0 x5 x6 x8 wm hq hW (lv_sub hl [1, 2, 3, 0, 5, 6] rfl)
def k_X4_view_120 (K38 : (Int32 × Int32 × Int32 × Int32 × Int32 × Wd) → Prop) (K50 : (Int32 × Int32 × Int32 × Int32 × Int32 × Int32 × Wd) → Prop) (Q : Int32 → Wd → Prop) (x1 : Int32) (x2 : Int32) (x3 : Int32) (x4 : Int32) (x5 : Int32) (x6 : Int32) (y0 : Int32) (wm : Wd) : Prop :=
 ((x3 ≤ y0 → (k_X4_view_134 K38 K50 Q x1 x2 x4 x5 x6 y0 x3 wm)) ∧
 (¬ x3 ≤ y0 → (k_X4_view_134 K38 K50 Q x1 x2 x4 x5 x6 y0 y0 wm)))
set_option maxHeartbeats 4000000 in
set_option maxRecDepth 100000 in
theorem B_X4_view_120 {l : Launch} {p : Program} {e : Env} {s : State} {m : MethodId} {args : Array Value} {below : List Frame} {meth : Method} {c : Code} {A : Nat → Prop} {D : va_G} {cy cz : ClassId} {t1 t2 : Nat} (hm : Nat) (am : Nat → Nat) (Q : Int32 → Wd → Prop) (K38 : (Int32 × Int32 × Int32 × Int32 × Int32 × Wd) → Prop) (hK38 : ∀ b9 : Int32 × Int32 × Int32 × Int32 × Int32 × Wd, K38 b9 → ∀ (H : Heap) (locs : List Loc) (ls : Array Slot), Wo D A s (cM cy cz hm am b9.2.2.2.2.2) H locs → lv_has ls 9 [(0, .ref hm), (1, .int b9.1), (2, .int b9.2.1), (3, .int b9.2.2.1), (4, .int b9.2.2.2.1), (5, .int b9.2.2.2.2.1)] → W p l e (rM 5 119) s m args below meth c H locs 0 0 (MQ below (QI D (S := Wd) (fun r u => Q r u) (fun u => (cM cy cz hm am u)) A) args s 0 0 A) (F0 m 38 ls [])) (K50 : (Int32 × Int32 × Int32 × Int32 × Int32 × Int32 × Wd) → Prop) (hK50 : ∀ b9 : Int32 × Int32 × Int32 × Int32 × Int32 × Int32 × Wd, K50 b9 → ∀ (H : Heap) (locs : List Loc) (ls : Array Slot), Wo D A s (cM cy cz hm am b9.2.2.2.2.2.2) H locs → lv_has ls 9 [(0, .ref hm), (1, .int b9.1), (2, .int b9.2.1), (3, .int b9.2.2.1), (4, .int b9.2.2.2.1), (5, .int b9.2.2.2.2.1), (6, .int b9.2.2.2.2.2.1)] → W p l e (rM 5 119) s m args below meth c H locs 0 0 (MQ below (QI D (S := Wd) (fun r u => Q r u) (fun u => (cM cy cz hm am u)) A) args s 0 0 A) (F0 m 50 ls [])) (hC : Cx D cy cz t1 t2 p s m args meth c cX4_view 9 (some .int) RX4 A) (x1 : Int32) (x2 : Int32) (x3 : Int32) (x4 : Int32) (x5 : Int32) (x6 : Int32) (y0 : Int32) (wm : Wd) {H : Heap} {locs : List Loc} {ls : Array Slot} (hq : k_X4_view_120 K38 K50 Q x1 x2 x3 x4 x5 x6 y0 wm) (hW : Wo D A s (cM cy cz hm am wm) H locs) (hl : lv_has ls 9 [(0, .ref hm), (1, .int x1), (2, .int x2), (3, .int x3), (4, .int x4), (5, .int x5), (6, .int x6)]) : W p l e (rM 5 119) s m args below meth c H locs 0 0 (MQ below (QI D (S := Wd) (fun r u => Q r u) (fun u => (cM cy cz hm am u)) A) args s 0 0 A) (F0 m 120 ls [.int y0]) := by
  unfold k_X4_view_120 at hq
  refine lv_istore (lv' := [(8, .int y0), (0, .ref hm), (1, .int x1), (2, .int x2), (3, .int x3), (4, .int x4), (5, .int x5), (6, .int x6)]) hC.x hC.b dX4_view_120 hl (by decide) rfl (fun ls hl => ?_)
  refine lv_iload hC.x hC.b dX4_view_122 (lv_at hl 0 rfl) ?_
  refine lv_iload_n hC.x hC.b dX4_view_124 rfl (lv_at hl 4 rfl) ?_
  refine lv_icmp_ge (tgt := 133) hC.x hC.b dX4_view_125 (by decide) (fun hc9 => ?_) (fun hc9 => ?_)
  · replace hq := hq.1 hc9
    refine lv_iload_n hC.x hC.b dX4_view_133 rfl (lv_at hl 4 rfl) ?_
    exact B_X4_view_134 hm am Q K38 hK38 K50 hK50 hC x1 x2 x4 x5 x6 y0 x3 wm hq hW (lv_sub hl [1, 2, 3, 5, 6, 7, 0] rfl)
  · replace hq := hq.2 hc9
    refine lv_iload hC.x hC.b dX4_view_128 (lv_at hl 0 rfl) ?_
    refine lv_goto (tgt := 134) hC.x hC.b dX4_view_130 (by decide) ?_
    exact B_X4_view_134 hm am Q K38 hK38 K50 hK50 hC x1 x2 x4 x5 x6 y0 y0 wm hq hW (lv_sub hl [1, 2, 3, 5, 6, 7, 0] rfl)
def k_X4_view_106 (K38 : (Int32 × Int32 × Int32 × Int32 × Int32 × Wd) → Prop) (K50 : (Int32 × Int32 × Int32 × Int32 × Int32 × Int32 × Wd) → Prop) (Q : Int32 → Wd → Prop) (x1 : Int32) (x2 : Int32) (x3 : Int32) (x4 : Int32) (x5 : Int32) (x6 : Int32) (x7 : Int32) (y0 : Int32) (y1 : Int32) (wm : Wd) : Prop :=
 (k_X4_across y1 y0 x7 (fun r108 => (k_X4_view_120 K38 K50 Q x1 x2 x3 x4 x5 x6 r108 wm)))
set_option maxHeartbeats 4000000 in
set_option maxRecDepth 100000 in
theorem B_X4_view_106 {l : Launch} {p : Program} {e : Env} {s : State} {m : MethodId} {args : Array Value} {below : List Frame} {meth : Method} {c : Code} {A : Nat → Prop} {D : va_G} {cy cz : ClassId} {t1 t2 : Nat} (hm : Nat) (am : Nat → Nat) (Q : Int32 → Wd → Prop) (K38 : (Int32 × Int32 × Int32 × Int32 × Int32 × Wd) → Prop) (hK38 : ∀ b9 : Int32 × Int32 × Int32 × Int32 × Int32 × Wd, K38 b9 → ∀ (H : Heap) (locs : List Loc) (ls : Array Slot), Wo D A s (cM cy cz hm am b9.2.2.2.2.2) H locs → lv_has ls 9 [(0, .ref hm), (1, .int b9.1), (2, .int b9.2.1), (3, .int b9.2.2.1), (4, .int b9.2.2.2.1), (5, .int b9.2.2.2.2.1)] → W p l e (rM 5 119) s m args below meth c H locs 0 0 (MQ below (QI D (S := Wd) (fun r u => Q r u) (fun u => (cM cy cz hm am u)) A) args s 0 0 A) (F0 m 38 ls [])) (K50 : (Int32 × Int32 × Int32 × Int32 × Int32 × Int32 × Wd) → Prop) (hK50 : ∀ b9 : Int32 × Int32 × Int32 × Int32 × Int32 × Int32 × Wd, K50 b9 → ∀ (H : Heap) (locs : List Loc) (ls : Array Slot), Wo D A s (cM cy cz hm am b9.2.2.2.2.2.2) H locs → lv_has ls 9 [(0, .ref hm), (1, .int b9.1), (2, .int b9.2.1), (3, .int b9.2.2.1), (4, .int b9.2.2.2.1), (5, .int b9.2.2.2.2.1), (6, .int b9.2.2.2.2.2.1)] → W p l e (rM 5 119) s m args below meth c H locs 0 0 (MQ below (QI D (S := Wd) (fun r u => Q r u) (fun u => (cM cy cz hm am u)) A) args s 0 0 A) (F0 m 50 ls [])) (hC : Cx D cy cz t1 t2 p s m args meth c cX4_view 9 (some .int) RX4 A) (x1 : Int32) (x2 : Int32) (x3 : Int32) (x4 : Int32) (x5 : Int32) (x6 : Int32) (x7 : Int32) (y0 : Int32) (y1 : Int32) (wm : Wd) {H : Heap} {locs : List Loc} {ls : Array Slot} (hq : k_X4_view_106 K38 K50 Q x1 x2 x3 x4 x5 x6 x7 y0 y1 wm) (hW : Wo D A s (cM cy cz hm am wm) H locs) (hl : lv_has ls 9 [(0, .ref hm), (1, .int x1), (2, .int x2), (3, .int x3), (4, .int x4), (5, .int x5), (6, .int x6), (7, .int x7)]) : W p l e (rM 5 119) s m args below meth c H locs 0 0 (MQ below (QI D (S := Wd) (fun r u => Q r u) (fun u => (cM cy cz hm am u)) A) args s 0 0 A) (F0 m 106 ls [.int y0, .int y1]) := by
  unfold k_X4_view_106 at hq
  refine lv_iload hC.x hC.b dX4_view_106 (lv_at hl 7 rfl) ?_
  refine hc_goP hC hW (hc_rS hC (c_X4_across l D cy cz t1 t2 y1 y0 x7 _ hq) (hc_preP hC hW) q_435 q_436 q_5 q_437 hd_X4_across ⟨rfl, rfl⟩ ⟨Nat.le_of_ble_eq_true rfl, Nat.le_of_ble_eq_true rfl⟩ rfl hl.1 rfl (Nat.le_of_ble_eq_true rfl) dX4_view_108 ⟨Nat.zero_le _, Nat.zero_le _⟩) (fun r108 H locs hq hW => ?_)
  try dsimp only at hq
  refine lv_goto (tgt := 120) hC.x hC.b dX4_view_111 (by decide) ?_
  exact B_X4_view_120 hm am Q K38 hK38 K50 hK50 hC x1 x2 x3 x4 x5 x6 r108 wm hq hW (lv_sub hl [0, 1, 2, 3, 4, 5, 6] rfl)
def k_X4_view_77 (K38 : (Int32 × Int32 × Int32 × Int32 × Int32 × Wd) → Prop) (K50 : (Int32 × Int32 × Int32 × Int32 × Int32 × Int32 × Wd) → Prop) (Q : Int32 → Wd → Prop) (x1 : Int32) (x2 : Int32) (x3 : Int32) (x4 : Int32) (x5 : Int32) (x6 : Int32) (y0 : Int32) (wm : Wd) : Prop :=
 (((2 : Int32) ≤ x2 → (k_X4_upOf x1 y0 (fun r117 => (k_X4_view_120 K38 K50 Q x1 x2 x3 x4 x5 x6 r117 wm)))) ∧
 (¬ (2 : Int32) ≤ x2 → ((¬ x6 = 0 → (k_X4_endP x5 wm (fun r103 wm103 => (k_X4_view_106 K38 K50 Q x1 x2 x3 x4 x5 x6 y0 r103 x1 wm103)))) ∧
 (x6 = 0 → (vp_in x5 18 ∧ (k_X4_view_106 K38 K50 Q x1 x2 x3 x4 x5 x6 y0 (wm 4 (x5).toNatClampNeg) x1 wm))))))
set_option maxHeartbeats 4000000 in
set_option maxRecDepth 100000 in
theorem B_X4_view_77 {l : Launch} {p : Program} {e : Env} {s : State} {m : MethodId} {args : Array Value} {below : List Frame} {meth : Method} {c : Code} {A : Nat → Prop} {D : va_G} {cy cz : ClassId} {t1 t2 : Nat} (hm : Nat) (am : Nat → Nat) (Q : Int32 → Wd → Prop) (K38 : (Int32 × Int32 × Int32 × Int32 × Int32 × Wd) → Prop) (hK38 : ∀ b9 : Int32 × Int32 × Int32 × Int32 × Int32 × Wd, K38 b9 → ∀ (H : Heap) (locs : List Loc) (ls : Array Slot), Wo D A s (cM cy cz hm am b9.2.2.2.2.2) H locs → lv_has ls 9 [(0, .ref hm), (1, .int b9.1), (2, .int b9.2.1), (3, .int b9.2.2.1), (4, .int b9.2.2.2.1), (5, .int b9.2.2.2.2.1)] → W p l e (rM 5 119) s m args below meth c H locs 0 0 (MQ below (QI D (S := Wd) (fun r u => Q r u) (fun u => (cM cy cz hm am u)) A) args s 0 0 A) (F0 m 38 ls [])) (K50 : (Int32 × Int32 × Int32 × Int32 × Int32 × Int32 × Wd) → Prop) (hK50 : ∀ b9 : Int32 × Int32 × Int32 × Int32 × Int32 × Int32 × Wd, K50 b9 → ∀ (H : Heap) (locs : List Loc) (ls : Array Slot), Wo D A s (cM cy cz hm am b9.2.2.2.2.2.2) H locs → lv_has ls 9 [(0, .ref hm), (1, .int b9.1), (2, .int b9.2.1), (3, .int b9.2.2.1), (4, .int b9.2.2.2.1), (5, .int b9.2.2.2.2.1), (6, .int b9.2.2.2.2.2.1)] → W p l e (rM 5 119) s m args below meth c H locs 0 0 (MQ below (QI D (S := Wd) (fun r u => Q r u) (fun u => (cM cy cz hm am u)) A) args s 0 0 A) (F0 m 50 ls [])) (hC : Cx D cy cz t1 t2 p s m args meth c cX4_view 9 (some .int) RX4 A) (x1 : Int32) (x2 : Int32) (x3 : Int32) (x4 : Int32) (x5 : Int32) (x6 : Int32) (y0 : Int32) (wm : Wd) {H : Heap} {locs : List Loc} {ls : Array Slot} (hq : k_X4_view_77 K38 K50 Q x1 x2 x3 x4 x5 x6 y0 wm) (hW : Wo D A s (cM cy cz hm am wm) H locs) (hl : lv_has ls 9 [(0, .ref hm), (1, .int x1), (2, .int x2), (3, .int x3), (4, .int x4), (5, .int x5), (6, .int x6)]) : W p l e (rM 5 119) s m args below meth c H locs 0 0 (MQ below (QI D (S := Wd) (fun r u => Q r u) (fun u => (cM cy cz hm am u)) A) args s 0 0 A) (F0 m 77 ls [.int y0]) := by
  unfold k_X4_view_77 at hq
  refine lv_istore (lv' := [(7, .int y0), (0, .ref hm), (1, .int x1), (2, .int x2), (3, .int x3), (4, .int x4), (5, .int x5), (6, .int x6)]) hC.x hC.b dX4_view_77 hl (by decide) rfl (fun ls hl => ?_)
  refine lv_iload_n hC.x hC.b dX4_view_79 rfl (lv_at hl 3 rfl) ?_
  refine lv_iconst (v := 2) hC.x hC.b dX4_view_80 (by decide) ?_
  refine lv_icmp_ge (tgt := 114) hC.x hC.b dX4_view_81 (by decide) (fun hc9 => ?_) (fun hc9 => ?_)
  · replace hq := hq.1 hc9
    refine lv_iload_n hC.x hC.b dX4_view_114 rfl (lv_at hl 2 rfl) ?_
    refine lv_iload hC.x hC.b dX4_view_115 (lv_at hl 0 rfl) ?_
    refine hc_goP hC hW (hc_rS hC (c_X4_upOf l D cy cz t1 t2 x1 y0 _ hq) (hc_preP hC hW) q_444 q_445 q_5 q_446 hd_X4_upOf ⟨rfl, rfl⟩ ⟨Nat.le_of_ble_eq_true rfl, Nat.le_of_ble_eq_true rfl⟩ rfl hl.1 rfl (Nat.le_of_ble_eq_true rfl) dX4_view_117 ⟨Nat.zero_le _, Nat.zero_le _⟩) (fun r117 H locs hq hW => ?_)
    try dsimp only at hq
    exact B_X4_view_120 hm am Q K38 hK38 K50 hK50 hC x1 x2 x3 x4 x5 x6 r117 wm hq hW (lv_sub hl [1, 2, 3, 4, 5, 6, 7] rfl)
  · replace hq := hq.2 hc9
    refine lv_iload_n hC.x hC.b dX4_view_84 rfl (lv_at hl 2 rfl) ?_
    refine lv_iload hC.x hC.b dX4_view_85 (lv_at hl 7 rfl) ?_
    refine lv_if_ne (tgt := 100) hC.x hC.b dX4_view_87 (by decide) (fun hc9 => ?_) (fun hc9 => ?_)
    · replace hq := hq.1 hc9
      refine lv_aload_n hC.x hC.b dX4_view_100 rfl (lv_at hl 1 rfl) ?_
      refine lv_iload hC.x hC.b dX4_view_101 (lv_at hl 6 rfl) ?_
      refine hc_goIW hC hW (hc_rV hC (c_X4_endP l D cy cz t1 t2 hm am x5 wm _ hq) (hc_preW hC hW) hW 0 4 rfl rfl q_431 q_432 q_433 q_5 q_434 hd_X4_endP ⟨rfl, rfl⟩ ⟨Nat.le_of_ble_eq_true rfl, Nat.le_of_ble_eq_true rfl⟩ rfl hl.1 rfl (Nat.le_of_ble_eq_true rfl) dX4_view_103 ⟨Nat.zero_le _, Nat.zero_le _⟩) (fun r103 u9 H locs hq hW => ?_)
      obtain ⟨wm103, rfl⟩ : ∃ z, z = u9 := ⟨_, rfl⟩
      try dsimp only at hq hW
      exact B_X4_view_106 hm am Q K38 hK38 K50 hK50 hC x1 x2 x3 x4 x5 x6 y0 r103 x1 wm103 hq hW (lv_sub hl [1, 2, 3, 4, 5, 6, 7, 0] rfl)
    · replace hq := hq.2 hc9
      refine lv_aload_n hC.x hC.b dX4_view_90 rfl (lv_at hl 1 rfl) ?_
      refine hc_get (v := .ref (am 4)) hC hW 0 4 4 inX4 rfl rfl (by decide) q_96 rfl dX4_view_91 ?_
      refine lv_iload hC.x hC.b dX4_view_94 (lv_at hl 6 rfl) ?_
      refine hc_iald hC hW 5 rfl hq.1 dX4_view_96 ?_
      replace hq := hq.2
      refine lv_goto (tgt := 106) hC.x hC.b dX4_view_97 (by decide) ?_
      exact B_X4_view_106 hm am Q K38 hK38 K50 hK50 hC x1 x2 x3 x4 x5 x6 y0 (wm 4 (x5).toNatClampNeg) x1 wm hq hW (lv_sub hl [1, 2, 3, 4, 5, 6, 7, 0] rfl)
def k_X4_view_50 (K38 : (Int32 × Int32 × Int32 × Int32 × Int32 × Wd) → Prop) (K50 : (Int32 × Int32 × Int32 × Int32 × Int32 × Int32 × Wd) → Prop) (Q : Int32 → Wd → Prop) (x1 : Int32) (x2 : Int32) (x3 : Int32) (x4 : Int32) (x5 : Int32) (x6 : Int32) (wm : Wd) : Prop :=
 (((2 : Int32) ≤ x6 → (K38 (x1, x2, x3, x4, (x5 + 1), wm))) ∧
 (¬ (2 : Int32) ≤ x6 → ((¬ x6 = 0 → (k_X4_endQ x5 wm (fun r74 wm74 => (k_X4_view_77 K38 K50 Q x1 x2 x3 x4 x5 x6 r74 wm74)))) ∧
 (x6 = 0 → (vp_in x5 18 ∧ (k_X4_view_77 K38 K50 Q x1 x2 x3 x4 x5 x6 (wm 5 (x5).toNatClampNeg) wm))))))
set_option maxHeartbeats 4000000 in
set_option maxRecDepth 100000 in
theorem B_X4_view_50 {l : Launch} {p : Program} {e : Env} {s : State} {m : MethodId} {args : Array Value} {below : List Frame} {meth : Method} {c : Code} {A : Nat → Prop} {D : va_G} {cy cz : ClassId} {t1 t2 : Nat} (hm : Nat) (am : Nat → Nat) (Q : Int32 → Wd → Prop) (K38 : (Int32 × Int32 × Int32 × Int32 × Int32 × Wd) → Prop) (hK38 : ∀ b9 : Int32 × Int32 × Int32 × Int32 × Int32 × Wd, K38 b9 → ∀ (H : Heap) (locs : List Loc) (ls : Array Slot), Wo D A s (cM cy cz hm am b9.2.2.2.2.2) H locs → lv_has ls 9 [(0, .ref hm), (1, .int b9.1), (2, .int b9.2.1), (3, .int b9.2.2.1), (4, .int b9.2.2.2.1), (5, .int b9.2.2.2.2.1)] → W p l e (rM 5 119) s m args below meth c H locs 0 0 (MQ below (QI D (S := Wd) (fun r u => Q r u) (fun u => (cM cy cz hm am u)) A) args s 0 0 A) (F0 m 38 ls [])) (K50 : (Int32 × Int32 × Int32 × Int32 × Int32 × Int32 × Wd) → Prop) (hK50 : ∀ b9 : Int32 × Int32 × Int32 × Int32 × Int32 × Int32 × Wd, K50 b9 → ∀ (H : Heap) (locs : List Loc) (ls : Array Slot), Wo D A s (cM cy cz hm am b9.2.2.2.2.2.2) H locs → lv_has ls 9 [(0, .ref hm), (1, .int b9.1), (2, .int b9.2.1), (3, .int b9.2.2.1), (4, .int b9.2.2.2.1), (5, .int b9.2.2.2.2.1), (6, .int b9.2.2.2.2.2.1)] → W p l e (rM 5 119) s m args below meth c H locs 0 0 (MQ below (QI D (S := Wd) (fun r u => Q r u) (fun u => (cM cy cz hm am u)) A) args s 0 0 A) (F0 m 50 ls [])) (hC : Cx D cy cz t1 t2 p s m args meth c cX4_view 9 (some .int) RX4 A) (x1 : Int32) (x2 : Int32) (x3 : Int32) (x4 : Int32) (x5 : Int32) (x6 : Int32) (wm : Wd) {H : Heap} {locs : List Loc} {ls : Array Slot} (hq : k_X4_view_50 K38 K50 Q x1 x2 x3 x4 x5 x6 wm) (hW : Wo D A s (cM cy cz hm am wm) H locs) (hl : lv_has ls 9 [(0, .ref hm), (1, .int x1), (2, .int x2), (3, .int x3), (4, .int x4), (5, .int x5), (6, .int x6)]) : W p l e (rM 5 119) s m args below meth c H locs 0 0 (MQ below (QI D (S := Wd) (fun r u => Q r u) (fun u => (cM cy cz hm am u)) A) args s 0 0 A) (F0 m 50 ls []) := by
  unfold k_X4_view_50 at hq
  refine lv_iload hC.x hC.b dX4_view_50 (lv_at hl 6 rfl) ?_
  refine lv_iconst (v := 2) hC.x hC.b dX4_view_52 (by decide) ?_
  refine lv_icmp_ge (tgt := 157) hC.x hC.b dX4_view_53 (by decide) (fun hc9 => ?_) (fun hc9 => ?_)
  · replace hq := hq.1 hc9
    refine lv_iinc (v := (x5 + 1)) (lv' := [(5, .int (x5 + 1)), (0, .ref hm), (1, .int x1), (2, .int x2), (3, .int x3), (4, .int x4), (6, .int x6)]) hC.x hC.b dX4_view_157 hl (k := 5) rfl rfl (by decide) rfl (fun ls hl => ?_)
    refine lv_goto (tgt := 38) hC.x hC.b dX4_view_160 (by decide) ?_
    exact hK38 (x1, x2, x3, x4, (x5 + 1), wm) hq _ _ _ hW (lv_sub hl [1, 2, 3, 4, 5, 0] rfl)
  · replace hq := hq.2 hc9
    refine lv_iload hC.x hC.b dX4_view_56 (lv_at hl 6 rfl) ?_
    refine lv_if_ne (tgt := 71) hC.x hC.b dX4_view_58 (by decide) (fun hc9 => ?_) (fun hc9 => ?_)
    · replace hq := hq.1 hc9
      refine lv_aload_n hC.x hC.b dX4_view_71 rfl (lv_at hl 0 rfl) ?_
      refine lv_iload hC.x hC.b dX4_view_72 (lv_at hl 5 rfl) ?_
      refine hc_goIW hC hW (hc_rV hC (c_X4_endQ l D cy cz t1 t2 hm am x5 wm _ hq) (hc_preW hC hW) hW 0 4 rfl rfl q_427 q_428 q_429 q_5 q_430 hd_X4_endQ ⟨rfl, rfl⟩ ⟨Nat.le_of_ble_eq_true rfl, Nat.le_of_ble_eq_true rfl⟩ rfl hl.1 rfl (Nat.le_of_ble_eq_true rfl) dX4_view_74 ⟨Nat.zero_le _, Nat.zero_le _⟩) (fun r74 u9 H locs hq hW => ?_)
      obtain ⟨wm74, rfl⟩ : ∃ z, z = u9 := ⟨_, rfl⟩
      try dsimp only at hq hW
      exact B_X4_view_77 hm am Q K38 hK38 K50 hK50 hC x1 x2 x3 x4 x5 x6 r74 wm74 hq hW (lv_sub hl [0, 1, 2, 3, 4, 5, 6] rfl)
    · replace hq := hq.2 hc9
      refine lv_aload_n hC.x hC.b dX4_view_61 rfl (lv_at hl 0 rfl) ?_
      refine hc_get (v := .ref (am 5)) hC hW 0 4 5 inX4 rfl rfl (by decide) q_97 rfl dX4_view_62 ?_
      refine lv_iload hC.x hC.b dX4_view_65 (lv_at hl 5 rfl) ?_
      refine hc_iald hC hW 6 rfl hq.1 dX4_view_67 ?_
      replace hq := hq.2
      refine lv_goto (tgt := 77) hC.x hC.b dX4_view_68 (by decide) ?_
      exact B_X4_view_77 hm am Q K38 hK38 K50 hK50 hC x1 x2 x3 x4 x5 x6 (wm 5 (x5).toNatClampNeg) wm hq hW (lv_sub hl [0, 1, 2, 3, 4, 5, 6] rfl)
def k_X4_view_175  (Q : Int32 → Wd → Prop) (x3 : Int32) (y0 : Int32) (wm : Wd) : Prop :=
 (Q (y0 + x3) wm)
set_option maxHeartbeats 4000000 in
set_option maxRecDepth 100000 in
theorem B_X4_view_175 {l : Launch} {p : Program} {e : Env} {s : State} {m : MethodId} {args : Array Value} {below : List Frame} {meth : Method} {c : Code} {A : Nat → Prop} {D : va_G} {cy cz : ClassId} {t1 t2 : Nat} (hm : Nat) (am : Nat → Nat) (Q : Int32 → Wd → Prop)  (hC : Cx D cy cz t1 t2 p s m args meth c cX4_view 9 (some .int) RX4 A) (x3 : Int32) (y0 : Int32) (wm : Wd) {H : Heap} {locs : List Loc} {ls : Array Slot} (hq : k_X4_view_175  Q x3 y0 wm) (hW : Wo D A s (cM cy cz hm am wm) H locs) (hl : lv_has ls 9 [(3, .int x3)]) : W p l e (rM 5 119) s m args below meth c H locs 0 0 (MQ below (QI D (S := Wd) (fun r u => Q r u) (fun u => (cM cy cz hm am u)) A) args s 0 0 A) (F0 m 175 ls [.int y0]) := by
  unfold k_X4_view_175 at hq
  refine lv_iload_n hC.x hC.b dX4_view_175 rfl (lv_at hl 0 rfl) ?_
  refine lv_goto (tgt := 181) hC.x hC.b dX4_view_176 (by decide) ?_
  refine lv_iadd hC.x hC.b dX4_view_181 ?_
  exact hc_iret hC (wm) hW hq dX4_view_182
def k_X4_view_38 (K38 : (Int32 × Int32 × Int32 × Int32 × Int32 × Wd) → Prop) (Q : Int32 → Wd → Prop) (x1 : Int32) (x2 : Int32) (x3 : Int32) (x4 : Int32) (x5 : Int32) (wm : Wd) : Prop :=
 (((wm 7 0) ≤ x5 → ((x2 = 0 → (k_X4_view_175  Q x3 1000 wm)) ∧
 (¬ x2 = 0 → ((¬ x2 = 3 → (Q (1000 + x4) wm)) ∧
 (x2 = 3 → (k_X4_view_175  Q x3 1000 wm)))))) ∧
 (¬ (wm 7 0) ≤ x5 → (∃ n : Nat, lpf (fun (K : (Int32 × Int32 × Int32 × Int32 × Int32 × Int32 × Wd) → Prop) (u : Int32 × Int32 × Int32 × Int32 × Int32 × Int32 × Wd) => k_X4_view_50 K38 K Q u.1 u.2.1 u.2.2.1 u.2.2.2.1 u.2.2.2.2.1 u.2.2.2.2.2.1 u.2.2.2.2.2.2) n (x1, x2, x3, x4, x5, 0, wm))))
set_option maxHeartbeats 4000000 in
set_option maxRecDepth 100000 in
theorem B_X4_view_38 {l : Launch} {p : Program} {e : Env} {s : State} {m : MethodId} {args : Array Value} {below : List Frame} {meth : Method} {c : Code} {A : Nat → Prop} {D : va_G} {cy cz : ClassId} {t1 t2 : Nat} (hm : Nat) (am : Nat → Nat) (Q : Int32 → Wd → Prop) (K38 : (Int32 × Int32 × Int32 × Int32 × Int32 × Wd) → Prop) (hK38 : ∀ b9 : Int32 × Int32 × Int32 × Int32 × Int32 × Wd, K38 b9 → ∀ (H : Heap) (locs : List Loc) (ls : Array Slot), Wo D A s (cM cy cz hm am b9.2.2.2.2.2) H locs → lv_has ls 9 [(0, .ref hm), (1, .int b9.1), (2, .int b9.2.1), (3, .int b9.2.2.1), (4, .int b9.2.2.2.1), (5, .int b9.2.2.2.2.1)] → W p l e (rM 5 119) s m args below meth c H locs 0 0 (MQ below (QI D (S := Wd) (fun r u => Q r u) (fun u => (cM cy cz hm am u)) A) args s 0 0 A) (F0 m 38 ls [])) (hC : Cx D cy cz t1 t2 p s m args meth c cX4_view 9 (some .int) RX4 A) (x1 : Int32) (x2 : Int32) (x3 : Int32) (x4 : Int32) (x5 : Int32) (wm : Wd) {H : Heap} {locs : List Loc} {ls : Array Slot} (hq : k_X4_view_38 K38 Q x1 x2 x3 x4 x5 wm) (hW : Wo D A s (cM cy cz hm am wm) H locs) (hl : lv_has ls 9 [(0, .ref hm), (1, .int x1), (2, .int x2), (3, .int x3), (4, .int x4), (5, .int x5)]) : W p l e (rM 5 119) s m args below meth c H locs 0 0 (MQ below (QI D (S := Wd) (fun r u => Q r u) (fun u => (cM cy cz hm am u)) A) args s 0 0 A) (F0 m 38 ls []) := by
  unfold k_X4_view_38 at hq
  refine lv_iload hC.x hC.b dX4_view_38 (lv_at hl 5 rfl) ?_
  refine lv_aload_n hC.x hC.b dX4_view_40 rfl (lv_at hl 0 rfl) ?_
  refine hc_get (v := .int (wm 7 0)) hC hW 0 4 7 inX4 rfl rfl (by decide) q_181 rfl dX4_view_41 ?_
  refine lv_icmp_ge (tgt := 163) hC.x hC.b dX4_view_44 (by decide) (fun hc9 => ?_) (fun hc9 => ?_)
  · replace hq := hq.1 hc9
    refine lv_sipush (v := 1000) hC.x hC.b dX4_view_163 (by decide) ?_
    refine lv_iload_n hC.x hC.b dX4_view_166 rfl (lv_at hl 2 rfl) ?_
    refine lv_if_eq (tgt := 175) hC.x hC.b dX4_view_167 (by decide) (fun hc9 => ?_) (fun hc9 => ?_)
    · replace hq := hq.1 hc9
      exact B_X4_view_175 hm am Q  hC x3 1000 wm hq hW (lv_sub hl [3] rfl)
    · replace hq := hq.2 hc9
      refine lv_iload_n hC.x hC.b dX4_view_170 rfl (lv_at hl 2 rfl) ?_
      refine lv_iconst (v := 3) hC.x hC.b dX4_view_171 (by decide) ?_
      refine lv_icmp_ne (tgt := 179) hC.x hC.b dX4_view_172 (by decide) (fun hc9 => ?_) (fun hc9 => ?_)
      · replace hq := hq.1 hc9
        refine lv_iload hC.x hC.b dX4_view_179 (lv_at hl 4 rfl) ?_
        refine lv_iadd hC.x hC.b dX4_view_181 ?_
        exact hc_iret hC (wm) hW hq dX4_view_182
      · replace hq := hq.2 hc9
        exact B_X4_view_175 hm am Q  hC x3 1000 wm hq hW (lv_sub hl [3] rfl)
  · replace hq := hq.2 hc9
    refine lv_iconst (v := 0) hC.x hC.b dX4_view_47 (by decide) ?_
    refine lv_istore (lv' := [(6, .int 0), (0, .ref hm), (1, .int x1), (2, .int x2), (3, .int x3), (4, .int x4), (5, .int x5)]) hC.x hC.b dX4_view_48 hl (by decide) rfl (fun ls hl => ?_)
    obtain ⟨n9, hq⟩ := hq
    exact lpf_use (G := (fun (u : Int32 × Int32 × Int32 × Int32 × Int32 × Int32 × Wd) => ∀ (H : Heap) (locs : List Loc) (ls : Array Slot), Wo D A s (cM cy cz hm am u.2.2.2.2.2.2) H locs → lv_has ls 9 [(0, .ref hm), (1, .int u.1), (2, .int u.2.1), (3, .int u.2.2.1), (4, .int u.2.2.2.1), (5, .int u.2.2.2.2.1), (6, .int u.2.2.2.2.2.1)] → W p l e (rM 5 119) s m args below meth c H locs 0 0 (MQ below (QI D (S := Wd) (fun r u => Q r u) (fun u => (cM cy cz hm am u)) A) args s 0 0 A) (F0 m 50 ls []))) (fun K hK u hq H locs ls hW hl => B_X4_view_50 hm am Q K38 hK38 K hK hC u.1 u.2.1 u.2.2.1 u.2.2.2.1 u.2.2.2.2.1 u.2.2.2.2.2.1 u.2.2.2.2.2.2 hq hW hl) n9 _ hq _ _ _ hW (lv_sub hl [1, 2, 3, 4, 5, 6, 0] rfl)
def k_X4_view (x1 : Int32) (x2 : Int32) (wm : Wd) (Q : Int32 → Wd → Prop) : Prop :=
 (k_X4_in x1 0 10 (fun r4 => ((r4 = 0 → (Q (-2) wm)) ∧
 (¬ r4 = 0 → (k_X4_in x2 0 3 (fun r13 => ((¬ r13 = 0 → (k_X4_lay wm (fun wm23 => (∃ n : Nat, lpf (fun (K : (Int32 × Int32 × Int32 × Int32 × Int32 × Wd) → Prop) (u : Int32 × Int32 × Int32 × Int32 × Int32 × Wd) => k_X4_view_38  K Q u.1 u.2.1 u.2.2.1 u.2.2.2.1 u.2.2.2.2.1 u.2.2.2.2.2) n (x1, x2, 10000, (-10000), 0, wm23))))) ∧
 (r13 = 0 → (Q (-2) wm)))))))))
set_option maxHeartbeats 4000000 in
set_option maxRecDepth 100000 in
theorem c_X4_view (l : Launch) (D : va_G) (cy cz : ClassId) (t1 t2 : Nat) (hm : Nat) (am : Nat → Nat) (x1 : Int32) (x2 : Int32) (wm : Wd) (Q : Int32 → Wd → Prop) (hq : k_X4_view x1 x2 wm Q) : Ct l D cy cz t1 t2 yX4_view cX4_view 9 (some .int) (rM 5 119) [.ref hm, .int x1, .int x2] (cM cy cz hm am wm) (QI D (S := Wd) (fun r u => Q r u) (fun u => (cM cy cz hm am u))) := by
  refine Ct.of (own := RX4) (by decide) rfl (Nat.le_of_ble_eq_true rfl) ?_
  intro p e s m below meth c A ls hC hW hl
  unfold k_X4_view at hq
  have hl : lv_has ls 9 [(0, .ref hm), (1, .int x1), (2, .int x2)] := hl
  refine lv_iload_n hC.x hC.b dX4_view_0 rfl (lv_at hl 1 rfl) ?_
  refine lv_iconst (v := 0) hC.x hC.b dX4_view_1 (by decide) ?_
  refine lv_bipush (v := 10) hC.x hC.b dX4_view_2 (by decide) ?_
  refine hc_goP hC hW (hc_rS hC (c_X4_in l D cy cz t1 t2 x1 0 10 _ hq) (hc_preP hC hW) q_120 q_121 q_5 q_122 hd_X4_in ⟨rfl, rfl⟩ ⟨Nat.le_of_ble_eq_true rfl, Nat.le_of_ble_eq_true rfl⟩ rfl hl.1 rfl (Nat.le_of_ble_eq_true rfl) dX4_view_4 ⟨Nat.zero_le _, Nat.zero_le _⟩) (fun r4 H locs hq hW => ?_)
  try dsimp only at hq
  refine lv_if_eq (tgt := 19) hC.x hC.b dX4_view_7 (by decide) (fun hc9 => ?_) (fun hc9 => ?_)
  · replace hq := hq.1 hc9
    refine lv_bipush (v := (-2)) hC.x hC.b dX4_view_19 (by decide) ?_
    exact hc_iret hC (wm) hW hq dX4_view_21
  · replace hq := hq.2 hc9
    refine lv_iload_n hC.x hC.b dX4_view_10 rfl (lv_at hl 2 rfl) ?_
    refine lv_iconst (v := 0) hC.x hC.b dX4_view_11 (by decide) ?_
    refine lv_iconst (v := 3) hC.x hC.b dX4_view_12 (by decide) ?_
    refine hc_goP hC hW (hc_rS hC (c_X4_in l D cy cz t1 t2 x2 0 3 _ hq) (hc_preP hC hW) q_120 q_121 q_5 q_122 hd_X4_in ⟨rfl, rfl⟩ ⟨Nat.le_of_ble_eq_true rfl, Nat.le_of_ble_eq_true rfl⟩ rfl hl.1 rfl (Nat.le_of_ble_eq_true rfl) dX4_view_13 ⟨Nat.zero_le _, Nat.zero_le _⟩) (fun r13 H locs hq hW => ?_)
    try dsimp only at hq
    refine lv_if_ne (tgt := 22) hC.x hC.b dX4_view_16 (by decide) (fun hc9 => ?_) (fun hc9 => ?_)
    · replace hq := hq.1 hc9
      refine lv_aload_n hC.x hC.b dX4_view_22 rfl (lv_at hl 0 rfl) ?_
      refine hc_goVW hC hW (hc_rV hC (c_X4_lay l D cy cz t1 t2 hm am wm _ hq) (hc_preW hC hW) hW 0 4 rfl rfl q_182 q_183 q_184 q_5 q_185 hd_X4_lay ⟨rfl, rfl⟩ ⟨Nat.le_of_ble_eq_true rfl, Nat.le_of_ble_eq_true rfl⟩ rfl hl.1 rfl (Nat.le_of_ble_eq_true rfl) dX4_view_23 ⟨Nat.zero_le _, Nat.zero_le _⟩) (fun u9 H locs hq hW => ?_)
      obtain ⟨wm23, rfl⟩ : ∃ z, z = u9 := ⟨_, rfl⟩
      try dsimp only at hq hW
      refine lv_sipush (v := 10000) hC.x hC.b dX4_view_26 (by decide) ?_
      refine lv_istore_n (lv' := [(3, .int 10000), (0, .ref hm), (1, .int x1), (2, .int x2)]) hC.x hC.b dX4_view_29 rfl hl (by decide) rfl (fun ls hl => ?_)
      refine lv_sipush (v := (-10000)) hC.x hC.b dX4_view_30 (by decide) ?_
      refine lv_istore (lv' := [(4, .int (-10000)), (3, .int 10000), (0, .ref hm), (1, .int x1), (2, .int x2)]) hC.x hC.b dX4_view_33 hl (by decide) rfl (fun ls hl => ?_)
      refine lv_iconst (v := 0) hC.x hC.b dX4_view_35 (by decide) ?_
      refine lv_istore (lv' := [(5, .int 0), (4, .int (-10000)), (3, .int 10000), (0, .ref hm), (1, .int x1), (2, .int x2)]) hC.x hC.b dX4_view_36 hl (by decide) rfl (fun ls hl => ?_)
      obtain ⟨n9, hq⟩ := hq
      exact lpf_use (G := (fun (u : Int32 × Int32 × Int32 × Int32 × Int32 × Wd) => ∀ (H : Heap) (locs : List Loc) (ls : Array Slot), Wo D A s (cM cy cz hm am u.2.2.2.2.2) H locs → lv_has ls 9 [(0, .ref hm), (1, .int u.1), (2, .int u.2.1), (3, .int u.2.2.1), (4, .int u.2.2.2.1), (5, .int u.2.2.2.2.1)] → W p l e (rM 5 119) s m _ below meth c H locs 0 0 (MQ below (QI D (S := Wd) (fun r u => Q r u) (fun u => (cM cy cz hm am u)) A) _ s 0 0 A) (F0 m 38 ls []))) (fun K hK u hq H locs ls hW hl => B_X4_view_38 hm am Q  K hK hC u.1 u.2.1 u.2.2.1 u.2.2.2.1 u.2.2.2.2.1 u.2.2.2.2.2 hq hW hl) n9 _ hq _ _ _ hW (lv_sub hl [3, 4, 5, 2, 1, 0] rfl)
    · replace hq := hq.2 hc9
      refine lv_bipush (v := (-2)) hC.x hC.b dX4_view_19 (by decide) ?_
      exact hc_iret hC (wm) hW hq dX4_view_21
def k_X4_isOver_103  (Q : Int32 → Wd → Prop) (y0 : Int32) (wm : Wd) : Prop :=
 (Q 1 (up2 (up2 wm 21 0 y0) 22 0 1))
set_option maxHeartbeats 4000000 in
set_option maxRecDepth 100000 in
theorem B_X4_isOver_103 {l : Launch} {p : Program} {e : Env} {s : State} {m : MethodId} {args : Array Value} {below : List Frame} {meth : Method} {c : Code} {A : Nat → Prop} {D : va_G} {cy cz : ClassId} {t1 t2 : Nat} (hm : Nat) (am : Nat → Nat) (Q : Int32 → Wd → Prop)  (hC : Cx D cy cz t1 t2 p s m args meth c cX4_isOver 8 (some .boolean) RX4 A) (y0 : Int32) (wm : Wd) {H : Heap} {locs : List Loc} {ls : Array Slot} (hq : k_X4_isOver_103  Q y0 wm) (hW : Wo D A s (cM cy cz hm am wm) H locs) (hl : lv_has ls 8 [(0, .ref hm)]) : W p l e (rM 3 62) s m args below meth c H locs 0 0 (MQ below (QI D (S := Wd) (fun r u => Q r u) (fun u => (cM cy cz hm am u)) A) args s 0 0 A) (F0 m 103 ls [.int y0, .ref hm]) := by
  unfold k_X4_isOver_103 at hq
  refine hc_put (ws' := (cM cy cz hm am (up2 wm 21 0 y0))) hC hW 0 4 21 inX4 tyX4 tyX4_ok nmX4 rfl rfl (by decide) q_497 rfl rfl rfl rfl (Nat.le_of_ble_eq_true rfl) (cM_put_21 ..) dX4_isOver_103 (fun H locs hW => ?_)
  refine lv_aload_n hC.x hC.b dX4_isOver_106 rfl (lv_at hl 0 rfl) ?_
  refine lv_iconst (v := 1) hC.x hC.b dX4_isOver_107 (by decide) ?_
  refine hc_put (ws' := (cM cy cz hm am (up2 (up2 wm 21 0 y0) 22 0 1))) hC hW 0 4 22 inX4 tyX4 tyX4_ok nmX4 rfl rfl (by decide) q_498 rfl rfl rfl rfl (Nat.le_of_ble_eq_true rfl) (cM_put_22 ..) dX4_isOver_108 (fun H locs hW => ?_)
  refine lv_iconst (v := 1) hC.x hC.b dX4_isOver_111 (by decide) ?_
  exact hc_zret hC ((up2 (up2 wm 21 0 y0) 22 0 1)) hW rfl hq dX4_isOver_112
def k_X4_isOver_81  (Q : Int32 → Wd → Prop) (x3 : Int32) (x4 : Int32) (x5 : Int32) (x6 : Int32) (x7 : Int32) (wm : Wd) : Prop :=
 ((¬ x4 = x5 → (((0 : Int32) ≤ ((up2 (up2 wm 22 0 (x5 - x4)) 21 0 ((x6 * ((up2 wm 22 0 (x5 - x4)) 22 0)) + ((x7 - x6) * (x3 - x4)))) 22 0) → (Q 1 (up2 (up2 wm 22 0 (x5 - x4)) 21 0 ((x6 * ((up2 wm 22 0 (x5 - x4)) 22 0)) + ((x7 - x6) * (x3 - x4)))))) ∧
 (¬ (0 : Int32) ≤ ((up2 (up2 wm 22 0 (x5 - x4)) 21 0 ((x6 * ((up2 wm 22 0 (x5 - x4)) 22 0)) + ((x7 - x6) * (x3 - x4)))) 22 0) → (Q 1 (up2 (up2 (up2 (up2 wm 22 0 (x5 - x4)) 21 0 ((x6 * ((up2 wm 22 0 (x5 - x4)) 22 0)) + ((x7 - x6) * (x3 - x4)))) 22 0 (-((up2 (up2 wm 22 0 (x5 - x4)) 21 0 ((x6 * ((up2 wm 22 0 (x5 - x4)) 22 0)) + ((x7 - x6) * (x3 - x4)))) 22 0))) 21 0 (-((up2 (up2 (up2 wm 22 0 (x5 - x4)) 21 0 ((x6 * ((up2 wm 22 0 (x5 - x4)) 22 0)) + ((x7 - x6) * (x3 - x4)))) 22 0 (-((up2 (up2 wm 22 0 (x5 - x4)) 21 0 ((x6 * ((up2 wm 22 0 (x5 - x4)) 22 0)) + ((x7 - x6) * (x3 - x4)))) 22 0))) 21 0))))))) ∧
 (x4 = x5 → ((x6 ≤ x7 → (k_X4_isOver_103  Q x7 wm)) ∧
 (¬ x6 ≤ x7 → (k_X4_isOver_103  Q x6 wm)))))
set_option maxHeartbeats 4000000 in
set_option maxRecDepth 100000 in
theorem B_X4_isOver_81 {l : Launch} {p : Program} {e : Env} {s : State} {m : MethodId} {args : Array Value} {below : List Frame} {meth : Method} {c : Code} {A : Nat → Prop} {D : va_G} {cy cz : ClassId} {t1 t2 : Nat} (hm : Nat) (am : Nat → Nat) (Q : Int32 → Wd → Prop)  (hC : Cx D cy cz t1 t2 p s m args meth c cX4_isOver 8 (some .boolean) RX4 A) (x3 : Int32) (x4 : Int32) (x5 : Int32) (x6 : Int32) (x7 : Int32) (wm : Wd) {H : Heap} {locs : List Loc} {ls : Array Slot} (hq : k_X4_isOver_81  Q x3 x4 x5 x6 x7 wm) (hW : Wo D A s (cM cy cz hm am wm) H locs) (hl : lv_has ls 8 [(0, .ref hm), (3, .int x3), (4, .int x4), (5, .int x5), (6, .int x6), (7, .int x7)]) : W p l e (rM 3 62) s m args below meth c H locs 0 0 (MQ below (QI D (S := Wd) (fun r u => Q r u) (fun u => (cM cy cz hm am u)) A) args s 0 0 A) (F0 m 81 ls []) := by
  unfold k_X4_isOver_81 at hq
  refine lv_iload hC.x hC.b dX4_isOver_81 (lv_at hl 2 rfl) ?_
  refine lv_iload hC.x hC.b dX4_isOver_83 (lv_at hl 3 rfl) ?_
  refine lv_icmp_ne (tgt := 113) hC.x hC.b dX4_isOver_85 (by decide) (fun hc9 => ?_) (fun hc9 => ?_)
  · replace hq := hq.1 hc9
    refine lv_aload_n hC.x hC.b dX4_isOver_113 rfl (lv_at hl 0 rfl) ?_
    refine lv_iload hC.x hC.b dX4_isOver_114 (lv_at hl 3 rfl) ?_
    refine lv_iload hC.x hC.b dX4_isOver_116 (lv_at hl 2 rfl) ?_
    refine lv_isub hC.x hC.b dX4_isOver_118 ?_
    refine hc_put (ws' := (cM cy cz hm am (up2 wm 22 0 (x5 - x4)))) hC hW 0 4 22 inX4 tyX4 tyX4_ok nmX4 rfl rfl (by decide) q_498 rfl rfl rfl rfl (Nat.le_of_ble_eq_true rfl) (cM_put_22 ..) dX4_isOver_119 (fun H locs hW => ?_)
    refine lv_aload_n hC.x hC.b dX4_isOver_122 rfl (lv_at hl 0 rfl) ?_
    refine lv_iload hC.x hC.b dX4_isOver_123 (lv_at hl 4 rfl) ?_
    refine lv_aload_n hC.x hC.b dX4_isOver_125 rfl (lv_at hl 0 rfl) ?_
    refine hc_get (v := .int ((up2 wm 22 0 (x5 - x4)) 22 0)) hC hW 0 4 22 inX4 rfl rfl (by decide) q_498 rfl dX4_isOver_126 ?_
    refine lv_imul hC.x hC.b dX4_isOver_129 ?_
    refine lv_iload hC.x hC.b dX4_isOver_130 (lv_at hl 5 rfl) ?_
    refine lv_iload hC.x hC.b dX4_isOver_132 (lv_at hl 4 rfl) ?_
    refine lv_isub hC.x hC.b dX4_isOver_134 ?_
    refine lv_iload_n hC.x hC.b dX4_isOver_135 rfl (lv_at hl 1 rfl) ?_
    refine lv_iload hC.x hC.b dX4_isOver_136 (lv_at hl 2 rfl) ?_
    refine lv_isub hC.x hC.b dX4_isOver_138 ?_
    refine lv_imul hC.x hC.b dX4_isOver_139 ?_
    refine lv_iadd hC.x hC.b dX4_isOver_140 ?_
    refine hc_put (ws' := (cM cy cz hm am (up2 (up2 wm 22 0 (x5 - x4)) 21 0 ((x6 * ((up2 wm 22 0 (x5 - x4)) 22 0)) + ((x7 - x6) * (x3 - x4)))))) hC hW 0 4 21 inX4 tyX4 tyX4_ok nmX4 rfl rfl (by decide) q_497 rfl rfl rfl rfl (Nat.le_of_ble_eq_true rfl) (cM_put_21 ..) dX4_isOver_141 (fun H locs hW => ?_)
    refine lv_aload_n hC.x hC.b dX4_isOver_144 rfl (lv_at hl 0 rfl) ?_
    refine hc_get (v := .int ((up2 (up2 wm 22 0 (x5 - x4)) 21 0 ((x6 * ((up2 wm 22 0 (x5 - x4)) 22 0)) + ((x7 - x6) * (x3 - x4)))) 22 0)) hC hW 0 4 22 inX4 rfl rfl (by decide) q_498 rfl dX4_isOver_145 ?_
    refine lv_if_ge (tgt := 169) hC.x hC.b dX4_isOver_148 (by decide) (fun hc9 => ?_) (fun hc9 => ?_)
    · replace hq := hq.1 hc9
      refine lv_iconst (v := 1) hC.x hC.b dX4_isOver_169 (by decide) ?_
      exact hc_zret hC ((up2 (up2 wm 22 0 (x5 - x4)) 21 0 ((x6 * ((up2 wm 22 0 (x5 - x4)) 22 0)) + ((x7 - x6) * (x3 - x4))))) hW rfl hq dX4_isOver_170
    · replace hq := hq.2 hc9
      refine lv_aload_n hC.x hC.b dX4_isOver_151 rfl (lv_at hl 0 rfl) ?_
      refine lv_aload_n hC.x hC.b dX4_isOver_152 rfl (lv_at hl 0 rfl) ?_
      refine hc_get (v := .int ((up2 (up2 wm 22 0 (x5 - x4)) 21 0 ((x6 * ((up2 wm 22 0 (x5 - x4)) 22 0)) + ((x7 - x6) * (x3 - x4)))) 22 0)) hC hW 0 4 22 inX4 rfl rfl (by decide) q_498 rfl dX4_isOver_153 ?_
      refine lv_ineg hC.x hC.b dX4_isOver_156 ?_
      refine hc_put (ws' := (cM cy cz hm am (up2 (up2 (up2 wm 22 0 (x5 - x4)) 21 0 ((x6 * ((up2 wm 22 0 (x5 - x4)) 22 0)) + ((x7 - x6) * (x3 - x4)))) 22 0 (-((up2 (up2 wm 22 0 (x5 - x4)) 21 0 ((x6 * ((up2 wm 22 0 (x5 - x4)) 22 0)) + ((x7 - x6) * (x3 - x4)))) 22 0))))) hC hW 0 4 22 inX4 tyX4 tyX4_ok nmX4 rfl rfl (by decide) q_498 rfl rfl rfl rfl (Nat.le_of_ble_eq_true rfl) (cM_put_22 ..) dX4_isOver_157 (fun H locs hW => ?_)
      refine lv_aload_n hC.x hC.b dX4_isOver_160 rfl (lv_at hl 0 rfl) ?_
      refine lv_aload_n hC.x hC.b dX4_isOver_161 rfl (lv_at hl 0 rfl) ?_
      refine hc_get (v := .int ((up2 (up2 (up2 wm 22 0 (x5 - x4)) 21 0 ((x6 * ((up2 wm 22 0 (x5 - x4)) 22 0)) + ((x7 - x6) * (x3 - x4)))) 22 0 (-((up2 (up2 wm 22 0 (x5 - x4)) 21 0 ((x6 * ((up2 wm 22 0 (x5 - x4)) 22 0)) + ((x7 - x6) * (x3 - x4)))) 22 0))) 21 0)) hC hW 0 4 21 inX4 rfl rfl (by decide) q_497 rfl dX4_isOver_162 ?_
      refine lv_ineg hC.x hC.b dX4_isOver_165 ?_
      refine hc_put (ws' := (cM cy cz hm am (up2 (up2 (up2 (up2 wm 22 0 (x5 - x4)) 21 0 ((x6 * ((up2 wm 22 0 (x5 - x4)) 22 0)) + ((x7 - x6) * (x3 - x4)))) 22 0 (-((up2 (up2 wm 22 0 (x5 - x4)) 21 0 ((x6 * ((up2 wm 22 0 (x5 - x4)) 22 0)) + ((x7 - x6) * (x3 - x4)))) 22 0))) 21 0 (-((up2 (up2 (up2 wm 22 0 (x5 - x4)) 21 0 ((x6 * ((up2 wm 22 0 (x5 - x4)) 22 0)) + ((x7 - x6) * (x3 - x4)))) 22 0 (-((up2 (up2 wm 22 0 (x5 - x4)) 21 0 ((x6 * ((up2 wm 22 0 (x5 - x4)) 22 0)) + ((x7 - x6) * (x3 - x4)))) 22 0))) 21 0))))) hC hW 0 4 21 inX4 tyX4 tyX4_ok nmX4 rfl rfl (by decide) q_497 rfl rfl rfl rfl (Nat.le_of_ble_eq_true rfl) (cM_put_21 ..) dX4_isOver_166 (fun H locs hW => ?_)
      refine lv_iconst (v := 1) hC.x hC.b dX4_isOver_169 (by decide) ?_
      exact hc_zret hC ((up2 (up2 (up2 (up2 wm 22 0 (x5 - x4)) 21 0 ((x6 * ((up2 wm 22 0 (x5 - x4)) 22 0)) + ((x7 - x6) * (x3 - x4)))) 22 0 (-((up2 (up2 wm 22 0 (x5 - x4)) 21 0 ((x6 * ((up2 wm 22 0 (x5 - x4)) 22 0)) + ((x7 - x6) * (x3 - x4)))) 22 0))) 21 0 (-((up2 (up2 (up2 wm 22 0 (x5 - x4)) 21 0 ((x6 * ((up2 wm 22 0 (x5 - x4)) 22 0)) + ((x7 - x6) * (x3 - x4)))) 22 0 (-((up2 (up2 wm 22 0 (x5 - x4)) 21 0 ((x6 * ((up2 wm 22 0 (x5 - x4)) 22 0)) + ((x7 - x6) * (x3 - x4)))) 22 0))) 21 0)))) hW rfl hq dX4_isOver_170
  · replace hq := hq.2 hc9
    refine lv_aload_n hC.x hC.b dX4_isOver_88 rfl (lv_at hl 0 rfl) ?_
    refine lv_iload hC.x hC.b dX4_isOver_89 (lv_at hl 4 rfl) ?_
    refine lv_iload hC.x hC.b dX4_isOver_91 (lv_at hl 5 rfl) ?_
    refine lv_icmp_le (tgt := 101) hC.x hC.b dX4_isOver_93 (by decide) (fun hc9 => ?_) (fun hc9 => ?_)
    · replace hq := hq.1 hc9
      refine lv_iload hC.x hC.b dX4_isOver_101 (lv_at hl 5 rfl) ?_
      exact B_X4_isOver_103 hm am Q  hC x7 wm hq hW (lv_sub hl [0] rfl)
    · replace hq := hq.2 hc9
      refine lv_iload hC.x hC.b dX4_isOver_96 (lv_at hl 4 rfl) ?_
      refine lv_goto (tgt := 103) hC.x hC.b dX4_isOver_98 (by decide) ?_
      exact B_X4_isOver_103 hm am Q  hC x6 wm hq hW (lv_sub hl [0] rfl)
def k_X4_isOver (x1 : Int32) (x2 : Int32) (x3 : Int32) (wm : Wd) (Q : Int32 → Wd → Prop) : Prop :=
 (vp_in x1 18 ∧ (vp_in x1 18 ∧ (k_X4_across x2 (wm 4 (x1).toNatClampNeg) (wm 5 (x1).toNatClampNeg) (fun r13 => (k_X4_endP x1 wm (fun r21 wm21 => (k_X4_endQ x1 wm21 (fun r26 wm26 => (k_X4_across x2 r21 r26 (fun r29 => (vp_in x1 18 ∧ (k_X4_upOf x2 (wm26 5 (x1).toNatClampNeg) (fun r41 => (k_X4_endQ x1 wm26 (fun r49 wm49 => (k_X4_upOf x2 r49 (fun r52 => (k_X4_in x3 r13 r29 (fun r62 => ((¬ r62 = 0 → (k_X4_isOver_81  Q x3 r13 r29 r41 r52 wm49)) ∧
 (r62 = 0 → (k_X4_in x3 r29 r13 (fun r73 => ((¬ r73 = 0 → (k_X4_isOver_81  Q x3 r13 r29 r41 r52 wm49)) ∧
 (r73 = 0 → (Q 0 wm49))))))))))))))))))))))))))
set_option maxHeartbeats 4000000 in
set_option maxRecDepth 100000 in
theorem c_X4_isOver (l : Launch) (D : va_G) (cy cz : ClassId) (t1 t2 : Nat) (hm : Nat) (am : Nat → Nat) (x1 : Int32) (x2 : Int32) (x3 : Int32) (wm : Wd) (Q : Int32 → Wd → Prop) (hq : k_X4_isOver x1 x2 x3 wm Q) : Ct l D cy cz t1 t2 yX4_isOver cX4_isOver 8 (some .boolean) (rM 3 62) [.ref hm, .int x1, .int x2, .int x3] (cM cy cz hm am wm) (QI D (S := Wd) (fun r u => Q r u) (fun u => (cM cy cz hm am u))) := by
  refine Ct.of (own := RX4) (by decide) rfl (Nat.le_of_ble_eq_true rfl) ?_
  intro p e s m below meth c A ls hC hW hl
  unfold k_X4_isOver at hq
  have hl : lv_has ls 8 [(0, .ref hm), (1, .int x1), (2, .int x2), (3, .int x3)] := hl
  refine lv_iload_n hC.x hC.b dX4_isOver_0 rfl (lv_at hl 2 rfl) ?_
  refine lv_aload_n hC.x hC.b dX4_isOver_1 rfl (lv_at hl 0 rfl) ?_
  refine hc_get (v := .ref (am 4)) hC hW 0 4 4 inX4 rfl rfl (by decide) q_96 rfl dX4_isOver_2 ?_
  refine lv_iload_n hC.x hC.b dX4_isOver_5 rfl (lv_at hl 1 rfl) ?_
  refine hc_iald hC hW 5 rfl hq.1 dX4_isOver_6 ?_
  replace hq := hq.2
  refine lv_aload_n hC.x hC.b dX4_isOver_7 rfl (lv_at hl 0 rfl) ?_
  refine hc_get (v := .ref (am 5)) hC hW 0 4 5 inX4 rfl rfl (by decide) q_97 rfl dX4_isOver_8 ?_
  refine lv_iload_n hC.x hC.b dX4_isOver_11 rfl (lv_at hl 1 rfl) ?_
  refine hc_iald hC hW 6 rfl hq.1 dX4_isOver_12 ?_
  replace hq := hq.2
  refine hc_goP hC hW (hc_rS hC (c_X4_across l D cy cz t1 t2 x2 (wm 4 (x1).toNatClampNeg) (wm 5 (x1).toNatClampNeg) _ hq) (hc_preP hC hW) q_435 q_436 q_5 q_437 hd_X4_across ⟨rfl, rfl⟩ ⟨Nat.le_of_ble_eq_true rfl, Nat.le_of_ble_eq_true rfl⟩ rfl hl.1 rfl (Nat.le_of_ble_eq_true rfl) dX4_isOver_13 ⟨Nat.zero_le _, Nat.zero_le _⟩) (fun r13 H locs hq hW => ?_)
  try dsimp only at hq
  refine lv_istore (lv' := [(4, .int r13), (0, .ref hm), (1, .int x1), (2, .int x2), (3, .int x3)]) hC.x hC.b dX4_isOver_16 hl (by decide) rfl (fun ls hl => ?_)
  refine lv_iload_n hC.x hC.b dX4_isOver_18 rfl (lv_at hl 3 rfl) ?_
  refine lv_aload_n hC.x hC.b dX4_isOver_19 rfl (lv_at hl 1 rfl) ?_
  refine lv_iload_n hC.x hC.b dX4_isOver_20 rfl (lv_at hl 2 rfl) ?_
  refine hc_goIW hC hW (hc_rV hC (c_X4_endP l D cy cz t1 t2 hm am x1 wm _ hq) (hc_preW hC hW) hW 0 4 rfl rfl q_431 q_432 q_433 q_5 q_434 hd_X4_endP ⟨rfl, rfl⟩ ⟨Nat.le_of_ble_eq_true rfl, Nat.le_of_ble_eq_true rfl⟩ rfl hl.1 rfl (Nat.le_of_ble_eq_true rfl) dX4_isOver_21 ⟨Nat.zero_le _, Nat.zero_le _⟩) (fun r21 u9 H locs hq hW => ?_)
  obtain ⟨wm21, rfl⟩ : ∃ z, z = u9 := ⟨_, rfl⟩
  try dsimp only at hq hW
  refine lv_aload_n hC.x hC.b dX4_isOver_24 rfl (lv_at hl 1 rfl) ?_
  refine lv_iload_n hC.x hC.b dX4_isOver_25 rfl (lv_at hl 2 rfl) ?_
  refine hc_goIW hC hW (hc_rV hC (c_X4_endQ l D cy cz t1 t2 hm am x1 wm21 _ hq) (hc_preW hC hW) hW 0 4 rfl rfl q_427 q_428 q_429 q_5 q_430 hd_X4_endQ ⟨rfl, rfl⟩ ⟨Nat.le_of_ble_eq_true rfl, Nat.le_of_ble_eq_true rfl⟩ rfl hl.1 rfl (Nat.le_of_ble_eq_true rfl) dX4_isOver_26 ⟨Nat.zero_le _, Nat.zero_le _⟩) (fun r26 u9 H locs hq hW => ?_)
  obtain ⟨wm26, rfl⟩ : ∃ z, z = u9 := ⟨_, rfl⟩
  try dsimp only at hq hW
  refine hc_goP hC hW (hc_rS hC (c_X4_across l D cy cz t1 t2 x2 r21 r26 _ hq) (hc_preP hC hW) q_435 q_436 q_5 q_437 hd_X4_across ⟨rfl, rfl⟩ ⟨Nat.le_of_ble_eq_true rfl, Nat.le_of_ble_eq_true rfl⟩ rfl hl.1 rfl (Nat.le_of_ble_eq_true rfl) dX4_isOver_29 ⟨Nat.zero_le _, Nat.zero_le _⟩) (fun r29 H locs hq hW => ?_)
  try dsimp only at hq
  refine lv_istore (lv' := [(5, .int r29), (4, .int r13), (0, .ref hm), (1, .int x1), (2, .int x2), (3, .int x3)]) hC.x hC.b dX4_isOver_32 hl (by decide) rfl (fun ls hl => ?_)
  refine lv_iload_n hC.x hC.b dX4_isOver_34 rfl (lv_at hl 4 rfl) ?_
  refine lv_aload_n hC.x hC.b dX4_isOver_35 rfl (lv_at hl 2 rfl) ?_
  refine hc_get (v := .ref (am 5)) hC hW 0 4 5 inX4 rfl rfl (by decide) q_97 rfl dX4_isOver_36 ?_
  refine lv_iload_n hC.x hC.b dX4_isOver_39 rfl (lv_at hl 3 rfl) ?_
  refine hc_iald hC hW 6 rfl hq.1 dX4_isOver_40 ?_
  replace hq := hq.2
  refine hc_goP hC hW (hc_rS hC (c_X4_upOf l D cy cz t1 t2 x2 (wm26 5 (x1).toNatClampNeg) _ hq) (hc_preP hC hW) q_444 q_445 q_5 q_446 hd_X4_upOf ⟨rfl, rfl⟩ ⟨Nat.le_of_ble_eq_true rfl, Nat.le_of_ble_eq_true rfl⟩ rfl hl.1 rfl (Nat.le_of_ble_eq_true rfl) dX4_isOver_41 ⟨Nat.zero_le _, Nat.zero_le _⟩) (fun r41 H locs hq hW => ?_)
  try dsimp only at hq
  refine lv_istore (lv' := [(6, .int r41), (5, .int r29), (4, .int r13), (0, .ref hm), (1, .int x1), (2, .int x2), (3, .int x3)]) hC.x hC.b dX4_isOver_44 hl (by decide) rfl (fun ls hl => ?_)
  refine lv_iload_n hC.x hC.b dX4_isOver_46 rfl (lv_at hl 5 rfl) ?_
  refine lv_aload_n hC.x hC.b dX4_isOver_47 rfl (lv_at hl 3 rfl) ?_
  refine lv_iload_n hC.x hC.b dX4_isOver_48 rfl (lv_at hl 4 rfl) ?_
  refine hc_goIW hC hW (hc_rV hC (c_X4_endQ l D cy cz t1 t2 hm am x1 wm26 _ hq) (hc_preW hC hW) hW 0 4 rfl rfl q_427 q_428 q_429 q_5 q_430 hd_X4_endQ ⟨rfl, rfl⟩ ⟨Nat.le_of_ble_eq_true rfl, Nat.le_of_ble_eq_true rfl⟩ rfl hl.1 rfl (Nat.le_of_ble_eq_true rfl) dX4_isOver_49 ⟨Nat.zero_le _, Nat.zero_le _⟩) (fun r49 u9 H locs hq hW => ?_)
  obtain ⟨wm49, rfl⟩ : ∃ z, z = u9 := ⟨_, rfl⟩
  try dsimp only at hq hW
  refine hc_goP hC hW (hc_rS hC (c_X4_upOf l D cy cz t1 t2 x2 r49 _ hq) (hc_preP hC hW) q_444 q_445 q_5 q_446 hd_X4_upOf ⟨rfl, rfl⟩ ⟨Nat.le_of_ble_eq_true rfl, Nat.le_of_ble_eq_true rfl⟩ rfl hl.1 rfl (Nat.le_of_ble_eq_true rfl) dX4_isOver_52 ⟨Nat.zero_le _, Nat.zero_le _⟩) (fun r52 H locs hq hW => ?_)
  try dsimp only at hq
  refine lv_istore (lv' := [(7, .int r52), (6, .int r41), (5, .int r29), (4, .int r13), (0, .ref hm), (1, .int x1), (2, .int x2), (3, .int x3)]) hC.x hC.b dX4_isOver_55 hl (by decide) rfl (fun ls hl => ?_)
  refine lv_iload_n hC.x hC.b dX4_isOver_57 rfl (lv_at hl 7 rfl) ?_
  refine lv_iload hC.x hC.b dX4_isOver_58 (lv_at hl 3 rfl) ?_
  refine lv_iload hC.x hC.b dX4_isOver_60 (lv_at hl 2 rfl) ?_
  refine hc_goP hC hW (hc_rS hC (c_X4_in l D cy cz t1 t2 x3 r13 r29 _ hq) (hc_preP hC hW) q_120 q_121 q_5 q_122 hd_X4_in ⟨rfl, rfl⟩ ⟨Nat.le_of_ble_eq_true rfl, Nat.le_of_ble_eq_true rfl⟩ rfl hl.1 rfl (Nat.le_of_ble_eq_true rfl) dX4_isOver_62 ⟨Nat.zero_le _, Nat.zero_le _⟩) (fun r62 H locs hq hW => ?_)
  try dsimp only at hq
  refine lv_if_ne (tgt := 81) hC.x hC.b dX4_isOver_65 (by decide) (fun hc9 => ?_) (fun hc9 => ?_)
  · replace hq := hq.1 hc9
    exact B_X4_isOver_81 hm am Q  hC x3 r13 r29 r41 r52 wm49 hq hW (lv_sub hl [4, 7, 3, 2, 1, 0] rfl)
  · replace hq := hq.2 hc9
    refine lv_iload_n hC.x hC.b dX4_isOver_68 rfl (lv_at hl 7 rfl) ?_
    refine lv_iload hC.x hC.b dX4_isOver_69 (lv_at hl 2 rfl) ?_
    refine lv_iload hC.x hC.b dX4_isOver_71 (lv_at hl 3 rfl) ?_
    refine hc_goP hC hW (hc_rS hC (c_X4_in l D cy cz t1 t2 x3 r29 r13 _ hq) (hc_preP hC hW) q_120 q_121 q_5 q_122 hd_X4_in ⟨rfl, rfl⟩ ⟨Nat.le_of_ble_eq_true rfl, Nat.le_of_ble_eq_true rfl⟩ rfl hl.1 rfl (Nat.le_of_ble_eq_true rfl) dX4_isOver_73 ⟨Nat.zero_le _, Nat.zero_le _⟩) (fun r73 H locs hq hW => ?_)
    try dsimp only at hq
    refine lv_if_ne (tgt := 81) hC.x hC.b dX4_isOver_76 (by decide) (fun hc9 => ?_) (fun hc9 => ?_)
    · replace hq := hq.1 hc9
      exact B_X4_isOver_81 hm am Q  hC x3 r13 r29 r41 r52 wm49 hq hW (lv_sub hl [4, 7, 3, 2, 1, 0] rfl)
    · replace hq := hq.2 hc9
      refine lv_iconst (v := 0) hC.x hC.b dX4_isOver_79 (by decide) ?_
      exact hc_zret hC (wm49) hW rfl hq dX4_isOver_80
def k_X4_common_4 (K4 : (Int32 × Int32) → Prop) (Q : Int32 → Prop) (x2 : Int32) (x3 : Int32)  : Prop :=
 ((x3 = 0 → (Q x2)) ∧
 (¬ x3 = 0 → (¬ x3 = 0 ∧ (K4 (x3, (x2 - x2 / x3 * x3))))))
set_option maxHeartbeats 4000000 in
set_option maxRecDepth 100000 in
theorem B_X4_common_4 {l : Launch} {p : Program} {e : Env} {s : State} {m : MethodId} {args : Array Value} {below : List Frame} {meth : Method} {c : Code} {A : Nat → Prop} {D : va_G} {cy cz : ClassId} {t1 t2 : Nat}  (Q : Int32 → Prop) (K4 : (Int32 × Int32) → Prop) (hK4 : ∀ b9 : Int32 × Int32, K4 b9 → ∀ (H : Heap) (locs : List Loc) (ls : Array Slot), Wo D A s ([] : va_W) H locs → lv_has ls 5 [(2, .int b9.1), (3, .int b9.2)] → W p l e (rM 0 0) s m args below meth c H locs 0 0 (MQ below (QI D (S := Unit) (fun r u => Q r ) (fun _ => ([] : va_W)) A) args s 0 0 A) (F0 m 4 ls [])) (hC : Cx D cy cz t1 t2 p s m args meth c cX4_common 5 (some .int) RX4 A) (x2 : Int32) (x3 : Int32)  {H : Heap} {locs : List Loc} {ls : Array Slot} (hq : k_X4_common_4 K4 Q x2 x3 ) (hW : Wo D A s ([] : va_W) H locs) (hl : lv_has ls 5 [(2, .int x2), (3, .int x3)]) : W p l e (rM 0 0) s m args below meth c H locs 0 0 (MQ below (QI D (S := Unit) (fun r u => Q r ) (fun _ => ([] : va_W)) A) args s 0 0 A) (F0 m 4 ls []) := by
  unfold k_X4_common_4 at hq
  refine lv_iload_n hC.x hC.b dX4_common_4 rfl (lv_at hl 1 rfl) ?_
  refine lv_if_eq (tgt := 21) hC.x hC.b dX4_common_5 (by decide) (fun hc9 => ?_) (fun hc9 => ?_)
  · replace hq := hq.1 hc9
    refine lv_iload_n hC.x hC.b dX4_common_21 rfl (lv_at hl 0 rfl) ?_
    exact hc_iret hC () hW hq dX4_common_22
  · replace hq := hq.2 hc9
    refine lv_iload_n hC.x hC.b dX4_common_8 rfl (lv_at hl 0 rfl) ?_
    refine lv_iload_n hC.x hC.b dX4_common_9 rfl (lv_at hl 1 rfl) ?_
    refine lv_irem hC.x hC.b dX4_common_10 hq.1 ?_
    replace hq := hq.2
    refine lv_istore (lv' := [(4, .int (x2 - x2 / x3 * x3)), (2, .int x2), (3, .int x3)]) hC.x hC.b dX4_common_11 hl (by decide) rfl (fun ls hl => ?_)
    refine lv_iload_n hC.x hC.b dX4_common_13 rfl (lv_at hl 2 rfl) ?_
    refine lv_istore_n (lv' := [(2, .int x3), (4, .int (x2 - x2 / x3 * x3)), (3, .int x3)]) hC.x hC.b dX4_common_14 rfl hl (by decide) rfl (fun ls hl => ?_)
    refine lv_iload hC.x hC.b dX4_common_15 (lv_at hl 1 rfl) ?_
    refine lv_istore_n (lv' := [(3, .int (x2 - x2 / x3 * x3)), (2, .int x3), (4, .int (x2 - x2 / x3 * x3))]) hC.x hC.b dX4_common_17 rfl hl (by decide) rfl (fun ls hl => ?_)
    refine lv_goto (tgt := 4) hC.x hC.b dX4_common_18 (by decide) ?_
    exact hK4 (x3, (x2 - x2 / x3 * x3)) hq _ _ _ hW (lv_sub hl [1, 0] rfl)
def k_X4_common (x0 : Int32) (x1 : Int32)  (Q : Int32 → Prop) : Prop :=
 (∃ n : Nat, lpf (fun (K : (Int32 × Int32) → Prop) (u : Int32 × Int32) => k_X4_common_4  K Q u.1 u.2) n (x0, x1))
set_option maxHeartbeats 4000000 in
set_option maxRecDepth 100000 in
theorem c_X4_common (l : Launch) (D : va_G) (cy cz : ClassId) (t1 t2 : Nat)  (x0 : Int32) (x1 : Int32)  (Q : Int32 → Prop) (hq : k_X4_common x0 x1 Q) : Ct l D cy cz t1 t2 yX4_common cX4_common 5 (some .int) (rM 0 0) [.int x0, .int x1] ([] : va_W) (QI D (S := Unit) (fun r u => Q r ) (fun _ => ([] : va_W))) := by
  refine Ct.of (own := RX4) (by decide) rfl (Nat.le_of_ble_eq_true rfl) ?_
  intro p e s m below meth c A ls hC hW hl
  unfold k_X4_common at hq
  have hl : lv_has ls 5 [(0, .int x0), (1, .int x1)] := hl
  refine lv_iload_n hC.x hC.b dX4_common_0 rfl (lv_at hl 0 rfl) ?_
  refine lv_istore_n (lv' := [(2, .int x0), (0, .int x0), (1, .int x1)]) hC.x hC.b dX4_common_1 rfl hl (by decide) rfl (fun ls hl => ?_)
  refine lv_iload_n hC.x hC.b dX4_common_2 rfl (lv_at hl 2 rfl) ?_
  refine lv_istore_n (lv' := [(3, .int x1), (2, .int x0), (0, .int x0), (1, .int x1)]) hC.x hC.b dX4_common_3 rfl hl (by decide) rfl (fun ls hl => ?_)
  obtain ⟨n9, hq⟩ := hq
  exact lpf_use (G := (fun (u : Int32 × Int32) => ∀ (H : Heap) (locs : List Loc) (ls : Array Slot), Wo D A s ([] : va_W) H locs → lv_has ls 5 [(2, .int u.1), (3, .int u.2)] → W p l e (rM 0 0) s m _ below meth c H locs 0 0 (MQ below (QI D (S := Unit) (fun r u => Q r ) (fun _ => ([] : va_W)) A) _ s 0 0 A) (F0 m 4 ls []))) (fun K hK u hq H locs ls hW hl => B_X4_common_4  Q  K hK hC u.1 u.2 hq hW hl) n9 _ hq _ _ _ hW (lv_sub hl [1, 0] rfl)
def k_X4_above_115 (K52 : (Int32 × Int32 × Int32 × Int32 × Int32 × Int32 × Int32 × Wd) → Prop) (Q : Int32 → Wd → Prop) (x1 : Int32) (x2 : Int32) (x3 : Int32) (x4 : Int32) (x5 : Int32) (x6 : Int32) (x7 : Int32) (wm : Wd) : Prop :=
 (K52 (x1, x2, x3, x4, x5, x6, (x7 + 1), wm))
set_option maxHeartbeats 4000000 in
set_option maxRecDepth 100000 in
theorem B_X4_above_115 {l : Launch} {p : Program} {e : Env} {s : State} {m : MethodId} {args : Array Value} {below : List Frame} {meth : Method} {c : Code} {A : Nat → Prop} {D : va_G} {cy cz : ClassId} {t1 t2 : Nat} (hm : Nat) (am : Nat → Nat) (Q : Int32 → Wd → Prop) (K52 : (Int32 × Int32 × Int32 × Int32 × Int32 × Int32 × Int32 × Wd) → Prop) (hK52 : ∀ b9 : Int32 × Int32 × Int32 × Int32 × Int32 × Int32 × Int32 × Wd, K52 b9 → ∀ (H : Heap) (locs : List Loc) (ls : Array Slot), Wo D A s (cM cy cz hm am b9.2.2.2.2.2.2.2) H locs → lv_has ls 8 [(0, .ref hm), (1, .int b9.1), (2, .int b9.2.1), (3, .int b9.2.2.1), (4, .int b9.2.2.2.1), (5, .int b9.2.2.2.2.1), (6, .int b9.2.2.2.2.2.1), (7, .int b9.2.2.2.2.2.2.1)] → W p l e (rM 5 119) s m args below meth c H locs 0 0 (MQ below (QI D (S := Wd) (fun r u => Q r u) (fun u => (cM cy cz hm am u)) A) args s 0 0 A) (F0 m 52 ls [])) (hC : Cx D cy cz t1 t2 p s m args meth c cX4_above 8 (some .int) RX4 A) (x1 : Int32) (x2 : Int32) (x3 : Int32) (x4 : Int32) (x5 : Int32) (x6 : Int32) (x7 : Int32) (wm : Wd) {H : Heap} {locs : List Loc} {ls : Array Slot} (hq : k_X4_above_115 K52 Q x1 x2 x3 x4 x5 x6 x7 wm) (hW : Wo D A s (cM cy cz hm am wm) H locs) (hl : lv_has ls 8 [(0, .ref hm), (1, .int x1), (2, .int x2), (3, .int x3), (4, .int x4), (5, .int x5), (6, .int x6), (7, .int x7)]) : W p l e (rM 5 119) s m args below meth c H locs 0 0 (MQ below (QI D (S := Wd) (fun r u => Q r u) (fun u => (cM cy cz hm am u)) A) args s 0 0 A) (F0 m 115 ls []) := by
  unfold k_X4_above_115 at hq
  refine lv_iinc (v := (x7 + 1)) (lv' := [(7, .int (x7 + 1)), (0, .ref hm), (1, .int x1), (2, .int x2), (3, .int x3), (4, .int x4), (5, .int x5), (6, .int x6)]) hC.x hC.b dX4_above_115 hl (k := 7) rfl rfl (by decide) rfl (fun ls hl => ?_)
  refine lv_goto (tgt := 52) hC.x hC.b dX4_above_118 (by decide) ?_
  exact hK52 (x1, x2, x3, x4, x5, x6, (x7 + 1), wm) hq _ _ _ hW (lv_sub hl [1, 2, 3, 4, 5, 6, 7, 0] rfl)
def k_X4_above_99 (K52 : (Int32 × Int32 × Int32 × Int32 × Int32 × Int32 × Int32 × Wd) → Prop) (Q : Int32 → Wd → Prop) (x1 : Int32) (x2 : Int32) (x3 : Int32) (x7 : Int32) (wm : Wd) : Prop :=
 (k_X4_above_115 K52 Q x1 x2 x3 x7 (wm 21 0) (wm 22 0) x7 wm)
set_option maxHeartbeats 4000000 in
set_option maxRecDepth 100000 in
theorem B_X4_above_99 {l : Launch} {p : Program} {e : Env} {s : State} {m : MethodId} {args : Array Value} {below : List Frame} {meth : Method} {c : Code} {A : Nat → Prop} {D : va_G} {cy cz : ClassId} {t1 t2 : Nat} (hm : Nat) (am : Nat → Nat) (Q : Int32 → Wd → Prop) (K52 : (Int32 × Int32 × Int32 × Int32 × Int32 × Int32 × Int32 × Wd) → Prop) (hK52 : ∀ b9 : Int32 × Int32 × Int32 × Int32 × Int32 × Int32 × Int32 × Wd, K52 b9 → ∀ (H : Heap) (locs : List Loc) (ls : Array Slot), Wo D A s (cM cy cz hm am b9.2.2.2.2.2.2.2) H locs → lv_has ls 8 [(0, .ref hm), (1, .int b9.1), (2, .int b9.2.1), (3, .int b9.2.2.1), (4, .int b9.2.2.2.1), (5, .int b9.2.2.2.2.1), (6, .int b9.2.2.2.2.2.1), (7, .int b9.2.2.2.2.2.2.1)] → W p l e (rM 5 119) s m args below meth c H locs 0 0 (MQ below (QI D (S := Wd) (fun r u => Q r u) (fun u => (cM cy cz hm am u)) A) args s 0 0 A) (F0 m 52 ls [])) (hC : Cx D cy cz t1 t2 p s m args meth c cX4_above 8 (some .int) RX4 A) (x1 : Int32) (x2 : Int32) (x3 : Int32) (x7 : Int32) (wm : Wd) {H : Heap} {locs : List Loc} {ls : Array Slot} (hq : k_X4_above_99 K52 Q x1 x2 x3 x7 wm) (hW : Wo D A s (cM cy cz hm am wm) H locs) (hl : lv_has ls 8 [(0, .ref hm), (1, .int x1), (2, .int x2), (3, .int x3), (7, .int x7)]) : W p l e (rM 5 119) s m args below meth c H locs 0 0 (MQ below (QI D (S := Wd) (fun r u => Q r u) (fun u => (cM cy cz hm am u)) A) args s 0 0 A) (F0 m 99 ls []) := by
  unfold k_X4_above_99 at hq
  refine lv_iload hC.x hC.b dX4_above_99 (lv_at hl 4 rfl) ?_
  refine lv_istore (lv' := [(4, .int x7), (0, .ref hm), (1, .int x1), (2, .int x2), (3, .int x3), (7, .int x7)]) hC.x hC.b dX4_above_101 hl (by decide) rfl (fun ls hl => ?_)
  refine lv_aload_n hC.x hC.b dX4_above_103 rfl (lv_at hl 1 rfl) ?_
  refine hc_get (v := .int (wm 21 0)) hC hW 0 4 21 inX4 rfl rfl (by decide) q_497 rfl dX4_above_104 ?_
  refine lv_istore (lv' := [(5, .int (wm 21 0)), (4, .int x7), (0, .ref hm), (1, .int x1), (2, .int x2), (3, .int x3), (7, .int x7)]) hC.x hC.b dX4_above_107 hl (by decide) rfl (fun ls hl => ?_)
  refine lv_aload_n hC.x hC.b dX4_above_109 rfl (lv_at hl 2 rfl) ?_
  refine hc_get (v := .int (wm 22 0)) hC hW 0 4 22 inX4 rfl rfl (by decide) q_498 rfl dX4_above_110 ?_
  refine lv_istore (lv' := [(6, .int (wm 22 0)), (5, .int (wm 21 0)), (4, .int x7), (0, .ref hm), (1, .int x1), (2, .int x2), (3, .int x3), (7, .int x7)]) hC.x hC.b dX4_above_113 hl (by decide) rfl (fun ls hl => ?_)
  exact B_X4_above_115 hm am Q K52 hK52 hC x1 x2 x3 x7 (wm 21 0) (wm 22 0) x7 wm hq hW (lv_sub hl [3, 4, 5, 6, 2, 1, 0, 7] rfl)
def k_X4_above_52 (K52 : (Int32 × Int32 × Int32 × Int32 × Int32 × Int32 × Int32 × Wd) → Prop) (Q : Int32 → Wd → Prop) (x1 : Int32) (x2 : Int32) (x3 : Int32) (x4 : Int32) (x5 : Int32) (x6 : Int32) (x7 : Int32) (wm : Wd) : Prop :=
 (((wm 7 0) ≤ x7 → ((x4 < 0 → (Q x4 wm)) ∧
 (¬ x4 < 0 → ((¬ x3 = 0 → (k_X4_common x6 x5 (fun r137 => ((¬ x3 = 1 → (¬ r137 = 0 ∧ (Q (x6 / r137) wm))) ∧
 (x3 = 1 → (¬ r137 = 0 ∧ (Q ((x5 / r137) + 100000) wm))))))) ∧
 (x3 = 0 → (Q x4 wm)))))) ∧
 (¬ (wm 7 0) ≤ x7 → (k_X4_isOver x7 x1 x2 wm (fun r66 wm66 => ((r66 = 0 → (k_X4_above_115 K52 Q x1 x2 x3 x4 x5 x6 x7 wm66)) ∧
 (¬ r66 = 0 → ((x4 < 0 → (k_X4_above_99 K52 Q x1 x2 x3 x7 wm66)) ∧
 (¬ x4 < 0 → (((lg_cmp (((wm66 21 0)).toInt64 * (x6).toInt64) ((x5).toInt64 * ((wm66 22 0)).toInt64)) ≤ 0 → (k_X4_above_115 K52 Q x1 x2 x3 x4 x5 x6 x7 wm66)) ∧
 (¬ (lg_cmp (((wm66 21 0)).toInt64 * (x6).toInt64) ((x5).toInt64 * ((wm66 22 0)).toInt64)) ≤ 0 → (k_X4_above_99 K52 Q x1 x2 x3 x7 wm66)))))))))))
set_option maxHeartbeats 4000000 in
set_option maxRecDepth 100000 in
theorem B_X4_above_52 {l : Launch} {p : Program} {e : Env} {s : State} {m : MethodId} {args : Array Value} {below : List Frame} {meth : Method} {c : Code} {A : Nat → Prop} {D : va_G} {cy cz : ClassId} {t1 t2 : Nat} (hm : Nat) (am : Nat → Nat) (Q : Int32 → Wd → Prop) (K52 : (Int32 × Int32 × Int32 × Int32 × Int32 × Int32 × Int32 × Wd) → Prop) (hK52 : ∀ b9 : Int32 × Int32 × Int32 × Int32 × Int32 × Int32 × Int32 × Wd, K52 b9 → ∀ (H : Heap) (locs : List Loc) (ls : Array Slot), Wo D A s (cM cy cz hm am b9.2.2.2.2.2.2.2) H locs → lv_has ls 8 [(0, .ref hm), (1, .int b9.1), (2, .int b9.2.1), (3, .int b9.2.2.1), (4, .int b9.2.2.2.1), (5, .int b9.2.2.2.2.1), (6, .int b9.2.2.2.2.2.1), (7, .int b9.2.2.2.2.2.2.1)] → W p l e (rM 5 119) s m args below meth c H locs 0 0 (MQ below (QI D (S := Wd) (fun r u => Q r u) (fun u => (cM cy cz hm am u)) A) args s 0 0 A) (F0 m 52 ls [])) (hC : Cx D cy cz t1 t2 p s m args meth c cX4_above 8 (some .int) RX4 A) (x1 : Int32) (x2 : Int32) (x3 : Int32) (x4 : Int32) (x5 : Int32) (x6 : Int32) (x7 : Int32) (wm : Wd) {H : Heap} {locs : List Loc} {ls : Array Slot} (hq : k_X4_above_52 K52 Q x1 x2 x3 x4 x5 x6 x7 wm) (hW : Wo D A s (cM cy cz hm am wm) H locs) (hl : lv_has ls 8 [(0, .ref hm), (1, .int x1), (2, .int x2), (3, .int x3), (4, .int x4), (5, .int x5), (6, .int x6), (7, .int x7)]) : W p l e (rM 5 119) s m args below meth c H locs 0 0 (MQ below (QI D (S := Wd) (fun r u => Q r u) (fun u => (cM cy cz hm am u)) A) args s 0 0 A) (F0 m 52 ls []) := by
  unfold k_X4_above_52 at hq
  refine lv_iload hC.x hC.b dX4_above_52 (lv_at hl 7 rfl) ?_
  refine lv_aload_n hC.x hC.b dX4_above_54 rfl (lv_at hl 0 rfl) ?_
  refine hc_get (v := .int (wm 7 0)) hC hW 0 4 7 inX4 rfl rfl (by decide) q_181 rfl dX4_above_55 ?_
  refine lv_icmp_ge (tgt := 121) hC.x hC.b dX4_above_58 (by decide) (fun hc9 => ?_) (fun hc9 => ?_)
  · replace hq := hq.1 hc9
    refine lv_iload hC.x hC.b dX4_above_121 (lv_at hl 4 rfl) ?_
    refine lv_if_lt (tgt := 130) hC.x hC.b dX4_above_123 (by decide) (fun hc9 => ?_) (fun hc9 => ?_)
    · replace hq := hq.1 hc9
      refine lv_iload hC.x hC.b dX4_above_130 (lv_at hl 4 rfl) ?_
      exact hc_iret hC (wm) hW hq dX4_above_132
    · replace hq := hq.2 hc9
      refine lv_iload_n hC.x hC.b dX4_above_126 rfl (lv_at hl 3 rfl) ?_
      refine lv_if_ne (tgt := 133) hC.x hC.b dX4_above_127 (by decide) (fun hc9 => ?_) (fun hc9 => ?_)
      · replace hq := hq.1 hc9
        refine lv_iload hC.x hC.b dX4_above_133 (lv_at hl 6 rfl) ?_
        refine lv_iload hC.x hC.b dX4_above_135 (lv_at hl 5 rfl) ?_
        refine hc_goP hC hW (hc_rS hC (c_X4_common l D cy cz t1 t2 x6 x5 _ hq) (hc_preP hC hW) q_504 q_505 q_5 q_506 hd_X4_common ⟨rfl, rfl⟩ ⟨Nat.le_of_ble_eq_true rfl, Nat.le_of_ble_eq_true rfl⟩ rfl hl.1 rfl (Nat.le_of_ble_eq_true rfl) dX4_above_137 ⟨Nat.zero_le _, Nat.zero_le _⟩) (fun r137 H locs hq hW => ?_)
        try dsimp only at hq
        refine lv_istore (lv' := [(7, .int r137), (0, .ref hm), (1, .int x1), (2, .int x2), (3, .int x3), (4, .int x4), (5, .int x5), (6, .int x6)]) hC.x hC.b dX4_above_140 hl (by decide) rfl (fun ls hl => ?_)
        refine lv_iload_n hC.x hC.b dX4_above_142 rfl (lv_at hl 4 rfl) ?_
        refine lv_iconst (v := 1) hC.x hC.b dX4_above_143 (by decide) ?_
        refine lv_icmp_ne (tgt := 158) hC.x hC.b dX4_above_144 (by decide) (fun hc9 => ?_) (fun hc9 => ?_)
        · replace hq := hq.1 hc9
          refine lv_iload hC.x hC.b dX4_above_158 (lv_at hl 7 rfl) ?_
          refine lv_iload hC.x hC.b dX4_above_160 (lv_at hl 0 rfl) ?_
          refine lv_idiv hC.x hC.b dX4_above_162 hq.1 ?_
          replace hq := hq.2
          exact hc_iret hC (wm) hW hq dX4_above_163
        · replace hq := hq.2 hc9
          refine lv_iload hC.x hC.b dX4_above_147 (lv_at hl 6 rfl) ?_
          refine lv_iload hC.x hC.b dX4_above_149 (lv_at hl 0 rfl) ?_
          refine lv_idiv hC.x hC.b dX4_above_151 hq.1 ?_
          replace hq := hq.2
          refine lv_ldc (v := 100000) hC.x hC.b hC.ow (hC.ts _ q_499) dX4_above_152 ?_
          refine lv_iadd hC.x hC.b dX4_above_154 ?_
          refine lv_goto (tgt := 163) hC.x hC.b dX4_above_155 (by decide) ?_
          exact hc_iret hC (wm) hW hq dX4_above_163
      · replace hq := hq.2 hc9
        refine lv_iload hC.x hC.b dX4_above_130 (lv_at hl 4 rfl) ?_
        exact hc_iret hC (wm) hW hq dX4_above_132
  · replace hq := hq.2 hc9
    refine lv_aload_n hC.x hC.b dX4_above_61 rfl (lv_at hl 0 rfl) ?_
    refine lv_iload hC.x hC.b dX4_above_62 (lv_at hl 7 rfl) ?_
    refine lv_iload_n hC.x hC.b dX4_above_64 rfl (lv_at hl 1 rfl) ?_
    refine lv_iload_n hC.x hC.b dX4_above_65 rfl (lv_at hl 2 rfl) ?_
    refine hc_goIW hC hW (hc_rV hC (c_X4_isOver l D cy cz t1 t2 hm am x7 x1 x2 wm _ hq) (hc_preW hC hW) hW 0 4 rfl rfl q_500 q_501 q_502 q_5 q_503 hd_X4_isOver ⟨rfl, rfl⟩ ⟨Nat.le_of_ble_eq_true rfl, Nat.le_of_ble_eq_true rfl⟩ rfl hl.1 rfl (Nat.le_of_ble_eq_true rfl) dX4_above_66 ⟨Nat.zero_le _, Nat.zero_le _⟩) (fun r66 u9 H locs hq hW => ?_)
    obtain ⟨wm66, rfl⟩ : ∃ z, z = u9 := ⟨_, rfl⟩
    try dsimp only at hq hW
    refine lv_if_eq (tgt := 115) hC.x hC.b dX4_above_69 (by decide) (fun hc9 => ?_) (fun hc9 => ?_)
    · replace hq := hq.1 hc9
      exact B_X4_above_115 hm am Q K52 hK52 hC x1 x2 x3 x4 x5 x6 x7 wm66 hq hW (lv_sub hl [0, 1, 2, 3, 4, 5, 6, 7] rfl)
    · replace hq := hq.2 hc9
      refine lv_iload hC.x hC.b dX4_above_72 (lv_at hl 4 rfl) ?_
      refine lv_if_lt (tgt := 99) hC.x hC.b dX4_above_74 (by decide) (fun hc9 => ?_) (fun hc9 => ?_)
      · replace hq := hq.1 hc9
        exact B_X4_above_99 hm am Q K52 hK52 hC x1 x2 x3 x7 wm66 hq hW (lv_sub hl [0, 1, 2, 3, 7] rfl)
      · replace hq := hq.2 hc9
        refine lv_aload_n hC.x hC.b dX4_above_77 rfl (lv_at hl 0 rfl) ?_
        refine hc_get (v := .int (wm66 21 0)) hC hW 0 4 21 inX4 rfl rfl (by decide) q_497 rfl dX4_above_78 ?_
        refine lv_i2l (v := ((wm66 21 0)).toInt64) hC.x hC.b dX4_above_81 rfl ?_
        refine lv_iload hC.x hC.b dX4_above_82 (lv_at hl 6 rfl) ?_
        refine lv_i2l (v := (x6).toInt64) hC.x hC.b dX4_above_84 rfl ?_
        refine lv_lmul hC.x hC.b dX4_above_85 ?_
        refine lv_iload hC.x hC.b dX4_above_86 (lv_at hl 5 rfl) ?_
        refine lv_i2l (v := (x5).toInt64) hC.x hC.b dX4_above_88 rfl ?_
        refine lv_aload_n hC.x hC.b dX4_above_89 rfl (lv_at hl 0 rfl) ?_
        refine hc_get (v := .int (wm66 22 0)) hC hW 0 4 22 inX4 rfl rfl (by decide) q_498 rfl dX4_above_90 ?_
        refine lv_i2l (v := ((wm66 22 0)).toInt64) hC.x hC.b dX4_above_93 rfl ?_
        refine lv_lmul hC.x hC.b dX4_above_94 ?_
        refine W.lcmp hC.x hC.b dX4_above_95 ?_
        refine lv_if_le (tgt := 115) hC.x hC.b dX4_above_96 (by decide) (fun hc9 => ?_) (fun hc9 => ?_)
        · replace hq := hq.1 hc9
          exact B_X4_above_115 hm am Q K52 hK52 hC x1 x2 x3 x4 x5 x6 x7 wm66 hq hW (lv_sub hl [0, 1, 2, 3, 4, 5, 6, 7] rfl)
        · replace hq := hq.2 hc9
          exact B_X4_above_99 hm am Q K52 hK52 hC x1 x2 x3 x7 wm66 hq hW (lv_sub hl [0, 1, 2, 3, 7] rfl)
def k_X4_above (x1 : Int32) (x2 : Int32) (x3 : Int32) (wm : Wd) (Q : Int32 → Wd → Prop) : Prop :=
 (k_X4_in x1 0 10 (fun r4 => ((r4 = 0 → (Q (-2) wm)) ∧
 (¬ r4 = 0 → (k_X4_in x2 (-600) 600 (fun r17 => ((r17 = 0 → (Q (-2) wm)) ∧
 (¬ r17 = 0 → (k_X4_in x3 0 2 (fun r26 => ((¬ r26 = 0 → (k_X4_lay wm (fun wm36 => (∃ n : Nat, lpf (fun (K : (Int32 × Int32 × Int32 × Int32 × Int32 × Int32 × Int32 × Wd) → Prop) (u : Int32 × Int32 × Int32 × Int32 × Int32 × Int32 × Int32 × Wd) => k_X4_above_52  K Q u.1 u.2.1 u.2.2.1 u.2.2.2.1 u.2.2.2.2.1 u.2.2.2.2.2.1 u.2.2.2.2.2.2.1 u.2.2.2.2.2.2.2) n (x1, x2, x3, (-6), 0, 1, 0, wm36))))) ∧
 (r26 = 0 → (Q (-2) wm)))))))))))))
set_option maxHeartbeats 4000000 in
set_option maxRecDepth 100000 in
theorem c_X4_above (l : Launch) (D : va_G) (cy cz : ClassId) (t1 t2 : Nat) (hm : Nat) (am : Nat → Nat) (x1 : Int32) (x2 : Int32) (x3 : Int32) (wm : Wd) (Q : Int32 → Wd → Prop) (hq : k_X4_above x1 x2 x3 wm Q) : Ct l D cy cz t1 t2 yX4_above cX4_above 8 (some .int) (rM 5 119) [.ref hm, .int x1, .int x2, .int x3] (cM cy cz hm am wm) (QI D (S := Wd) (fun r u => Q r u) (fun u => (cM cy cz hm am u))) := by
  refine Ct.of (own := RX4) (by decide) rfl (Nat.le_of_ble_eq_true rfl) ?_
  intro p e s m below meth c A ls hC hW hl
  unfold k_X4_above at hq
  have hl : lv_has ls 8 [(0, .ref hm), (1, .int x1), (2, .int x2), (3, .int x3)] := hl
  refine lv_iload_n hC.x hC.b dX4_above_0 rfl (lv_at hl 1 rfl) ?_
  refine lv_iconst (v := 0) hC.x hC.b dX4_above_1 (by decide) ?_
  refine lv_bipush (v := 10) hC.x hC.b dX4_above_2 (by decide) ?_
  refine hc_goP hC hW (hc_rS hC (c_X4_in l D cy cz t1 t2 x1 0 10 _ hq) (hc_preP hC hW) q_120 q_121 q_5 q_122 hd_X4_in ⟨rfl, rfl⟩ ⟨Nat.le_of_ble_eq_true rfl, Nat.le_of_ble_eq_true rfl⟩ rfl hl.1 rfl (Nat.le_of_ble_eq_true rfl) dX4_above_4 ⟨Nat.zero_le _, Nat.zero_le _⟩) (fun r4 H locs hq hW => ?_)
  try dsimp only at hq
  refine lv_if_eq (tgt := 32) hC.x hC.b dX4_above_7 (by decide) (fun hc9 => ?_) (fun hc9 => ?_)
  · replace hq := hq.1 hc9
    refine lv_bipush (v := (-2)) hC.x hC.b dX4_above_32 (by decide) ?_
    exact hc_iret hC (wm) hW hq dX4_above_34
  · replace hq := hq.2 hc9
    refine lv_iload_n hC.x hC.b dX4_above_10 rfl (lv_at hl 2 rfl) ?_
    refine lv_sipush (v := (-600)) hC.x hC.b dX4_above_11 (by decide) ?_
    refine lv_sipush (v := 600) hC.x hC.b dX4_above_14 (by decide) ?_
    refine hc_goP hC hW (hc_rS hC (c_X4_in l D cy cz t1 t2 x2 (-600) 600 _ hq) (hc_preP hC hW) q_120 q_121 q_5 q_122 hd_X4_in ⟨rfl, rfl⟩ ⟨Nat.le_of_ble_eq_true rfl, Nat.le_of_ble_eq_true rfl⟩ rfl hl.1 rfl (Nat.le_of_ble_eq_true rfl) dX4_above_17 ⟨Nat.zero_le _, Nat.zero_le _⟩) (fun r17 H locs hq hW => ?_)
    try dsimp only at hq
    refine lv_if_eq (tgt := 32) hC.x hC.b dX4_above_20 (by decide) (fun hc9 => ?_) (fun hc9 => ?_)
    · replace hq := hq.1 hc9
      refine lv_bipush (v := (-2)) hC.x hC.b dX4_above_32 (by decide) ?_
      exact hc_iret hC (wm) hW hq dX4_above_34
    · replace hq := hq.2 hc9
      refine lv_iload_n hC.x hC.b dX4_above_23 rfl (lv_at hl 3 rfl) ?_
      refine lv_iconst (v := 0) hC.x hC.b dX4_above_24 (by decide) ?_
      refine lv_iconst (v := 2) hC.x hC.b dX4_above_25 (by decide) ?_
      refine hc_goP hC hW (hc_rS hC (c_X4_in l D cy cz t1 t2 x3 0 2 _ hq) (hc_preP hC hW) q_120 q_121 q_5 q_122 hd_X4_in ⟨rfl, rfl⟩ ⟨Nat.le_of_ble_eq_true rfl, Nat.le_of_ble_eq_true rfl⟩ rfl hl.1 rfl (Nat.le_of_ble_eq_true rfl) dX4_above_26 ⟨Nat.zero_le _, Nat.zero_le _⟩) (fun r26 H locs hq hW => ?_)
      try dsimp only at hq
      refine lv_if_ne (tgt := 35) hC.x hC.b dX4_above_29 (by decide) (fun hc9 => ?_) (fun hc9 => ?_)
      · replace hq := hq.1 hc9
        refine lv_aload_n hC.x hC.b dX4_above_35 rfl (lv_at hl 0 rfl) ?_
        refine hc_goVW hC hW (hc_rV hC (c_X4_lay l D cy cz t1 t2 hm am wm _ hq) (hc_preW hC hW) hW 0 4 rfl rfl q_182 q_183 q_184 q_5 q_185 hd_X4_lay ⟨rfl, rfl⟩ ⟨Nat.le_of_ble_eq_true rfl, Nat.le_of_ble_eq_true rfl⟩ rfl hl.1 rfl (Nat.le_of_ble_eq_true rfl) dX4_above_36 ⟨Nat.zero_le _, Nat.zero_le _⟩) (fun u9 H locs hq hW => ?_)
        obtain ⟨wm36, rfl⟩ : ∃ z, z = u9 := ⟨_, rfl⟩
        try dsimp only at hq hW
        refine lv_bipush (v := (-6)) hC.x hC.b dX4_above_39 (by decide) ?_
        refine lv_istore (lv' := [(4, .int (-6)), (0, .ref hm), (1, .int x1), (2, .int x2), (3, .int x3)]) hC.x hC.b dX4_above_41 hl (by decide) rfl (fun ls hl => ?_)
        refine lv_iconst (v := 0) hC.x hC.b dX4_above_43 (by decide) ?_
        refine lv_istore (lv' := [(5, .int 0), (4, .int (-6)), (0, .ref hm), (1, .int x1), (2, .int x2), (3, .int x3)]) hC.x hC.b dX4_above_44 hl (by decide) rfl (fun ls hl => ?_)
        refine lv_iconst (v := 1) hC.x hC.b dX4_above_46 (by decide) ?_
        refine lv_istore (lv' := [(6, .int 1), (5, .int 0), (4, .int (-6)), (0, .ref hm), (1, .int x1), (2, .int x2), (3, .int x3)]) hC.x hC.b dX4_above_47 hl (by decide) rfl (fun ls hl => ?_)
        refine lv_iconst (v := 0) hC.x hC.b dX4_above_49 (by decide) ?_
        refine lv_istore (lv' := [(7, .int 0), (6, .int 1), (5, .int 0), (4, .int (-6)), (0, .ref hm), (1, .int x1), (2, .int x2), (3, .int x3)]) hC.x hC.b dX4_above_50 hl (by decide) rfl (fun ls hl => ?_)
        obtain ⟨n9, hq⟩ := hq
        exact lpf_use (G := (fun (u : Int32 × Int32 × Int32 × Int32 × Int32 × Int32 × Int32 × Wd) => ∀ (H : Heap) (locs : List Loc) (ls : Array Slot), Wo D A s (cM cy cz hm am u.2.2.2.2.2.2.2) H locs → lv_has ls 8 [(0, .ref hm), (1, .int u.1), (2, .int u.2.1), (3, .int u.2.2.1), (4, .int u.2.2.2.1), (5, .int u.2.2.2.2.1), (6, .int u.2.2.2.2.2.1), (7, .int u.2.2.2.2.2.2.1)] → W p l e (rM 5 119) s m _ below meth c H locs 0 0 (MQ below (QI D (S := Wd) (fun r u => Q r u) (fun u => (cM cy cz hm am u)) A) _ s 0 0 A) (F0 m 52 ls []))) (fun K hK u hq H locs ls hW hl => B_X4_above_52 hm am Q  K hK hC u.1 u.2.1 u.2.2.1 u.2.2.2.1 u.2.2.2.2.1 u.2.2.2.2.2.1 u.2.2.2.2.2.2.1 u.2.2.2.2.2.2.2 hq hW hl) n9 _ hq _ _ _ hW (lv_sub hl [4, 5, 6, 7, 3, 2, 1, 0] rfl)
      · replace hq := hq.2 hc9
        refine lv_bipush (v := (-2)) hC.x hC.b dX4_above_32 (by decide) ?_
        exact hc_iret hC (wm) hW hq dX4_above_34
def k_X4_apart (x1 : Int32) (x2 : Int32) (x3 : Int32) (wm : Wd) (Q : Int32 → Wd → Prop) : Prop :=
 (k_X4_lay wm (fun wm1 => (k_X4_isFace x1 wm1 (fun r6 wm6 => ((r6 = 0 → (Q (-1) wm6)) ∧
 (¬ r6 = 0 → (k_X4_isFace x2 wm6 (fun r14 wm14 => ((¬ r14 = 0 → (k_X4_in x3 0 10 (fun r26 => ((¬ r26 = 0 → (vp_in x1 18 ∧ (vp_in x1 18 ∧ (k_X4_across x3 (wm14 4 (x1).toNatClampNeg) (wm14 5 (x1).toNatClampNeg) (fun r48 => (vp_in x2 18 ∧ (vp_in x2 18 ∧ (k_X4_across x3 (wm14 4 (x2).toNatClampNeg) (wm14 5 (x2).toNatClampNeg) (fun r64 => (vp_in x1 18 ∧ (k_X4_upOf x3 (wm14 5 (x1).toNatClampNeg) (fun r77 => (vp_in x2 18 ∧ (k_X4_upOf x3 (wm14 5 (x2).toNatClampNeg) (fun r87 => (Q (((r48 - r64) * (r48 - r64)) + ((r77 - r87) * (r77 - r87))) wm14)))))))))))))))) ∧
 (r26 = 0 → (Q (-2) wm14)))))) ∧
 (r14 = 0 → (Q (-1) wm14)))))))))))
set_option maxHeartbeats 4000000 in
set_option maxRecDepth 100000 in
theorem c_X4_apart (l : Launch) (D : va_G) (cy cz : ClassId) (t1 t2 : Nat) (hm : Nat) (am : Nat → Nat) (x1 : Int32) (x2 : Int32) (x3 : Int32) (wm : Wd) (Q : Int32 → Wd → Prop) (hq : k_X4_apart x1 x2 x3 wm Q) : Ct l D cy cz t1 t2 yX4_apart cX4_apart 6 (some .int) (rM 5 119) [.ref hm, .int x1, .int x2, .int x3] (cM cy cz hm am wm) (QI D (S := Wd) (fun r u => Q r u) (fun u => (cM cy cz hm am u))) := by
  refine Ct.of (own := RX4) (by decide) rfl (Nat.le_of_ble_eq_true rfl) ?_
  intro p e s m below meth c A ls hC hW hl
  unfold k_X4_apart at hq
  have hl : lv_has ls 6 [(0, .ref hm), (1, .int x1), (2, .int x2), (3, .int x3)] := hl
  refine lv_aload_n hC.x hC.b dX4_apart_0 rfl (lv_at hl 0 rfl) ?_
  refine hc_goVW hC hW (hc_rV hC (c_X4_lay l D cy cz t1 t2 hm am wm _ hq) (hc_preW hC hW) hW 0 4 rfl rfl q_182 q_183 q_184 q_5 q_185 hd_X4_lay ⟨rfl, rfl⟩ ⟨Nat.le_of_ble_eq_true rfl, Nat.le_of_ble_eq_true rfl⟩ rfl hl.1 rfl (Nat.le_of_ble_eq_true rfl) dX4_apart_1 ⟨Nat.zero_le _, Nat.zero_le _⟩) (fun u9 H locs hq hW => ?_)
  obtain ⟨wm1, rfl⟩ : ∃ z, z = u9 := ⟨_, rfl⟩
  try dsimp only at hq hW
  refine lv_aload_n hC.x hC.b dX4_apart_4 rfl (lv_at hl 0 rfl) ?_
  refine lv_iload_n hC.x hC.b dX4_apart_5 rfl (lv_at hl 1 rfl) ?_
  refine hc_goIW hC hW (hc_rV hC (c_X4_isFace l D cy cz t1 t2 hm am x1 wm1 _ hq) (hc_preW hC hW) hW 0 4 rfl rfl q_289 q_290 q_291 q_5 q_292 hd_X4_isFace ⟨rfl, rfl⟩ ⟨Nat.le_of_ble_eq_true rfl, Nat.le_of_ble_eq_true rfl⟩ rfl hl.1 rfl (Nat.le_of_ble_eq_true rfl) dX4_apart_6 ⟨Nat.zero_le _, Nat.zero_le _⟩) (fun r6 u9 H locs hq hW => ?_)
  obtain ⟨wm6, rfl⟩ : ∃ z, z = u9 := ⟨_, rfl⟩
  try dsimp only at hq hW
  refine lv_if_eq (tgt := 20) hC.x hC.b dX4_apart_9 (by decide) (fun hc9 => ?_) (fun hc9 => ?_)
  · replace hq := hq.1 hc9
    refine lv_iconst (v := (-1)) hC.x hC.b dX4_apart_20 (by decide) ?_
    exact hc_iret hC (wm6) hW hq dX4_apart_21
  · replace hq := hq.2 hc9
    refine lv_aload_n hC.x hC.b dX4_apart_12 rfl (lv_at hl 0 rfl) ?_
    refine lv_iload_n hC.x hC.b dX4_apart_13 rfl (lv_at hl 2 rfl) ?_
    refine hc_goIW hC hW (hc_rV hC (c_X4_isFace l D cy cz t1 t2 hm am x2 wm6 _ hq) (hc_preW hC hW) hW 0 4 rfl rfl q_289 q_290 q_291 q_5 q_292 hd_X4_isFace ⟨rfl, rfl⟩ ⟨Nat.le_of_ble_eq_true rfl, Nat.le_of_ble_eq_true rfl⟩ rfl hl.1 rfl (Nat.le_of_ble_eq_true rfl) dX4_apart_14 ⟨Nat.zero_le _, Nat.zero_le _⟩) (fun r14 u9 H locs hq hW => ?_)
    obtain ⟨wm14, rfl⟩ : ∃ z, z = u9 := ⟨_, rfl⟩
    try dsimp only at hq hW
    refine lv_if_ne (tgt := 22) hC.x hC.b dX4_apart_17 (by decide) (fun hc9 => ?_) (fun hc9 => ?_)
    · replace hq := hq.1 hc9
      refine lv_iload_n hC.x hC.b dX4_apart_22 rfl (lv_at hl 3 rfl) ?_
      refine lv_iconst (v := 0) hC.x hC.b dX4_apart_23 (by decide) ?_
      refine lv_bipush (v := 10) hC.x hC.b dX4_apart_24 (by decide) ?_
      refine hc_goP hC hW (hc_rS hC (c_X4_in l D cy cz t1 t2 x3 0 10 _ hq) (hc_preP hC hW) q_120 q_121 q_5 q_122 hd_X4_in ⟨rfl, rfl⟩ ⟨Nat.le_of_ble_eq_true rfl, Nat.le_of_ble_eq_true rfl⟩ rfl hl.1 rfl (Nat.le_of_ble_eq_true rfl) dX4_apart_26 ⟨Nat.zero_le _, Nat.zero_le _⟩) (fun r26 H locs hq hW => ?_)
      try dsimp only at hq
      refine lv_if_ne (tgt := 35) hC.x hC.b dX4_apart_29 (by decide) (fun hc9 => ?_) (fun hc9 => ?_)
      · replace hq := hq.1 hc9
        refine lv_iload_n hC.x hC.b dX4_apart_35 rfl (lv_at hl 3 rfl) ?_
        refine lv_aload_n hC.x hC.b dX4_apart_36 rfl (lv_at hl 0 rfl) ?_
        refine hc_get (v := .ref (am 4)) hC hW 0 4 4 inX4 rfl rfl (by decide) q_96 rfl dX4_apart_37 ?_
        refine lv_iload_n hC.x hC.b dX4_apart_40 rfl (lv_at hl 1 rfl) ?_
        refine hc_iald hC hW 5 rfl hq.1 dX4_apart_41 ?_
        replace hq := hq.2
        refine lv_aload_n hC.x hC.b dX4_apart_42 rfl (lv_at hl 0 rfl) ?_
        refine hc_get (v := .ref (am 5)) hC hW 0 4 5 inX4 rfl rfl (by decide) q_97 rfl dX4_apart_43 ?_
        refine lv_iload_n hC.x hC.b dX4_apart_46 rfl (lv_at hl 1 rfl) ?_
        refine hc_iald hC hW 6 rfl hq.1 dX4_apart_47 ?_
        replace hq := hq.2
        refine hc_goP hC hW (hc_rS hC (c_X4_across l D cy cz t1 t2 x3 (wm14 4 (x1).toNatClampNeg) (wm14 5 (x1).toNatClampNeg) _ hq) (hc_preP hC hW) q_435 q_436 q_5 q_437 hd_X4_across ⟨rfl, rfl⟩ ⟨Nat.le_of_ble_eq_true rfl, Nat.le_of_ble_eq_true rfl⟩ rfl hl.1 rfl (Nat.le_of_ble_eq_true rfl) dX4_apart_48 ⟨Nat.zero_le _, Nat.zero_le _⟩) (fun r48 H locs hq hW => ?_)
        try dsimp only at hq
        refine lv_iload_n hC.x hC.b dX4_apart_51 rfl (lv_at hl 3 rfl) ?_
        refine lv_aload_n hC.x hC.b dX4_apart_52 rfl (lv_at hl 0 rfl) ?_
        refine hc_get (v := .ref (am 4)) hC hW 0 4 4 inX4 rfl rfl (by decide) q_96 rfl dX4_apart_53 ?_
        refine lv_iload_n hC.x hC.b dX4_apart_56 rfl (lv_at hl 2 rfl) ?_
        refine hc_iald hC hW 5 rfl hq.1 dX4_apart_57 ?_
        replace hq := hq.2
        refine lv_aload_n hC.x hC.b dX4_apart_58 rfl (lv_at hl 0 rfl) ?_
        refine hc_get (v := .ref (am 5)) hC hW 0 4 5 inX4 rfl rfl (by decide) q_97 rfl dX4_apart_59 ?_
        refine lv_iload_n hC.x hC.b dX4_apart_62 rfl (lv_at hl 2 rfl) ?_
        refine hc_iald hC hW 6 rfl hq.1 dX4_apart_63 ?_
        replace hq := hq.2
        refine hc_goP hC hW (hc_rS hC (c_X4_across l D cy cz t1 t2 x3 (wm14 4 (x2).toNatClampNeg) (wm14 5 (x2).toNatClampNeg) _ hq) (hc_preP hC hW) q_435 q_436 q_5 q_437 hd_X4_across ⟨rfl, rfl⟩ ⟨Nat.le_of_ble_eq_true rfl, Nat.le_of_ble_eq_true rfl⟩ rfl hl.1 rfl (Nat.le_of_ble_eq_true rfl) dX4_apart_64 ⟨Nat.zero_le _, Nat.zero_le _⟩) (fun r64 H locs hq hW => ?_)
        try dsimp only at hq
        refine lv_isub hC.x hC.b dX4_apart_67 ?_
        refine lv_istore (lv' := [(4, .int (r48 - r64)), (0, .ref hm), (1, .int x1), (2, .int x2), (3, .int x3)]) hC.x hC.b dX4_apart_68 hl (by decide) rfl (fun ls hl => ?_)
        refine lv_iload_n hC.x hC.b dX4_apart_70 rfl (lv_at hl 4 rfl) ?_
        refine lv_aload_n hC.x hC.b dX4_apart_71 rfl (lv_at hl 1 rfl) ?_
        refine hc_get (v := .ref (am 5)) hC hW 0 4 5 inX4 rfl rfl (by decide) q_97 rfl dX4_apart_72 ?_
        refine lv_iload_n hC.x hC.b dX4_apart_75 rfl (lv_at hl 2 rfl) ?_
        refine hc_iald hC hW 6 rfl hq.1 dX4_apart_76 ?_
        replace hq := hq.2
        refine hc_goP hC hW (hc_rS hC (c_X4_upOf l D cy cz t1 t2 x3 (wm14 5 (x1).toNatClampNeg) _ hq) (hc_preP hC hW) q_444 q_445 q_5 q_446 hd_X4_upOf ⟨rfl, rfl⟩ ⟨Nat.le_of_ble_eq_true rfl, Nat.le_of_ble_eq_true rfl⟩ rfl hl.1 rfl (Nat.le_of_ble_eq_true rfl) dX4_apart_77 ⟨Nat.zero_le _, Nat.zero_le _⟩) (fun r77 H locs hq hW => ?_)
        try dsimp only at hq
        refine lv_iload_n hC.x hC.b dX4_apart_80 rfl (lv_at hl 4 rfl) ?_
        refine lv_aload_n hC.x hC.b dX4_apart_81 rfl (lv_at hl 1 rfl) ?_
        refine hc_get (v := .ref (am 5)) hC hW 0 4 5 inX4 rfl rfl (by decide) q_97 rfl dX4_apart_82 ?_
        refine lv_iload_n hC.x hC.b dX4_apart_85 rfl (lv_at hl 3 rfl) ?_
        refine hc_iald hC hW 6 rfl hq.1 dX4_apart_86 ?_
        replace hq := hq.2
        refine hc_goP hC hW (hc_rS hC (c_X4_upOf l D cy cz t1 t2 x3 (wm14 5 (x2).toNatClampNeg) _ hq) (hc_preP hC hW) q_444 q_445 q_5 q_446 hd_X4_upOf ⟨rfl, rfl⟩ ⟨Nat.le_of_ble_eq_true rfl, Nat.le_of_ble_eq_true rfl⟩ rfl hl.1 rfl (Nat.le_of_ble_eq_true rfl) dX4_apart_87 ⟨Nat.zero_le _, Nat.zero_le _⟩) (fun r87 H locs hq hW => ?_)
        try dsimp only at hq
        refine lv_isub hC.x hC.b dX4_apart_90 ?_
        refine lv_istore (lv' := [(5, .int (r77 - r87)), (4, .int (r48 - r64)), (0, .ref hm), (1, .int x1), (2, .int x2), (3, .int x3)]) hC.x hC.b dX4_apart_91 hl (by decide) rfl (fun ls hl => ?_)
        refine lv_iload hC.x hC.b dX4_apart_93 (lv_at hl 1 rfl) ?_
        refine lv_iload hC.x hC.b dX4_apart_95 (lv_at hl 1 rfl) ?_
        refine lv_imul hC.x hC.b dX4_apart_97 ?_
        refine lv_iload hC.x hC.b dX4_apart_98 (lv_at hl 0 rfl) ?_
        refine lv_iload hC.x hC.b dX4_apart_100 (lv_at hl 0 rfl) ?_
        refine lv_imul hC.x hC.b dX4_apart_102 ?_
        refine lv_iadd hC.x hC.b dX4_apart_103 ?_
        exact hc_iret hC (wm14) hW hq dX4_apart_104
      · replace hq := hq.2 hc9
        refine lv_bipush (v := (-2)) hC.x hC.b dX4_apart_32 (by decide) ?_
        exact hc_iret hC (wm14) hW hq dX4_apart_34
    · replace hq := hq.2 hc9
      refine lv_iconst (v := (-1)) hC.x hC.b dX4_apart_20 (by decide) ?_
      exact hc_iret hC (wm14) hW hq dX4_apart_21
def k_X4_image_14 (K14 : (Int32 × Int32 × Wd) → Prop) (Q : Int32 → Wd → Prop) (x1 : Int32) (x2 : Int32) (wm : Wd) : Prop :=
 (((20 : Int32) ≤ x2 → (vp_in x1 2 ∧ (Q 1 (up2 wm 2 (x1).toNatClampNeg 1)))) ∧
 (¬ (20 : Int32) ≤ x2 → (vp_in x2 20 ∧ (vp_in ((20 * x1) + x2) 40 ∧ (K14 (x1, (x2 + 1), (up2 wm 1 (((20 * x1) + x2)).toNatClampNeg (wm 0 (x2).toNatClampNeg))))))))
set_option maxHeartbeats 4000000 in
set_option maxRecDepth 100000 in
theorem B_X4_image_14 {l : Launch} {p : Program} {e : Env} {s : State} {m : MethodId} {args : Array Value} {below : List Frame} {meth : Method} {c : Code} {A : Nat → Prop} {D : va_G} {cy cz : ClassId} {t1 t2 : Nat} (hm : Nat) (am : Nat → Nat) (Q : Int32 → Wd → Prop) (K14 : (Int32 × Int32 × Wd) → Prop) (hK14 : ∀ b9 : Int32 × Int32 × Wd, K14 b9 → ∀ (H : Heap) (locs : List Loc) (ls : Array Slot), Wo D A s (cM cy cz hm am b9.2.2) H locs → lv_has ls 3 [(0, .ref hm), (1, .int b9.1), (2, .int b9.2.1)] → W p l e (rM 1 22) s m args below meth c H locs 0 0 (MQ below (QI D (S := Wd) (fun r u => Q r u) (fun u => (cM cy cz hm am u)) A) args s 0 0 A) (F0 m 14 ls [])) (hC : Cx D cy cz t1 t2 p s m args meth c cX4_image 3 (some .int) RX4 A) (x1 : Int32) (x2 : Int32) (wm : Wd) {H : Heap} {locs : List Loc} {ls : Array Slot} (hq : k_X4_image_14 K14 Q x1 x2 wm) (hW : Wo D A s (cM cy cz hm am wm) H locs) (hl : lv_has ls 3 [(0, .ref hm), (1, .int x1), (2, .int x2)]) : W p l e (rM 1 22) s m args below meth c H locs 0 0 (MQ below (QI D (S := Wd) (fun r u => Q r u) (fun u => (cM cy cz hm am u)) A) args s 0 0 A) (F0 m 14 ls []) := by
  unfold k_X4_image_14 at hq
  refine lv_iload_n hC.x hC.b dX4_image_14 rfl (lv_at hl 2 rfl) ?_
  refine lv_bipush (v := 20) hC.x hC.b dX4_image_15 (by decide) ?_
  refine lv_icmp_ge (tgt := 43) hC.x hC.b dX4_image_17 (by decide) (fun hc9 => ?_) (fun hc9 => ?_)
  · replace hq := hq.1 hc9
    refine lv_aload_n hC.x hC.b dX4_image_43 rfl (lv_at hl 0 rfl) ?_
    refine hc_get (v := .ref (am 2)) hC hW 0 4 2 inX4 rfl rfl (by decide) q_94 rfl dX4_image_44 ?_
    refine lv_iload_n hC.x hC.b dX4_image_47 rfl (lv_at hl 1 rfl) ?_
    refine lv_iconst (v := 1) hC.x hC.b dX4_image_48 (by decide) ?_
    refine hc_zast (ws' := (cM cy cz hm am (up2 wm 2 (x1).toNatClampNeg 1))) hC hW 3 rfl hq.1 rfl (cM_set_2 ..) dX4_image_49 (fun H locs hW => ?_)
    replace hq := hq.2
    refine lv_iconst (v := 1) hC.x hC.b dX4_image_50 (by decide) ?_
    exact hc_iret hC ((up2 wm 2 (x1).toNatClampNeg 1)) hW hq dX4_image_51
  · replace hq := hq.2 hc9
    refine lv_aload_n hC.x hC.b dX4_image_20 rfl (lv_at hl 0 rfl) ?_
    refine hc_get (v := .ref (am 1)) hC hW 0 4 1 inX4 rfl rfl (by decide) q_92 rfl dX4_image_21 ?_
    refine lv_bipush (v := 20) hC.x hC.b dX4_image_24 (by decide) ?_
    refine lv_iload_n hC.x hC.b dX4_image_26 rfl (lv_at hl 1 rfl) ?_
    refine lv_imul hC.x hC.b dX4_image_27 ?_
    refine lv_iload_n hC.x hC.b dX4_image_28 rfl (lv_at hl 2 rfl) ?_
    refine lv_iadd hC.x hC.b dX4_image_29 ?_
    refine lv_aload_n hC.x hC.b dX4_image_30 rfl (lv_at hl 0 rfl) ?_
    refine hc_get (v := .ref (am 0)) hC hW 0 4 0 inX4 rfl rfl (by decide) q_91 rfl dX4_image_31 ?_
    refine lv_iload_n hC.x hC.b dX4_image_34 rfl (lv_at hl 2 rfl) ?_
    refine hc_iald hC hW 1 rfl hq.1 dX4_image_35 ?_
    replace hq := hq.2
    refine hc_iast (ws' := (cM cy cz hm am (up2 wm 1 (((20 * x1) + x2)).toNatClampNeg (wm 0 (x2).toNatClampNeg)))) hC hW 2 rfl hq.1 (cM_set_1 ..) dX4_image_36 (fun H locs hW => ?_)
    replace hq := hq.2
    refine lv_iinc (v := (x2 + 1)) (lv' := [(2, .int (x2 + 1)), (0, .ref hm), (1, .int x1)]) hC.x hC.b dX4_image_37 hl (k := 2) rfl rfl (by decide) rfl (fun ls hl => ?_)
    refine lv_goto (tgt := 14) hC.x hC.b dX4_image_40 (by decide) ?_
    exact hK14 (x1, (x2 + 1), (up2 wm 1 (((20 * x1) + x2)).toNatClampNeg (wm 0 (x2).toNatClampNeg))) hq _ _ _ hW (lv_sub hl [1, 2, 0] rfl)
def k_X4_image (x1 : Int32) (wm : Wd) (Q : Int32 → Wd → Prop) : Prop :=
 (k_X4_in x1 0 1 (fun r3 => ((¬ r3 = 0 → (∃ n : Nat, lpf (fun (K : (Int32 × Int32 × Wd) → Prop) (u : Int32 × Int32 × Wd) => k_X4_image_14  K Q u.1 u.2.1 u.2.2) n (x1, 0, wm))) ∧
 (r3 = 0 → (Q (-2) wm)))))
set_option maxHeartbeats 4000000 in
set_option maxRecDepth 100000 in
theorem c_X4_image (l : Launch) (D : va_G) (cy cz : ClassId) (t1 t2 : Nat) (hm : Nat) (am : Nat → Nat) (x1 : Int32) (wm : Wd) (Q : Int32 → Wd → Prop) (hq : k_X4_image x1 wm Q) : Ct l D cy cz t1 t2 yX4_image cX4_image 3 (some .int) (rM 1 22) [.ref hm, .int x1] (cM cy cz hm am wm) (QI D (S := Wd) (fun r u => Q r u) (fun u => (cM cy cz hm am u))) := by
  refine Ct.of (own := RX4) (by decide) rfl (Nat.le_of_ble_eq_true rfl) ?_
  intro p e s m below meth c A ls hC hW hl
  unfold k_X4_image at hq
  have hl : lv_has ls 3 [(0, .ref hm), (1, .int x1)] := hl
  refine lv_iload_n hC.x hC.b dX4_image_0 rfl (lv_at hl 1 rfl) ?_
  refine lv_iconst (v := 0) hC.x hC.b dX4_image_1 (by decide) ?_
  refine lv_iconst (v := 1) hC.x hC.b dX4_image_2 (by decide) ?_
  refine hc_goP hC hW (hc_rS hC (c_X4_in l D cy cz t1 t2 x1 0 1 _ hq) (hc_preP hC hW) q_120 q_121 q_5 q_122 hd_X4_in ⟨rfl, rfl⟩ ⟨Nat.le_of_ble_eq_true rfl, Nat.le_of_ble_eq_true rfl⟩ rfl hl.1 rfl (Nat.le_of_ble_eq_true rfl) dX4_image_3 ⟨Nat.zero_le _, Nat.zero_le _⟩) (fun r3 H locs hq hW => ?_)
  try dsimp only at hq
  refine lv_if_ne (tgt := 12) hC.x hC.b dX4_image_6 (by decide) (fun hc9 => ?_) (fun hc9 => ?_)
  · replace hq := hq.1 hc9
    refine lv_iconst (v := 0) hC.x hC.b dX4_image_12 (by decide) ?_
    refine lv_istore_n (lv' := [(2, .int 0), (0, .ref hm), (1, .int x1)]) hC.x hC.b dX4_image_13 rfl hl (by decide) rfl (fun ls hl => ?_)
    obtain ⟨n9, hq⟩ := hq
    exact lpf_use (G := (fun (u : Int32 × Int32 × Wd) => ∀ (H : Heap) (locs : List Loc) (ls : Array Slot), Wo D A s (cM cy cz hm am u.2.2) H locs → lv_has ls 3 [(0, .ref hm), (1, .int u.1), (2, .int u.2.1)] → W p l e (rM 1 22) s m _ below meth c H locs 0 0 (MQ below (QI D (S := Wd) (fun r u => Q r u) (fun u => (cM cy cz hm am u)) A) _ s 0 0 A) (F0 m 14 ls []))) (fun K hK u hq H locs ls hW hl => B_X4_image_14 hm am Q  K hK hC u.1 u.2.1 u.2.2 hq hW hl) n9 _ hq _ _ _ hW (lv_sub hl [1, 2, 0] rfl)
  · replace hq := hq.2 hc9
    refine lv_bipush (v := (-2)) hC.x hC.b dX4_image_9 (by decide) ?_
    exact hc_iret hC (wm) hW hq dX4_image_11
def k_X4_restore_26 (K26 : (Int32 × Int32 × Wd) → Prop) (Q : Int32 → Wd → Prop) (x1 : Int32) (x2 : Int32) (wm : Wd) : Prop :=
 (((20 : Int32) ≤ x2 → (Q 1 wm)) ∧
 (¬ (20 : Int32) ≤ x2 → (vp_in ((20 * x1) + x2) 40 ∧ (vp_in x2 20 ∧ (K26 (x1, (x2 + 1), (up2 wm 0 (x2).toNatClampNeg (wm 1 (((20 * x1) + x2)).toNatClampNeg))))))))
set_option maxHeartbeats 4000000 in
set_option maxRecDepth 100000 in
theorem B_X4_restore_26 {l : Launch} {p : Program} {e : Env} {s : State} {m : MethodId} {args : Array Value} {below : List Frame} {meth : Method} {c : Code} {A : Nat → Prop} {D : va_G} {cy cz : ClassId} {t1 t2 : Nat} (hm : Nat) (am : Nat → Nat) (Q : Int32 → Wd → Prop) (K26 : (Int32 × Int32 × Wd) → Prop) (hK26 : ∀ b9 : Int32 × Int32 × Wd, K26 b9 → ∀ (H : Heap) (locs : List Loc) (ls : Array Slot), Wo D A s (cM cy cz hm am b9.2.2) H locs → lv_has ls 3 [(0, .ref hm), (1, .int b9.1), (2, .int b9.2.1)] → W p l e (rM 1 22) s m args below meth c H locs 0 0 (MQ below (QI D (S := Wd) (fun r u => Q r u) (fun u => (cM cy cz hm am u)) A) args s 0 0 A) (F0 m 26 ls [])) (hC : Cx D cy cz t1 t2 p s m args meth c cX4_restore 3 (some .int) RX4 A) (x1 : Int32) (x2 : Int32) (wm : Wd) {H : Heap} {locs : List Loc} {ls : Array Slot} (hq : k_X4_restore_26 K26 Q x1 x2 wm) (hW : Wo D A s (cM cy cz hm am wm) H locs) (hl : lv_has ls 3 [(0, .ref hm), (1, .int x1), (2, .int x2)]) : W p l e (rM 1 22) s m args below meth c H locs 0 0 (MQ below (QI D (S := Wd) (fun r u => Q r u) (fun u => (cM cy cz hm am u)) A) args s 0 0 A) (F0 m 26 ls []) := by
  unfold k_X4_restore_26 at hq
  refine lv_iload_n hC.x hC.b dX4_restore_26 rfl (lv_at hl 2 rfl) ?_
  refine lv_bipush (v := 20) hC.x hC.b dX4_restore_27 (by decide) ?_
  refine lv_icmp_ge (tgt := 55) hC.x hC.b dX4_restore_29 (by decide) (fun hc9 => ?_) (fun hc9 => ?_)
  · replace hq := hq.1 hc9
    refine lv_iconst (v := 1) hC.x hC.b dX4_restore_55 (by decide) ?_
    exact hc_iret hC (wm) hW hq dX4_restore_56
  · replace hq := hq.2 hc9
    refine lv_aload_n hC.x hC.b dX4_restore_32 rfl (lv_at hl 0 rfl) ?_
    refine hc_get (v := .ref (am 0)) hC hW 0 4 0 inX4 rfl rfl (by decide) q_91 rfl dX4_restore_33 ?_
    refine lv_iload_n hC.x hC.b dX4_restore_36 rfl (lv_at hl 2 rfl) ?_
    refine lv_aload_n hC.x hC.b dX4_restore_37 rfl (lv_at hl 0 rfl) ?_
    refine hc_get (v := .ref (am 1)) hC hW 0 4 1 inX4 rfl rfl (by decide) q_92 rfl dX4_restore_38 ?_
    refine lv_bipush (v := 20) hC.x hC.b dX4_restore_41 (by decide) ?_
    refine lv_iload_n hC.x hC.b dX4_restore_43 rfl (lv_at hl 1 rfl) ?_
    refine lv_imul hC.x hC.b dX4_restore_44 ?_
    refine lv_iload_n hC.x hC.b dX4_restore_45 rfl (lv_at hl 2 rfl) ?_
    refine lv_iadd hC.x hC.b dX4_restore_46 ?_
    refine hc_iald hC hW 2 rfl hq.1 dX4_restore_47 ?_
    replace hq := hq.2
    refine hc_iast (ws' := (cM cy cz hm am (up2 wm 0 (x2).toNatClampNeg (wm 1 (((20 * x1) + x2)).toNatClampNeg)))) hC hW 1 rfl hq.1 (cM_set_0 ..) dX4_restore_48 (fun H locs hW => ?_)
    replace hq := hq.2
    refine lv_iinc (v := (x2 + 1)) (lv' := [(2, .int (x2 + 1)), (0, .ref hm), (1, .int x1)]) hC.x hC.b dX4_restore_49 hl (k := 2) rfl rfl (by decide) rfl (fun ls hl => ?_)
    refine lv_goto (tgt := 26) hC.x hC.b dX4_restore_52 (by decide) ?_
    exact hK26 (x1, (x2 + 1), (up2 wm 0 (x2).toNatClampNeg (wm 1 (((20 * x1) + x2)).toNatClampNeg))) hq _ _ _ hW (lv_sub hl [1, 2, 0] rfl)
def k_X4_restore (x1 : Int32) (wm : Wd) (Q : Int32 → Wd → Prop) : Prop :=
 (k_X4_in x1 0 1 (fun r3 => ((¬ r3 = 0 → (vp_in x1 2 ∧ ((¬ (wm 2 (x1).toNatClampNeg) = 0 → (∃ n : Nat, lpf (fun (K : (Int32 × Int32 × Wd) → Prop) (u : Int32 × Int32 × Wd) => k_X4_restore_26  K Q u.1 u.2.1 u.2.2) n (x1, 0, wm))) ∧
 ((wm 2 (x1).toNatClampNeg) = 0 → (Q (-3) wm))))) ∧
 (r3 = 0 → (Q (-2) wm)))))
set_option maxHeartbeats 4000000 in
set_option maxRecDepth 100000 in
theorem c_X4_restore (l : Launch) (D : va_G) (cy cz : ClassId) (t1 t2 : Nat) (hm : Nat) (am : Nat → Nat) (x1 : Int32) (wm : Wd) (Q : Int32 → Wd → Prop) (hq : k_X4_restore x1 wm Q) : Ct l D cy cz t1 t2 yX4_restore cX4_restore 3 (some .int) (rM 1 22) [.ref hm, .int x1] (cM cy cz hm am wm) (QI D (S := Wd) (fun r u => Q r u) (fun u => (cM cy cz hm am u))) := by
  refine Ct.of (own := RX4) (by decide) rfl (Nat.le_of_ble_eq_true rfl) ?_
  intro p e s m below meth c A ls hC hW hl
  unfold k_X4_restore at hq
  have hl : lv_has ls 3 [(0, .ref hm), (1, .int x1)] := hl
  refine lv_iload_n hC.x hC.b dX4_restore_0 rfl (lv_at hl 1 rfl) ?_
  refine lv_iconst (v := 0) hC.x hC.b dX4_restore_1 (by decide) ?_
  refine lv_iconst (v := 1) hC.x hC.b dX4_restore_2 (by decide) ?_
  refine hc_goP hC hW (hc_rS hC (c_X4_in l D cy cz t1 t2 x1 0 1 _ hq) (hc_preP hC hW) q_120 q_121 q_5 q_122 hd_X4_in ⟨rfl, rfl⟩ ⟨Nat.le_of_ble_eq_true rfl, Nat.le_of_ble_eq_true rfl⟩ rfl hl.1 rfl (Nat.le_of_ble_eq_true rfl) dX4_restore_3 ⟨Nat.zero_le _, Nat.zero_le _⟩) (fun r3 H locs hq hW => ?_)
  try dsimp only at hq
  refine lv_if_ne (tgt := 12) hC.x hC.b dX4_restore_6 (by decide) (fun hc9 => ?_) (fun hc9 => ?_)
  · replace hq := hq.1 hc9
    refine lv_aload_n hC.x hC.b dX4_restore_12 rfl (lv_at hl 0 rfl) ?_
    refine hc_get (v := .ref (am 2)) hC hW 0 4 2 inX4 rfl rfl (by decide) q_94 rfl dX4_restore_13 ?_
    refine lv_iload_n hC.x hC.b dX4_restore_16 rfl (lv_at hl 1 rfl) ?_
    refine hc_zald hC hW 3 rfl hq.1 dX4_restore_17 ?_
    replace hq := hq.2
    refine lv_if_ne (tgt := 24) hC.x hC.b dX4_restore_18 (by decide) (fun hc9 => ?_) (fun hc9 => ?_)
    · replace hq := hq.1 hc9
      refine lv_iconst (v := 0) hC.x hC.b dX4_restore_24 (by decide) ?_
      refine lv_istore_n (lv' := [(2, .int 0), (0, .ref hm), (1, .int x1)]) hC.x hC.b dX4_restore_25 rfl hl (by decide) rfl (fun ls hl => ?_)
      obtain ⟨n9, hq⟩ := hq
      exact lpf_use (G := (fun (u : Int32 × Int32 × Wd) => ∀ (H : Heap) (locs : List Loc) (ls : Array Slot), Wo D A s (cM cy cz hm am u.2.2) H locs → lv_has ls 3 [(0, .ref hm), (1, .int u.1), (2, .int u.2.1)] → W p l e (rM 1 22) s m _ below meth c H locs 0 0 (MQ below (QI D (S := Wd) (fun r u => Q r u) (fun u => (cM cy cz hm am u)) A) _ s 0 0 A) (F0 m 26 ls []))) (fun K hK u hq H locs ls hW hl => B_X4_restore_26 hm am Q  K hK hC u.1 u.2.1 u.2.2 hq hW hl) n9 _ hq _ _ _ hW (lv_sub hl [1, 2, 0] rfl)
    · replace hq := hq.2 hc9
      refine lv_bipush (v := (-3)) hC.x hC.b dX4_restore_21 (by decide) ?_
      exact hc_iret hC (wm) hW hq dX4_restore_23
  · replace hq := hq.2 hc9
    refine lv_bipush (v := (-2)) hC.x hC.b dX4_restore_9 (by decide) ?_
    exact hc_iret hC (wm) hW hq dX4_restore_11
def k_X4_sizes_4 (K4 : (Int32 × Int32 × Wd) → Prop) (Q : Int32 → Wd → Prop) (x1 : Int32) (x2 : Int32) (wm : Wd) : Prop :=
 (vp_in 1 20 ∧ (((wm 0 ((1 : Int32)).toNatClampNeg) ≤ x2 → (Q x1 wm)) ∧
 (¬ (wm 0 ((1 : Int32)).toNatClampNeg) ≤ x2 → (vp_in ((2 + (3 * x2)) + 1) 20 ∧ (vp_in ((2 + (3 * x2)) + 2) 20 ∧ (K4 ((x1 + ((wm 0 (((2 + (3 * x2)) + 1)).toNatClampNeg) * (wm 0 (((2 + (3 * x2)) + 2)).toNatClampNeg))), (x2 + 1), wm)))))))
set_option maxHeartbeats 4000000 in
set_option maxRecDepth 100000 in
theorem B_X4_sizes_4 {l : Launch} {p : Program} {e : Env} {s : State} {m : MethodId} {args : Array Value} {below : List Frame} {meth : Method} {c : Code} {A : Nat → Prop} {D : va_G} {cy cz : ClassId} {t1 t2 : Nat} (hm : Nat) (am : Nat → Nat) (Q : Int32 → Wd → Prop) (K4 : (Int32 × Int32 × Wd) → Prop) (hK4 : ∀ b9 : Int32 × Int32 × Wd, K4 b9 → ∀ (H : Heap) (locs : List Loc) (ls : Array Slot), Wo D A s (cM cy cz hm am b9.2.2) H locs → lv_has ls 3 [(0, .ref hm), (1, .int b9.1), (2, .int b9.2.1)] → W p l e (rM 0 0) s m args below meth c H locs 0 0 (MQ below (QI D (S := Wd) (fun r u => Q r u) (fun u => (cM cy cz hm am u)) A) args s 0 0 A) (F0 m 4 ls [])) (hC : Cx D cy cz t1 t2 p s m args meth c cX4_sizes 3 (some .int) RX4 A) (x1 : Int32) (x2 : Int32) (wm : Wd) {H : Heap} {locs : List Loc} {ls : Array Slot} (hq : k_X4_sizes_4 K4 Q x1 x2 wm) (hW : Wo D A s (cM cy cz hm am wm) H locs) (hl : lv_has ls 3 [(0, .ref hm), (1, .int x1), (2, .int x2)]) : W p l e (rM 0 0) s m args below meth c H locs 0 0 (MQ below (QI D (S := Wd) (fun r u => Q r u) (fun u => (cM cy cz hm am u)) A) args s 0 0 A) (F0 m 4 ls []) := by
  unfold k_X4_sizes_4 at hq
  refine lv_iload_n hC.x hC.b dX4_sizes_4 rfl (lv_at hl 2 rfl) ?_
  refine lv_aload_n hC.x hC.b dX4_sizes_5 rfl (lv_at hl 0 rfl) ?_
  refine hc_get (v := .ref (am 0)) hC hW 0 4 0 inX4 rfl rfl (by decide) q_91 rfl dX4_sizes_6 ?_
  refine lv_iconst (v := 1) hC.x hC.b dX4_sizes_9 (by decide) ?_
  refine hc_iald hC hW 1 rfl hq.1 dX4_sizes_10 ?_
  replace hq := hq.2
  refine lv_icmp_ge (tgt := 48) hC.x hC.b dX4_sizes_11 (by decide) (fun hc9 => ?_) (fun hc9 => ?_)
  · replace hq := hq.1 hc9
    refine lv_iload_n hC.x hC.b dX4_sizes_48 rfl (lv_at hl 1 rfl) ?_
    exact hc_iret hC (wm) hW hq dX4_sizes_49
  · replace hq := hq.2 hc9
    refine lv_iload_n hC.x hC.b dX4_sizes_14 rfl (lv_at hl 1 rfl) ?_
    refine lv_aload_n hC.x hC.b dX4_sizes_15 rfl (lv_at hl 0 rfl) ?_
    refine hc_get (v := .ref (am 0)) hC hW 0 4 0 inX4 rfl rfl (by decide) q_91 rfl dX4_sizes_16 ?_
    refine lv_iconst (v := 2) hC.x hC.b dX4_sizes_19 (by decide) ?_
    refine lv_iconst (v := 3) hC.x hC.b dX4_sizes_20 (by decide) ?_
    refine lv_iload_n hC.x hC.b dX4_sizes_21 rfl (lv_at hl 2 rfl) ?_
    refine lv_imul hC.x hC.b dX4_sizes_22 ?_
    refine lv_iadd hC.x hC.b dX4_sizes_23 ?_
    refine lv_iconst (v := 1) hC.x hC.b dX4_sizes_24 (by decide) ?_
    refine lv_iadd hC.x hC.b dX4_sizes_25 ?_
    refine hc_iald hC hW 1 rfl hq.1 dX4_sizes_26 ?_
    replace hq := hq.2
    refine lv_aload_n hC.x hC.b dX4_sizes_27 rfl (lv_at hl 0 rfl) ?_
    refine hc_get (v := .ref (am 0)) hC hW 0 4 0 inX4 rfl rfl (by decide) q_91 rfl dX4_sizes_28 ?_
    refine lv_iconst (v := 2) hC.x hC.b dX4_sizes_31 (by decide) ?_
    refine lv_iconst (v := 3) hC.x hC.b dX4_sizes_32 (by decide) ?_
    refine lv_iload_n hC.x hC.b dX4_sizes_33 rfl (lv_at hl 2 rfl) ?_
    refine lv_imul hC.x hC.b dX4_sizes_34 ?_
    refine lv_iadd hC.x hC.b dX4_sizes_35 ?_
    refine lv_iconst (v := 2) hC.x hC.b dX4_sizes_36 (by decide) ?_
    refine lv_iadd hC.x hC.b dX4_sizes_37 ?_
    refine hc_iald hC hW 1 rfl hq.1 dX4_sizes_38 ?_
    replace hq := hq.2
    refine lv_imul hC.x hC.b dX4_sizes_39 ?_
    refine lv_iadd hC.x hC.b dX4_sizes_40 ?_
    refine lv_istore_n (lv' := [(1, .int (x1 + ((wm 0 (((2 + (3 * x2)) + 1)).toNatClampNeg) * (wm 0 (((2 + (3 * x2)) + 2)).toNatClampNeg)))), (0, .ref hm), (2, .int x2)]) hC.x hC.b dX4_sizes_41 rfl hl (by decide) rfl (fun ls hl => ?_)
    refine lv_iinc (v := (x2 + 1)) (lv' := [(2, .int (x2 + 1)), (1, .int (x1 + ((wm 0 (((2 + (3 * x2)) + 1)).toNatClampNeg) * (wm 0 (((2 + (3 * x2)) + 2)).toNatClampNeg)))), (0, .ref hm)]) hC.x hC.b dX4_sizes_42 hl (k := 2) rfl rfl (by decide) rfl (fun ls hl => ?_)
    refine lv_goto (tgt := 4) hC.x hC.b dX4_sizes_45 (by decide) ?_
    exact hK4 ((x1 + ((wm 0 (((2 + (3 * x2)) + 1)).toNatClampNeg) * (wm 0 (((2 + (3 * x2)) + 2)).toNatClampNeg))), (x2 + 1), wm) hq _ _ _ hW (lv_sub hl [2, 1, 0] rfl)
def k_X4_sizes  (wm : Wd) (Q : Int32 → Wd → Prop) : Prop :=
 (∃ n : Nat, lpf (fun (K : (Int32 × Int32 × Wd) → Prop) (u : Int32 × Int32 × Wd) => k_X4_sizes_4  K Q u.1 u.2.1 u.2.2) n (0, 0, wm))
set_option maxHeartbeats 4000000 in
set_option maxRecDepth 100000 in
theorem c_X4_sizes (l : Launch) (D : va_G) (cy cz : ClassId) (t1 t2 : Nat) (hm : Nat) (am : Nat → Nat)  (wm : Wd) (Q : Int32 → Wd → Prop) (hq : k_X4_sizes wm Q) : Ct l D cy cz t1 t2 yX4_sizes cX4_sizes 3 (some .int) (rM 0 0) [.ref hm] (cM cy cz hm am wm) (QI D (S := Wd) (fun r u => Q r u) (fun u => (cM cy cz hm am u))) := by
  refine Ct.of (own := RX4) (by decide) rfl (Nat.le_of_ble_eq_true rfl) ?_
  intro p e s m below meth c A ls hC hW hl
  unfold k_X4_sizes at hq
  have hl : lv_has ls 3 [(0, .ref hm)] := hl
  refine lv_iconst (v := 0) hC.x hC.b dX4_sizes_0 (by decide) ?_
  refine lv_istore_n (lv' := [(1, .int 0), (0, .ref hm)]) hC.x hC.b dX4_sizes_1 rfl hl (by decide) rfl (fun ls hl => ?_)
  refine lv_iconst (v := 0) hC.x hC.b dX4_sizes_2 (by decide) ?_
  refine lv_istore_n (lv' := [(2, .int 0), (1, .int 0), (0, .ref hm)]) hC.x hC.b dX4_sizes_3 rfl hl (by decide) rfl (fun ls hl => ?_)
  obtain ⟨n9, hq⟩ := hq
  exact lpf_use (G := (fun (u : Int32 × Int32 × Wd) => ∀ (H : Heap) (locs : List Loc) (ls : Array Slot), Wo D A s (cM cy cz hm am u.2.2) H locs → lv_has ls 3 [(0, .ref hm), (1, .int u.1), (2, .int u.2.1)] → W p l e (rM 0 0) s m _ below meth c H locs 0 0 (MQ below (QI D (S := Wd) (fun r u => Q r u) (fun u => (cM cy cz hm am u)) A) _ s 0 0 A) (F0 m 4 ls []))) (fun K hK u hq H locs ls hW hl => B_X4_sizes_4 hm am Q  K hK hC u.1 u.2.1 u.2.2 hq hW hl) n9 _ hq _ _ _ hW (lv_sub hl [2, 1, 0] rfl)
def k_X4_places_26 (K4 : (Int32 × Int32 × Wd) → Prop) (Q : Int32 → Wd → Prop) (x2 : Int32) (y0 : Int32) (y1 : Int32) (wm : Wd) : Prop :=
 (K4 ((y1 + y0), (x2 + 1), wm))
set_option maxHeartbeats 4000000 in
set_option maxRecDepth 100000 in
theorem B_X4_places_26 {l : Launch} {p : Program} {e : Env} {s : State} {m : MethodId} {args : Array Value} {below : List Frame} {meth : Method} {c : Code} {A : Nat → Prop} {D : va_G} {cy cz : ClassId} {t1 t2 : Nat} (hm : Nat) (am : Nat → Nat) (Q : Int32 → Wd → Prop) (K4 : (Int32 × Int32 × Wd) → Prop) (hK4 : ∀ b9 : Int32 × Int32 × Wd, K4 b9 → ∀ (H : Heap) (locs : List Loc) (ls : Array Slot), Wo D A s (cM cy cz hm am b9.2.2) H locs → lv_has ls 3 [(0, .ref hm), (1, .int b9.1), (2, .int b9.2.1)] → W p l e (rM 0 0) s m args below meth c H locs 0 0 (MQ below (QI D (S := Wd) (fun r u => Q r u) (fun u => (cM cy cz hm am u)) A) args s 0 0 A) (F0 m 4 ls [])) (hC : Cx D cy cz t1 t2 p s m args meth c cX4_places 3 (some .int) RX4 A) (x2 : Int32) (y0 : Int32) (y1 : Int32) (wm : Wd) {H : Heap} {locs : List Loc} {ls : Array Slot} (hq : k_X4_places_26 K4 Q x2 y0 y1 wm) (hW : Wo D A s (cM cy cz hm am wm) H locs) (hl : lv_has ls 3 [(0, .ref hm), (2, .int x2)]) : W p l e (rM 0 0) s m args below meth c H locs 0 0 (MQ below (QI D (S := Wd) (fun r u => Q r u) (fun u => (cM cy cz hm am u)) A) args s 0 0 A) (F0 m 26 ls [.int y0, .int y1]) := by
  unfold k_X4_places_26 at hq
  refine lv_iadd hC.x hC.b dX4_places_26 ?_
  refine lv_istore_n (lv' := [(1, .int (y1 + y0)), (0, .ref hm), (2, .int x2)]) hC.x hC.b dX4_places_27 rfl hl (by decide) rfl (fun ls hl => ?_)
  refine lv_iinc (v := (x2 + 1)) (lv' := [(2, .int (x2 + 1)), (1, .int (y1 + y0)), (0, .ref hm)]) hC.x hC.b dX4_places_28 hl (k := 2) rfl rfl (by decide) rfl (fun ls hl => ?_)
  refine lv_goto (tgt := 4) hC.x hC.b dX4_places_31 (by decide) ?_
  exact hK4 ((y1 + y0), (x2 + 1), wm) hq _ _ _ hW (lv_sub hl [2, 1, 0] rfl)
def k_X4_places_4 (K4 : (Int32 × Int32 × Wd) → Prop) (Q : Int32 → Wd → Prop) (x1 : Int32) (x2 : Int32) (wm : Wd) : Prop :=
 (((169 : Int32) ≤ x2 → (Q x1 wm)) ∧
 (¬ (169 : Int32) ≤ x2 → (vp_in x2 169 ∧ (((wm 15 (x2).toNatClampNeg) ≤ 0 → (k_X4_places_26 K4 Q x2 0 x1 wm)) ∧
 (¬ (wm 15 (x2).toNatClampNeg) ≤ 0 → (k_X4_places_26 K4 Q x2 1 x1 wm))))))
set_option maxHeartbeats 4000000 in
set_option maxRecDepth 100000 in
theorem B_X4_places_4 {l : Launch} {p : Program} {e : Env} {s : State} {m : MethodId} {args : Array Value} {below : List Frame} {meth : Method} {c : Code} {A : Nat → Prop} {D : va_G} {cy cz : ClassId} {t1 t2 : Nat} (hm : Nat) (am : Nat → Nat) (Q : Int32 → Wd → Prop) (K4 : (Int32 × Int32 × Wd) → Prop) (hK4 : ∀ b9 : Int32 × Int32 × Wd, K4 b9 → ∀ (H : Heap) (locs : List Loc) (ls : Array Slot), Wo D A s (cM cy cz hm am b9.2.2) H locs → lv_has ls 3 [(0, .ref hm), (1, .int b9.1), (2, .int b9.2.1)] → W p l e (rM 0 0) s m args below meth c H locs 0 0 (MQ below (QI D (S := Wd) (fun r u => Q r u) (fun u => (cM cy cz hm am u)) A) args s 0 0 A) (F0 m 4 ls [])) (hC : Cx D cy cz t1 t2 p s m args meth c cX4_places 3 (some .int) RX4 A) (x1 : Int32) (x2 : Int32) (wm : Wd) {H : Heap} {locs : List Loc} {ls : Array Slot} (hq : k_X4_places_4 K4 Q x1 x2 wm) (hW : Wo D A s (cM cy cz hm am wm) H locs) (hl : lv_has ls 3 [(0, .ref hm), (1, .int x1), (2, .int x2)]) : W p l e (rM 0 0) s m args below meth c H locs 0 0 (MQ below (QI D (S := Wd) (fun r u => Q r u) (fun u => (cM cy cz hm am u)) A) args s 0 0 A) (F0 m 4 ls []) := by
  unfold k_X4_places_4 at hq
  refine lv_iload_n hC.x hC.b dX4_places_4 rfl (lv_at hl 2 rfl) ?_
  refine lv_sipush (v := 169) hC.x hC.b dX4_places_5 (by decide) ?_
  refine lv_icmp_ge (tgt := 34) hC.x hC.b dX4_places_8 (by decide) (fun hc9 => ?_) (fun hc9 => ?_)
  · replace hq := hq.1 hc9
    refine lv_iload_n hC.x hC.b dX4_places_34 rfl (lv_at hl 1 rfl) ?_
    exact hc_iret hC (wm) hW hq dX4_places_35
  · replace hq := hq.2 hc9
    refine lv_iload_n hC.x hC.b dX4_places_11 rfl (lv_at hl 1 rfl) ?_
    refine lv_aload_n hC.x hC.b dX4_places_12 rfl (lv_at hl 0 rfl) ?_
    refine hc_get (v := .ref (am 15)) hC hW 0 4 15 inX4 rfl rfl (by decide) q_105 rfl dX4_places_13 ?_
    refine lv_iload_n hC.x hC.b dX4_places_16 rfl (lv_at hl 2 rfl) ?_
    refine hc_iald hC hW 14 rfl hq.1 dX4_places_17 ?_
    replace hq := hq.2
    refine lv_if_le (tgt := 25) hC.x hC.b dX4_places_18 (by decide) (fun hc9 => ?_) (fun hc9 => ?_)
    · replace hq := hq.1 hc9
      refine lv_iconst (v := 0) hC.x hC.b dX4_places_25 (by decide) ?_
      exact B_X4_places_26 hm am Q K4 hK4 hC x2 0 x1 wm hq hW (lv_sub hl [0, 2] rfl)
    · replace hq := hq.2 hc9
      refine lv_iconst (v := 1) hC.x hC.b dX4_places_21 (by decide) ?_
      refine lv_goto (tgt := 26) hC.x hC.b dX4_places_22 (by decide) ?_
      exact B_X4_places_26 hm am Q K4 hK4 hC x2 1 x1 wm hq hW (lv_sub hl [0, 2] rfl)
def k_X4_places  (wm : Wd) (Q : Int32 → Wd → Prop) : Prop :=
 (∃ n : Nat, lpf (fun (K : (Int32 × Int32 × Wd) → Prop) (u : Int32 × Int32 × Wd) => k_X4_places_4  K Q u.1 u.2.1 u.2.2) n (0, 0, wm))
set_option maxHeartbeats 4000000 in
set_option maxRecDepth 100000 in
theorem c_X4_places (l : Launch) (D : va_G) (cy cz : ClassId) (t1 t2 : Nat) (hm : Nat) (am : Nat → Nat)  (wm : Wd) (Q : Int32 → Wd → Prop) (hq : k_X4_places wm Q) : Ct l D cy cz t1 t2 yX4_places cX4_places 3 (some .int) (rM 0 0) [.ref hm] (cM cy cz hm am wm) (QI D (S := Wd) (fun r u => Q r u) (fun u => (cM cy cz hm am u))) := by
  refine Ct.of (own := RX4) (by decide) rfl (Nat.le_of_ble_eq_true rfl) ?_
  intro p e s m below meth c A ls hC hW hl
  unfold k_X4_places at hq
  have hl : lv_has ls 3 [(0, .ref hm)] := hl
  refine lv_iconst (v := 0) hC.x hC.b dX4_places_0 (by decide) ?_
  refine lv_istore_n (lv' := [(1, .int 0), (0, .ref hm)]) hC.x hC.b dX4_places_1 rfl hl (by decide) rfl (fun ls hl => ?_)
  refine lv_iconst (v := 0) hC.x hC.b dX4_places_2 (by decide) ?_
  refine lv_istore_n (lv' := [(2, .int 0), (1, .int 0), (0, .ref hm)]) hC.x hC.b dX4_places_3 rfl hl (by decide) rfl (fun ls hl => ?_)
  obtain ⟨n9, hq⟩ := hq
  exact lpf_use (G := (fun (u : Int32 × Int32 × Wd) => ∀ (H : Heap) (locs : List Loc) (ls : Array Slot), Wo D A s (cM cy cz hm am u.2.2) H locs → lv_has ls 3 [(0, .ref hm), (1, .int u.1), (2, .int u.2.1)] → W p l e (rM 0 0) s m _ below meth c H locs 0 0 (MQ below (QI D (S := Wd) (fun r u => Q r u) (fun u => (cM cy cz hm am u)) A) _ s 0 0 A) (F0 m 4 ls []))) (fun K hK u hq H locs ls hW hl => B_X4_places_4 hm am Q  K hK hC u.1 u.2.1 u.2.2 hq hW hl) n9 _ hq _ _ _ hW (lv_sub hl [2, 1, 0] rfl)
def k_X4_count_96  (Q : Int32 → Wd → Prop) (y0 : Int32) (wm : Wd) : Prop :=
 (vp_in 1 2 ∧ (((wm 2 ((1 : Int32)).toNatClampNeg) = 0 → (Q (y0 + 0) wm)) ∧
 (¬ (wm 2 ((1 : Int32)).toNatClampNeg) = 0 → (Q (y0 + 2) wm))))
set_option maxHeartbeats 4000000 in
set_option maxRecDepth 100000 in
theorem B_X4_count_96 {l : Launch} {p : Program} {e : Env} {s : State} {m : MethodId} {args : Array Value} {below : List Frame} {meth : Method} {c : Code} {A : Nat → Prop} {D : va_G} {cy cz : ClassId} {t1 t2 : Nat} (hm : Nat) (am : Nat → Nat) (Q : Int32 → Wd → Prop)  (hC : Cx D cy cz t1 t2 p s m args meth c cX4_count 2 (some .int) RX4 A) (y0 : Int32) (wm : Wd) {H : Heap} {locs : List Loc} {ls : Array Slot} (hq : k_X4_count_96  Q y0 wm) (hW : Wo D A s (cM cy cz hm am wm) H locs) (hl : lv_has ls 2 [(0, .ref hm)]) : W p l e (rM 5 119) s m args below meth c H locs 0 0 (MQ below (QI D (S := Wd) (fun r u => Q r u) (fun u => (cM cy cz hm am u)) A) args s 0 0 A) (F0 m 96 ls [.int y0]) := by
  unfold k_X4_count_96 at hq
  refine lv_aload_n hC.x hC.b dX4_count_96 rfl (lv_at hl 0 rfl) ?_
  refine hc_get (v := .ref (am 2)) hC hW 0 4 2 inX4 rfl rfl (by decide) q_94 rfl dX4_count_97 ?_
  refine lv_iconst (v := 1) hC.x hC.b dX4_count_100 (by decide) ?_
  refine hc_zald hC hW 3 rfl hq.1 dX4_count_101 ?_
  replace hq := hq.2
  refine lv_if_eq (tgt := 109) hC.x hC.b dX4_count_102 (by decide) (fun hc9 => ?_) (fun hc9 => ?_)
  · replace hq := hq.1 hc9
    refine lv_iconst (v := 0) hC.x hC.b dX4_count_109 (by decide) ?_
    refine lv_iadd hC.x hC.b dX4_count_110 ?_
    exact hc_iret hC (wm) hW hq dX4_count_111
  · replace hq := hq.2 hc9
    refine lv_iconst (v := 2) hC.x hC.b dX4_count_105 (by decide) ?_
    refine lv_goto (tgt := 110) hC.x hC.b dX4_count_106 (by decide) ?_
    refine lv_iadd hC.x hC.b dX4_count_110 ?_
    exact hc_iret hC (wm) hW hq dX4_count_111
def k_X4_count (x1 : Int32) (wm : Wd) (Q : Int32 → Wd → Prop) : Prop :=
 (k_X4_lay wm (fun wm1 => ((x1 = 0 → (vp_in 1 20 ∧ (Q (wm1 0 ((1 : Int32)).toNatClampNeg) wm1))) ∧
 (x1 = 1 → (Q (wm1 7 0) wm1)) ∧
 (x1 = 2 → (Q (wm1 12 0) wm1)) ∧
 (x1 = 3 → (vp_in 0 20 ∧ (Q (wm1 0 ((0 : Int32)).toNatClampNeg) wm1))) ∧
 (x1 = 4 → (k_X4_sizes wm1 (fun r73 wm73 => (Q r73 wm73)))) ∧
 (x1 = 5 → (k_X4_places wm1 (fun r78 wm78 => (Q r78 wm78)))) ∧
 (x1 = 6 → (vp_in 0 2 ∧ (((wm1 2 ((0 : Int32)).toNatClampNeg) = 0 → (k_X4_count_96  Q 0 wm1)) ∧
 (¬ (wm1 2 ((0 : Int32)).toNatClampNeg) = 0 → (k_X4_count_96  Q 1 wm1))))) ∧
 ((¬ x1 = 0 ∧ ¬ x1 = 1 ∧ ¬ x1 = 2 ∧ ¬ x1 = 3 ∧ ¬ x1 = 4 ∧ ¬ x1 = 5 ∧ ¬ x1 = 6) → (Q (-2) wm1)))))
set_option maxHeartbeats 4000000 in
set_option maxRecDepth 100000 in
theorem c_X4_count (l : Launch) (D : va_G) (cy cz : ClassId) (t1 t2 : Nat) (hm : Nat) (am : Nat → Nat) (x1 : Int32) (wm : Wd) (Q : Int32 → Wd → Prop) (hq : k_X4_count x1 wm Q) : Ct l D cy cz t1 t2 yX4_count cX4_count 2 (some .int) (rM 5 119) [.ref hm, .int x1] (cM cy cz hm am wm) (QI D (S := Wd) (fun r u => Q r u) (fun u => (cM cy cz hm am u))) := by
  refine Ct.of (own := RX4) (by decide) rfl (Nat.le_of_ble_eq_true rfl) ?_
  intro p e s m below meth c A ls hC hW hl
  unfold k_X4_count at hq
  have hl : lv_has ls 2 [(0, .ref hm), (1, .int x1)] := hl
  refine lv_aload_n hC.x hC.b dX4_count_0 rfl (lv_at hl 0 rfl) ?_
  refine hc_goVW hC hW (hc_rV hC (c_X4_lay l D cy cz t1 t2 hm am wm _ hq) (hc_preW hC hW) hW 0 4 rfl rfl q_182 q_183 q_184 q_5 q_185 hd_X4_lay ⟨rfl, rfl⟩ ⟨Nat.le_of_ble_eq_true rfl, Nat.le_of_ble_eq_true rfl⟩ rfl hl.1 rfl (Nat.le_of_ble_eq_true rfl) dX4_count_1 ⟨Nat.zero_le _, Nat.zero_le _⟩) (fun u9 H locs hq hW => ?_)
  obtain ⟨wm1, rfl⟩ : ∃ z, z = u9 := ⟨_, rfl⟩
  try dsimp only at hq hW
  refine lv_iload_n hC.x hC.b dX4_count_4 rfl (lv_at hl 1 rfl) ?_
  by_cases hs0 : x1 = 0
  · refine lv_tableIn (tgt := 48) hC.x hC.b dX4_count_5 (by rw [hs0]; decide) (by rw [hs0]; decide) (by rw [hs0]; rfl) (by decide) ?_
    replace hq := hq.1 hs0
    refine lv_aload_n hC.x hC.b dX4_count_48 rfl (lv_at hl 0 rfl) ?_
    refine hc_get (v := .ref (am 0)) hC hW 0 4 0 inX4 rfl rfl (by decide) q_91 rfl dX4_count_49 ?_
    refine lv_iconst (v := 1) hC.x hC.b dX4_count_52 (by decide) ?_
    refine hc_iald hC hW 1 rfl hq.1 dX4_count_53 ?_
    replace hq := hq.2
    exact hc_iret hC (wm1) hW hq dX4_count_54
  by_cases hs1 : x1 = 1
  · refine lv_tableIn (tgt := 55) hC.x hC.b dX4_count_5 (by rw [hs1]; decide) (by rw [hs1]; decide) (by rw [hs1]; rfl) (by decide) ?_
    replace hq := hq.2.1 hs1
    refine lv_aload_n hC.x hC.b dX4_count_55 rfl (lv_at hl 0 rfl) ?_
    refine hc_get (v := .int (wm1 7 0)) hC hW 0 4 7 inX4 rfl rfl (by decide) q_181 rfl dX4_count_56 ?_
    exact hc_iret hC (wm1) hW hq dX4_count_59
  by_cases hs2 : x1 = 2
  · refine lv_tableIn (tgt := 60) hC.x hC.b dX4_count_5 (by rw [hs2]; decide) (by rw [hs2]; decide) (by rw [hs2]; rfl) (by decide) ?_
    replace hq := hq.2.2.1 hs2
    refine lv_aload_n hC.x hC.b dX4_count_60 rfl (lv_at hl 0 rfl) ?_
    refine hc_get (v := .int (wm1 12 0)) hC hW 0 4 12 inX4 rfl rfl (by decide) q_186 rfl dX4_count_61 ?_
    exact hc_iret hC (wm1) hW hq dX4_count_64
  by_cases hs3 : x1 = 3
  · refine lv_tableIn (tgt := 65) hC.x hC.b dX4_count_5 (by rw [hs3]; decide) (by rw [hs3]; decide) (by rw [hs3]; rfl) (by decide) ?_
    replace hq := hq.2.2.2.1 hs3
    refine lv_aload_n hC.x hC.b dX4_count_65 rfl (lv_at hl 0 rfl) ?_
    refine hc_get (v := .ref (am 0)) hC hW 0 4 0 inX4 rfl rfl (by decide) q_91 rfl dX4_count_66 ?_
    refine lv_iconst (v := 0) hC.x hC.b dX4_count_69 (by decide) ?_
    refine hc_iald hC hW 1 rfl hq.1 dX4_count_70 ?_
    replace hq := hq.2
    exact hc_iret hC (wm1) hW hq dX4_count_71
  by_cases hs4 : x1 = 4
  · refine lv_tableIn (tgt := 72) hC.x hC.b dX4_count_5 (by rw [hs4]; decide) (by rw [hs4]; decide) (by rw [hs4]; rfl) (by decide) ?_
    replace hq := hq.2.2.2.2.1 hs4
    refine lv_aload_n hC.x hC.b dX4_count_72 rfl (lv_at hl 0 rfl) ?_
    refine hc_goIW hC hW (hc_rV hC (c_X4_sizes l D cy cz t1 t2 hm am wm1 _ hq) (hc_preW hC hW) hW 0 4 rfl rfl q_570 q_571 q_572 q_5 q_573 hd_X4_sizes ⟨rfl, rfl⟩ ⟨Nat.le_of_ble_eq_true rfl, Nat.le_of_ble_eq_true rfl⟩ rfl hl.1 rfl (Nat.le_of_ble_eq_true rfl) dX4_count_73 ⟨Nat.zero_le _, Nat.zero_le _⟩) (fun r73 u9 H locs hq hW => ?_)
    obtain ⟨wm73, rfl⟩ : ∃ z, z = u9 := ⟨_, rfl⟩
    try dsimp only at hq hW
    exact hc_iret hC (wm73) hW hq dX4_count_76
  by_cases hs5 : x1 = 5
  · refine lv_tableIn (tgt := 77) hC.x hC.b dX4_count_5 (by rw [hs5]; decide) (by rw [hs5]; decide) (by rw [hs5]; rfl) (by decide) ?_
    replace hq := hq.2.2.2.2.2.1 hs5
    refine lv_aload_n hC.x hC.b dX4_count_77 rfl (lv_at hl 0 rfl) ?_
    refine hc_goIW hC hW (hc_rV hC (c_X4_places l D cy cz t1 t2 hm am wm1 _ hq) (hc_preW hC hW) hW 0 4 rfl rfl q_574 q_575 q_576 q_5 q_577 hd_X4_places ⟨rfl, rfl⟩ ⟨Nat.le_of_ble_eq_true rfl, Nat.le_of_ble_eq_true rfl⟩ rfl hl.1 rfl (Nat.le_of_ble_eq_true rfl) dX4_count_78 ⟨Nat.zero_le _, Nat.zero_le _⟩) (fun r78 u9 H locs hq hW => ?_)
    obtain ⟨wm78, rfl⟩ : ∃ z, z = u9 := ⟨_, rfl⟩
    try dsimp only at hq hW
    exact hc_iret hC (wm78) hW hq dX4_count_81
  by_cases hs6 : x1 = 6
  · refine lv_tableIn (tgt := 82) hC.x hC.b dX4_count_5 (by rw [hs6]; decide) (by rw [hs6]; decide) (by rw [hs6]; rfl) (by decide) ?_
    replace hq := hq.2.2.2.2.2.2.1 hs6
    refine lv_aload_n hC.x hC.b dX4_count_82 rfl (lv_at hl 0 rfl) ?_
    refine hc_get (v := .ref (am 2)) hC hW 0 4 2 inX4 rfl rfl (by decide) q_94 rfl dX4_count_83 ?_
    refine lv_iconst (v := 0) hC.x hC.b dX4_count_86 (by decide) ?_
    refine hc_zald hC hW 3 rfl hq.1 dX4_count_87 ?_
    replace hq := hq.2
    refine lv_if_eq (tgt := 95) hC.x hC.b dX4_count_88 (by decide) (fun hc9 => ?_) (fun hc9 => ?_)
    · replace hq := hq.1 hc9
      refine lv_iconst (v := 0) hC.x hC.b dX4_count_95 (by decide) ?_
      exact B_X4_count_96 hm am Q  hC 0 wm1 hq hW (lv_sub hl [0] rfl)
    · replace hq := hq.2 hc9
      refine lv_iconst (v := 1) hC.x hC.b dX4_count_91 (by decide) ?_
      refine lv_goto (tgt := 96) hC.x hC.b dX4_count_92 (by decide) ?_
      exact B_X4_count_96 hm am Q  hC 1 wm1 hq hW (lv_sub hl [0] rfl)
  refine lv_tableOut (tgt := 112) hC.x hC.b dX4_count_5 (by have e0 := lv_neT (a := 0) hs0 rfl; have e1 := lv_neT (a := 1) hs1 rfl; have e2 := lv_neT (a := 2) hs2 rfl; have e3 := lv_neT (a := 3) hs3 rfl; have e4 := lv_neT (a := 4) hs4 rfl; have e5 := lv_neT (a := 5) hs5 rfl; have e6 := lv_neT (a := 6) hs6 rfl; omega) (by decide) ?_
  replace hq := hq.2.2.2.2.2.2.2 ⟨hs0, hs1, hs2, hs3, hs4, hs5, hs6⟩
  refine lv_bipush (v := (-2)) hC.x hC.b dX4_count_112 (by decide) ?_
  exact hc_iret hC (wm1) hW hq dX4_count_114
