def k_X0_setFace (x1 : Int32) (x2 : Int32) (x3 : Int32) (x4 : Int32) (x5 : Int32) (wc : Wd) (Q : Wd → Prop) : Prop :=
 ((x1 < 0 → (Q wc)) ∧
 (¬ x1 < 0 → ((x1 < 14 → (vp_in x1 14 ∧ (vp_in x1 14 ∧ (vp_in x1 14 ∧ (vp_in x1 14 ∧ (Q (up2 (up2 (up2 (up2 wc 5 (x1).toNatClampNeg x2) 6 (x1).toNatClampNeg x3) 7 (x1).toNatClampNeg x4) 8 (x1).toNatClampNeg x5))))))) ∧
 (¬ x1 < 14 → (Q wc)))))
set_option maxHeartbeats 4000000 in
set_option maxRecDepth 100000 in
theorem c_X0_setFace (l : Launch) (D : va_G) (cy cz : ClassId) (t1 t2 : Nat) (hc : Nat) (ac : Nat → Nat) (x1 : Int32) (x2 : Int32) (x3 : Int32) (x4 : Int32) (x5 : Int32) (wc : Wd) (Q : Wd → Prop) (hq : k_X0_setFace x1 x2 x3 x4 x5 wc Q) : Ct l D cy cz t1 t2 yX0_setFace cX0_setFace 6 none (rM 0 0) [.ref hc, .int x1, .int x2, .int x3, .int x4, .int x5] (cC cy hc ac wc) (QV D (S := Wd) (fun u => Q u) (fun u => (cC cy hc ac u))) := by
  refine Ct.of (own := RX0) (by decide) rfl (Nat.le_of_ble_eq_true rfl) ?_
  intro p e s m below meth c A ls hC hW hl
  unfold k_X0_setFace at hq
  have hl : lv_has ls 6 [(0, .ref hc), (1, .int x1), (2, .int x2), (3, .int x3), (4, .int x4), (5, .int x5)] := hl
  refine lv_iload_n hC.x hC.b dX0_setFace_0 rfl (lv_at hl 1 rfl) ?_
  refine lv_if_lt (tgt := 10) hC.x hC.b dX0_setFace_1 (by decide) (fun hc9 => ?_) (fun hc9 => ?_)
  · replace hq := hq.1 hc9
    exact hc_vret hC (wc) hW hq dX0_setFace_10
  · replace hq := hq.2 hc9
    refine lv_iload_n hC.x hC.b dX0_setFace_4 rfl (lv_at hl 1 rfl) ?_
    refine lv_bipush (v := 14) hC.x hC.b dX0_setFace_5 (by decide) ?_
    refine lv_icmp_lt (tgt := 11) hC.x hC.b dX0_setFace_7 (by decide) (fun hc9 => ?_) (fun hc9 => ?_)
    · replace hq := hq.1 hc9
      refine lv_aload_n hC.x hC.b dX0_setFace_11 rfl (lv_at hl 0 rfl) ?_
      refine hc_get (v := .ref (ac 5)) hC hW 0 0 5 inX0 rfl rfl (by decide) q_35 rfl dX0_setFace_12 ?_
      refine lv_iload_n hC.x hC.b dX0_setFace_15 rfl (lv_at hl 1 rfl) ?_
      refine lv_iload_n hC.x hC.b dX0_setFace_16 rfl (lv_at hl 2 rfl) ?_
      refine hc_iast (ws' := (cC cy hc ac (up2 wc 5 (x1).toNatClampNeg x2))) hC hW 4 rfl hq.1 (cC_set_5 ..) dX0_setFace_17 (fun H locs hW => ?_)
      replace hq := hq.2
      refine lv_aload_n hC.x hC.b dX0_setFace_18 rfl (lv_at hl 0 rfl) ?_
      refine hc_get (v := .ref (ac 6)) hC hW 0 0 6 inX0 rfl rfl (by decide) q_36 rfl dX0_setFace_19 ?_
      refine lv_iload_n hC.x hC.b dX0_setFace_22 rfl (lv_at hl 1 rfl) ?_
      refine lv_iload_n hC.x hC.b dX0_setFace_23 rfl (lv_at hl 3 rfl) ?_
      refine hc_iast (ws' := (cC cy hc ac (up2 (up2 wc 5 (x1).toNatClampNeg x2) 6 (x1).toNatClampNeg x3))) hC hW 5 rfl hq.1 (cC_set_6 ..) dX0_setFace_24 (fun H locs hW => ?_)
      replace hq := hq.2
      refine lv_aload_n hC.x hC.b dX0_setFace_25 rfl (lv_at hl 0 rfl) ?_
      refine hc_get (v := .ref (ac 7)) hC hW 0 0 7 inX0 rfl rfl (by decide) q_37 rfl dX0_setFace_26 ?_
      refine lv_iload_n hC.x hC.b dX0_setFace_29 rfl (lv_at hl 1 rfl) ?_
      refine lv_iload hC.x hC.b dX0_setFace_30 (lv_at hl 4 rfl) ?_
      refine hc_iast (ws' := (cC cy hc ac (up2 (up2 (up2 wc 5 (x1).toNatClampNeg x2) 6 (x1).toNatClampNeg x3) 7 (x1).toNatClampNeg x4))) hC hW 6 rfl hq.1 (cC_set_7 ..) dX0_setFace_32 (fun H locs hW => ?_)
      replace hq := hq.2
      refine lv_aload_n hC.x hC.b dX0_setFace_33 rfl (lv_at hl 0 rfl) ?_
      refine hc_get (v := .ref (ac 8)) hC hW 0 0 8 inX0 rfl rfl (by decide) q_38 rfl dX0_setFace_34 ?_
      refine lv_iload_n hC.x hC.b dX0_setFace_37 rfl (lv_at hl 1 rfl) ?_
      refine lv_iload hC.x hC.b dX0_setFace_38 (lv_at hl 5 rfl) ?_
      refine hc_iast (ws' := (cC cy hc ac (up2 (up2 (up2 (up2 wc 5 (x1).toNatClampNeg x2) 6 (x1).toNatClampNeg x3) 7 (x1).toNatClampNeg x4) 8 (x1).toNatClampNeg x5))) hC hW 7 rfl hq.1 (cC_set_8 ..) dX0_setFace_40 (fun H locs hW => ?_)
      replace hq := hq.2
      exact hc_vret hC ((up2 (up2 (up2 (up2 wc 5 (x1).toNatClampNeg x2) 6 (x1).toNatClampNeg x3) 7 (x1).toNatClampNeg x4) 8 (x1).toNatClampNeg x5)) hW hq dX0_setFace_41
    · replace hq := hq.2 hc9
      exact hc_vret hC (wc) hW hq dX0_setFace_10
def k_X0_setCorner (x1 : Int32) (x2 : Int32) (x3 : Int32) (x4 : Int32) (x5 : Int32) (wc : Wd) (Q : Wd → Prop) : Prop :=
 ((x1 < 0 → (Q wc)) ∧
 (¬ x1 < 0 → ((x1 < 31 → (vp_in x1 31 ∧ (vp_in x1 31 ∧ (vp_in x1 31 ∧ (vp_in x1 31 ∧ (Q (up2 (up2 (up2 (up2 wc 9 (x1).toNatClampNeg x2) 10 (x1).toNatClampNeg x3) 11 (x1).toNatClampNeg x4) 12 (x1).toNatClampNeg x5))))))) ∧
 (¬ x1 < 31 → (Q wc)))))
set_option maxHeartbeats 4000000 in
set_option maxRecDepth 100000 in
theorem c_X0_setCorner (l : Launch) (D : va_G) (cy cz : ClassId) (t1 t2 : Nat) (hc : Nat) (ac : Nat → Nat) (x1 : Int32) (x2 : Int32) (x3 : Int32) (x4 : Int32) (x5 : Int32) (wc : Wd) (Q : Wd → Prop) (hq : k_X0_setCorner x1 x2 x3 x4 x5 wc Q) : Ct l D cy cz t1 t2 yX0_setCorner cX0_setCorner 6 none (rM 0 0) [.ref hc, .int x1, .int x2, .int x3, .int x4, .int x5] (cC cy hc ac wc) (QV D (S := Wd) (fun u => Q u) (fun u => (cC cy hc ac u))) := by
  refine Ct.of (own := RX0) (by decide) rfl (Nat.le_of_ble_eq_true rfl) ?_
  intro p e s m below meth c A ls hC hW hl
  unfold k_X0_setCorner at hq
  have hl : lv_has ls 6 [(0, .ref hc), (1, .int x1), (2, .int x2), (3, .int x3), (4, .int x4), (5, .int x5)] := hl
  refine lv_iload_n hC.x hC.b dX0_setCorner_0 rfl (lv_at hl 1 rfl) ?_
  refine lv_if_lt (tgt := 10) hC.x hC.b dX0_setCorner_1 (by decide) (fun hc9 => ?_) (fun hc9 => ?_)
  · replace hq := hq.1 hc9
    exact hc_vret hC (wc) hW hq dX0_setCorner_10
  · replace hq := hq.2 hc9
    refine lv_iload_n hC.x hC.b dX0_setCorner_4 rfl (lv_at hl 1 rfl) ?_
    refine lv_bipush (v := 31) hC.x hC.b dX0_setCorner_5 (by decide) ?_
    refine lv_icmp_lt (tgt := 11) hC.x hC.b dX0_setCorner_7 (by decide) (fun hc9 => ?_) (fun hc9 => ?_)
    · replace hq := hq.1 hc9
      refine lv_aload_n hC.x hC.b dX0_setCorner_11 rfl (lv_at hl 0 rfl) ?_
      refine hc_get (v := .ref (ac 9)) hC hW 0 0 9 inX0 rfl rfl (by decide) q_39 rfl dX0_setCorner_12 ?_
      refine lv_iload_n hC.x hC.b dX0_setCorner_15 rfl (lv_at hl 1 rfl) ?_
      refine lv_iload_n hC.x hC.b dX0_setCorner_16 rfl (lv_at hl 2 rfl) ?_
      refine hc_iast (ws' := (cC cy hc ac (up2 wc 9 (x1).toNatClampNeg x2))) hC hW 8 rfl hq.1 (cC_set_9 ..) dX0_setCorner_17 (fun H locs hW => ?_)
      replace hq := hq.2
      refine lv_aload_n hC.x hC.b dX0_setCorner_18 rfl (lv_at hl 0 rfl) ?_
      refine hc_get (v := .ref (ac 10)) hC hW 0 0 10 inX0 rfl rfl (by decide) q_40 rfl dX0_setCorner_19 ?_
      refine lv_iload_n hC.x hC.b dX0_setCorner_22 rfl (lv_at hl 1 rfl) ?_
      refine lv_iload_n hC.x hC.b dX0_setCorner_23 rfl (lv_at hl 3 rfl) ?_
      refine hc_iast (ws' := (cC cy hc ac (up2 (up2 wc 9 (x1).toNatClampNeg x2) 10 (x1).toNatClampNeg x3))) hC hW 9 rfl hq.1 (cC_set_10 ..) dX0_setCorner_24 (fun H locs hW => ?_)
      replace hq := hq.2
      refine lv_aload_n hC.x hC.b dX0_setCorner_25 rfl (lv_at hl 0 rfl) ?_
      refine hc_get (v := .ref (ac 11)) hC hW 0 0 11 inX0 rfl rfl (by decide) q_41 rfl dX0_setCorner_26 ?_
      refine lv_iload_n hC.x hC.b dX0_setCorner_29 rfl (lv_at hl 1 rfl) ?_
      refine lv_iload hC.x hC.b dX0_setCorner_30 (lv_at hl 4 rfl) ?_
      refine hc_iast (ws' := (cC cy hc ac (up2 (up2 (up2 wc 9 (x1).toNatClampNeg x2) 10 (x1).toNatClampNeg x3) 11 (x1).toNatClampNeg x4))) hC hW 10 rfl hq.1 (cC_set_11 ..) dX0_setCorner_32 (fun H locs hW => ?_)
      replace hq := hq.2
      refine lv_aload_n hC.x hC.b dX0_setCorner_33 rfl (lv_at hl 0 rfl) ?_
      refine hc_get (v := .ref (ac 12)) hC hW 0 0 12 inX0 rfl rfl (by decide) q_42 rfl dX0_setCorner_34 ?_
      refine lv_iload_n hC.x hC.b dX0_setCorner_37 rfl (lv_at hl 1 rfl) ?_
      refine lv_iload hC.x hC.b dX0_setCorner_38 (lv_at hl 5 rfl) ?_
      refine hc_iast (ws' := (cC cy hc ac (up2 (up2 (up2 (up2 wc 9 (x1).toNatClampNeg x2) 10 (x1).toNatClampNeg x3) 11 (x1).toNatClampNeg x4) 12 (x1).toNatClampNeg x5))) hC hW 11 rfl hq.1 (cC_set_12 ..) dX0_setCorner_40 (fun H locs hW => ?_)
      replace hq := hq.2
      exact hc_vret hC ((up2 (up2 (up2 (up2 wc 9 (x1).toNatClampNeg x2) 10 (x1).toNatClampNeg x3) 11 (x1).toNatClampNeg x4) 12 (x1).toNatClampNeg x5)) hW hq dX0_setCorner_41
    · replace hq := hq.2 hc9
      exact hc_vret hC (wc) hW hq dX0_setCorner_10
def k_J7_fill_53178_5 (K5 : (Int32 × Int32 × Int32 × (Nat → Int32)) → Prop) (Q : (Nat → Int32) → Prop) (x1 : Int32) (x2 : Int32) (x3 : Int32) (wr : (Nat → Int32)) : Prop :=
 ((x3 ≤ x2 → (Q wr)) ∧
 (¬ x3 ≤ x2 → (vp_in x2 26 ∧ (K5 (x1, (x2 + 1), x3, (upd wr (x2).toNatClampNeg x1))))))
set_option maxHeartbeats 4000000 in
set_option maxRecDepth 100000 in
theorem B_J7_fill_53178_5 {l : Launch} {p : Program} {e : Env} {s : State} {m : MethodId} {args : Array Value} {below : List Frame} {meth : Method} {c : Code} {A : Nat → Prop} {D : va_G} {cy cz : ClassId} {t1 t2 : Nat} (ar : Nat) (Q : (Nat → Int32) → Prop) (K5 : (Int32 × Int32 × Int32 × (Nat → Int32)) → Prop) (hK5 : ∀ b9 : Int32 × Int32 × Int32 × (Nat → Int32), K5 b9 → ∀ (H : Heap) (locs : List Loc) (ls : Array Slot), Wo D A s (cR cy ar b9.2.2.2) H locs → lv_has ls 4 [(0, .ref ar), (1, .int b9.1), (2, .int b9.2.1), (3, .int b9.2.2.1)] → W p l e (rM 0 0) s m args below meth c H locs 0 0 (MQ below (QV D (S := (Nat → Int32)) (fun u => Q u) (fun u => (cR cy ar u)) A) args s 0 0 A) (F0 m 5 ls [])) (hC : Cx D cy cz t1 t2 p s m args meth c cJ7_fill_53178 4 none RJ7 A) (x1 : Int32) (x2 : Int32) (x3 : Int32) (wr : (Nat → Int32)) {H : Heap} {locs : List Loc} {ls : Array Slot} (hq : k_J7_fill_53178_5 K5 Q x1 x2 x3 wr) (hW : Wo D A s (cR cy ar wr) H locs) (hl : lv_has ls 4 [(0, .ref ar), (1, .int x1), (2, .int x2), (3, .int x3)]) : W p l e (rM 0 0) s m args below meth c H locs 0 0 (MQ below (QV D (S := (Nat → Int32)) (fun u => Q u) (fun u => (cR cy ar u)) A) args s 0 0 A) (F0 m 5 ls []) := by
  unfold k_J7_fill_53178_5 at hq
  refine lv_iload_n hC.x hC.b dJ7_fill_53178_5 rfl (lv_at hl 2 rfl) ?_
  refine lv_iload_n hC.x hC.b dJ7_fill_53178_6 rfl (lv_at hl 3 rfl) ?_
  refine lv_icmp_ge (tgt := 20) hC.x hC.b dJ7_fill_53178_7 (by decide) (fun hc9 => ?_) (fun hc9 => ?_)
  · replace hq := hq.1 hc9
    exact hc_vret hC (wr) hW hq dJ7_fill_53178_20
  · replace hq := hq.2 hc9
    refine lv_aload_n hC.x hC.b dJ7_fill_53178_10 rfl (lv_at hl 0 rfl) ?_
    refine lv_iload_n hC.x hC.b dJ7_fill_53178_11 rfl (lv_at hl 2 rfl) ?_
    refine lv_iload_n hC.x hC.b dJ7_fill_53178_12 rfl (lv_at hl 1 rfl) ?_
    refine hc_iast (ws' := (cR cy ar (upd wr (x2).toNatClampNeg x1))) hC hW 0 rfl hq.1 rfl dJ7_fill_53178_13 (fun H locs hW => ?_)
    replace hq := hq.2
    refine lv_iinc (v := (x2 + 1)) (lv' := [(2, .int (x2 + 1)), (0, .ref ar), (1, .int x1), (3, .int x3)]) hC.x hC.b dJ7_fill_53178_14 hl (k := 2) rfl rfl (by decide) rfl (fun ls hl => ?_)
    refine lv_goto (tgt := 5) hC.x hC.b dJ7_fill_53178_17 (by decide) ?_
    exact hK5 (x1, (x2 + 1), x3, (upd wr (x2).toNatClampNeg x1)) hq _ _ _ hW (lv_sub hl [1, 2, 0, 3] rfl)
def k_J7_fill_53178 (x1 : Int32) (wr : (Nat → Int32)) (Q : (Nat → Int32) → Prop) : Prop :=
 (∃ n : Nat, lpf (fun (K : (Int32 × Int32 × Int32 × (Nat → Int32)) → Prop) (u : Int32 × Int32 × Int32 × (Nat → Int32)) => k_J7_fill_53178_5  K Q u.1 u.2.1 u.2.2.1 u.2.2.2) n (x1, 0, 26, wr))
set_option maxHeartbeats 4000000 in
set_option maxRecDepth 100000 in
theorem c_J7_fill_53178 (l : Launch) (D : va_G) (cy cz : ClassId) (t1 t2 : Nat) (ar : Nat) (x1 : Int32) (wr : (Nat → Int32)) (Q : (Nat → Int32) → Prop) (hq : k_J7_fill_53178 x1 wr Q) : Ct l D cy cz t1 t2 yJ7_fill_53178 cJ7_fill_53178 4 none (rM 0 0) [.ref ar, .int x1] (cR cy ar wr) (QV D (S := (Nat → Int32)) (fun u => Q u) (fun u => (cR cy ar u))) := by
  refine Ct.of (own := RJ7) (by decide) rfl (Nat.le_of_ble_eq_true rfl) ?_
  intro p e s m below meth c A ls hC hW hl
  unfold k_J7_fill_53178 at hq
  have hl : lv_has ls 4 [(0, .ref ar), (1, .int x1)] := hl
  refine lv_iconst (v := 0) hC.x hC.b dJ7_fill_53178_0 (by decide) ?_
  refine lv_istore_n (lv' := [(2, .int 0), (0, .ref ar), (1, .int x1)]) hC.x hC.b dJ7_fill_53178_1 rfl hl (by decide) rfl (fun ls hl => ?_)
  refine lv_aload_n hC.x hC.b dJ7_fill_53178_2 rfl (lv_at hl 1 rfl) ?_
  refine hc_alen (v := 26) hC hW 0 rfl rfl dJ7_fill_53178_3 ?_
  refine lv_istore_n (lv' := [(3, .int 26), (2, .int 0), (0, .ref ar), (1, .int x1)]) hC.x hC.b dJ7_fill_53178_4 rfl hl (by decide) rfl (fun ls hl => ?_)
  obtain ⟨n9, hq⟩ := hq
  exact lpf_use (G := (fun (u : Int32 × Int32 × Int32 × (Nat → Int32)) => ∀ (H : Heap) (locs : List Loc) (ls : Array Slot), Wo D A s (cR cy ar u.2.2.2) H locs → lv_has ls 4 [(0, .ref ar), (1, .int u.1), (2, .int u.2.1), (3, .int u.2.2.1)] → W p l e (rM 0 0) s m _ below meth c H locs 0 0 (MQ below (QV D (S := (Nat → Int32)) (fun u => Q u) (fun u => (cR cy ar u)) A) _ s 0 0 A) (F0 m 5 ls []))) (fun K hK u hq H locs ls hW hl => B_J7_fill_53178_5 ar Q  K hK hC u.1 u.2.1 u.2.2.1 u.2.2.2 hq hW hl) n9 _ hq _ _ _ hW (lv_sub hl [2, 3, 1, 0] rfl)
def k_X0_faces  (wc : Wd) (Q : Int32 → Wd → Prop) : Prop :=
 (Q (2 + (2 * (wc 1 0))) wc)
set_option maxHeartbeats 4000000 in
set_option maxRecDepth 100000 in
theorem c_X0_faces (l : Launch) (D : va_G) (cy cz : ClassId) (t1 t2 : Nat) (hc : Nat) (ac : Nat → Nat)  (wc : Wd) (Q : Int32 → Wd → Prop) (hq : k_X0_faces wc Q) : Ct l D cy cz t1 t2 yX0_faces cX0_faces 1 (some .int) (rM 0 0) [.ref hc] (cC cy hc ac wc) (QI D (S := Wd) (fun r u => Q r u) (fun u => (cC cy hc ac u))) := by
  refine Ct.of (own := RX0) (by decide) rfl (Nat.le_of_ble_eq_true rfl) ?_
  intro p e s m below meth c A ls hC hW hl
  unfold k_X0_faces at hq
  have hl : lv_has ls 1 [(0, .ref hc)] := hl
  refine lv_iconst (v := 2) hC.x hC.b dX0_faces_0 (by decide) ?_
  refine lv_iconst (v := 2) hC.x hC.b dX0_faces_1 (by decide) ?_
  refine lv_aload_n hC.x hC.b dX0_faces_2 rfl (lv_at hl 0 rfl) ?_
  refine hc_get (v := .int (wc 1 0)) hC hW 0 0 1 inX0 rfl rfl (by decide) q_50 rfl dX0_faces_3 ?_
  refine lv_imul hC.x hC.b dX0_faces_6 ?_
  refine lv_iadd hC.x hC.b dX0_faces_7 ?_
  exact hc_iret hC (wc) hW hq dX0_faces_8
def k_X0_bitsBetween (x0 : Int32) (x1 : Int32)  (Q : Int32 → Prop) : Prop :=
 (Q ((1 <<< ((x1 + 1) &&& 31)) - (1 <<< (x0 &&& 31))))
set_option maxHeartbeats 4000000 in
set_option maxRecDepth 100000 in
theorem c_X0_bitsBetween (l : Launch) (D : va_G) (cy cz : ClassId) (t1 t2 : Nat)  (x0 : Int32) (x1 : Int32)  (Q : Int32 → Prop) (hq : k_X0_bitsBetween x0 x1 Q) : Ct l D cy cz t1 t2 yX0_bitsBetween cX0_bitsBetween 2 (some .int) (rM 0 0) [.int x0, .int x1] ([] : va_W) (QI D (S := Unit) (fun r u => Q r ) (fun _ => ([] : va_W))) := by
  refine Ct.of (own := RX0) (by decide) rfl (Nat.le_of_ble_eq_true rfl) ?_
  intro p e s m below meth c A ls hC hW hl
  unfold k_X0_bitsBetween at hq
  have hl : lv_has ls 2 [(0, .int x0), (1, .int x1)] := hl
  refine lv_iconst (v := 1) hC.x hC.b dX0_bitsBetween_0 (by decide) ?_
  refine lv_iload_n hC.x hC.b dX0_bitsBetween_1 rfl (lv_at hl 1 rfl) ?_
  refine lv_iconst (v := 1) hC.x hC.b dX0_bitsBetween_2 (by decide) ?_
  refine lv_iadd hC.x hC.b dX0_bitsBetween_3 ?_
  refine lv_ishl hC.x hC.b dX0_bitsBetween_4 ?_
  refine lv_iconst (v := 1) hC.x hC.b dX0_bitsBetween_5 (by decide) ?_
  refine lv_iload_n hC.x hC.b dX0_bitsBetween_6 rfl (lv_at hl 0 rfl) ?_
  refine lv_ishl hC.x hC.b dX0_bitsBetween_7 ?_
  refine lv_isub hC.x hC.b dX0_bitsBetween_8 ?_
  exact hc_iret hC () hW hq dX0_bitsBetween_9
def k_X0_addBits_23  (Q : (Nat → Int32) → Prop) (x3 : Int32) (y0 : Int32) (wr : (Nat → Int32)) : Prop :=
 (((26 : Int32) ≤ y0 → (Q wr)) ∧
 (¬ (26 : Int32) ≤ y0 → (vp_in y0 26 ∧ (vp_in y0 26 ∧ (Q (upd wr (y0).toNatClampNeg ((wr (y0).toNatClampNeg) ||| x3)))))))
set_option maxHeartbeats 4000000 in
set_option maxRecDepth 100000 in
theorem B_X0_addBits_23 {l : Launch} {p : Program} {e : Env} {s : State} {m : MethodId} {args : Array Value} {below : List Frame} {meth : Method} {c : Code} {A : Nat → Prop} {D : va_G} {cy cz : ClassId} {t1 t2 : Nat} (ar : Nat) (Q : (Nat → Int32) → Prop)  (hC : Cx D cy cz t1 t2 p s m args meth c cX0_addBits 5 none RX0 A) (x3 : Int32) (y0 : Int32) (wr : (Nat → Int32)) {H : Heap} {locs : List Loc} {ls : Array Slot} (hq : k_X0_addBits_23  Q x3 y0 wr) (hW : Wo D A s (cR cy ar wr) H locs) (hl : lv_has ls 5 [(0, .ref ar), (3, .int x3)]) : W p l e (rM 0 0) s m args below meth c H locs 0 0 (MQ below (QV D (S := (Nat → Int32)) (fun u => Q u) (fun u => (cR cy ar u)) A) args s 0 0 A) (F0 m 23 ls [.int y0]) := by
  unfold k_X0_addBits_23 at hq
  refine lv_istore (lv' := [(4, .int y0), (0, .ref ar), (3, .int x3)]) hC.x hC.b dX0_addBits_23 hl (by decide) rfl (fun ls hl => ?_)
  refine lv_iload hC.x hC.b dX0_addBits_25 (lv_at hl 0 rfl) ?_
  refine lv_aload_n hC.x hC.b dX0_addBits_27 rfl (lv_at hl 1 rfl) ?_
  refine hc_alen (v := 26) hC hW 0 rfl rfl dX0_addBits_28 ?_
  refine lv_icmp_ge (tgt := 40) hC.x hC.b dX0_addBits_29 (by decide) (fun hc9 => ?_) (fun hc9 => ?_)
  · replace hq := hq.1 hc9
    exact hc_vret hC (wr) hW hq dX0_addBits_40
  · replace hq := hq.2 hc9
    refine lv_aload_n hC.x hC.b dX0_addBits_32 rfl (lv_at hl 1 rfl) ?_
    refine lv_iload hC.x hC.b dX0_addBits_33 (lv_at hl 0 rfl) ?_
    refine lv_dup2_11 hC.x hC.b dX0_addBits_35 rfl rfl ?_
    refine hc_iald hC hW 0 rfl hq.1 dX0_addBits_36 ?_
    replace hq := hq.2
    refine lv_iload_n hC.x hC.b dX0_addBits_37 rfl (lv_at hl 2 rfl) ?_
    refine lv_ior hC.x hC.b dX0_addBits_38 ?_
    refine hc_iast (ws' := (cR cy ar (upd wr (y0).toNatClampNeg ((wr (y0).toNatClampNeg) ||| x3)))) hC hW 0 rfl hq.1 rfl dX0_addBits_39 (fun H locs hW => ?_)
    replace hq := hq.2
    exact hc_vret hC ((upd wr (y0).toNatClampNeg ((wr (y0).toNatClampNeg) ||| x3))) hW hq dX0_addBits_40
def k_X0_addBits (x1 : Int32) (x2 : Int32) (x3 : Int32) (wr : (Nat → Int32)) (Q : (Nat → Int32) → Prop) : Prop :=
 ((x2 < 0 → (Q wr)) ∧
 (¬ x2 < 0 → ((x2 < 13 → ((¬ x1 = 0 → (k_X0_addBits_23  Q x3 (13 + x2) wr)) ∧
 (x1 = 0 → (k_X0_addBits_23  Q x3 x2 wr)))) ∧
 (¬ x2 < 13 → (Q wr)))))
set_option maxHeartbeats 4000000 in
set_option maxRecDepth 100000 in
theorem c_X0_addBits (l : Launch) (D : va_G) (cy cz : ClassId) (t1 t2 : Nat) (ar : Nat) (x1 : Int32) (x2 : Int32) (x3 : Int32) (wr : (Nat → Int32)) (Q : (Nat → Int32) → Prop) (hq : k_X0_addBits x1 x2 x3 wr Q) : Ct l D cy cz t1 t2 yX0_addBits cX0_addBits 5 none (rM 0 0) [.ref ar, .int x1, .int x2, .int x3] (cR cy ar wr) (QV D (S := (Nat → Int32)) (fun u => Q u) (fun u => (cR cy ar u))) := by
  refine Ct.of (own := RX0) (by decide) rfl (Nat.le_of_ble_eq_true rfl) ?_
  intro p e s m below meth c A ls hC hW hl
  unfold k_X0_addBits at hq
  have hl : lv_has ls 5 [(0, .ref ar), (1, .int x1), (2, .int x2), (3, .int x3)] := hl
  refine lv_iload_n hC.x hC.b dX0_addBits_0 rfl (lv_at hl 2 rfl) ?_
  refine lv_if_lt (tgt := 10) hC.x hC.b dX0_addBits_1 (by decide) (fun hc9 => ?_) (fun hc9 => ?_)
  · replace hq := hq.1 hc9
    exact hc_vret hC (wr) hW hq dX0_addBits_10
  · replace hq := hq.2 hc9
    refine lv_iload_n hC.x hC.b dX0_addBits_4 rfl (lv_at hl 2 rfl) ?_
    refine lv_bipush (v := 13) hC.x hC.b dX0_addBits_5 (by decide) ?_
    refine lv_icmp_lt (tgt := 11) hC.x hC.b dX0_addBits_7 (by decide) (fun hc9 => ?_) (fun hc9 => ?_)
    · replace hq := hq.1 hc9
      refine lv_iload_n hC.x hC.b dX0_addBits_11 rfl (lv_at hl 1 rfl) ?_
      refine lv_if_ne (tgt := 19) hC.x hC.b dX0_addBits_12 (by decide) (fun hc9 => ?_) (fun hc9 => ?_)
      · replace hq := hq.1 hc9
        refine lv_bipush (v := 13) hC.x hC.b dX0_addBits_19 (by decide) ?_
        refine lv_iload_n hC.x hC.b dX0_addBits_21 rfl (lv_at hl 2 rfl) ?_
        refine lv_iadd hC.x hC.b dX0_addBits_22 ?_
        exact B_X0_addBits_23 ar Q  hC x3 (13 + x2) wr hq hW (lv_sub hl [0, 3] rfl)
      · replace hq := hq.2 hc9
        refine lv_iload_n hC.x hC.b dX0_addBits_15 rfl (lv_at hl 2 rfl) ?_
        refine lv_goto (tgt := 23) hC.x hC.b dX0_addBits_16 (by decide) ?_
        exact B_X0_addBits_23 ar Q  hC x3 x2 wr hq hW (lv_sub hl [0, 3] rfl)
    · replace hq := hq.2 hc9
      exact hc_vret hC (wr) hW hq dX0_addBits_10
def k_X0_draw_93 (K93 : (Int32 × Int32 × Int32 × Int32 × Wd) → Prop) (Q : Wd → Prop) (x3 : Int32) (x5 : Int32) (x6 : Int32) (x7 : Int32) (wc : Wd) : Prop :=
 ((x5 < x7 → (Q wc)) ∧
 (¬ x5 < x7 → (k_X0_bitsBetween x3 x3 (fun r110 => (k_X0_addBits x6 x7 r110 (wc 14) (fun f113 => (K93 (x3, x5, x6, (x7 + 1), (upr wc 14 f113)))))))))
set_option maxHeartbeats 4000000 in
set_option maxRecDepth 100000 in
theorem B_X0_draw_93 {l : Launch} {p : Program} {e : Env} {s : State} {m : MethodId} {args : Array Value} {below : List Frame} {meth : Method} {c : Code} {A : Nat → Prop} {D : va_G} {cy cz : ClassId} {t1 t2 : Nat} (hc : Nat) (ac : Nat → Nat) (Q : Wd → Prop) (K93 : (Int32 × Int32 × Int32 × Int32 × Wd) → Prop) (hK93 : ∀ b9 : Int32 × Int32 × Int32 × Int32 × Wd, K93 b9 → ∀ (H : Heap) (locs : List Loc) (ls : Array Slot), Wo D A s (cC cy hc ac b9.2.2.2.2) H locs → lv_has ls 8 [(0, .ref hc), (3, .int b9.1), (5, .int b9.2.1), (6, .int b9.2.2.1), (7, .int b9.2.2.2.1)] → W p l e (rM 1 24) s m args below meth c H locs 0 0 (MQ below (QV D (S := Wd) (fun u => Q u) (fun u => (cC cy hc ac u)) A) args s 0 0 A) (F0 m 93 ls [])) (hC : Cx D cy cz t1 t2 p s m args meth c cX0_draw 8 none RX0 A) (x3 : Int32) (x5 : Int32) (x6 : Int32) (x7 : Int32) (wc : Wd) {H : Heap} {locs : List Loc} {ls : Array Slot} (hq : k_X0_draw_93 K93 Q x3 x5 x6 x7 wc) (hW : Wo D A s (cC cy hc ac wc) H locs) (hl : lv_has ls 8 [(0, .ref hc), (3, .int x3), (5, .int x5), (6, .int x6), (7, .int x7)]) : W p l e (rM 1 24) s m args below meth c H locs 0 0 (MQ below (QV D (S := Wd) (fun u => Q u) (fun u => (cC cy hc ac u)) A) args s 0 0 A) (F0 m 93 ls []) := by
  unfold k_X0_draw_93 at hq
  refine lv_iload hC.x hC.b dX0_draw_93 (lv_at hl 4 rfl) ?_
  refine lv_iload hC.x hC.b dX0_draw_95 (lv_at hl 2 rfl) ?_
  refine lv_icmp_gt (tgt := 122) hC.x hC.b dX0_draw_97 (by decide) (fun hc9 => ?_) (fun hc9 => ?_)
  · replace hq := hq.1 hc9
    exact hc_vret hC (wc) hW hq dX0_draw_122
  · replace hq := hq.2 hc9
    refine lv_aload_n hC.x hC.b dX0_draw_100 rfl (lv_at hl 0 rfl) ?_
    refine hc_get (v := .ref (ac 14)) hC hW 0 0 14 inX0 rfl rfl (by decide) q_44 rfl dX0_draw_101 ?_
    refine lv_iload hC.x hC.b dX0_draw_104 (lv_at hl 3 rfl) ?_
    refine lv_iload hC.x hC.b dX0_draw_106 (lv_at hl 4 rfl) ?_
    refine lv_iload_n hC.x hC.b dX0_draw_108 rfl (lv_at hl 1 rfl) ?_
    refine lv_iload_n hC.x hC.b dX0_draw_109 rfl (lv_at hl 1 rfl) ?_
    refine hc_goP hC hW (hc_rS hC (c_X0_bitsBetween l D cy cz t1 t2 x3 x3 _ hq) (hc_preP hC hW) q_75 q_76 q_14 q_77 hd_X0_bitsBetween ⟨rfl, rfl⟩ ⟨Nat.le_of_ble_eq_true rfl, Nat.le_of_ble_eq_true rfl⟩ rfl hl.1 rfl (Nat.le_of_ble_eq_true rfl) dX0_draw_110 ⟨Nat.zero_le _, Nat.zero_le _⟩) (fun r110 H locs hq hW => ?_)
    try dsimp only at hq
    refine hc_goV hC hW (hc_rS hC (c_X0_addBits l D cy cz t1 t2 (ac 14) x6 x7 r110 (wc 14) _ hq) (hc_preS hC hW [13] rfl rfl) q_78 q_79 q_14 q_80 hd_X0_addBits ⟨rfl, rfl⟩ ⟨Nat.le_of_ble_eq_true rfl, Nat.le_of_ble_eq_true rfl⟩ rfl hl.1 rfl (Nat.le_of_ble_eq_true rfl) dX0_draw_113 ⟨Nat.zero_le _, Nat.zero_le _⟩) [13] [0, 1, 2, 3, 4, 5, 6, 7, 8, 9, 10, 11, 12] [0, 1, 2, 3, 4, 5, 6, 7, 8, 9, 10, 11, 12, 13] (List.eraseIdx (cC cy hc ac wc) 13) (fun u => (cC cy hc ac (upr wc 14 u))) rfl rfl (by decide) (by decide) (by decide) (fun u => rfl) (fun u9 H locs hq hW => ?_)
    obtain ⟨f113, rfl⟩ : ∃ z, z = u9 := ⟨_, rfl⟩
    try dsimp only at hq hW
    refine lv_iinc (v := (x7 + 1)) (lv' := [(7, .int (x7 + 1)), (0, .ref hc), (3, .int x3), (5, .int x5), (6, .int x6)]) hC.x hC.b dX0_draw_116 hl (k := 4) rfl rfl (by decide) rfl (fun ls hl => ?_)
    refine lv_goto (tgt := 93) hC.x hC.b dX0_draw_119 (by decide) ?_
    exact hK93 (x3, x5, x6, (x7 + 1), (upr wc 14 f113)) hq _ _ _ hW (lv_sub hl [1, 2, 3, 4, 0] rfl)
def k_X0_draw_53  (Q : Wd → Prop) (x2 : Int32) (x3 : Int32) (x4 : Int32) (x5 : Int32) (y0 : Int32) (wc : Wd) : Prop :=
 (k_X0_bitsBetween x4 (x5 - 1) (fun r67 => (k_X0_addBits x2 x3 r67 (wc 13) (fun f70 => (k_X0_bitsBetween x4 x5 (fun r83 => (k_X0_addBits x2 x3 r83 ((upr wc 13 f70) 14) (fun f86 => (∃ n : Nat, lpf (fun (K : (Int32 × Int32 × Int32 × Int32 × Wd) → Prop) (u : Int32 × Int32 × Int32 × Int32 × Wd) => k_X0_draw_93  K Q u.1 u.2.1 u.2.2.1 u.2.2.2.1 u.2.2.2.2) n (x3, x5, y0, x4, (upr (upr wc 13 f70) 14 f86)))))))))))
set_option maxHeartbeats 4000000 in
set_option maxRecDepth 100000 in
theorem B_X0_draw_53 {l : Launch} {p : Program} {e : Env} {s : State} {m : MethodId} {args : Array Value} {below : List Frame} {meth : Method} {c : Code} {A : Nat → Prop} {D : va_G} {cy cz : ClassId} {t1 t2 : Nat} (hc : Nat) (ac : Nat → Nat) (Q : Wd → Prop)  (hC : Cx D cy cz t1 t2 p s m args meth c cX0_draw 8 none RX0 A) (x2 : Int32) (x3 : Int32) (x4 : Int32) (x5 : Int32) (y0 : Int32) (wc : Wd) {H : Heap} {locs : List Loc} {ls : Array Slot} (hq : k_X0_draw_53  Q x2 x3 x4 x5 y0 wc) (hW : Wo D A s (cC cy hc ac wc) H locs) (hl : lv_has ls 8 [(0, .ref hc), (2, .int x2), (3, .int x3), (4, .int x4), (5, .int x5)]) : W p l e (rM 1 24) s m args below meth c H locs 0 0 (MQ below (QV D (S := Wd) (fun u => Q u) (fun u => (cC cy hc ac u)) A) args s 0 0 A) (F0 m 53 ls [.int y0]) := by
  unfold k_X0_draw_53 at hq
  refine lv_istore (lv' := [(6, .int y0), (0, .ref hc), (2, .int x2), (3, .int x3), (4, .int x4), (5, .int x5)]) hC.x hC.b dX0_draw_53 hl (by decide) rfl (fun ls hl => ?_)
  refine lv_aload_n hC.x hC.b dX0_draw_55 rfl (lv_at hl 1 rfl) ?_
  refine hc_get (v := .ref (ac 13)) hC hW 0 0 13 inX0 rfl rfl (by decide) q_43 rfl dX0_draw_56 ?_
  refine lv_iload_n hC.x hC.b dX0_draw_59 rfl (lv_at hl 2 rfl) ?_
  refine lv_iload_n hC.x hC.b dX0_draw_60 rfl (lv_at hl 3 rfl) ?_
  refine lv_iload hC.x hC.b dX0_draw_61 (lv_at hl 4 rfl) ?_
  refine lv_iload hC.x hC.b dX0_draw_63 (lv_at hl 5 rfl) ?_
  refine lv_iconst (v := 1) hC.x hC.b dX0_draw_65 (by decide) ?_
  refine lv_isub hC.x hC.b dX0_draw_66 ?_
  refine hc_goP hC hW (hc_rS hC (c_X0_bitsBetween l D cy cz t1 t2 x4 (x5 - 1) _ hq) (hc_preP hC hW) q_75 q_76 q_14 q_77 hd_X0_bitsBetween ⟨rfl, rfl⟩ ⟨Nat.le_of_ble_eq_true rfl, Nat.le_of_ble_eq_true rfl⟩ rfl hl.1 rfl (Nat.le_of_ble_eq_true rfl) dX0_draw_67 ⟨Nat.zero_le _, Nat.zero_le _⟩) (fun r67 H locs hq hW => ?_)
  try dsimp only at hq
  refine hc_goV hC hW (hc_rS hC (c_X0_addBits l D cy cz t1 t2 (ac 13) x2 x3 r67 (wc 13) _ hq) (hc_preS hC hW [12] rfl rfl) q_78 q_79 q_14 q_80 hd_X0_addBits ⟨rfl, rfl⟩ ⟨Nat.le_of_ble_eq_true rfl, Nat.le_of_ble_eq_true rfl⟩ rfl hl.1 rfl (Nat.le_of_ble_eq_true rfl) dX0_draw_70 ⟨Nat.zero_le _, Nat.zero_le _⟩) [12] [0, 1, 2, 3, 4, 5, 6, 7, 8, 9, 10, 11, 13] [0, 1, 2, 3, 4, 5, 6, 7, 8, 9, 10, 11, 13, 12] (List.eraseIdx (cC cy hc ac wc) 12) (fun u => (cC cy hc ac (upr wc 13 u))) rfl rfl (by decide) (by decide) (by decide) (fun u => rfl) (fun u9 H locs hq hW => ?_)
  obtain ⟨f70, rfl⟩ : ∃ z, z = u9 := ⟨_, rfl⟩
  try dsimp only at hq hW
  refine lv_aload_n hC.x hC.b dX0_draw_73 rfl (lv_at hl 1 rfl) ?_
  refine hc_get (v := .ref (ac 14)) hC hW 0 0 14 inX0 rfl rfl (by decide) q_44 rfl dX0_draw_74 ?_
  refine lv_iload_n hC.x hC.b dX0_draw_77 rfl (lv_at hl 2 rfl) ?_
  refine lv_iload_n hC.x hC.b dX0_draw_78 rfl (lv_at hl 3 rfl) ?_
  refine lv_iload hC.x hC.b dX0_draw_79 (lv_at hl 4 rfl) ?_
  refine lv_iload hC.x hC.b dX0_draw_81 (lv_at hl 5 rfl) ?_
  refine hc_goP hC hW (hc_rS hC (c_X0_bitsBetween l D cy cz t1 t2 x4 x5 _ hq) (hc_preP hC hW) q_75 q_76 q_14 q_77 hd_X0_bitsBetween ⟨rfl, rfl⟩ ⟨Nat.le_of_ble_eq_true rfl, Nat.le_of_ble_eq_true rfl⟩ rfl hl.1 rfl (Nat.le_of_ble_eq_true rfl) dX0_draw_83 ⟨Nat.zero_le _, Nat.zero_le _⟩) (fun r83 H locs hq hW => ?_)
  try dsimp only at hq
  refine hc_goV hC hW (hc_rS hC (c_X0_addBits l D cy cz t1 t2 (ac 14) x2 x3 r83 ((upr wc 13 f70) 14) _ hq) (hc_preS hC hW [13] rfl rfl) q_78 q_79 q_14 q_80 hd_X0_addBits ⟨rfl, rfl⟩ ⟨Nat.le_of_ble_eq_true rfl, Nat.le_of_ble_eq_true rfl⟩ rfl hl.1 rfl (Nat.le_of_ble_eq_true rfl) dX0_draw_86 ⟨Nat.zero_le _, Nat.zero_le _⟩) [13] [0, 1, 2, 3, 4, 5, 6, 7, 8, 9, 10, 11, 12] [0, 1, 2, 3, 4, 5, 6, 7, 8, 9, 10, 11, 12, 13] (List.eraseIdx (cC cy hc ac (upr wc 13 f70)) 13) (fun u => (cC cy hc ac (upr (upr wc 13 f70) 14 u))) rfl rfl (by decide) (by decide) (by decide) (fun u => rfl) (fun u9 H locs hq hW => ?_)
  obtain ⟨f86, rfl⟩ : ∃ z, z = u9 := ⟨_, rfl⟩
  try dsimp only at hq hW
  refine lv_iload hC.x hC.b dX0_draw_89 (lv_at hl 4 rfl) ?_
  refine lv_istore (lv' := [(7, .int x4), (6, .int y0), (0, .ref hc), (2, .int x2), (3, .int x3), (4, .int x4), (5, .int x5)]) hC.x hC.b dX0_draw_91 hl (by decide) rfl (fun ls hl => ?_)
  obtain ⟨n9, hq⟩ := hq
  exact lpf_use (G := (fun (u : Int32 × Int32 × Int32 × Int32 × Wd) => ∀ (H : Heap) (locs : List Loc) (ls : Array Slot), Wo D A s (cC cy hc ac u.2.2.2.2) H locs → lv_has ls 8 [(0, .ref hc), (3, .int u.1), (5, .int u.2.1), (6, .int u.2.2.1), (7, .int u.2.2.2.1)] → W p l e (rM 1 24) s m args below meth c H locs 0 0 (MQ below (QV D (S := Wd) (fun u => Q u) (fun u => (cC cy hc ac u)) A) args s 0 0 A) (F0 m 93 ls []))) (fun K hK u hq H locs ls hW hl => B_X0_draw_93 hc ac Q  K hK hC u.1 u.2.1 u.2.2.1 u.2.2.2.1 u.2.2.2.2 hq hW hl) n9 _ hq _ _ _ hW (lv_sub hl [2, 4, 6, 1, 0] rfl)
def k_X0_draw (x1 : Int32) (wc : Wd) (Q : Wd → Prop) : Prop :=
 ((x1 < 0 → (Q wc)) ∧
 (¬ x1 < 0 → ((x1 < 14 → (vp_in x1 14 ∧ (vp_in x1 14 ∧ (vp_in x1 14 ∧ (vp_in x1 14 ∧ ((¬ (wc 5 (x1).toNatClampNeg) = 0 → (k_X0_draw_53  Q (wc 5 (x1).toNatClampNeg) (wc 6 (x1).toNatClampNeg) (wc 7 (x1).toNatClampNeg) ((wc 7 (x1).toNatClampNeg) + (wc 8 (x1).toNatClampNeg)) 0 wc)) ∧
 ((wc 5 (x1).toNatClampNeg) = 0 → (k_X0_draw_53  Q (wc 5 (x1).toNatClampNeg) (wc 6 (x1).toNatClampNeg) (wc 7 (x1).toNatClampNeg) ((wc 7 (x1).toNatClampNeg) + (wc 8 (x1).toNatClampNeg)) 1 wc)))))))) ∧
 (¬ x1 < 14 → (Q wc)))))
set_option maxHeartbeats 4000000 in
set_option maxRecDepth 100000 in
theorem c_X0_draw (l : Launch) (D : va_G) (cy cz : ClassId) (t1 t2 : Nat) (hc : Nat) (ac : Nat → Nat) (x1 : Int32) (wc : Wd) (Q : Wd → Prop) (hq : k_X0_draw x1 wc Q) : Ct l D cy cz t1 t2 yX0_draw cX0_draw 8 none (rM 1 24) [.ref hc, .int x1] (cC cy hc ac wc) (QV D (S := Wd) (fun u => Q u) (fun u => (cC cy hc ac u))) := by
  refine Ct.of (own := RX0) (by decide) rfl (Nat.le_of_ble_eq_true rfl) ?_
  intro p e s m below meth c A ls hC hW hl
  unfold k_X0_draw at hq
  have hl : lv_has ls 8 [(0, .ref hc), (1, .int x1)] := hl
  refine lv_iload_n hC.x hC.b dX0_draw_0 rfl (lv_at hl 1 rfl) ?_
  refine lv_if_lt (tgt := 10) hC.x hC.b dX0_draw_1 (by decide) (fun hc9 => ?_) (fun hc9 => ?_)
  · replace hq := hq.1 hc9
    exact hc_vret hC (wc) hW hq dX0_draw_10
  · replace hq := hq.2 hc9
    refine lv_iload_n hC.x hC.b dX0_draw_4 rfl (lv_at hl 1 rfl) ?_
    refine lv_bipush (v := 14) hC.x hC.b dX0_draw_5 (by decide) ?_
    refine lv_icmp_lt (tgt := 11) hC.x hC.b dX0_draw_7 (by decide) (fun hc9 => ?_) (fun hc9 => ?_)
    · replace hq := hq.1 hc9
      refine lv_aload_n hC.x hC.b dX0_draw_11 rfl (lv_at hl 0 rfl) ?_
      refine hc_get (v := .ref (ac 5)) hC hW 0 0 5 inX0 rfl rfl (by decide) q_35 rfl dX0_draw_12 ?_
      refine lv_iload_n hC.x hC.b dX0_draw_15 rfl (lv_at hl 1 rfl) ?_
      refine hc_iald hC hW 4 rfl hq.1 dX0_draw_16 ?_
      replace hq := hq.2
      refine lv_istore_n (lv' := [(2, .int (wc 5 (x1).toNatClampNeg)), (0, .ref hc), (1, .int x1)]) hC.x hC.b dX0_draw_17 rfl hl (by decide) rfl (fun ls hl => ?_)
      refine lv_aload_n hC.x hC.b dX0_draw_18 rfl (lv_at hl 1 rfl) ?_
      refine hc_get (v := .ref (ac 6)) hC hW 0 0 6 inX0 rfl rfl (by decide) q_36 rfl dX0_draw_19 ?_
      refine lv_iload_n hC.x hC.b dX0_draw_22 rfl (lv_at hl 2 rfl) ?_
      refine hc_iald hC hW 5 rfl hq.1 dX0_draw_23 ?_
      replace hq := hq.2
      refine lv_istore_n (lv' := [(3, .int (wc 6 (x1).toNatClampNeg)), (2, .int (wc 5 (x1).toNatClampNeg)), (0, .ref hc), (1, .int x1)]) hC.x hC.b dX0_draw_24 rfl hl (by decide) rfl (fun ls hl => ?_)
      refine lv_aload_n hC.x hC.b dX0_draw_25 rfl (lv_at hl 2 rfl) ?_
      refine hc_get (v := .ref (ac 7)) hC hW 0 0 7 inX0 rfl rfl (by decide) q_37 rfl dX0_draw_26 ?_
      refine lv_iload_n hC.x hC.b dX0_draw_29 rfl (lv_at hl 3 rfl) ?_
      refine hc_iald hC hW 6 rfl hq.1 dX0_draw_30 ?_
      replace hq := hq.2
      refine lv_istore (lv' := [(4, .int (wc 7 (x1).toNatClampNeg)), (3, .int (wc 6 (x1).toNatClampNeg)), (2, .int (wc 5 (x1).toNatClampNeg)), (0, .ref hc), (1, .int x1)]) hC.x hC.b dX0_draw_31 hl (by decide) rfl (fun ls hl => ?_)
      refine lv_iload hC.x hC.b dX0_draw_33 (lv_at hl 0 rfl) ?_
      refine lv_aload_n hC.x hC.b dX0_draw_35 rfl (lv_at hl 3 rfl) ?_
      refine hc_get (v := .ref (ac 8)) hC hW 0 0 8 inX0 rfl rfl (by decide) q_38 rfl dX0_draw_36 ?_
      refine lv_iload_n hC.x hC.b dX0_draw_39 rfl (lv_at hl 4 rfl) ?_
      refine hc_iald hC hW 7 rfl hq.1 dX0_draw_40 ?_
      replace hq := hq.2
      refine lv_iadd hC.x hC.b dX0_draw_41 ?_
      refine lv_istore (lv' := [(5, .int ((wc 7 (x1).toNatClampNeg) + (wc 8 (x1).toNatClampNeg))), (4, .int (wc 7 (x1).toNatClampNeg)), (3, .int (wc 6 (x1).toNatClampNeg)), (2, .int (wc 5 (x1).toNatClampNeg)), (0, .ref hc), (1, .int x1)]) hC.x hC.b dX0_draw_42 hl (by decide) rfl (fun ls hl => ?_)
      refine lv_iload_n hC.x hC.b dX0_draw_44 rfl (lv_at hl 3 rfl) ?_
      refine lv_if_ne (tgt := 52) hC.x hC.b dX0_draw_45 (by decide) (fun hc9 => ?_) (fun hc9 => ?_)
      · replace hq := hq.1 hc9
        refine lv_iconst (v := 0) hC.x hC.b dX0_draw_52 (by decide) ?_
        exact B_X0_draw_53 hc ac Q  hC (wc 5 (x1).toNatClampNeg) (wc 6 (x1).toNatClampNeg) (wc 7 (x1).toNatClampNeg) ((wc 7 (x1).toNatClampNeg) + (wc 8 (x1).toNatClampNeg)) 0 wc hq hW (lv_sub hl [4, 3, 2, 1, 0] rfl)
      · replace hq := hq.2 hc9
        refine lv_iconst (v := 1) hC.x hC.b dX0_draw_48 (by decide) ?_
        refine lv_goto (tgt := 53) hC.x hC.b dX0_draw_49 (by decide) ?_
        exact B_X0_draw_53 hc ac Q  hC (wc 5 (x1).toNatClampNeg) (wc 6 (x1).toNatClampNeg) (wc 7 (x1).toNatClampNeg) ((wc 7 (x1).toNatClampNeg) + (wc 8 (x1).toNatClampNeg)) 1 wc hq hW (lv_sub hl [4, 3, 2, 1, 0] rfl)
    · replace hq := hq.2 hc9
      exact hc_vret hC (wc) hW hq dX0_draw_10
def k_X0_redraw_18 (K18 : (Int32 × Wd) → Prop) (Q : Wd → Prop) (x1 : Int32) (wc : Wd) : Prop :=
 (k_X0_faces wc (fun r20 wc20 => ((r20 ≤ x1 → (Q wc20)) ∧
 (¬ r20 ≤ x1 → (k_X0_draw x1 wc20 (fun wc28 => (K18 ((x1 + 1), wc28))))))))
set_option maxHeartbeats 4000000 in
set_option maxRecDepth 100000 in
theorem B_X0_redraw_18 {l : Launch} {p : Program} {e : Env} {s : State} {m : MethodId} {args : Array Value} {below : List Frame} {meth : Method} {c : Code} {A : Nat → Prop} {D : va_G} {cy cz : ClassId} {t1 t2 : Nat} (hc : Nat) (ac : Nat → Nat) (Q : Wd → Prop) (K18 : (Int32 × Wd) → Prop) (hK18 : ∀ b9 : Int32 × Wd, K18 b9 → ∀ (H : Heap) (locs : List Loc) (ls : Array Slot), Wo D A s (cC cy hc ac b9.2) H locs → lv_has ls 2 [(0, .ref hc), (1, .int b9.1)] → W p l e (rM 2 51) s m args below meth c H locs 0 0 (MQ below (QV D (S := Wd) (fun u => Q u) (fun u => (cC cy hc ac u)) A) args s 0 0 A) (F0 m 18 ls [])) (hC : Cx D cy cz t1 t2 p s m args meth c cX0_redraw 2 none RX0 A) (x1 : Int32) (wc : Wd) {H : Heap} {locs : List Loc} {ls : Array Slot} (hq : k_X0_redraw_18 K18 Q x1 wc) (hW : Wo D A s (cC cy hc ac wc) H locs) (hl : lv_has ls 2 [(0, .ref hc), (1, .int x1)]) : W p l e (rM 2 51) s m args below meth c H locs 0 0 (MQ below (QV D (S := Wd) (fun u => Q u) (fun u => (cC cy hc ac u)) A) args s 0 0 A) (F0 m 18 ls []) := by
  unfold k_X0_redraw_18 at hq
  refine lv_iload_n hC.x hC.b dX0_redraw_18 rfl (lv_at hl 1 rfl) ?_
  refine lv_aload_n hC.x hC.b dX0_redraw_19 rfl (lv_at hl 0 rfl) ?_
  refine hc_goIW hC hW (hc_rV hC (c_X0_faces l D cy cz t1 t2 hc ac wc _ hq) (hc_preW hC hW) hW 0 0 rfl rfl q_67 q_68 q_69 q_14 q_70 hd_X0_faces ⟨rfl, rfl⟩ ⟨Nat.le_of_ble_eq_true rfl, Nat.le_of_ble_eq_true rfl⟩ rfl hl.1 rfl (Nat.le_of_ble_eq_true rfl) dX0_redraw_20 ⟨Nat.zero_le _, Nat.zero_le _⟩) (fun r20 u9 H locs hq hW => ?_)
  obtain ⟨wc20, rfl⟩ : ∃ z, z = u9 := ⟨_, rfl⟩
  try dsimp only at hq hW
  refine lv_icmp_ge (tgt := 37) hC.x hC.b dX0_redraw_23 (by decide) (fun hc9 => ?_) (fun hc9 => ?_)
  · replace hq := hq.1 hc9
    exact hc_vret hC (wc20) hW hq dX0_redraw_37
  · replace hq := hq.2 hc9
    refine lv_aload_n hC.x hC.b dX0_redraw_26 rfl (lv_at hl 0 rfl) ?_
    refine lv_iload_n hC.x hC.b dX0_redraw_27 rfl (lv_at hl 1 rfl) ?_
    refine hc_goVW hC hW (hc_rV hC (c_X0_draw l D cy cz t1 t2 hc ac x1 wc20 _ hq) (hc_preW hC hW) hW 0 0 rfl rfl q_71 q_72 q_73 q_14 q_74 hd_X0_draw ⟨rfl, rfl⟩ ⟨Nat.le_of_ble_eq_true rfl, Nat.le_of_ble_eq_true rfl⟩ rfl hl.1 rfl (Nat.le_of_ble_eq_true rfl) dX0_redraw_28 ⟨Nat.zero_le _, Nat.zero_le _⟩) (fun u9 H locs hq hW => ?_)
    obtain ⟨wc28, rfl⟩ : ∃ z, z = u9 := ⟨_, rfl⟩
    try dsimp only at hq hW
    refine lv_iinc (v := (x1 + 1)) (lv' := [(1, .int (x1 + 1)), (0, .ref hc)]) hC.x hC.b dX0_redraw_31 hl (k := 1) rfl rfl (by decide) rfl (fun ls hl => ?_)
    refine lv_goto (tgt := 18) hC.x hC.b dX0_redraw_34 (by decide) ?_
    exact hK18 ((x1 + 1), wc28) hq _ _ _ hW (lv_sub hl [1, 0] rfl)
def k_X0_redraw  (wc : Wd) (Q : Wd → Prop) : Prop :=
 (k_J7_fill_53178 0 (wc 13) (fun f5 => (k_J7_fill_53178 0 ((upr wc 13 f5) 14) (fun f13 => (∃ n : Nat, lpf (fun (K : (Int32 × Wd) → Prop) (u : Int32 × Wd) => k_X0_redraw_18  K Q u.1 u.2) n (0, (upr (upr wc 13 f5) 14 f13)))))))
set_option maxHeartbeats 4000000 in
set_option maxRecDepth 100000 in
theorem c_X0_redraw (l : Launch) (D : va_G) (cy cz : ClassId) (t1 t2 : Nat) (hc : Nat) (ac : Nat → Nat)  (wc : Wd) (Q : Wd → Prop) (hq : k_X0_redraw wc Q) : Ct l D cy cz t1 t2 yX0_redraw cX0_redraw 2 none (rM 2 51) [.ref hc] (cC cy hc ac wc) (QV D (S := Wd) (fun u => Q u) (fun u => (cC cy hc ac u))) := by
  refine Ct.of (own := RX0) (by decide) rfl (Nat.le_of_ble_eq_true rfl) ?_
  intro p e s m below meth c A ls hC hW hl
  unfold k_X0_redraw at hq
  have hl : lv_has ls 2 [(0, .ref hc)] := hl
  refine lv_aload_n hC.x hC.b dX0_redraw_0 rfl (lv_at hl 0 rfl) ?_
  refine hc_get (v := .ref (ac 13)) hC hW 0 0 13 inX0 rfl rfl (by decide) q_43 rfl dX0_redraw_1 ?_
  refine lv_iconst (v := 0) hC.x hC.b dX0_redraw_4 (by decide) ?_
  refine hc_goV hC hW (hc_rS hC (c_J7_fill_53178 l D cy cz t1 t2 (ac 13) 0 (wc 13) _ hq) (hc_preS hC hW [12] rfl rfl) q_63 q_64 q_65 q_66 hd_J7_fill_53178 ⟨rfl, rfl⟩ ⟨Nat.le_of_ble_eq_true rfl, Nat.le_of_ble_eq_true rfl⟩ rfl hl.1 rfl (Nat.le_of_ble_eq_true rfl) dX0_redraw_5 ⟨Nat.zero_le _, Nat.zero_le _⟩) [12] [0, 1, 2, 3, 4, 5, 6, 7, 8, 9, 10, 11, 13] [0, 1, 2, 3, 4, 5, 6, 7, 8, 9, 10, 11, 13, 12] (List.eraseIdx (cC cy hc ac wc) 12) (fun u => (cC cy hc ac (upr wc 13 u))) rfl rfl (by decide) (by decide) (by decide) (fun u => rfl) (fun u9 H locs hq hW => ?_)
  obtain ⟨f5, rfl⟩ : ∃ z, z = u9 := ⟨_, rfl⟩
  try dsimp only at hq hW
  refine lv_aload_n hC.x hC.b dX0_redraw_8 rfl (lv_at hl 0 rfl) ?_
  refine hc_get (v := .ref (ac 14)) hC hW 0 0 14 inX0 rfl rfl (by decide) q_44 rfl dX0_redraw_9 ?_
  refine lv_iconst (v := 0) hC.x hC.b dX0_redraw_12 (by decide) ?_
  refine hc_goV hC hW (hc_rS hC (c_J7_fill_53178 l D cy cz t1 t2 (ac 14) 0 ((upr wc 13 f5) 14) _ hq) (hc_preS hC hW [13] rfl rfl) q_63 q_64 q_65 q_66 hd_J7_fill_53178 ⟨rfl, rfl⟩ ⟨Nat.le_of_ble_eq_true rfl, Nat.le_of_ble_eq_true rfl⟩ rfl hl.1 rfl (Nat.le_of_ble_eq_true rfl) dX0_redraw_13 ⟨Nat.zero_le _, Nat.zero_le _⟩) [13] [0, 1, 2, 3, 4, 5, 6, 7, 8, 9, 10, 11, 12] [0, 1, 2, 3, 4, 5, 6, 7, 8, 9, 10, 11, 12, 13] (List.eraseIdx (cC cy hc ac (upr wc 13 f5)) 13) (fun u => (cC cy hc ac (upr (upr wc 13 f5) 14 u))) rfl rfl (by decide) (by decide) (by decide) (fun u => rfl) (fun u9 H locs hq hW => ?_)
  obtain ⟨f13, rfl⟩ : ∃ z, z = u9 := ⟨_, rfl⟩
  try dsimp only at hq hW
  refine lv_iconst (v := 0) hC.x hC.b dX0_redraw_16 (by decide) ?_
  refine lv_istore_n (lv' := [(1, .int 0), (0, .ref hc)]) hC.x hC.b dX0_redraw_17 rfl hl (by decide) rfl (fun ls hl => ?_)
  obtain ⟨n9, hq⟩ := hq
  exact lpf_use (G := (fun (u : Int32 × Wd) => ∀ (H : Heap) (locs : List Loc) (ls : Array Slot), Wo D A s (cC cy hc ac u.2) H locs → lv_has ls 2 [(0, .ref hc), (1, .int u.1)] → W p l e (rM 2 51) s m _ below meth c H locs 0 0 (MQ below (QV D (S := Wd) (fun u => Q u) (fun u => (cC cy hc ac u)) A) _ s 0 0 A) (F0 m 18 ls []))) (fun K hK u hq H locs ls hW hl => B_X0_redraw_18 hc ac Q  K hK hC u.1 u.2 hq hW hl) n9 _ hq _ _ _ hW (lv_sub hl [1, 0] rfl)
def k_X0_begin (x1 : Int32) (wc : Wd) (Q : Wd → Prop) : Prop :=
 (k_X0_setFace 0 0 0 0 x1 (up2 (up2 wc 0 0 x1) 1 0 0) (fun wc16 => (k_X0_setFace 1 1 0 0 x1 wc16 (fun wc25 => (k_X0_setCorner 0 0 0 1 1 wc25 (fun wc34 => (k_X0_redraw wc34 (fun wc38 => (Q wc38)))))))))
set_option maxHeartbeats 4000000 in
set_option maxRecDepth 100000 in
theorem c_X0_begin (l : Launch) (D : va_G) (cy cz : ClassId) (t1 t2 : Nat) (hc : Nat) (ac : Nat → Nat) (x1 : Int32) (wc : Wd) (Q : Wd → Prop) (hq : k_X0_begin x1 wc Q) : Ct l D cy cz t1 t2 yX0_begin cX0_begin 2 none (rM 3 72) [.ref hc, .int x1] (cC cy hc ac wc) (QV D (S := Wd) (fun u => Q u) (fun u => (cC cy hc ac u))) := by
  refine Ct.of (own := RX0) (by decide) rfl (Nat.le_of_ble_eq_true rfl) ?_
  intro p e s m below meth c A ls hC hW hl
  unfold k_X0_begin at hq
  have hl : lv_has ls 2 [(0, .ref hc), (1, .int x1)] := hl
  refine lv_aload_n hC.x hC.b dX0_begin_0 rfl (lv_at hl 0 rfl) ?_
  refine lv_iload_n hC.x hC.b dX0_begin_1 rfl (lv_at hl 1 rfl) ?_
  refine hc_put (ws' := (cC cy hc ac (up2 wc 0 0 x1))) hC hW 0 0 0 inX0 tyX0 tyX0_ok nmX0 rfl rfl (by decide) q_49 rfl rfl rfl rfl (Nat.le_of_ble_eq_true rfl) (cC_put_0 ..) dX0_begin_2 (fun H locs hW => ?_)
  refine lv_aload_n hC.x hC.b dX0_begin_5 rfl (lv_at hl 0 rfl) ?_
  refine lv_iconst (v := 0) hC.x hC.b dX0_begin_6 (by decide) ?_
  refine hc_put (ws' := (cC cy hc ac (up2 (up2 wc 0 0 x1) 1 0 0))) hC hW 0 0 1 inX0 tyX0 tyX0_ok nmX0 rfl rfl (by decide) q_50 rfl rfl rfl rfl (Nat.le_of_ble_eq_true rfl) (cC_put_1 ..) dX0_begin_7 (fun H locs hW => ?_)
  refine lv_aload_n hC.x hC.b dX0_begin_10 rfl (lv_at hl 0 rfl) ?_
  refine lv_iconst (v := 0) hC.x hC.b dX0_begin_11 (by decide) ?_
  refine lv_iconst (v := 0) hC.x hC.b dX0_begin_12 (by decide) ?_
  refine lv_iconst (v := 0) hC.x hC.b dX0_begin_13 (by decide) ?_
  refine lv_iconst (v := 0) hC.x hC.b dX0_begin_14 (by decide) ?_
  refine lv_iload_n hC.x hC.b dX0_begin_15 rfl (lv_at hl 1 rfl) ?_
  refine hc_goVW hC hW (hc_rV hC (c_X0_setFace l D cy cz t1 t2 hc ac 0 0 0 0 x1 (up2 (up2 wc 0 0 x1) 1 0 0) _ hq) (hc_preW hC hW) hW 0 0 rfl rfl q_51 q_52 q_53 q_14 q_54 hd_X0_setFace ⟨rfl, rfl⟩ ⟨Nat.le_of_ble_eq_true rfl, Nat.le_of_ble_eq_true rfl⟩ rfl hl.1 rfl (Nat.le_of_ble_eq_true rfl) dX0_begin_16 ⟨Nat.zero_le _, Nat.zero_le _⟩) (fun u9 H locs hq hW => ?_)
  obtain ⟨wc16, rfl⟩ : ∃ z, z = u9 := ⟨_, rfl⟩
  try dsimp only at hq hW
  refine lv_aload_n hC.x hC.b dX0_begin_19 rfl (lv_at hl 0 rfl) ?_
  refine lv_iconst (v := 1) hC.x hC.b dX0_begin_20 (by decide) ?_
  refine lv_iconst (v := 1) hC.x hC.b dX0_begin_21 (by decide) ?_
  refine lv_iconst (v := 0) hC.x hC.b dX0_begin_22 (by decide) ?_
  refine lv_iconst (v := 0) hC.x hC.b dX0_begin_23 (by decide) ?_
  refine lv_iload_n hC.x hC.b dX0_begin_24 rfl (lv_at hl 1 rfl) ?_
  refine hc_goVW hC hW (hc_rV hC (c_X0_setFace l D cy cz t1 t2 hc ac 1 1 0 0 x1 wc16 _ hq) (hc_preW hC hW) hW 0 0 rfl rfl q_51 q_52 q_53 q_14 q_54 hd_X0_setFace ⟨rfl, rfl⟩ ⟨Nat.le_of_ble_eq_true rfl, Nat.le_of_ble_eq_true rfl⟩ rfl hl.1 rfl (Nat.le_of_ble_eq_true rfl) dX0_begin_25 ⟨Nat.zero_le _, Nat.zero_le _⟩) (fun u9 H locs hq hW => ?_)
  obtain ⟨wc25, rfl⟩ : ∃ z, z = u9 := ⟨_, rfl⟩
  try dsimp only at hq hW
  refine lv_aload_n hC.x hC.b dX0_begin_28 rfl (lv_at hl 0 rfl) ?_
  refine lv_iconst (v := 0) hC.x hC.b dX0_begin_29 (by decide) ?_
  refine lv_iconst (v := 0) hC.x hC.b dX0_begin_30 (by decide) ?_
  refine lv_iconst (v := 0) hC.x hC.b dX0_begin_31 (by decide) ?_
  refine lv_iconst (v := 1) hC.x hC.b dX0_begin_32 (by decide) ?_
  refine lv_iconst (v := 1) hC.x hC.b dX0_begin_33 (by decide) ?_
  refine hc_goVW hC hW (hc_rV hC (c_X0_setCorner l D cy cz t1 t2 hc ac 0 0 0 1 1 wc25 _ hq) (hc_preW hC hW) hW 0 0 rfl rfl q_55 q_56 q_57 q_14 q_58 hd_X0_setCorner ⟨rfl, rfl⟩ ⟨Nat.le_of_ble_eq_true rfl, Nat.le_of_ble_eq_true rfl⟩ rfl hl.1 rfl (Nat.le_of_ble_eq_true rfl) dX0_begin_34 ⟨Nat.zero_le _, Nat.zero_le _⟩) (fun u9 H locs hq hW => ?_)
  obtain ⟨wc34, rfl⟩ : ∃ z, z = u9 := ⟨_, rfl⟩
  try dsimp only at hq hW
  refine lv_aload_n hC.x hC.b dX0_begin_37 rfl (lv_at hl 0 rfl) ?_
  refine hc_goVW hC hW (hc_rV hC (c_X0_redraw l D cy cz t1 t2 hc ac wc34 _ hq) (hc_preW hC hW) hW 0 0 rfl rfl q_59 q_60 q_61 q_14 q_62 hd_X0_redraw ⟨rfl, rfl⟩ ⟨Nat.le_of_ble_eq_true rfl, Nat.le_of_ble_eq_true rfl⟩ rfl hl.1 rfl (Nat.le_of_ble_eq_true rfl) dX0_begin_38 ⟨Nat.zero_le _, Nat.zero_le _⟩) (fun u9 H locs hq hW => ?_)
  obtain ⟨wc38, rfl⟩ : ∃ z, z = u9 := ⟨_, rfl⟩
  try dsimp only at hq hW
  exact hc_vret hC (wc38) hW hq dX0_begin_41
def k_X0_isFull  (wc : Wd) (Q : Int32 → Wd → Prop) : Prop :=
 (((wc 1 0) < 6 → (Q 0 wc)) ∧
 (¬ (wc 1 0) < 6 → (Q 1 wc)))
set_option maxHeartbeats 4000000 in
set_option maxRecDepth 100000 in
theorem c_X0_isFull (l : Launch) (D : va_G) (cy cz : ClassId) (t1 t2 : Nat) (hc : Nat) (ac : Nat → Nat)  (wc : Wd) (Q : Int32 → Wd → Prop) (hq : k_X0_isFull wc Q) : Ct l D cy cz t1 t2 yX0_isFull cX0_isFull 1 (some .boolean) (rM 0 0) [.ref hc] (cC cy hc ac wc) (QI D (S := Wd) (fun r u => Q r u) (fun u => (cC cy hc ac u))) := by
  refine Ct.of (own := RX0) (by decide) rfl (Nat.le_of_ble_eq_true rfl) ?_
  intro p e s m below meth c A ls hC hW hl
  unfold k_X0_isFull at hq
  have hl : lv_has ls 1 [(0, .ref hc)] := hl
  refine lv_aload_n hC.x hC.b dX0_isFull_0 rfl (lv_at hl 0 rfl) ?_
  refine hc_get (v := .int (wc 1 0)) hC hW 0 0 1 inX0 rfl rfl (by decide) q_50 rfl dX0_isFull_1 ?_
  refine lv_bipush (v := 6) hC.x hC.b dX0_isFull_4 (by decide) ?_
  refine lv_icmp_lt (tgt := 13) hC.x hC.b dX0_isFull_6 (by decide) (fun hc9 => ?_) (fun hc9 => ?_)
  · replace hq := hq.1 hc9
    refine lv_iconst (v := 0) hC.x hC.b dX0_isFull_13 (by decide) ?_
    exact hc_zret hC (wc) hW rfl hq dX0_isFull_14
  · replace hq := hq.2 hc9
    refine lv_iconst (v := 1) hC.x hC.b dX0_isFull_9 (by decide) ?_
    refine lv_goto (tgt := 14) hC.x hC.b dX0_isFull_10 (by decide) ?_
    exact hc_zret hC (wc) hW rfl hq dX0_isFull_14
def k_X0_corners  (wc : Wd) (Q : Int32 → Wd → Prop) : Prop :=
 (Q (1 + (5 * (wc 1 0))) wc)
set_option maxHeartbeats 4000000 in
set_option maxRecDepth 100000 in
theorem c_X0_corners (l : Launch) (D : va_G) (cy cz : ClassId) (t1 t2 : Nat) (hc : Nat) (ac : Nat → Nat)  (wc : Wd) (Q : Int32 → Wd → Prop) (hq : k_X0_corners wc Q) : Ct l D cy cz t1 t2 yX0_corners cX0_corners 1 (some .int) (rM 0 0) [.ref hc] (cC cy hc ac wc) (QI D (S := Wd) (fun r u => Q r u) (fun u => (cC cy hc ac u))) := by
  refine Ct.of (own := RX0) (by decide) rfl (Nat.le_of_ble_eq_true rfl) ?_
  intro p e s m below meth c A ls hC hW hl
  unfold k_X0_corners at hq
  have hl : lv_has ls 1 [(0, .ref hc)] := hl
  refine lv_iconst (v := 1) hC.x hC.b dX0_corners_0 (by decide) ?_
  refine lv_iconst (v := 5) hC.x hC.b dX0_corners_1 (by decide) ?_
  refine lv_aload_n hC.x hC.b dX0_corners_2 rfl (lv_at hl 0 rfl) ?_
  refine hc_get (v := .int (wc 1 0)) hC hW 0 0 1 inX0 rfl rfl (by decide) q_50 rfl dX0_corners_3 ?_
  refine lv_imul hC.x hC.b dX0_corners_6 ?_
  refine lv_iadd hC.x hC.b dX0_corners_7 ?_
  exact hc_iret hC (wc) hW hq dX0_corners_8
def k_X0_hasCorner (x1 : Int32) (wc : Wd) (Q : Int32 → Wd → Prop) : Prop :=
 ((x1 < 0 → (Q 0 wc)) ∧
 (¬ x1 < 0 → (k_X0_corners wc (fun r6 wc6 => ((r6 ≤ x1 → (Q 0 wc6)) ∧
 (¬ r6 ≤ x1 → (((31 : Int32) ≤ x1 → (Q 0 wc6)) ∧
 (¬ (31 : Int32) ≤ x1 → (Q 1 wc6)))))))))
set_option maxHeartbeats 4000000 in
set_option maxRecDepth 100000 in
theorem c_X0_hasCorner (l : Launch) (D : va_G) (cy cz : ClassId) (t1 t2 : Nat) (hc : Nat) (ac : Nat → Nat) (x1 : Int32) (wc : Wd) (Q : Int32 → Wd → Prop) (hq : k_X0_hasCorner x1 wc Q) : Ct l D cy cz t1 t2 yX0_hasCorner cX0_hasCorner 2 (some .boolean) (rM 1 20) [.ref hc, .int x1] (cC cy hc ac wc) (QI D (S := Wd) (fun r u => Q r u) (fun u => (cC cy hc ac u))) := by
  refine Ct.of (own := RX0) (by decide) rfl (Nat.le_of_ble_eq_true rfl) ?_
  intro p e s m below meth c A ls hC hW hl
  unfold k_X0_hasCorner at hq
  have hl : lv_has ls 2 [(0, .ref hc), (1, .int x1)] := hl
  refine lv_iload_n hC.x hC.b dX0_hasCorner_0 rfl (lv_at hl 1 rfl) ?_
  refine lv_if_lt (tgt := 22) hC.x hC.b dX0_hasCorner_1 (by decide) (fun hc9 => ?_) (fun hc9 => ?_)
  · replace hq := hq.1 hc9
    refine lv_iconst (v := 0) hC.x hC.b dX0_hasCorner_22 (by decide) ?_
    exact hc_zret hC (wc) hW rfl hq dX0_hasCorner_23
  · replace hq := hq.2 hc9
    refine lv_iload_n hC.x hC.b dX0_hasCorner_4 rfl (lv_at hl 1 rfl) ?_
    refine lv_aload_n hC.x hC.b dX0_hasCorner_5 rfl (lv_at hl 0 rfl) ?_
    refine hc_goIW hC hW (hc_rV hC (c_X0_corners l D cy cz t1 t2 hc ac wc _ hq) (hc_preW hC hW) hW 0 0 rfl rfl q_131 q_132 q_133 q_14 q_134 hd_X0_corners ⟨rfl, rfl⟩ ⟨Nat.le_of_ble_eq_true rfl, Nat.le_of_ble_eq_true rfl⟩ rfl hl.1 rfl (Nat.le_of_ble_eq_true rfl) dX0_hasCorner_6 ⟨Nat.zero_le _, Nat.zero_le _⟩) (fun r6 u9 H locs hq hW => ?_)
    obtain ⟨wc6, rfl⟩ : ∃ z, z = u9 := ⟨_, rfl⟩
    try dsimp only at hq hW
    refine lv_icmp_ge (tgt := 22) hC.x hC.b dX0_hasCorner_9 (by decide) (fun hc9 => ?_) (fun hc9 => ?_)
    · replace hq := hq.1 hc9
      refine lv_iconst (v := 0) hC.x hC.b dX0_hasCorner_22 (by decide) ?_
      exact hc_zret hC (wc6) hW rfl hq dX0_hasCorner_23
    · replace hq := hq.2 hc9
      refine lv_iload_n hC.x hC.b dX0_hasCorner_12 rfl (lv_at hl 1 rfl) ?_
      refine lv_bipush (v := 31) hC.x hC.b dX0_hasCorner_13 (by decide) ?_
      refine lv_icmp_ge (tgt := 22) hC.x hC.b dX0_hasCorner_15 (by decide) (fun hc9 => ?_) (fun hc9 => ?_)
      · replace hq := hq.1 hc9
        refine lv_iconst (v := 0) hC.x hC.b dX0_hasCorner_22 (by decide) ?_
        exact hc_zret hC (wc6) hW rfl hq dX0_hasCorner_23
      · replace hq := hq.2 hc9
        refine lv_iconst (v := 1) hC.x hC.b dX0_hasCorner_18 (by decide) ?_
        refine lv_goto (tgt := 23) hC.x hC.b dX0_hasCorner_19 (by decide) ?_
        exact hc_zret hC (wc6) hW rfl hq dX0_hasCorner_23
def k_X0_addBox (x1 : Int32) (x2 : Int32) (x3 : Int32) (wc : Wd) (Q : Wd → Prop) : Prop :=
 (k_X0_isFull wc (fun r1 wc1 => ((¬ r1 = 0 → (Q wc1)) ∧
 (r1 = 0 → (k_X0_hasCorner x1 wc1 (fun r9 wc9 => ((¬ r9 = 0 → (vp_in x1 31 ∧ (vp_in x1 31 ∧ (vp_in x1 31 ∧ (vp_in x1 31 ∧ (k_X0_faces wc9 (fun r67 wc67 => (k_X0_setFace r67 1 ((wc9 9 (x1).toNatClampNeg) + ((wc9 11 (x1).toNatClampNeg) * x2)) (if ((wc9 10 (x1).toNatClampNeg) + ((wc9 12 (x1).toNatClampNeg) * x3)) < (wc9 10 (x1).toNatClampNeg) then ((wc9 10 (x1).toNatClampNeg) + ((wc9 12 (x1).toNatClampNeg) * x3)) else (wc9 10 (x1).toNatClampNeg)) x3 wc67 (fun wc86 => (k_X0_setFace (r67 + 1) 0 ((wc9 10 (x1).toNatClampNeg) + ((wc9 12 (x1).toNatClampNeg) * x3)) (if ((wc9 9 (x1).toNatClampNeg) + ((wc9 11 (x1).toNatClampNeg) * x2)) < (wc9 9 (x1).toNatClampNeg) then ((wc9 9 (x1).toNatClampNeg) + ((wc9 11 (x1).toNatClampNeg) * x2)) else (wc9 9 (x1).toNatClampNeg)) x2 wc86 (fun wc105 => (k_X0_corners wc105 (fun r109 wc109 => (k_X0_setCorner r109 ((wc9 9 (x1).toNatClampNeg) + ((wc9 11 (x1).toNatClampNeg) * x2)) (wc9 10 (x1).toNatClampNeg) (-(wc9 11 (x1).toNatClampNeg)) (wc9 12 (x1).toNatClampNeg) wc109 (fun wc126 => (k_X0_setCorner (r109 + 1) ((wc9 9 (x1).toNatClampNeg) + ((wc9 11 (x1).toNatClampNeg) * x2)) (wc9 10 (x1).toNatClampNeg) (wc9 11 (x1).toNatClampNeg) (wc9 12 (x1).toNatClampNeg) wc126 (fun wc142 => (k_X0_setCorner (r109 + 2) (wc9 9 (x1).toNatClampNeg) ((wc9 10 (x1).toNatClampNeg) + ((wc9 12 (x1).toNatClampNeg) * x3)) (wc9 11 (x1).toNatClampNeg) (-(wc9 12 (x1).toNatClampNeg)) wc142 (fun wc159 => (k_X0_setCorner (r109 + 3) (wc9 9 (x1).toNatClampNeg) ((wc9 10 (x1).toNatClampNeg) + ((wc9 12 (x1).toNatClampNeg) * x3)) (wc9 11 (x1).toNatClampNeg) (wc9 12 (x1).toNatClampNeg) wc159 (fun wc175 => (k_X0_setCorner (r109 + 4) ((wc9 9 (x1).toNatClampNeg) + ((wc9 11 (x1).toNatClampNeg) * x2)) ((wc9 10 (x1).toNatClampNeg) + ((wc9 12 (x1).toNatClampNeg) * x3)) (-(wc9 11 (x1).toNatClampNeg)) (-(wc9 12 (x1).toNatClampNeg)) wc175 (fun wc193 => (vp_in (wc193 1 0) 6 ∧ (vp_in ((up2 wc193 2 ((wc193 1 0)).toNatClampNeg x1) 1 0) 6 ∧ (vp_in ((up2 (up2 wc193 2 ((wc193 1 0)).toNatClampNeg x1) 3 (((up2 wc193 2 ((wc193 1 0)).toNatClampNeg x1) 1 0)).toNatClampNeg x2) 1 0) 6 ∧ (k_X0_draw r67 (up2 (up2 (up2 (up2 wc193 2 ((wc193 1 0)).toNatClampNeg x1) 3 (((up2 wc193 2 ((wc193 1 0)).toNatClampNeg x1) 1 0)).toNatClampNeg x2) 4 (((up2 (up2 wc193 2 ((wc193 1 0)).toNatClampNeg x1) 3 (((up2 wc193 2 ((wc193 1 0)).toNatClampNeg x1) 1 0)).toNatClampNeg x2) 1 0)).toNatClampNeg x3) 1 0 (((up2 (up2 (up2 wc193 2 ((wc193 1 0)).toNatClampNeg x1) 3 (((up2 wc193 2 ((wc193 1 0)).toNatClampNeg x1) 1 0)).toNatClampNeg x2) 4 (((up2 (up2 wc193 2 ((wc193 1 0)).toNatClampNeg x1) 3 (((up2 wc193 2 ((wc193 1 0)).toNatClampNeg x1) 1 0)).toNatClampNeg x2) 1 0)).toNatClampNeg x3) 1 0) + 1)) (fun wc239 => (k_X0_draw (r67 + 1) wc239 (fun wc247 => (Q wc247))))))))))))))))))))))))))))))) ∧
 (r9 = 0 → (Q wc9)))))))))
set_option maxHeartbeats 4000000 in
set_option maxRecDepth 100000 in
theorem c_X0_addBox (l : Launch) (D : va_G) (cy cz : ClassId) (t1 t2 : Nat) (hc : Nat) (ac : Nat → Nat) (x1 : Int32) (x2 : Int32) (x3 : Int32) (wc : Wd) (Q : Wd → Prop) (hq : k_X0_addBox x1 x2 x3 wc Q) : Ct l D cy cz t1 t2 yX0_addBox cX0_addBox 12 none (rM 2 51) [.ref hc, .int x1, .int x2, .int x3] (cC cy hc ac wc) (QV D (S := Wd) (fun u => Q u) (fun u => (cC cy hc ac u))) := by
  refine Ct.of (own := RX0) (by decide) rfl (Nat.le_of_ble_eq_true rfl) ?_
  intro p e s m below meth c A ls hC hW hl
  unfold k_X0_addBox at hq
  have hl : lv_has ls 12 [(0, .ref hc), (1, .int x1), (2, .int x2), (3, .int x3)] := hl
  refine lv_aload_n hC.x hC.b dX0_addBox_0 rfl (lv_at hl 0 rfl) ?_
  refine hc_goIW hC hW (hc_rV hC (c_X0_isFull l D cy cz t1 t2 hc ac wc _ hq) (hc_preW hC hW) hW 0 0 rfl rfl q_175 q_139 q_140 q_14 q_141 hd_X0_isFull ⟨rfl, rfl⟩ ⟨Nat.le_of_ble_eq_true rfl, Nat.le_of_ble_eq_true rfl⟩ rfl hl.1 rfl (Nat.le_of_ble_eq_true rfl) dX0_addBox_1 ⟨Nat.zero_le _, Nat.zero_le _⟩) (fun r1 u9 H locs hq hW => ?_)
  obtain ⟨wc1, rfl⟩ : ∃ z, z = u9 := ⟨_, rfl⟩
  try dsimp only at hq hW
  refine lv_if_ne (tgt := 15) hC.x hC.b dX0_addBox_4 (by decide) (fun hc9 => ?_) (fun hc9 => ?_)
  · replace hq := hq.1 hc9
    exact hc_vret hC (wc1) hW hq dX0_addBox_15
  · replace hq := hq.2 hc9
    refine lv_aload_n hC.x hC.b dX0_addBox_7 rfl (lv_at hl 0 rfl) ?_
    refine lv_iload_n hC.x hC.b dX0_addBox_8 rfl (lv_at hl 1 rfl) ?_
    refine hc_goIW hC hW (hc_rV hC (c_X0_hasCorner l D cy cz t1 t2 hc ac x1 wc1 _ hq) (hc_preW hC hW) hW 0 0 rfl rfl q_150 q_128 q_129 q_14 q_130 hd_X0_hasCorner ⟨rfl, rfl⟩ ⟨Nat.le_of_ble_eq_true rfl, Nat.le_of_ble_eq_true rfl⟩ rfl hl.1 rfl (Nat.le_of_ble_eq_true rfl) dX0_addBox_9 ⟨Nat.zero_le _, Nat.zero_le _⟩) (fun r9 u9 H locs hq hW => ?_)
    obtain ⟨wc9, rfl⟩ : ∃ z, z = u9 := ⟨_, rfl⟩
    try dsimp only at hq hW
    refine lv_if_ne (tgt := 16) hC.x hC.b dX0_addBox_12 (by decide) (fun hc9 => ?_) (fun hc9 => ?_)
    · replace hq := hq.1 hc9
      refine lv_aload_n hC.x hC.b dX0_addBox_16 rfl (lv_at hl 0 rfl) ?_
      refine hc_get (v := .ref (ac 9)) hC hW 0 0 9 inX0 rfl rfl (by decide) q_39 rfl dX0_addBox_17 ?_
      refine lv_iload_n hC.x hC.b dX0_addBox_20 rfl (lv_at hl 1 rfl) ?_
      refine hc_iald hC hW 8 rfl hq.1 dX0_addBox_21 ?_
      replace hq := hq.2
      refine lv_istore (lv' := [(4, .int (wc9 9 (x1).toNatClampNeg)), (0, .ref hc), (1, .int x1), (2, .int x2), (3, .int x3)]) hC.x hC.b dX0_addBox_22 hl (by decide) rfl (fun ls hl => ?_)
      refine lv_aload_n hC.x hC.b dX0_addBox_24 rfl (lv_at hl 1 rfl) ?_
      refine hc_get (v := .ref (ac 10)) hC hW 0 0 10 inX0 rfl rfl (by decide) q_40 rfl dX0_addBox_25 ?_
      refine lv_iload_n hC.x hC.b dX0_addBox_28 rfl (lv_at hl 2 rfl) ?_
      refine hc_iald hC hW 9 rfl hq.1 dX0_addBox_29 ?_
      replace hq := hq.2
      refine lv_istore (lv' := [(5, .int (wc9 10 (x1).toNatClampNeg)), (4, .int (wc9 9 (x1).toNatClampNeg)), (0, .ref hc), (1, .int x1), (2, .int x2), (3, .int x3)]) hC.x hC.b dX0_addBox_30 hl (by decide) rfl (fun ls hl => ?_)
      refine lv_aload_n hC.x hC.b dX0_addBox_32 rfl (lv_at hl 2 rfl) ?_
      refine hc_get (v := .ref (ac 11)) hC hW 0 0 11 inX0 rfl rfl (by decide) q_41 rfl dX0_addBox_33 ?_
      refine lv_iload_n hC.x hC.b dX0_addBox_36 rfl (lv_at hl 3 rfl) ?_
      refine hc_iald hC hW 10 rfl hq.1 dX0_addBox_37 ?_
      replace hq := hq.2
      refine lv_istore (lv' := [(6, .int (wc9 11 (x1).toNatClampNeg)), (5, .int (wc9 10 (x1).toNatClampNeg)), (4, .int (wc9 9 (x1).toNatClampNeg)), (0, .ref hc), (1, .int x1), (2, .int x2), (3, .int x3)]) hC.x hC.b dX0_addBox_38 hl (by decide) rfl (fun ls hl => ?_)
      refine lv_aload_n hC.x hC.b dX0_addBox_40 rfl (lv_at hl 3 rfl) ?_
      refine hc_get (v := .ref (ac 12)) hC hW 0 0 12 inX0 rfl rfl (by decide) q_42 rfl dX0_addBox_41 ?_
      refine lv_iload_n hC.x hC.b dX0_addBox_44 rfl (lv_at hl 4 rfl) ?_
      refine hc_iald hC hW 11 rfl hq.1 dX0_addBox_45 ?_
      replace hq := hq.2
      refine lv_istore (lv' := [(7, .int (wc9 12 (x1).toNatClampNeg)), (6, .int (wc9 11 (x1).toNatClampNeg)), (5, .int (wc9 10 (x1).toNatClampNeg)), (4, .int (wc9 9 (x1).toNatClampNeg)), (0, .ref hc), (1, .int x1), (2, .int x2), (3, .int x3)]) hC.x hC.b dX0_addBox_46 hl (by decide) rfl (fun ls hl => ?_)
      refine lv_iload hC.x hC.b dX0_addBox_48 (lv_at hl 3 rfl) ?_
      refine lv_iload hC.x hC.b dX0_addBox_50 (lv_at hl 1 rfl) ?_
      refine lv_iload_n hC.x hC.b dX0_addBox_52 rfl (lv_at hl 6 rfl) ?_
      refine lv_imul hC.x hC.b dX0_addBox_53 ?_
      refine lv_iadd hC.x hC.b dX0_addBox_54 ?_
      refine lv_istore (lv' := [(8, .int ((wc9 9 (x1).toNatClampNeg) + ((wc9 11 (x1).toNatClampNeg) * x2))), (7, .int (wc9 12 (x1).toNatClampNeg)), (6, .int (wc9 11 (x1).toNatClampNeg)), (5, .int (wc9 10 (x1).toNatClampNeg)), (4, .int (wc9 9 (x1).toNatClampNeg)), (0, .ref hc), (1, .int x1), (2, .int x2), (3, .int x3)]) hC.x hC.b dX0_addBox_55 hl (by decide) rfl (fun ls hl => ?_)
      refine lv_iload hC.x hC.b dX0_addBox_57 (lv_at hl 3 rfl) ?_
      refine lv_iload hC.x hC.b dX0_addBox_59 (lv_at hl 1 rfl) ?_
      refine lv_iload_n hC.x hC.b dX0_addBox_61 rfl (lv_at hl 8 rfl) ?_
      refine lv_imul hC.x hC.b dX0_addBox_62 ?_
      refine lv_iadd hC.x hC.b dX0_addBox_63 ?_
      refine lv_istore (lv' := [(9, .int ((wc9 10 (x1).toNatClampNeg) + ((wc9 12 (x1).toNatClampNeg) * x3))), (8, .int ((wc9 9 (x1).toNatClampNeg) + ((wc9 11 (x1).toNatClampNeg) * x2))), (7, .int (wc9 12 (x1).toNatClampNeg)), (6, .int (wc9 11 (x1).toNatClampNeg)), (5, .int (wc9 10 (x1).toNatClampNeg)), (4, .int (wc9 9 (x1).toNatClampNeg)), (0, .ref hc), (1, .int x1), (2, .int x2), (3, .int x3)]) hC.x hC.b dX0_addBox_64 hl (by decide) rfl (fun ls hl => ?_)
      refine lv_aload_n hC.x hC.b dX0_addBox_66 rfl (lv_at hl 6 rfl) ?_
      refine hc_goIW hC hW (hc_rV hC (c_X0_faces l D cy cz t1 t2 hc ac wc9 _ hq) (hc_preW hC hW) hW 0 0 rfl rfl q_67 q_68 q_69 q_14 q_70 hd_X0_faces ⟨rfl, rfl⟩ ⟨Nat.le_of_ble_eq_true rfl, Nat.le_of_ble_eq_true rfl⟩ rfl hl.1 rfl (Nat.le_of_ble_eq_true rfl) dX0_addBox_67 ⟨Nat.zero_le _, Nat.zero_le _⟩) (fun r67 u9 H locs hq hW => ?_)
      obtain ⟨wc67, rfl⟩ : ∃ z, z = u9 := ⟨_, rfl⟩
      try dsimp only at hq hW
      refine lv_istore (lv' := [(10, .int r67), (9, .int ((wc9 10 (x1).toNatClampNeg) + ((wc9 12 (x1).toNatClampNeg) * x3))), (8, .int ((wc9 9 (x1).toNatClampNeg) + ((wc9 11 (x1).toNatClampNeg) * x2))), (7, .int (wc9 12 (x1).toNatClampNeg)), (6, .int (wc9 11 (x1).toNatClampNeg)), (5, .int (wc9 10 (x1).toNatClampNeg)), (4, .int (wc9 9 (x1).toNatClampNeg)), (0, .ref hc), (1, .int x1), (2, .int x2), (3, .int x3)]) hC.x hC.b dX0_addBox_70 hl (by decide) rfl (fun ls hl => ?_)
      refine lv_aload_n hC.x hC.b dX0_addBox_72 rfl (lv_at hl 7 rfl) ?_
      refine lv_iload hC.x hC.b dX0_addBox_73 (lv_at hl 0 rfl) ?_
      refine lv_iconst (v := 1) hC.x hC.b dX0_addBox_75 (by decide) ?_
      refine lv_iload hC.x hC.b dX0_addBox_76 (lv_at hl 2 rfl) ?_
      refine lv_iload hC.x hC.b dX0_addBox_78 (lv_at hl 5 rfl) ?_
      refine lv_iload hC.x hC.b dX0_addBox_80 (lv_at hl 1 rfl) ?_
      refine hc_min hC hl q_164 q_165 q_166 q_167 (Nat.le_of_ble_eq_true rfl) (Nat.le_of_ble_eq_true rfl) (Nat.zero_le _) (Nat.zero_le _) dX0_addBox_82 ?_
      refine lv_iload_n hC.x hC.b dX0_addBox_85 rfl (lv_at hl 10 rfl) ?_
      refine hc_goVW hC hW (hc_rV hC (c_X0_setFace l D cy cz t1 t2 hc ac r67 1 ((wc9 9 (x1).toNatClampNeg) + ((wc9 11 (x1).toNatClampNeg) * x2)) (if ((wc9 10 (x1).toNatClampNeg) + ((wc9 12 (x1).toNatClampNeg) * x3)) < (wc9 10 (x1).toNatClampNeg) then ((wc9 10 (x1).toNatClampNeg) + ((wc9 12 (x1).toNatClampNeg) * x3)) else (wc9 10 (x1).toNatClampNeg)) x3 wc67 _ hq) (hc_preW hC hW) hW 0 0 rfl rfl q_51 q_52 q_53 q_14 q_54 hd_X0_setFace ⟨rfl, rfl⟩ ⟨Nat.le_of_ble_eq_true rfl, Nat.le_of_ble_eq_true rfl⟩ rfl hl.1 rfl (Nat.le_of_ble_eq_true rfl) dX0_addBox_86 ⟨Nat.zero_le _, Nat.zero_le _⟩) (fun u9 H locs hq hW => ?_)
      obtain ⟨wc86, rfl⟩ : ∃ z, z = u9 := ⟨_, rfl⟩
      try dsimp only at hq hW
      refine lv_aload_n hC.x hC.b dX0_addBox_89 rfl (lv_at hl 7 rfl) ?_
      refine lv_iload hC.x hC.b dX0_addBox_90 (lv_at hl 0 rfl) ?_
      refine lv_iconst (v := 1) hC.x hC.b dX0_addBox_92 (by decide) ?_
      refine lv_iadd hC.x hC.b dX0_addBox_93 ?_
      refine lv_iconst (v := 0) hC.x hC.b dX0_addBox_94 (by decide) ?_
      refine lv_iload hC.x hC.b dX0_addBox_95 (lv_at hl 1 rfl) ?_
      refine lv_iload hC.x hC.b dX0_addBox_97 (lv_at hl 6 rfl) ?_
      refine lv_iload hC.x hC.b dX0_addBox_99 (lv_at hl 2 rfl) ?_
      refine hc_min hC hl q_164 q_165 q_166 q_167 (Nat.le_of_ble_eq_true rfl) (Nat.le_of_ble_eq_true rfl) (Nat.zero_le _) (Nat.zero_le _) dX0_addBox_101 ?_
      refine lv_iload_n hC.x hC.b dX0_addBox_104 rfl (lv_at hl 9 rfl) ?_
      refine hc_goVW hC hW (hc_rV hC (c_X0_setFace l D cy cz t1 t2 hc ac (r67 + 1) 0 ((wc9 10 (x1).toNatClampNeg) + ((wc9 12 (x1).toNatClampNeg) * x3)) (if ((wc9 9 (x1).toNatClampNeg) + ((wc9 11 (x1).toNatClampNeg) * x2)) < (wc9 9 (x1).toNatClampNeg) then ((wc9 9 (x1).toNatClampNeg) + ((wc9 11 (x1).toNatClampNeg) * x2)) else (wc9 9 (x1).toNatClampNeg)) x2 wc86 _ hq) (hc_preW hC hW) hW 0 0 rfl rfl q_51 q_52 q_53 q_14 q_54 hd_X0_setFace ⟨rfl, rfl⟩ ⟨Nat.le_of_ble_eq_true rfl, Nat.le_of_ble_eq_true rfl⟩ rfl hl.1 rfl (Nat.le_of_ble_eq_true rfl) dX0_addBox_105 ⟨Nat.zero_le _, Nat.zero_le _⟩) (fun u9 H locs hq hW => ?_)
      obtain ⟨wc105, rfl⟩ : ∃ z, z = u9 := ⟨_, rfl⟩
      try dsimp only at hq hW
      refine lv_aload_n hC.x hC.b dX0_addBox_108 rfl (lv_at hl 7 rfl) ?_
      refine hc_goIW hC hW (hc_rV hC (c_X0_corners l D cy cz t1 t2 hc ac wc105 _ hq) (hc_preW hC hW) hW 0 0 rfl rfl q_131 q_132 q_133 q_14 q_134 hd_X0_corners ⟨rfl, rfl⟩ ⟨Nat.le_of_ble_eq_true rfl, Nat.le_of_ble_eq_true rfl⟩ rfl hl.1 rfl (Nat.le_of_ble_eq_true rfl) dX0_addBox_109 ⟨Nat.zero_le _, Nat.zero_le _⟩) (fun r109 u9 H locs hq hW => ?_)
      obtain ⟨wc109, rfl⟩ : ∃ z, z = u9 := ⟨_, rfl⟩
      try dsimp only at hq hW
      refine lv_istore (lv' := [(11, .int r109), (10, .int r67), (9, .int ((wc9 10 (x1).toNatClampNeg) + ((wc9 12 (x1).toNatClampNeg) * x3))), (8, .int ((wc9 9 (x1).toNatClampNeg) + ((wc9 11 (x1).toNatClampNeg) * x2))), (7, .int (wc9 12 (x1).toNatClampNeg)), (6, .int (wc9 11 (x1).toNatClampNeg)), (5, .int (wc9 10 (x1).toNatClampNeg)), (4, .int (wc9 9 (x1).toNatClampNeg)), (0, .ref hc), (1, .int x1), (2, .int x2), (3, .int x3)]) hC.x hC.b dX0_addBox_112 hl (by decide) rfl (fun ls hl => ?_)
      refine lv_aload_n hC.x hC.b dX0_addBox_114 rfl (lv_at hl 8 rfl) ?_
      refine lv_iload hC.x hC.b dX0_addBox_115 (lv_at hl 0 rfl) ?_
      refine lv_iload hC.x hC.b dX0_addBox_117 (lv_at hl 3 rfl) ?_
      refine lv_iload hC.x hC.b dX0_addBox_119 (lv_at hl 6 rfl) ?_
      refine lv_iload hC.x hC.b dX0_addBox_121 (lv_at hl 5 rfl) ?_
      refine lv_ineg hC.x hC.b dX0_addBox_123 ?_
      refine lv_iload hC.x hC.b dX0_addBox_124 (lv_at hl 4 rfl) ?_
      refine hc_goVW hC hW (hc_rV hC (c_X0_setCorner l D cy cz t1 t2 hc ac r109 ((wc9 9 (x1).toNatClampNeg) + ((wc9 11 (x1).toNatClampNeg) * x2)) (wc9 10 (x1).toNatClampNeg) (-(wc9 11 (x1).toNatClampNeg)) (wc9 12 (x1).toNatClampNeg) wc109 _ hq) (hc_preW hC hW) hW 0 0 rfl rfl q_55 q_56 q_57 q_14 q_58 hd_X0_setCorner ⟨rfl, rfl⟩ ⟨Nat.le_of_ble_eq_true rfl, Nat.le_of_ble_eq_true rfl⟩ rfl hl.1 rfl (Nat.le_of_ble_eq_true rfl) dX0_addBox_126 ⟨Nat.zero_le _, Nat.zero_le _⟩) (fun u9 H locs hq hW => ?_)
      obtain ⟨wc126, rfl⟩ : ∃ z, z = u9 := ⟨_, rfl⟩
      try dsimp only at hq hW
      refine lv_aload_n hC.x hC.b dX0_addBox_129 rfl (lv_at hl 8 rfl) ?_
      refine lv_iload hC.x hC.b dX0_addBox_130 (lv_at hl 0 rfl) ?_
      refine lv_iconst (v := 1) hC.x hC.b dX0_addBox_132 (by decide) ?_
      refine lv_iadd hC.x hC.b dX0_addBox_133 ?_
      refine lv_iload hC.x hC.b dX0_addBox_134 (lv_at hl 3 rfl) ?_
      refine lv_iload hC.x hC.b dX0_addBox_136 (lv_at hl 6 rfl) ?_
      refine lv_iload hC.x hC.b dX0_addBox_138 (lv_at hl 5 rfl) ?_
      refine lv_iload hC.x hC.b dX0_addBox_140 (lv_at hl 4 rfl) ?_
      refine hc_goVW hC hW (hc_rV hC (c_X0_setCorner l D cy cz t1 t2 hc ac (r109 + 1) ((wc9 9 (x1).toNatClampNeg) + ((wc9 11 (x1).toNatClampNeg) * x2)) (wc9 10 (x1).toNatClampNeg) (wc9 11 (x1).toNatClampNeg) (wc9 12 (x1).toNatClampNeg) wc126 _ hq) (hc_preW hC hW) hW 0 0 rfl rfl q_55 q_56 q_57 q_14 q_58 hd_X0_setCorner ⟨rfl, rfl⟩ ⟨Nat.le_of_ble_eq_true rfl, Nat.le_of_ble_eq_true rfl⟩ rfl hl.1 rfl (Nat.le_of_ble_eq_true rfl) dX0_addBox_142 ⟨Nat.zero_le _, Nat.zero_le _⟩) (fun u9 H locs hq hW => ?_)
      obtain ⟨wc142, rfl⟩ : ∃ z, z = u9 := ⟨_, rfl⟩
      try dsimp only at hq hW
      refine lv_aload_n hC.x hC.b dX0_addBox_145 rfl (lv_at hl 8 rfl) ?_
      refine lv_iload hC.x hC.b dX0_addBox_146 (lv_at hl 0 rfl) ?_
      refine lv_iconst (v := 2) hC.x hC.b dX0_addBox_148 (by decide) ?_
      refine lv_iadd hC.x hC.b dX0_addBox_149 ?_
      refine lv_iload hC.x hC.b dX0_addBox_150 (lv_at hl 7 rfl) ?_
      refine lv_iload hC.x hC.b dX0_addBox_152 (lv_at hl 2 rfl) ?_
      refine lv_iload hC.x hC.b dX0_addBox_154 (lv_at hl 5 rfl) ?_
      refine lv_iload hC.x hC.b dX0_addBox_156 (lv_at hl 4 rfl) ?_
      refine lv_ineg hC.x hC.b dX0_addBox_158 ?_
      refine hc_goVW hC hW (hc_rV hC (c_X0_setCorner l D cy cz t1 t2 hc ac (r109 + 2) (wc9 9 (x1).toNatClampNeg) ((wc9 10 (x1).toNatClampNeg) + ((wc9 12 (x1).toNatClampNeg) * x3)) (wc9 11 (x1).toNatClampNeg) (-(wc9 12 (x1).toNatClampNeg)) wc142 _ hq) (hc_preW hC hW) hW 0 0 rfl rfl q_55 q_56 q_57 q_14 q_58 hd_X0_setCorner ⟨rfl, rfl⟩ ⟨Nat.le_of_ble_eq_true rfl, Nat.le_of_ble_eq_true rfl⟩ rfl hl.1 rfl (Nat.le_of_ble_eq_true rfl) dX0_addBox_159 ⟨Nat.zero_le _, Nat.zero_le _⟩) (fun u9 H locs hq hW => ?_)
      obtain ⟨wc159, rfl⟩ : ∃ z, z = u9 := ⟨_, rfl⟩
      try dsimp only at hq hW
      refine lv_aload_n hC.x hC.b dX0_addBox_162 rfl (lv_at hl 8 rfl) ?_
      refine lv_iload hC.x hC.b dX0_addBox_163 (lv_at hl 0 rfl) ?_
      refine lv_iconst (v := 3) hC.x hC.b dX0_addBox_165 (by decide) ?_
      refine lv_iadd hC.x hC.b dX0_addBox_166 ?_
      refine lv_iload hC.x hC.b dX0_addBox_167 (lv_at hl 7 rfl) ?_
      refine lv_iload hC.x hC.b dX0_addBox_169 (lv_at hl 2 rfl) ?_
      refine lv_iload hC.x hC.b dX0_addBox_171 (lv_at hl 5 rfl) ?_
      refine lv_iload hC.x hC.b dX0_addBox_173 (lv_at hl 4 rfl) ?_
      refine hc_goVW hC hW (hc_rV hC (c_X0_setCorner l D cy cz t1 t2 hc ac (r109 + 3) (wc9 9 (x1).toNatClampNeg) ((wc9 10 (x1).toNatClampNeg) + ((wc9 12 (x1).toNatClampNeg) * x3)) (wc9 11 (x1).toNatClampNeg) (wc9 12 (x1).toNatClampNeg) wc159 _ hq) (hc_preW hC hW) hW 0 0 rfl rfl q_55 q_56 q_57 q_14 q_58 hd_X0_setCorner ⟨rfl, rfl⟩ ⟨Nat.le_of_ble_eq_true rfl, Nat.le_of_ble_eq_true rfl⟩ rfl hl.1 rfl (Nat.le_of_ble_eq_true rfl) dX0_addBox_175 ⟨Nat.zero_le _, Nat.zero_le _⟩) (fun u9 H locs hq hW => ?_)
      obtain ⟨wc175, rfl⟩ : ∃ z, z = u9 := ⟨_, rfl⟩
      try dsimp only at hq hW
      refine lv_aload_n hC.x hC.b dX0_addBox_178 rfl (lv_at hl 8 rfl) ?_
      refine lv_iload hC.x hC.b dX0_addBox_179 (lv_at hl 0 rfl) ?_
      refine lv_iconst (v := 4) hC.x hC.b dX0_addBox_181 (by decide) ?_
      refine lv_iadd hC.x hC.b dX0_addBox_182 ?_
      refine lv_iload hC.x hC.b dX0_addBox_183 (lv_at hl 3 rfl) ?_
      refine lv_iload hC.x hC.b dX0_addBox_185 (lv_at hl 2 rfl) ?_
      refine lv_iload hC.x hC.b dX0_addBox_187 (lv_at hl 5 rfl) ?_
      refine lv_ineg hC.x hC.b dX0_addBox_189 ?_
      refine lv_iload hC.x hC.b dX0_addBox_190 (lv_at hl 4 rfl) ?_
      refine lv_ineg hC.x hC.b dX0_addBox_192 ?_
      refine hc_goVW hC hW (hc_rV hC (c_X0_setCorner l D cy cz t1 t2 hc ac (r109 + 4) ((wc9 9 (x1).toNatClampNeg) + ((wc9 11 (x1).toNatClampNeg) * x2)) ((wc9 10 (x1).toNatClampNeg) + ((wc9 12 (x1).toNatClampNeg) * x3)) (-(wc9 11 (x1).toNatClampNeg)) (-(wc9 12 (x1).toNatClampNeg)) wc175 _ hq) (hc_preW hC hW) hW 0 0 rfl rfl q_55 q_56 q_57 q_14 q_58 hd_X0_setCorner ⟨rfl, rfl⟩ ⟨Nat.le_of_ble_eq_true rfl, Nat.le_of_ble_eq_true rfl⟩ rfl hl.1 rfl (Nat.le_of_ble_eq_true rfl) dX0_addBox_193 ⟨Nat.zero_le _, Nat.zero_le _⟩) (fun u9 H locs hq hW => ?_)
      obtain ⟨wc193, rfl⟩ : ∃ z, z = u9 := ⟨_, rfl⟩
      try dsimp only at hq hW
      refine lv_aload_n hC.x hC.b dX0_addBox_196 rfl (lv_at hl 8 rfl) ?_
      refine hc_get (v := .ref (ac 2)) hC hW 0 0 2 inX0 rfl rfl (by decide) q_32 rfl dX0_addBox_197 ?_
      refine lv_aload_n hC.x hC.b dX0_addBox_200 rfl (lv_at hl 8 rfl) ?_
      refine hc_get (v := .int (wc193 1 0)) hC hW 0 0 1 inX0 rfl rfl (by decide) q_50 rfl dX0_addBox_201 ?_
      refine lv_iload_n hC.x hC.b dX0_addBox_204 rfl (lv_at hl 9 rfl) ?_
      refine hc_iast (ws' := (cC cy hc ac (up2 wc193 2 ((wc193 1 0)).toNatClampNeg x1))) hC hW 1 rfl hq.1 (cC_set_2 ..) dX0_addBox_205 (fun H locs hW => ?_)
      replace hq := hq.2
      refine lv_aload_n hC.x hC.b dX0_addBox_206 rfl (lv_at hl 8 rfl) ?_
      refine hc_get (v := .ref (ac 3)) hC hW 0 0 3 inX0 rfl rfl (by decide) q_33 rfl dX0_addBox_207 ?_
      refine lv_aload_n hC.x hC.b dX0_addBox_210 rfl (lv_at hl 8 rfl) ?_
      refine hc_get (v := .int ((up2 wc193 2 ((wc193 1 0)).toNatClampNeg x1) 1 0)) hC hW 0 0 1 inX0 rfl rfl (by decide) q_50 rfl dX0_addBox_211 ?_
      refine lv_iload_n hC.x hC.b dX0_addBox_214 rfl (lv_at hl 10 rfl) ?_
      refine hc_iast (ws' := (cC cy hc ac (up2 (up2 wc193 2 ((wc193 1 0)).toNatClampNeg x1) 3 (((up2 wc193 2 ((wc193 1 0)).toNatClampNeg x1) 1 0)).toNatClampNeg x2))) hC hW 2 rfl hq.1 (cC_set_3 ..) dX0_addBox_215 (fun H locs hW => ?_)
      replace hq := hq.2
      refine lv_aload_n hC.x hC.b dX0_addBox_216 rfl (lv_at hl 8 rfl) ?_
      refine hc_get (v := .ref (ac 4)) hC hW 0 0 4 inX0 rfl rfl (by decide) q_34 rfl dX0_addBox_217 ?_
      refine lv_aload_n hC.x hC.b dX0_addBox_220 rfl (lv_at hl 8 rfl) ?_
      refine hc_get (v := .int ((up2 (up2 wc193 2 ((wc193 1 0)).toNatClampNeg x1) 3 (((up2 wc193 2 ((wc193 1 0)).toNatClampNeg x1) 1 0)).toNatClampNeg x2) 1 0)) hC hW 0 0 1 inX0 rfl rfl (by decide) q_50 rfl dX0_addBox_221 ?_
      refine lv_iload_n hC.x hC.b dX0_addBox_224 rfl (lv_at hl 11 rfl) ?_
      refine hc_iast (ws' := (cC cy hc ac (up2 (up2 (up2 wc193 2 ((wc193 1 0)).toNatClampNeg x1) 3 (((up2 wc193 2 ((wc193 1 0)).toNatClampNeg x1) 1 0)).toNatClampNeg x2) 4 (((up2 (up2 wc193 2 ((wc193 1 0)).toNatClampNeg x1) 3 (((up2 wc193 2 ((wc193 1 0)).toNatClampNeg x1) 1 0)).toNatClampNeg x2) 1 0)).toNatClampNeg x3))) hC hW 3 rfl hq.1 (cC_set_4 ..) dX0_addBox_225 (fun H locs hW => ?_)
      replace hq := hq.2
      refine lv_aload_n hC.x hC.b dX0_addBox_226 rfl (lv_at hl 8 rfl) ?_
      refine lv_dup hC.x hC.b dX0_addBox_227 rfl ?_
      refine hc_get (v := .int ((up2 (up2 (up2 wc193 2 ((wc193 1 0)).toNatClampNeg x1) 3 (((up2 wc193 2 ((wc193 1 0)).toNatClampNeg x1) 1 0)).toNatClampNeg x2) 4 (((up2 (up2 wc193 2 ((wc193 1 0)).toNatClampNeg x1) 3 (((up2 wc193 2 ((wc193 1 0)).toNatClampNeg x1) 1 0)).toNatClampNeg x2) 1 0)).toNatClampNeg x3) 1 0)) hC hW 0 0 1 inX0 rfl rfl (by decide) q_50 rfl dX0_addBox_228 ?_
      refine lv_iconst (v := 1) hC.x hC.b dX0_addBox_231 (by decide) ?_
      refine lv_iadd hC.x hC.b dX0_addBox_232 ?_
      refine hc_put (ws' := (cC cy hc ac (up2 (up2 (up2 (up2 wc193 2 ((wc193 1 0)).toNatClampNeg x1) 3 (((up2 wc193 2 ((wc193 1 0)).toNatClampNeg x1) 1 0)).toNatClampNeg x2) 4 (((up2 (up2 wc193 2 ((wc193 1 0)).toNatClampNeg x1) 3 (((up2 wc193 2 ((wc193 1 0)).toNatClampNeg x1) 1 0)).toNatClampNeg x2) 1 0)).toNatClampNeg x3) 1 0 (((up2 (up2 (up2 wc193 2 ((wc193 1 0)).toNatClampNeg x1) 3 (((up2 wc193 2 ((wc193 1 0)).toNatClampNeg x1) 1 0)).toNatClampNeg x2) 4 (((up2 (up2 wc193 2 ((wc193 1 0)).toNatClampNeg x1) 3 (((up2 wc193 2 ((wc193 1 0)).toNatClampNeg x1) 1 0)).toNatClampNeg x2) 1 0)).toNatClampNeg x3) 1 0) + 1)))) hC hW 0 0 1 inX0 tyX0 tyX0_ok nmX0 rfl rfl (by decide) q_50 rfl rfl rfl rfl (Nat.le_of_ble_eq_true rfl) (cC_put_1 ..) dX0_addBox_233 (fun H locs hW => ?_)
      refine lv_aload_n hC.x hC.b dX0_addBox_236 rfl (lv_at hl 8 rfl) ?_
      refine lv_iload hC.x hC.b dX0_addBox_237 (lv_at hl 1 rfl) ?_
      refine hc_goVW hC hW (hc_rV hC (c_X0_draw l D cy cz t1 t2 hc ac r67 (up2 (up2 (up2 (up2 wc193 2 ((wc193 1 0)).toNatClampNeg x1) 3 (((up2 wc193 2 ((wc193 1 0)).toNatClampNeg x1) 1 0)).toNatClampNeg x2) 4 (((up2 (up2 wc193 2 ((wc193 1 0)).toNatClampNeg x1) 3 (((up2 wc193 2 ((wc193 1 0)).toNatClampNeg x1) 1 0)).toNatClampNeg x2) 1 0)).toNatClampNeg x3) 1 0 (((up2 (up2 (up2 wc193 2 ((wc193 1 0)).toNatClampNeg x1) 3 (((up2 wc193 2 ((wc193 1 0)).toNatClampNeg x1) 1 0)).toNatClampNeg x2) 4 (((up2 (up2 wc193 2 ((wc193 1 0)).toNatClampNeg x1) 3 (((up2 wc193 2 ((wc193 1 0)).toNatClampNeg x1) 1 0)).toNatClampNeg x2) 1 0)).toNatClampNeg x3) 1 0) + 1)) _ hq) (hc_preW hC hW) hW 0 0 rfl rfl q_71 q_72 q_73 q_14 q_74 hd_X0_draw ⟨rfl, rfl⟩ ⟨Nat.le_of_ble_eq_true rfl, Nat.le_of_ble_eq_true rfl⟩ rfl hl.1 rfl (Nat.le_of_ble_eq_true rfl) dX0_addBox_239 ⟨Nat.zero_le _, Nat.zero_le _⟩) (fun u9 H locs hq hW => ?_)
      obtain ⟨wc239, rfl⟩ : ∃ z, z = u9 := ⟨_, rfl⟩
      try dsimp only at hq hW
      refine lv_aload_n hC.x hC.b dX0_addBox_242 rfl (lv_at hl 8 rfl) ?_
      refine lv_iload hC.x hC.b dX0_addBox_243 (lv_at hl 1 rfl) ?_
      refine lv_iconst (v := 1) hC.x hC.b dX0_addBox_245 (by decide) ?_
      refine lv_iadd hC.x hC.b dX0_addBox_246 ?_
      refine hc_goVW hC hW (hc_rV hC (c_X0_draw l D cy cz t1 t2 hc ac (r67 + 1) wc239 _ hq) (hc_preW hC hW) hW 0 0 rfl rfl q_71 q_72 q_73 q_14 q_74 hd_X0_draw ⟨rfl, rfl⟩ ⟨Nat.le_of_ble_eq_true rfl, Nat.le_of_ble_eq_true rfl⟩ rfl hl.1 rfl (Nat.le_of_ble_eq_true rfl) dX0_addBox_247 ⟨Nat.zero_le _, Nat.zero_le _⟩) (fun u9 H locs hq hW => ?_)
      obtain ⟨wc247, rfl⟩ : ∃ z, z = u9 := ⟨_, rfl⟩
      try dsimp only at hq hW
      exact hc_vret hC (wc247) hW hq dX0_addBox_250
    · replace hq := hq.2 hc9
      exact hc_vret hC (wc9) hW hq dX0_addBox_15
def k_X0_copyFrom_10 (K10 : (Int32 × Wd × Wd) → Prop) (Q : Wd → Wd → Prop) (x2 : Int32) (wc : Wd) (wo : Wd) : Prop :=
 (((wo 1 0) ≤ x2 → (Q wc wo)) ∧
 (¬ (wo 1 0) ≤ x2 → (((6 : Int32) ≤ x2 → (Q wc wo)) ∧
 (¬ (6 : Int32) ≤ x2 → (vp_in x2 6 ∧ (vp_in x2 6 ∧ (vp_in x2 6 ∧ (k_X0_addBox (wo 2 (x2).toNatClampNeg) (wo 3 (x2).toNatClampNeg) (wo 4 (x2).toNatClampNeg) wc (fun wc43 => (K10 ((x2 + 1), wc43, wo)))))))))))
set_option maxHeartbeats 4000000 in
set_option maxRecDepth 100000 in
theorem B_X0_copyFrom_10 {l : Launch} {p : Program} {e : Env} {s : State} {m : MethodId} {args : Array Value} {below : List Frame} {meth : Method} {c : Code} {A : Nat → Prop} {D : va_G} {cy cz : ClassId} {t1 t2 : Nat} (hc : Nat) (ac : Nat → Nat) (ho : Nat) (ao : Nat → Nat) (Q : Wd → Wd → Prop) (K10 : (Int32 × Wd × Wd) → Prop) (hK10 : ∀ b9 : Int32 × Wd × Wd, K10 b9 → ∀ (H : Heap) (locs : List Loc) (ls : Array Slot), Wo D A s (cC cy hc ac b9.2.1 ++ (cC cy ho ao b9.2.2)) H locs → lv_has ls 3 [(0, .ref hc), (1, .ref ho), (2, .int b9.1)] → W p l e (rM 4 93) s m args below meth c H locs 0 0 (MQ below (QV D (S := Wd × Wd) (fun u => Q u.1 u.2) (fun u => (cC cy hc ac u.1 ++ (cC cy ho ao u.2))) A) args s 0 0 A) (F0 m 10 ls [])) (hC : Cx D cy cz t1 t2 p s m args meth c cX0_copyFrom 3 none RX0 A) (x2 : Int32) (wc : Wd) (wo : Wd) {H : Heap} {locs : List Loc} {ls : Array Slot} (hq : k_X0_copyFrom_10 K10 Q x2 wc wo) (hW : Wo D A s (cC cy hc ac wc ++ (cC cy ho ao wo)) H locs) (hl : lv_has ls 3 [(0, .ref hc), (1, .ref ho), (2, .int x2)]) : W p l e (rM 4 93) s m args below meth c H locs 0 0 (MQ below (QV D (S := Wd × Wd) (fun u => Q u.1 u.2) (fun u => (cC cy hc ac u.1 ++ (cC cy ho ao u.2))) A) args s 0 0 A) (F0 m 10 ls []) := by
  unfold k_X0_copyFrom_10 at hq
  refine lv_iload_n hC.x hC.b dX0_copyFrom_10 rfl (lv_at hl 2 rfl) ?_
  refine lv_aload_n hC.x hC.b dX0_copyFrom_11 rfl (lv_at hl 1 rfl) ?_
  refine hc_get (v := .int (wo 1 0)) hC hW 14 0 1 inX0 rfl rfl (by decide) q_50 rfl dX0_copyFrom_12 ?_
  refine lv_icmp_ge (tgt := 52) hC.x hC.b dX0_copyFrom_15 (by decide) (fun hc9 => ?_) (fun hc9 => ?_)
  · replace hq := hq.1 hc9
    exact hc_vret hC (wc, wo) hW hq dX0_copyFrom_52
  · replace hq := hq.2 hc9
    refine lv_iload_n hC.x hC.b dX0_copyFrom_18 rfl (lv_at hl 2 rfl) ?_
    refine lv_bipush (v := 6) hC.x hC.b dX0_copyFrom_19 (by decide) ?_
    refine lv_icmp_ge (tgt := 52) hC.x hC.b dX0_copyFrom_21 (by decide) (fun hc9 => ?_) (fun hc9 => ?_)
    · replace hq := hq.1 hc9
      exact hc_vret hC (wc, wo) hW hq dX0_copyFrom_52
    · replace hq := hq.2 hc9
      refine lv_aload_n hC.x hC.b dX0_copyFrom_24 rfl (lv_at hl 0 rfl) ?_
      refine lv_aload_n hC.x hC.b dX0_copyFrom_25 rfl (lv_at hl 1 rfl) ?_
      refine hc_get (v := .ref (ao 2)) hC hW 14 0 2 inX0 rfl rfl (by decide) q_32 rfl dX0_copyFrom_26 ?_
      refine lv_iload_n hC.x hC.b dX0_copyFrom_29 rfl (lv_at hl 2 rfl) ?_
      refine hc_iald hC hW 15 rfl hq.1 dX0_copyFrom_30 ?_
      replace hq := hq.2
      refine lv_aload_n hC.x hC.b dX0_copyFrom_31 rfl (lv_at hl 1 rfl) ?_
      refine hc_get (v := .ref (ao 3)) hC hW 14 0 3 inX0 rfl rfl (by decide) q_33 rfl dX0_copyFrom_32 ?_
      refine lv_iload_n hC.x hC.b dX0_copyFrom_35 rfl (lv_at hl 2 rfl) ?_
      refine hc_iald hC hW 16 rfl hq.1 dX0_copyFrom_36 ?_
      replace hq := hq.2
      refine lv_aload_n hC.x hC.b dX0_copyFrom_37 rfl (lv_at hl 1 rfl) ?_
      refine hc_get (v := .ref (ao 4)) hC hW 14 0 4 inX0 rfl rfl (by decide) q_34 rfl dX0_copyFrom_38 ?_
      refine lv_iload_n hC.x hC.b dX0_copyFrom_41 rfl (lv_at hl 2 rfl) ?_
      refine hc_iald hC hW 17 rfl hq.1 dX0_copyFrom_42 ?_
      replace hq := hq.2
      refine hc_goV hC hW (hc_rV hC (c_X0_addBox l D cy cz t1 t2 hc ac (wo 2 (x2).toNatClampNeg) (wo 3 (x2).toNatClampNeg) (wo 4 (x2).toNatClampNeg) wc _ hq) (hc_preS hC hW [0, 1, 2, 3, 4, 5, 6, 7, 8, 9, 10, 11, 12, 13] rfl rfl) hW 0 0 rfl rfl q_532 q_172 q_173 q_14 q_174 hd_X0_addBox ⟨rfl, rfl⟩ ⟨Nat.le_of_ble_eq_true rfl, Nat.le_of_ble_eq_true rfl⟩ rfl hl.1 rfl (Nat.le_of_ble_eq_true rfl) dX0_copyFrom_43 ⟨Nat.zero_le _, Nat.zero_le _⟩) [0, 1, 2, 3, 4, 5, 6, 7, 8, 9, 10, 11, 12, 13] [14, 15, 16, 17, 18, 19, 20, 21, 22, 23, 24, 25, 26, 27] [14, 15, 16, 17, 18, 19, 20, 21, 22, 23, 24, 25, 26, 27, 0, 1, 2, 3, 4, 5, 6, 7, 8, 9, 10, 11, 12, 13] (cC cy ho ao wo) (fun u => (cC cy hc ac u ++ (cC cy ho ao wo))) rfl rfl (by decide) (by decide) (by decide) (fun u => rfl) (fun u9 H locs hq hW => ?_)
      obtain ⟨wc43, rfl⟩ : ∃ z, z = u9 := ⟨_, rfl⟩
      try dsimp only at hq hW
      refine lv_iinc (v := (x2 + 1)) (lv' := [(2, .int (x2 + 1)), (0, .ref hc), (1, .ref ho)]) hC.x hC.b dX0_copyFrom_46 hl (k := 2) rfl rfl (by decide) rfl (fun ls hl => ?_)
      refine lv_goto (tgt := 10) hC.x hC.b dX0_copyFrom_49 (by decide) ?_
      exact hK10 ((x2 + 1), wc43, wo) hq _ _ _ hW (lv_sub hl [1, 2, 0] rfl)
def k_X0_copyFrom  (wc : Wd) (wo : Wd) (Q : Wd → Wd → Prop) : Prop :=
 (k_X0_begin (wo 0 0) wc (fun wc5 => (∃ n : Nat, lpf (fun (K : (Int32 × Wd × Wd) → Prop) (u : Int32 × Wd × Wd) => k_X0_copyFrom_10  K Q u.1 u.2.1 u.2.2) n (0, wc5, wo))))
set_option maxHeartbeats 4000000 in
set_option maxRecDepth 100000 in
theorem c_X0_copyFrom (l : Launch) (D : va_G) (cy cz : ClassId) (t1 t2 : Nat) (hc : Nat) (ac : Nat → Nat) (ho : Nat) (ao : Nat → Nat)  (wc : Wd) (wo : Wd) (Q : Wd → Wd → Prop) (hq : k_X0_copyFrom wc wo Q) : Ct l D cy cz t1 t2 yX0_copyFrom cX0_copyFrom 3 none (rM 4 93) [.ref hc, .ref ho] (cC cy hc ac wc ++ (cC cy ho ao wo)) (QV D (S := Wd × Wd) (fun u => Q u.1 u.2) (fun u => (cC cy hc ac u.1 ++ (cC cy ho ao u.2)))) := by
  refine Ct.of (own := RX0) (by decide) rfl (Nat.le_of_ble_eq_true rfl) ?_
  intro p e s m below meth c A ls hC hW hl
  unfold k_X0_copyFrom at hq
  have hl : lv_has ls 3 [(0, .ref hc), (1, .ref ho)] := hl
  refine lv_aload_n hC.x hC.b dX0_copyFrom_0 rfl (lv_at hl 0 rfl) ?_
  refine lv_aload_n hC.x hC.b dX0_copyFrom_1 rfl (lv_at hl 1 rfl) ?_
  refine hc_get (v := .int (wo 0 0)) hC hW 14 0 0 inX0 rfl rfl (by decide) q_49 rfl dX0_copyFrom_2 ?_
  refine hc_goV hC hW (hc_rV hC (c_X0_begin l D cy cz t1 t2 hc ac (wo 0 0) wc _ hq) (hc_preS hC hW [0, 1, 2, 3, 4, 5, 6, 7, 8, 9, 10, 11, 12, 13] rfl rfl) hW 0 0 rfl rfl q_45 q_46 q_47 q_14 q_48 hd_X0_begin ⟨rfl, rfl⟩ ⟨Nat.le_of_ble_eq_true rfl, Nat.le_of_ble_eq_true rfl⟩ rfl hl.1 rfl (Nat.le_of_ble_eq_true rfl) dX0_copyFrom_5 ⟨Nat.zero_le _, Nat.zero_le _⟩) [0, 1, 2, 3, 4, 5, 6, 7, 8, 9, 10, 11, 12, 13] [14, 15, 16, 17, 18, 19, 20, 21, 22, 23, 24, 25, 26, 27] [14, 15, 16, 17, 18, 19, 20, 21, 22, 23, 24, 25, 26, 27, 0, 1, 2, 3, 4, 5, 6, 7, 8, 9, 10, 11, 12, 13] (cC cy ho ao wo) (fun u => (cC cy hc ac u ++ (cC cy ho ao wo))) rfl rfl (by decide) (by decide) (by decide) (fun u => rfl) (fun u9 H locs hq hW => ?_)
  obtain ⟨wc5, rfl⟩ : ∃ z, z = u9 := ⟨_, rfl⟩
  try dsimp only at hq hW
  refine lv_iconst (v := 0) hC.x hC.b dX0_copyFrom_8 (by decide) ?_
  refine lv_istore_n (lv' := [(2, .int 0), (0, .ref hc), (1, .ref ho)]) hC.x hC.b dX0_copyFrom_9 rfl hl (by decide) rfl (fun ls hl => ?_)
  obtain ⟨n9, hq⟩ := hq
  exact lpf_use (G := (fun (u : Int32 × Wd × Wd) => ∀ (H : Heap) (locs : List Loc) (ls : Array Slot), Wo D A s (cC cy hc ac u.2.1 ++ (cC cy ho ao u.2.2)) H locs → lv_has ls 3 [(0, .ref hc), (1, .ref ho), (2, .int u.1)] → W p l e (rM 4 93) s m _ below meth c H locs 0 0 (MQ below (QV D (S := Wd × Wd) (fun u => Q u.1 u.2) (fun u => (cC cy hc ac u.1 ++ (cC cy ho ao u.2))) A) _ s 0 0 A) (F0 m 10 ls []))) (fun K hK u hq H locs ls hW hl => B_X0_copyFrom_10 hc ac ho ao Q  K hK hC u.1 u.2.1 u.2.2 hq hW hl) n9 _ hq _ _ _ hW (lv_sub hl [1, 2, 0] rfl)
def k_X0_hasFace (x1 : Int32) (wc : Wd) (Q : Int32 → Wd → Prop) : Prop :=
 ((x1 < 0 → (Q 0 wc)) ∧
 (¬ x1 < 0 → (k_X0_faces wc (fun r6 wc6 => ((r6 ≤ x1 → (Q 0 wc6)) ∧
 (¬ r6 ≤ x1 → (((14 : Int32) ≤ x1 → (Q 0 wc6)) ∧
 (¬ (14 : Int32) ≤ x1 → (Q 1 wc6)))))))))
set_option maxHeartbeats 4000000 in
set_option maxRecDepth 100000 in
theorem c_X0_hasFace (l : Launch) (D : va_G) (cy cz : ClassId) (t1 t2 : Nat) (hc : Nat) (ac : Nat → Nat) (x1 : Int32) (wc : Wd) (Q : Int32 → Wd → Prop) (hq : k_X0_hasFace x1 wc Q) : Ct l D cy cz t1 t2 yX0_hasFace cX0_hasFace 2 (some .boolean) (rM 1 20) [.ref hc, .int x1] (cC cy hc ac wc) (QI D (S := Wd) (fun r u => Q r u) (fun u => (cC cy hc ac u))) := by
  refine Ct.of (own := RX0) (by decide) rfl (Nat.le_of_ble_eq_true rfl) ?_
  intro p e s m below meth c A ls hC hW hl
  unfold k_X0_hasFace at hq
  have hl : lv_has ls 2 [(0, .ref hc), (1, .int x1)] := hl
  refine lv_iload_n hC.x hC.b dX0_hasFace_0 rfl (lv_at hl 1 rfl) ?_
  refine lv_if_lt (tgt := 22) hC.x hC.b dX0_hasFace_1 (by decide) (fun hc9 => ?_) (fun hc9 => ?_)
  · replace hq := hq.1 hc9
    refine lv_iconst (v := 0) hC.x hC.b dX0_hasFace_22 (by decide) ?_
    exact hc_zret hC (wc) hW rfl hq dX0_hasFace_23
  · replace hq := hq.2 hc9
    refine lv_iload_n hC.x hC.b dX0_hasFace_4 rfl (lv_at hl 1 rfl) ?_
    refine lv_aload_n hC.x hC.b dX0_hasFace_5 rfl (lv_at hl 0 rfl) ?_
    refine hc_goIW hC hW (hc_rV hC (c_X0_faces l D cy cz t1 t2 hc ac wc _ hq) (hc_preW hC hW) hW 0 0 rfl rfl q_67 q_68 q_69 q_14 q_70 hd_X0_faces ⟨rfl, rfl⟩ ⟨Nat.le_of_ble_eq_true rfl, Nat.le_of_ble_eq_true rfl⟩ rfl hl.1 rfl (Nat.le_of_ble_eq_true rfl) dX0_hasFace_6 ⟨Nat.zero_le _, Nat.zero_le _⟩) (fun r6 u9 H locs hq hW => ?_)
    obtain ⟨wc6, rfl⟩ : ∃ z, z = u9 := ⟨_, rfl⟩
    try dsimp only at hq hW
    refine lv_icmp_ge (tgt := 22) hC.x hC.b dX0_hasFace_9 (by decide) (fun hc9 => ?_) (fun hc9 => ?_)
    · replace hq := hq.1 hc9
      refine lv_iconst (v := 0) hC.x hC.b dX0_hasFace_22 (by decide) ?_
      exact hc_zret hC (wc6) hW rfl hq dX0_hasFace_23
    · replace hq := hq.2 hc9
      refine lv_iload_n hC.x hC.b dX0_hasFace_12 rfl (lv_at hl 1 rfl) ?_
      refine lv_bipush (v := 14) hC.x hC.b dX0_hasFace_13 (by decide) ?_
      refine lv_icmp_ge (tgt := 22) hC.x hC.b dX0_hasFace_15 (by decide) (fun hc9 => ?_) (fun hc9 => ?_)
      · replace hq := hq.1 hc9
        refine lv_iconst (v := 0) hC.x hC.b dX0_hasFace_22 (by decide) ?_
        exact hc_zret hC (wc6) hW rfl hq dX0_hasFace_23
      · replace hq := hq.2 hc9
        refine lv_iconst (v := 1) hC.x hC.b dX0_hasFace_18 (by decide) ?_
        refine lv_goto (tgt := 23) hC.x hC.b dX0_hasFace_19 (by decide) ?_
        exact hc_zret hC (wc6) hW rfl hq dX0_hasFace_23
def k_X0_dropBox  (wc : Wd) (Q : Wd → Prop) : Prop :=
 ((¬ (wc 1 0) = 0 → (k_X0_redraw (up2 wc 1 0 ((wc 1 0) - 1)) (fun wc19 => (Q wc19)))) ∧
 ((wc 1 0) = 0 → (Q wc)))
set_option maxHeartbeats 4000000 in
set_option maxRecDepth 100000 in
theorem c_X0_dropBox (l : Launch) (D : va_G) (cy cz : ClassId) (t1 t2 : Nat) (hc : Nat) (ac : Nat → Nat)  (wc : Wd) (Q : Wd → Prop) (hq : k_X0_dropBox wc Q) : Ct l D cy cz t1 t2 yX0_dropBox cX0_dropBox 1 none (rM 3 72) [.ref hc] (cC cy hc ac wc) (QV D (S := Wd) (fun u => Q u) (fun u => (cC cy hc ac u))) := by
  refine Ct.of (own := RX0) (by decide) rfl (Nat.le_of_ble_eq_true rfl) ?_
  intro p e s m below meth c A ls hC hW hl
  unfold k_X0_dropBox at hq
  have hl : lv_has ls 1 [(0, .ref hc)] := hl
  refine lv_aload_n hC.x hC.b dX0_dropBox_0 rfl (lv_at hl 0 rfl) ?_
  refine hc_get (v := .int (wc 1 0)) hC hW 0 0 1 inX0 rfl rfl (by decide) q_50 rfl dX0_dropBox_1 ?_
  refine lv_if_ne (tgt := 8) hC.x hC.b dX0_dropBox_4 (by decide) (fun hc9 => ?_) (fun hc9 => ?_)
  · replace hq := hq.1 hc9
    refine lv_aload_n hC.x hC.b dX0_dropBox_8 rfl (lv_at hl 0 rfl) ?_
    refine lv_dup hC.x hC.b dX0_dropBox_9 rfl ?_
    refine hc_get (v := .int (wc 1 0)) hC hW 0 0 1 inX0 rfl rfl (by decide) q_50 rfl dX0_dropBox_10 ?_
    refine lv_iconst (v := 1) hC.x hC.b dX0_dropBox_13 (by decide) ?_
    refine lv_isub hC.x hC.b dX0_dropBox_14 ?_
    refine hc_put (ws' := (cC cy hc ac (up2 wc 1 0 ((wc 1 0) - 1)))) hC hW 0 0 1 inX0 tyX0 tyX0_ok nmX0 rfl rfl (by decide) q_50 rfl rfl rfl rfl (Nat.le_of_ble_eq_true rfl) (cC_put_1 ..) dX0_dropBox_15 (fun H locs hW => ?_)
    refine lv_aload_n hC.x hC.b dX0_dropBox_18 rfl (lv_at hl 0 rfl) ?_
    refine hc_goVW hC hW (hc_rV hC (c_X0_redraw l D cy cz t1 t2 hc ac (up2 wc 1 0 ((wc 1 0) - 1)) _ hq) (hc_preW hC hW) hW 0 0 rfl rfl q_59 q_60 q_61 q_14 q_62 hd_X0_redraw ⟨rfl, rfl⟩ ⟨Nat.le_of_ble_eq_true rfl, Nat.le_of_ble_eq_true rfl⟩ rfl hl.1 rfl (Nat.le_of_ble_eq_true rfl) dX0_dropBox_19 ⟨Nat.zero_le _, Nat.zero_le _⟩) (fun u9 H locs hq hW => ?_)
    obtain ⟨wc19, rfl⟩ : ∃ z, z = u9 := ⟨_, rfl⟩
    try dsimp only at hq hW
    exact hc_vret hC (wc19) hW hq dX0_dropBox_22
  · replace hq := hq.2 hc9
    exact hc_vret hC (wc) hW hq dX0_dropBox_7
def k_X0_bitsOf_24  (Q : Int32 → (Nat → Int32) → Prop) (y0 : Int32) (wr : (Nat → Int32)) : Prop :=
 (((26 : Int32) ≤ y0 → (Q 0 wr)) ∧
 (¬ (26 : Int32) ≤ y0 → (vp_in y0 26 ∧ (Q (wr (y0).toNatClampNeg) wr))))
set_option maxHeartbeats 4000000 in
set_option maxRecDepth 100000 in
theorem B_X0_bitsOf_24 {l : Launch} {p : Program} {e : Env} {s : State} {m : MethodId} {args : Array Value} {below : List Frame} {meth : Method} {c : Code} {A : Nat → Prop} {D : va_G} {cy cz : ClassId} {t1 t2 : Nat} (ar : Nat) (Q : Int32 → (Nat → Int32) → Prop)  (hC : Cx D cy cz t1 t2 p s m args meth c cX0_bitsOf 4 (some .int) RX0 A) (y0 : Int32) (wr : (Nat → Int32)) {H : Heap} {locs : List Loc} {ls : Array Slot} (hq : k_X0_bitsOf_24  Q y0 wr) (hW : Wo D A s (cR cy ar wr) H locs) (hl : lv_has ls 4 [(0, .ref ar)]) : W p l e (rM 0 0) s m args below meth c H locs 0 0 (MQ below (QI D (S := (Nat → Int32)) (fun r u => Q r u) (fun u => (cR cy ar u)) A) args s 0 0 A) (F0 m 24 ls [.int y0]) := by
  unfold k_X0_bitsOf_24 at hq
  refine lv_istore_n (lv' := [(3, .int y0), (0, .ref ar)]) hC.x hC.b dX0_bitsOf_24 rfl hl (by decide) rfl (fun ls hl => ?_)
  refine lv_iload_n hC.x hC.b dX0_bitsOf_25 rfl (lv_at hl 0 rfl) ?_
  refine lv_aload_n hC.x hC.b dX0_bitsOf_26 rfl (lv_at hl 1 rfl) ?_
  refine hc_alen (v := 26) hC hW 0 rfl rfl dX0_bitsOf_27 ?_
  refine lv_icmp_ge (tgt := 37) hC.x hC.b dX0_bitsOf_28 (by decide) (fun hc9 => ?_) (fun hc9 => ?_)
  · replace hq := hq.1 hc9
    refine lv_iconst (v := 0) hC.x hC.b dX0_bitsOf_37 (by decide) ?_
    exact hc_iret hC (wr) hW hq dX0_bitsOf_38
  · replace hq := hq.2 hc9
    refine lv_aload_n hC.x hC.b dX0_bitsOf_31 rfl (lv_at hl 1 rfl) ?_
    refine lv_iload_n hC.x hC.b dX0_bitsOf_32 rfl (lv_at hl 0 rfl) ?_
    refine hc_iald hC hW 0 rfl hq.1 dX0_bitsOf_33 ?_
    replace hq := hq.2
    refine lv_goto (tgt := 38) hC.x hC.b dX0_bitsOf_34 (by decide) ?_
    exact hc_iret hC (wr) hW hq dX0_bitsOf_38
def k_X0_bitsOf (x1 : Int32) (x2 : Int32) (wr : (Nat → Int32)) (Q : Int32 → (Nat → Int32) → Prop) : Prop :=
 ((x2 < 0 → (Q 0 wr)) ∧
 (¬ x2 < 0 → ((x2 < 13 → ((¬ x1 = 0 → (k_X0_bitsOf_24  Q (13 + x2) wr)) ∧
 (x1 = 0 → (k_X0_bitsOf_24  Q x2 wr)))) ∧
 (¬ x2 < 13 → (Q 0 wr)))))
set_option maxHeartbeats 4000000 in
set_option maxRecDepth 100000 in
theorem c_X0_bitsOf (l : Launch) (D : va_G) (cy cz : ClassId) (t1 t2 : Nat) (ar : Nat) (x1 : Int32) (x2 : Int32) (wr : (Nat → Int32)) (Q : Int32 → (Nat → Int32) → Prop) (hq : k_X0_bitsOf x1 x2 wr Q) : Ct l D cy cz t1 t2 yX0_bitsOf cX0_bitsOf 4 (some .int) (rM 0 0) [.ref ar, .int x1, .int x2] (cR cy ar wr) (QI D (S := (Nat → Int32)) (fun r u => Q r u) (fun u => (cR cy ar u))) := by
  refine Ct.of (own := RX0) (by decide) rfl (Nat.le_of_ble_eq_true rfl) ?_
  intro p e s m below meth c A ls hC hW hl
  unfold k_X0_bitsOf at hq
  have hl : lv_has ls 4 [(0, .ref ar), (1, .int x1), (2, .int x2)] := hl
  refine lv_iload_n hC.x hC.b dX0_bitsOf_0 rfl (lv_at hl 2 rfl) ?_
  refine lv_if_lt (tgt := 10) hC.x hC.b dX0_bitsOf_1 (by decide) (fun hc9 => ?_) (fun hc9 => ?_)
  · replace hq := hq.1 hc9
    refine lv_iconst (v := 0) hC.x hC.b dX0_bitsOf_10 (by decide) ?_
    exact hc_iret hC (wr) hW hq dX0_bitsOf_11
  · replace hq := hq.2 hc9
    refine lv_iload_n hC.x hC.b dX0_bitsOf_4 rfl (lv_at hl 2 rfl) ?_
    refine lv_bipush (v := 13) hC.x hC.b dX0_bitsOf_5 (by decide) ?_
    refine lv_icmp_lt (tgt := 12) hC.x hC.b dX0_bitsOf_7 (by decide) (fun hc9 => ?_) (fun hc9 => ?_)
    · replace hq := hq.1 hc9
      refine lv_iload_n hC.x hC.b dX0_bitsOf_12 rfl (lv_at hl 1 rfl) ?_
      refine lv_if_ne (tgt := 20) hC.x hC.b dX0_bitsOf_13 (by decide) (fun hc9 => ?_) (fun hc9 => ?_)
      · replace hq := hq.1 hc9
        refine lv_bipush (v := 13) hC.x hC.b dX0_bitsOf_20 (by decide) ?_
        refine lv_iload_n hC.x hC.b dX0_bitsOf_22 rfl (lv_at hl 2 rfl) ?_
        refine lv_iadd hC.x hC.b dX0_bitsOf_23 ?_
        exact B_X0_bitsOf_24 ar Q  hC (13 + x2) wr hq hW (lv_sub hl [0] rfl)
      · replace hq := hq.2 hc9
        refine lv_iload_n hC.x hC.b dX0_bitsOf_16 rfl (lv_at hl 2 rfl) ?_
        refine lv_goto (tgt := 24) hC.x hC.b dX0_bitsOf_17 (by decide) ?_
        exact B_X0_bitsOf_24 ar Q  hC x2 wr hq hW (lv_sub hl [0] rfl)
    · replace hq := hq.2 hc9
      refine lv_iconst (v := 0) hC.x hC.b dX0_bitsOf_10 (by decide) ?_
      exact hc_iret hC (wr) hW hq dX0_bitsOf_11
def k_X3_isWithin (x0 : Int32) (x1 : Int32) (x2 : Int32)  (Q : Int32 → Prop) : Prop :=
 ((x0 < x1 → (Q 0)) ∧
 (¬ x0 < x1 → ((x2 < x0 → (Q 0)) ∧
 (¬ x2 < x0 → (Q 1)))))
set_option maxHeartbeats 4000000 in
set_option maxRecDepth 100000 in
theorem c_X3_isWithin (l : Launch) (D : va_G) (cy cz : ClassId) (t1 t2 : Nat)  (x0 : Int32) (x1 : Int32) (x2 : Int32)  (Q : Int32 → Prop) (hq : k_X3_isWithin x0 x1 x2 Q) : Ct l D cy cz t1 t2 yX3_isWithin cX3_isWithin 3 (some .boolean) (rM 0 0) [.int x0, .int x1, .int x2] ([] : va_W) (QI D (S := Unit) (fun r u => Q r ) (fun _ => ([] : va_W))) := by
  refine Ct.of (own := RX3) (by decide) rfl (Nat.le_of_ble_eq_true rfl) ?_
  intro p e s m below meth c A ls hC hW hl
  unfold k_X3_isWithin at hq
  have hl : lv_has ls 3 [(0, .int x0), (1, .int x1), (2, .int x2)] := hl
  refine lv_iload_n hC.x hC.b dX3_isWithin_0 rfl (lv_at hl 0 rfl) ?_
  refine lv_iload_n hC.x hC.b dX3_isWithin_1 rfl (lv_at hl 1 rfl) ?_
  refine lv_icmp_lt (tgt := 14) hC.x hC.b dX3_isWithin_2 (by decide) (fun hc9 => ?_) (fun hc9 => ?_)
  · replace hq := hq.1 hc9
    refine lv_iconst (v := 0) hC.x hC.b dX3_isWithin_14 (by decide) ?_
    exact hc_zret hC () hW rfl hq dX3_isWithin_15
  · replace hq := hq.2 hc9
    refine lv_iload_n hC.x hC.b dX3_isWithin_5 rfl (lv_at hl 0 rfl) ?_
    refine lv_iload_n hC.x hC.b dX3_isWithin_6 rfl (lv_at hl 2 rfl) ?_
    refine lv_icmp_gt (tgt := 14) hC.x hC.b dX3_isWithin_7 (by decide) (fun hc9 => ?_) (fun hc9 => ?_)
    · replace hq := hq.1 hc9
      refine lv_iconst (v := 0) hC.x hC.b dX3_isWithin_14 (by decide) ?_
      exact hc_zret hC () hW rfl hq dX3_isWithin_15
    · replace hq := hq.2 hc9
      refine lv_iconst (v := 1) hC.x hC.b dX3_isWithin_10 (by decide) ?_
      refine lv_goto (tgt := 15) hC.x hC.b dX3_isWithin_11 (by decide) ?_
      exact hc_zret hC () hW rfl hq dX3_isWithin_15
def k_X3_isBit (x0 : Int32) (x1 : Int32)  (Q : Int32 → Prop) : Prop :=
 (k_X3_isWithin x1 0 31 (fun r4 => ((r4 = 0 → (Q 0)) ∧
 (¬ r4 = 0 → ((¬ (((x0).toUInt32 >>> ((x1).toUInt32 &&& Int32.toUInt32 31)).toInt32 &&& 1) = 1 → (Q 0)) ∧
 ((((x0).toUInt32 >>> ((x1).toUInt32 &&& Int32.toUInt32 31)).toInt32 &&& 1) = 1 → (Q 1)))))))
set_option maxHeartbeats 4000000 in
set_option maxRecDepth 100000 in
theorem c_X3_isBit (l : Launch) (D : va_G) (cy cz : ClassId) (t1 t2 : Nat)  (x0 : Int32) (x1 : Int32)  (Q : Int32 → Prop) (hq : k_X3_isBit x0 x1 Q) : Ct l D cy cz t1 t2 yX3_isBit cX3_isBit 2 (some .boolean) (rM 1 22) [.int x0, .int x1] ([] : va_W) (QI D (S := Unit) (fun r u => Q r ) (fun _ => ([] : va_W))) := by
  refine Ct.of (own := RX3) (by decide) rfl (Nat.le_of_ble_eq_true rfl) ?_
  intro p e s m below meth c A ls hC hW hl
  unfold k_X3_isBit at hq
  have hl : lv_has ls 2 [(0, .int x0), (1, .int x1)] := hl
  refine lv_iload_n hC.x hC.b dX3_isBit_0 rfl (lv_at hl 1 rfl) ?_
  refine lv_iconst (v := 0) hC.x hC.b dX3_isBit_1 (by decide) ?_
  refine lv_bipush (v := 31) hC.x hC.b dX3_isBit_2 (by decide) ?_
  refine hc_goP hC hW (hc_rS hC (c_X3_isWithin l D cy cz t1 t2 x1 0 31 _ hq) (hc_preP hC hW) q_112 q_113 q_2 q_114 hd_X3_isWithin ⟨rfl, rfl⟩ ⟨Nat.le_of_ble_eq_true rfl, Nat.le_of_ble_eq_true rfl⟩ rfl hl.1 rfl (Nat.le_of_ble_eq_true rfl) dX3_isBit_4 ⟨Nat.zero_le _, Nat.zero_le _⟩) (fun r4 H locs hq hW => ?_)
  try dsimp only at hq
  refine lv_if_eq (tgt := 23) hC.x hC.b dX3_isBit_7 (by decide) (fun hc9 => ?_) (fun hc9 => ?_)
  · replace hq := hq.1 hc9
    refine lv_iconst (v := 0) hC.x hC.b dX3_isBit_23 (by decide) ?_
    exact hc_zret hC () hW rfl hq dX3_isBit_24
  · replace hq := hq.2 hc9
    refine lv_iload_n hC.x hC.b dX3_isBit_10 rfl (lv_at hl 0 rfl) ?_
    refine lv_iload_n hC.x hC.b dX3_isBit_11 rfl (lv_at hl 1 rfl) ?_
    refine lv_iushr (v := ((x0).toUInt32 >>> ((x1).toUInt32 &&& Int32.toUInt32 31)).toInt32) hC.x hC.b dX3_isBit_12 rfl ?_
    refine lv_iconst (v := 1) hC.x hC.b dX3_isBit_13 (by decide) ?_
    refine lv_iand hC.x hC.b dX3_isBit_14 ?_
    refine lv_iconst (v := 1) hC.x hC.b dX3_isBit_15 (by decide) ?_
    refine lv_icmp_ne (tgt := 23) hC.x hC.b dX3_isBit_16 (by decide) (fun hc9 => ?_) (fun hc9 => ?_)
    · replace hq := hq.1 hc9
      refine lv_iconst (v := 0) hC.x hC.b dX3_isBit_23 (by decide) ?_
      exact hc_zret hC () hW rfl hq dX3_isBit_24
    · replace hq := hq.2 hc9
      refine lv_iconst (v := 1) hC.x hC.b dX3_isBit_19 (by decide) ?_
      refine lv_goto (tgt := 24) hC.x hC.b dX3_isBit_20 (by decide) ?_
      exact hc_zret hC () hW rfl hq dX3_isBit_24
def k_X0_reach_110 (K110 : (Int32 × Int32 × Int32 × Int32 × Wd) → Prop) (Q : Int32 → Wd → Prop) (x5 : Int32) (x6 : Int32) (x7 : Int32) (x8 : Int32) (wc : Wd) : Prop :=
 (((12 : Int32) ≤ x8 → (Q 12 wc)) ∧
 (¬ (12 : Int32) ≤ x8 → (k_X3_isBit x6 (x7 + (x5 * x8)) (fun r127 => ((¬ r127 = 0 → (K110 (x5, x6, x7, (x8 + 1), wc))) ∧
 (r127 = 0 → (Q x8 wc)))))))
set_option maxHeartbeats 4000000 in
set_option maxRecDepth 100000 in
theorem B_X0_reach_110 {l : Launch} {p : Program} {e : Env} {s : State} {m : MethodId} {args : Array Value} {below : List Frame} {meth : Method} {c : Code} {A : Nat → Prop} {D : va_G} {cy cz : ClassId} {t1 t2 : Nat} (hc : Nat) (ac : Nat → Nat) (Q : Int32 → Wd → Prop) (K110 : (Int32 × Int32 × Int32 × Int32 × Wd) → Prop) (hK110 : ∀ b9 : Int32 × Int32 × Int32 × Int32 × Wd, K110 b9 → ∀ (H : Heap) (locs : List Loc) (ls : Array Slot), Wo D A s (cC cy hc ac b9.2.2.2.2) H locs → lv_has ls 9 [(5, .int b9.1), (6, .int b9.2.1), (7, .int b9.2.2.1), (8, .int b9.2.2.2.1)] → W p l e (rM 2 43) s m args below meth c H locs 0 0 (MQ below (QI D (S := Wd) (fun r u => Q r u) (fun u => (cC cy hc ac u)) A) args s 0 0 A) (F0 m 110 ls [])) (hC : Cx D cy cz t1 t2 p s m args meth c cX0_reach 9 (some .int) RX0 A) (x5 : Int32) (x6 : Int32) (x7 : Int32) (x8 : Int32) (wc : Wd) {H : Heap} {locs : List Loc} {ls : Array Slot} (hq : k_X0_reach_110 K110 Q x5 x6 x7 x8 wc) (hW : Wo D A s (cC cy hc ac wc) H locs) (hl : lv_has ls 9 [(5, .int x5), (6, .int x6), (7, .int x7), (8, .int x8)]) : W p l e (rM 2 43) s m args below meth c H locs 0 0 (MQ below (QI D (S := Wd) (fun r u => Q r u) (fun u => (cC cy hc ac u)) A) args s 0 0 A) (F0 m 110 ls []) := by
  unfold k_X0_reach_110 at hq
  refine lv_iload hC.x hC.b dX0_reach_110 (lv_at hl 3 rfl) ?_
  refine lv_bipush (v := 12) hC.x hC.b dX0_reach_112 (by decide) ?_
  refine lv_icmp_ge (tgt := 142) hC.x hC.b dX0_reach_114 (by decide) (fun hc9 => ?_) (fun hc9 => ?_)
  · replace hq := hq.1 hc9
    refine lv_bipush (v := 12) hC.x hC.b dX0_reach_142 (by decide) ?_
    exact hc_iret hC (wc) hW hq dX0_reach_144
  · replace hq := hq.2 hc9
    refine lv_iload hC.x hC.b dX0_reach_117 (lv_at hl 1 rfl) ?_
    refine lv_iload hC.x hC.b dX0_reach_119 (lv_at hl 2 rfl) ?_
    refine lv_iload hC.x hC.b dX0_reach_121 (lv_at hl 0 rfl) ?_
    refine lv_iload hC.x hC.b dX0_reach_123 (lv_at hl 3 rfl) ?_
    refine lv_imul hC.x hC.b dX0_reach_125 ?_
    refine lv_iadd hC.x hC.b dX0_reach_126 ?_
    refine hc_goP hC hW (hc_rN hC (c_X3_isBit l D cy cz t1 t2 x6 (x7 + (x5 * x8)) _ hq) (hc_preP hC hW) hC.en.1.2.2.1 q_154 q_2 q_155 hd_X3_isBit ⟨rfl, rfl⟩ ⟨Nat.le_of_ble_eq_true rfl, Nat.le_of_ble_eq_true rfl⟩ rfl hl.1 rfl (Nat.le_of_ble_eq_true rfl) dX0_reach_127 ⟨Nat.zero_le _, Nat.zero_le _⟩) (fun r127 H locs hq hW => ?_)
    try dsimp only at hq
    refine lv_if_ne (tgt := 136) hC.x hC.b dX0_reach_130 (by decide) (fun hc9 => ?_) (fun hc9 => ?_)
    · replace hq := hq.1 hc9
      refine lv_iinc (v := (x8 + 1)) (lv' := [(8, .int (x8 + 1)), (5, .int x5), (6, .int x6), (7, .int x7)]) hC.x hC.b dX0_reach_136 hl (k := 3) rfl rfl (by decide) rfl (fun ls hl => ?_)
      refine lv_goto (tgt := 110) hC.x hC.b dX0_reach_139 (by decide) ?_
      exact hK110 (x5, x6, x7, (x8 + 1), wc) hq _ _ _ hW (lv_sub hl [1, 2, 3, 0] rfl)
    · replace hq := hq.2 hc9
      refine lv_iload hC.x hC.b dX0_reach_133 (lv_at hl 3 rfl) ?_
      exact hc_iret hC (wc) hW hq dX0_reach_135
def k_X0_reach_105  (Q : Int32 → Wd → Prop) (x5 : Int32) (x6 : Int32) (y0 : Int32) (wc : Wd) : Prop :=
 (∃ n : Nat, lpf (fun (K : (Int32 × Int32 × Int32 × Int32 × Wd) → Prop) (u : Int32 × Int32 × Int32 × Int32 × Wd) => k_X0_reach_110  K Q u.1 u.2.1 u.2.2.1 u.2.2.2.1 u.2.2.2.2) n (x5, x6, y0, 0, wc))
set_option maxHeartbeats 4000000 in
set_option maxRecDepth 100000 in
theorem B_X0_reach_105 {l : Launch} {p : Program} {e : Env} {s : State} {m : MethodId} {args : Array Value} {below : List Frame} {meth : Method} {c : Code} {A : Nat → Prop} {D : va_G} {cy cz : ClassId} {t1 t2 : Nat} (hc : Nat) (ac : Nat → Nat) (Q : Int32 → Wd → Prop)  (hC : Cx D cy cz t1 t2 p s m args meth c cX0_reach 9 (some .int) RX0 A) (x5 : Int32) (x6 : Int32) (y0 : Int32) (wc : Wd) {H : Heap} {locs : List Loc} {ls : Array Slot} (hq : k_X0_reach_105  Q x5 x6 y0 wc) (hW : Wo D A s (cC cy hc ac wc) H locs) (hl : lv_has ls 9 [(5, .int x5), (6, .int x6)]) : W p l e (rM 2 43) s m args below meth c H locs 0 0 (MQ below (QI D (S := Wd) (fun r u => Q r u) (fun u => (cC cy hc ac u)) A) args s 0 0 A) (F0 m 105 ls [.int y0]) := by
  unfold k_X0_reach_105 at hq
  refine lv_istore (lv' := [(7, .int y0), (5, .int x5), (6, .int x6)]) hC.x hC.b dX0_reach_105 hl (by decide) rfl (fun ls hl => ?_)
  refine lv_iconst (v := 0) hC.x hC.b dX0_reach_107 (by decide) ?_
  refine lv_istore (lv' := [(8, .int 0), (7, .int y0), (5, .int x5), (6, .int x6)]) hC.x hC.b dX0_reach_108 hl (by decide) rfl (fun ls hl => ?_)
  obtain ⟨n9, hq⟩ := hq
  exact lpf_use (G := (fun (u : Int32 × Int32 × Int32 × Int32 × Wd) => ∀ (H : Heap) (locs : List Loc) (ls : Array Slot), Wo D A s (cC cy hc ac u.2.2.2.2) H locs → lv_has ls 9 [(5, .int u.1), (6, .int u.2.1), (7, .int u.2.2.1), (8, .int u.2.2.2.1)] → W p l e (rM 2 43) s m args below meth c H locs 0 0 (MQ below (QI D (S := Wd) (fun r u => Q r u) (fun u => (cC cy hc ac u)) A) args s 0 0 A) (F0 m 110 ls []))) (fun K hK u hq H locs ls hW hl => B_X0_reach_110 hc ac Q  K hK hC u.1 u.2.1 u.2.2.1 u.2.2.2.1 u.2.2.2.2 hq hW hl) n9 _ hq _ _ _ hW (lv_sub hl [2, 3, 1, 0] rfl)
def k_X0_reach_86  (Q : Int32 → Wd → Prop) (x4 : Int32) (x5 : Int32) (y0 : Int32) (y1 : Int32) (wc : Wd) : Prop :=
 (k_X0_bitsOf y1 y0 (wc 13) (fun r86 f86 => ((x5 ≤ 0 → (k_X0_reach_105  Q x5 r86 (x4 - 1) (upr wc 13 f86))) ∧
 (¬ x5 ≤ 0 → (k_X0_reach_105  Q x5 r86 x4 (upr wc 13 f86))))))
set_option maxHeartbeats 4000000 in
set_option maxRecDepth 100000 in
theorem B_X0_reach_86 {l : Launch} {p : Program} {e : Env} {s : State} {m : MethodId} {args : Array Value} {below : List Frame} {meth : Method} {c : Code} {A : Nat → Prop} {D : va_G} {cy cz : ClassId} {t1 t2 : Nat} (hc : Nat) (ac : Nat → Nat) (Q : Int32 → Wd → Prop)  (hC : Cx D cy cz t1 t2 p s m args meth c cX0_reach 9 (some .int) RX0 A) (x4 : Int32) (x5 : Int32) (y0 : Int32) (y1 : Int32) (wc : Wd) {H : Heap} {locs : List Loc} {ls : Array Slot} (hq : k_X0_reach_86  Q x4 x5 y0 y1 wc) (hW : Wo D A s (cC cy hc ac wc) H locs) (hl : lv_has ls 9 [(4, .int x4), (5, .int x5)]) : W p l e (rM 2 43) s m args below meth c H locs 0 0 (MQ below (QI D (S := Wd) (fun r u => Q r u) (fun u => (cC cy hc ac u)) A) args s 0 0 A) (F0 m 86 ls [.int y0, .int y1, .ref (ac 13)]) := by
  unfold k_X0_reach_86 at hq
  refine hc_goI hC hW (hc_rS hC (c_X0_bitsOf l D cy cz t1 t2 (ac 13) y1 y0 (wc 13) _ hq) (hc_preS hC hW [12] rfl rfl) q_151 q_152 q_14 q_153 hd_X0_bitsOf ⟨rfl, rfl⟩ ⟨Nat.le_of_ble_eq_true rfl, Nat.le_of_ble_eq_true rfl⟩ rfl hl.1 rfl (Nat.le_of_ble_eq_true rfl) dX0_reach_86 ⟨Nat.zero_le _, Nat.zero_le _⟩) [12] [0, 1, 2, 3, 4, 5, 6, 7, 8, 9, 10, 11, 13] [0, 1, 2, 3, 4, 5, 6, 7, 8, 9, 10, 11, 13, 12] (List.eraseIdx (cC cy hc ac wc) 12) (fun u => (cC cy hc ac (upr wc 13 u))) rfl rfl (by decide) (by decide) (by decide) (fun u => rfl) (fun r86 u9 H locs hq hW => ?_)
  obtain ⟨f86, rfl⟩ : ∃ z, z = u9 := ⟨_, rfl⟩
  try dsimp only at hq hW
  refine lv_istore (lv' := [(6, .int r86), (4, .int x4), (5, .int x5)]) hC.x hC.b dX0_reach_89 hl (by decide) rfl (fun ls hl => ?_)
  refine lv_iload hC.x hC.b dX0_reach_91 (lv_at hl 2 rfl) ?_
  refine lv_if_le (tgt := 101) hC.x hC.b dX0_reach_93 (by decide) (fun hc9 => ?_) (fun hc9 => ?_)
  · replace hq := hq.1 hc9
    refine lv_iload hC.x hC.b dX0_reach_101 (lv_at hl 1 rfl) ?_
    refine lv_iconst (v := 1) hC.x hC.b dX0_reach_103 (by decide) ?_
    refine lv_isub hC.x hC.b dX0_reach_104 ?_
    exact B_X0_reach_105 hc ac Q  hC x5 r86 (x4 - 1) (upr wc 13 f86) hq hW (lv_sub hl [2, 0] rfl)
  · replace hq := hq.2 hc9
    refine lv_iload hC.x hC.b dX0_reach_96 (lv_at hl 1 rfl) ?_
    refine lv_goto (tgt := 105) hC.x hC.b dX0_reach_98 (by decide) ?_
    exact B_X0_reach_105 hc ac Q  hC x5 r86 x4 (upr wc 13 f86) hq hW (lv_sub hl [2, 0] rfl)
def k_X0_reach_60  (Q : Int32 → Wd → Prop) (x1 : Int32) (x2 : Int32) (x3 : Int32) (x4 : Int32) (y0 : Int32) (wc : Wd) : Prop :=
 ((x3 = 0 → (vp_in x1 31 ∧ (k_X0_reach_86  Q x4 y0 (wc 9 (x1).toNatClampNeg) x2 wc))) ∧
 (¬ x3 = 0 → (vp_in x1 31 ∧ (k_X0_reach_86  Q x4 y0 (wc 10 (x1).toNatClampNeg) x2 wc))))
set_option maxHeartbeats 4000000 in
set_option maxRecDepth 100000 in
theorem B_X0_reach_60 {l : Launch} {p : Program} {e : Env} {s : State} {m : MethodId} {args : Array Value} {below : List Frame} {meth : Method} {c : Code} {A : Nat → Prop} {D : va_G} {cy cz : ClassId} {t1 t2 : Nat} (hc : Nat) (ac : Nat → Nat) (Q : Int32 → Wd → Prop)  (hC : Cx D cy cz t1 t2 p s m args meth c cX0_reach 9 (some .int) RX0 A) (x1 : Int32) (x2 : Int32) (x3 : Int32) (x4 : Int32) (y0 : Int32) (wc : Wd) {H : Heap} {locs : List Loc} {ls : Array Slot} (hq : k_X0_reach_60  Q x1 x2 x3 x4 y0 wc) (hW : Wo D A s (cC cy hc ac wc) H locs) (hl : lv_has ls 9 [(0, .ref hc), (1, .int x1), (2, .int x2), (3, .int x3), (4, .int x4)]) : W p l e (rM 2 43) s m args below meth c H locs 0 0 (MQ below (QI D (S := Wd) (fun r u => Q r u) (fun u => (cC cy hc ac u)) A) args s 0 0 A) (F0 m 60 ls [.int y0]) := by
  unfold k_X0_reach_60 at hq
  refine lv_istore (lv' := [(5, .int y0), (0, .ref hc), (1, .int x1), (2, .int x2), (3, .int x3), (4, .int x4)]) hC.x hC.b dX0_reach_60 hl (by decide) rfl (fun ls hl => ?_)
  refine lv_aload_n hC.x hC.b dX0_reach_62 rfl (lv_at hl 1 rfl) ?_
  refine hc_get (v := .ref (ac 13)) hC hW 0 0 13 inX0 rfl rfl (by decide) q_43 rfl dX0_reach_63 ?_
  refine lv_iload_n hC.x hC.b dX0_reach_66 rfl (lv_at hl 3 rfl) ?_
  refine lv_iload_n hC.x hC.b dX0_reach_67 rfl (lv_at hl 4 rfl) ?_
  refine lv_if_eq (tgt := 80) hC.x hC.b dX0_reach_68 (by decide) (fun hc9 => ?_) (fun hc9 => ?_)
  · replace hq := hq.1 hc9
    refine lv_aload_n hC.x hC.b dX0_reach_80 rfl (lv_at hl 1 rfl) ?_
    refine hc_get (v := .ref (ac 9)) hC hW 0 0 9 inX0 rfl rfl (by decide) q_39 rfl dX0_reach_81 ?_
    refine lv_iload_n hC.x hC.b dX0_reach_84 rfl (lv_at hl 2 rfl) ?_
    refine hc_iald hC hW 8 rfl hq.1 dX0_reach_85 ?_
    replace hq := hq.2
    exact B_X0_reach_86 hc ac Q  hC x4 y0 (wc 9 (x1).toNatClampNeg) x2 wc hq hW (lv_sub hl [5, 0] rfl)
  · replace hq := hq.2 hc9
    refine lv_aload_n hC.x hC.b dX0_reach_71 rfl (lv_at hl 1 rfl) ?_
    refine hc_get (v := .ref (ac 10)) hC hW 0 0 10 inX0 rfl rfl (by decide) q_40 rfl dX0_reach_72 ?_
    refine lv_iload_n hC.x hC.b dX0_reach_75 rfl (lv_at hl 2 rfl) ?_
    refine hc_iald hC hW 9 rfl hq.1 dX0_reach_76 ?_
    replace hq := hq.2
    refine lv_goto (tgt := 86) hC.x hC.b dX0_reach_77 (by decide) ?_
    exact B_X0_reach_86 hc ac Q  hC x4 y0 (wc 10 (x1).toNatClampNeg) x2 wc hq hW (lv_sub hl [5, 0] rfl)
def k_X0_reach_39  (Q : Int32 → Wd → Prop) (x1 : Int32) (x2 : Int32) (x3 : Int32) (y0 : Int32) (wc : Wd) : Prop :=
 ((x3 = 0 → (vp_in x1 31 ∧ (k_X0_reach_60  Q x1 x2 x3 y0 (wc 12 (x1).toNatClampNeg) wc))) ∧
 (¬ x3 = 0 → (vp_in x1 31 ∧ (k_X0_reach_60  Q x1 x2 x3 y0 (wc 11 (x1).toNatClampNeg) wc))))
set_option maxHeartbeats 4000000 in
set_option maxRecDepth 100000 in
theorem B_X0_reach_39 {l : Launch} {p : Program} {e : Env} {s : State} {m : MethodId} {args : Array Value} {below : List Frame} {meth : Method} {c : Code} {A : Nat → Prop} {D : va_G} {cy cz : ClassId} {t1 t2 : Nat} (hc : Nat) (ac : Nat → Nat) (Q : Int32 → Wd → Prop)  (hC : Cx D cy cz t1 t2 p s m args meth c cX0_reach 9 (some .int) RX0 A) (x1 : Int32) (x2 : Int32) (x3 : Int32) (y0 : Int32) (wc : Wd) {H : Heap} {locs : List Loc} {ls : Array Slot} (hq : k_X0_reach_39  Q x1 x2 x3 y0 wc) (hW : Wo D A s (cC cy hc ac wc) H locs) (hl : lv_has ls 9 [(0, .ref hc), (1, .int x1), (2, .int x2), (3, .int x3)]) : W p l e (rM 2 43) s m args below meth c H locs 0 0 (MQ below (QI D (S := Wd) (fun r u => Q r u) (fun u => (cC cy hc ac u)) A) args s 0 0 A) (F0 m 39 ls [.int y0]) := by
  unfold k_X0_reach_39 at hq
  refine lv_istore (lv' := [(4, .int y0), (0, .ref hc), (1, .int x1), (2, .int x2), (3, .int x3)]) hC.x hC.b dX0_reach_39 hl (by decide) rfl (fun ls hl => ?_)
  refine lv_iload_n hC.x hC.b dX0_reach_41 rfl (lv_at hl 4 rfl) ?_
  refine lv_if_eq (tgt := 54) hC.x hC.b dX0_reach_42 (by decide) (fun hc9 => ?_) (fun hc9 => ?_)
  · replace hq := hq.1 hc9
    refine lv_aload_n hC.x hC.b dX0_reach_54 rfl (lv_at hl 1 rfl) ?_
    refine hc_get (v := .ref (ac 12)) hC hW 0 0 12 inX0 rfl rfl (by decide) q_42 rfl dX0_reach_55 ?_
    refine lv_iload_n hC.x hC.b dX0_reach_58 rfl (lv_at hl 2 rfl) ?_
    refine hc_iald hC hW 11 rfl hq.1 dX0_reach_59 ?_
    replace hq := hq.2
    exact B_X0_reach_60 hc ac Q  hC x1 x2 x3 y0 (wc 12 (x1).toNatClampNeg) wc hq hW (lv_sub hl [1, 2, 3, 4, 0] rfl)
  · replace hq := hq.2 hc9
    refine lv_aload_n hC.x hC.b dX0_reach_45 rfl (lv_at hl 1 rfl) ?_
    refine hc_get (v := .ref (ac 11)) hC hW 0 0 11 inX0 rfl rfl (by decide) q_41 rfl dX0_reach_46 ?_
    refine lv_iload_n hC.x hC.b dX0_reach_49 rfl (lv_at hl 2 rfl) ?_
    refine hc_iald hC hW 10 rfl hq.1 dX0_reach_50 ?_
    replace hq := hq.2
    refine lv_goto (tgt := 60) hC.x hC.b dX0_reach_51 (by decide) ?_
    exact B_X0_reach_60 hc ac Q  hC x1 x2 x3 y0 (wc 11 (x1).toNatClampNeg) wc hq hW (lv_sub hl [1, 2, 3, 4, 0] rfl)
def k_X0_reach_19  (Q : Int32 → Wd → Prop) (x1 : Int32) (x2 : Int32) (y0 : Int32) (wc : Wd) : Prop :=
 ((y0 = 0 → (vp_in x1 31 ∧ (k_X0_reach_39  Q x1 x2 y0 (wc 10 (x1).toNatClampNeg) wc))) ∧
 (¬ y0 = 0 → (vp_in x1 31 ∧ (k_X0_reach_39  Q x1 x2 y0 (wc 9 (x1).toNatClampNeg) wc))))
set_option maxHeartbeats 4000000 in
set_option maxRecDepth 100000 in
theorem B_X0_reach_19 {l : Launch} {p : Program} {e : Env} {s : State} {m : MethodId} {args : Array Value} {below : List Frame} {meth : Method} {c : Code} {A : Nat → Prop} {D : va_G} {cy cz : ClassId} {t1 t2 : Nat} (hc : Nat) (ac : Nat → Nat) (Q : Int32 → Wd → Prop)  (hC : Cx D cy cz t1 t2 p s m args meth c cX0_reach 9 (some .int) RX0 A) (x1 : Int32) (x2 : Int32) (y0 : Int32) (wc : Wd) {H : Heap} {locs : List Loc} {ls : Array Slot} (hq : k_X0_reach_19  Q x1 x2 y0 wc) (hW : Wo D A s (cC cy hc ac wc) H locs) (hl : lv_has ls 9 [(0, .ref hc), (1, .int x1), (2, .int x2)]) : W p l e (rM 2 43) s m args below meth c H locs 0 0 (MQ below (QI D (S := Wd) (fun r u => Q r u) (fun u => (cC cy hc ac u)) A) args s 0 0 A) (F0 m 19 ls [.int y0]) := by
  unfold k_X0_reach_19 at hq
  refine lv_istore_n (lv' := [(3, .int y0), (0, .ref hc), (1, .int x1), (2, .int x2)]) hC.x hC.b dX0_reach_19 rfl hl (by decide) rfl (fun ls hl => ?_)
  refine lv_iload_n hC.x hC.b dX0_reach_20 rfl (lv_at hl 0 rfl) ?_
  refine lv_if_eq (tgt := 33) hC.x hC.b dX0_reach_21 (by decide) (fun hc9 => ?_) (fun hc9 => ?_)
  · replace hq := hq.1 hc9
    refine lv_aload_n hC.x hC.b dX0_reach_33 rfl (lv_at hl 1 rfl) ?_
    refine hc_get (v := .ref (ac 10)) hC hW 0 0 10 inX0 rfl rfl (by decide) q_40 rfl dX0_reach_34 ?_
    refine lv_iload_n hC.x hC.b dX0_reach_37 rfl (lv_at hl 2 rfl) ?_
    refine hc_iald hC hW 9 rfl hq.1 dX0_reach_38 ?_
    replace hq := hq.2
    exact B_X0_reach_39 hc ac Q  hC x1 x2 y0 (wc 10 (x1).toNatClampNeg) wc hq hW (lv_sub hl [1, 2, 3, 0] rfl)
  · replace hq := hq.2 hc9
    refine lv_aload_n hC.x hC.b dX0_reach_24 rfl (lv_at hl 1 rfl) ?_
    refine hc_get (v := .ref (ac 9)) hC hW 0 0 9 inX0 rfl rfl (by decide) q_39 rfl dX0_reach_25 ?_
    refine lv_iload_n hC.x hC.b dX0_reach_28 rfl (lv_at hl 2 rfl) ?_
    refine hc_iald hC hW 8 rfl hq.1 dX0_reach_29 ?_
    replace hq := hq.2
    refine lv_goto (tgt := 39) hC.x hC.b dX0_reach_30 (by decide) ?_
    exact B_X0_reach_39 hc ac Q  hC x1 x2 y0 (wc 9 (x1).toNatClampNeg) wc hq hW (lv_sub hl [1, 2, 3, 0] rfl)
def k_X0_reach (x1 : Int32) (x2 : Int32) (wc : Wd) (Q : Int32 → Wd → Prop) : Prop :=
 (k_X0_hasCorner x1 wc (fun r2 wc2 => ((¬ r2 = 0 → ((¬ x2 = 0 → (k_X0_reach_19  Q x1 x2 0 wc2)) ∧
 (x2 = 0 → (k_X0_reach_19  Q x1 x2 1 wc2)))) ∧
 (r2 = 0 → (Q 0 wc2)))))
set_option maxHeartbeats 4000000 in
set_option maxRecDepth 100000 in
theorem c_X0_reach (l : Launch) (D : va_G) (cy cz : ClassId) (t1 t2 : Nat) (hc : Nat) (ac : Nat → Nat) (x1 : Int32) (x2 : Int32) (wc : Wd) (Q : Int32 → Wd → Prop) (hq : k_X0_reach x1 x2 wc Q) : Ct l D cy cz t1 t2 yX0_reach cX0_reach 9 (some .int) (rM 2 43) [.ref hc, .int x1, .int x2] (cC cy hc ac wc) (QI D (S := Wd) (fun r u => Q r u) (fun u => (cC cy hc ac u))) := by
  refine Ct.of (own := RX0) (by decide) rfl (Nat.le_of_ble_eq_true rfl) ?_
  intro p e s m below meth c A ls hC hW hl
  unfold k_X0_reach at hq
  have hl : lv_has ls 9 [(0, .ref hc), (1, .int x1), (2, .int x2)] := hl
  refine lv_aload_n hC.x hC.b dX0_reach_0 rfl (lv_at hl 0 rfl) ?_
  refine lv_iload_n hC.x hC.b dX0_reach_1 rfl (lv_at hl 1 rfl) ?_
  refine hc_goIW hC hW (hc_rV hC (c_X0_hasCorner l D cy cz t1 t2 hc ac x1 wc _ hq) (hc_preW hC hW) hW 0 0 rfl rfl q_150 q_128 q_129 q_14 q_130 hd_X0_hasCorner ⟨rfl, rfl⟩ ⟨Nat.le_of_ble_eq_true rfl, Nat.le_of_ble_eq_true rfl⟩ rfl hl.1 rfl (Nat.le_of_ble_eq_true rfl) dX0_reach_2 ⟨Nat.zero_le _, Nat.zero_le _⟩) (fun r2 u9 H locs hq hW => ?_)
  obtain ⟨wc2, rfl⟩ : ∃ z, z = u9 := ⟨_, rfl⟩
  try dsimp only at hq hW
  refine lv_if_ne (tgt := 10) hC.x hC.b dX0_reach_5 (by decide) (fun hc9 => ?_) (fun hc9 => ?_)
  · replace hq := hq.1 hc9
    refine lv_iload_n hC.x hC.b dX0_reach_10 rfl (lv_at hl 2 rfl) ?_
    refine lv_if_ne (tgt := 18) hC.x hC.b dX0_reach_11 (by decide) (fun hc9 => ?_) (fun hc9 => ?_)
    · replace hq := hq.1 hc9
      refine lv_iconst (v := 0) hC.x hC.b dX0_reach_18 (by decide) ?_
      exact B_X0_reach_19 hc ac Q  hC x1 x2 0 wc2 hq hW (lv_sub hl [0, 1, 2] rfl)
    · replace hq := hq.2 hc9
      refine lv_iconst (v := 1) hC.x hC.b dX0_reach_14 (by decide) ?_
      refine lv_goto (tgt := 19) hC.x hC.b dX0_reach_15 (by decide) ?_
      exact B_X0_reach_19 hc ac Q  hC x1 x2 1 wc2 hq hW (lv_sub hl [0, 1, 2] rfl)
  · replace hq := hq.2 hc9
    refine lv_iconst (v := 0) hC.x hC.b dX0_reach_8 (by decide) ?_
    exact hc_iret hC (wc2) hW hq dX0_reach_9
def k_X0_isAnyTaken (x1 : Int32) (x2 : Int32) (x3 : Int32) (x4 : Int32) (x5 : Int32) (wc : Wd) (Q : Int32 → Wd → Prop) : Prop :=
 (k_X0_bitsBetween (if (x3 + (x4 * x5)) < (x3 + x4) then (x3 + (x4 * x5)) else (x3 + x4)) (if (x3 + x4) < (x3 + (x4 * x5)) then (x3 + (x4 * x5)) else (x3 + x4)) (fun r29 => (k_X0_bitsOf x1 x2 (wc 14) (fun r40 f40 => (((r40 &&& r29) = 0 → (Q 0 (upr wc 14 f40))) ∧
 (¬ (r40 &&& r29) = 0 → (Q 1 (upr wc 14 f40))))))))
set_option maxHeartbeats 4000000 in
set_option maxRecDepth 100000 in
theorem c_X0_isAnyTaken (l : Launch) (D : va_G) (cy cz : ClassId) (t1 t2 : Nat) (hc : Nat) (ac : Nat → Nat) (x1 : Int32) (x2 : Int32) (x3 : Int32) (x4 : Int32) (x5 : Int32) (wc : Wd) (Q : Int32 → Wd → Prop) (hq : k_X0_isAnyTaken x1 x2 x3 x4 x5 wc Q) : Ct l D cy cz t1 t2 yX0_isAnyTaken cX0_isAnyTaken 9 (some .boolean) (rM 1 24) [.ref hc, .int x1, .int x2, .int x3, .int x4, .int x5] (cC cy hc ac wc) (QI D (S := Wd) (fun r u => Q r u) (fun u => (cC cy hc ac u))) := by
  refine Ct.of (own := RX0) (by decide) rfl (Nat.le_of_ble_eq_true rfl) ?_
  intro p e s m below meth c A ls hC hW hl
  unfold k_X0_isAnyTaken at hq
  have hl : lv_has ls 9 [(0, .ref hc), (1, .int x1), (2, .int x2), (3, .int x3), (4, .int x4), (5, .int x5)] := hl
  refine lv_iload_n hC.x hC.b dX0_isAnyTaken_0 rfl (lv_at hl 3 rfl) ?_
  refine lv_iload hC.x hC.b dX0_isAnyTaken_1 (lv_at hl 4 rfl) ?_
  refine lv_iadd hC.x hC.b dX0_isAnyTaken_3 ?_
  refine lv_istore (lv' := [(6, .int (x3 + x4)), (0, .ref hc), (1, .int x1), (2, .int x2), (3, .int x3), (4, .int x4), (5, .int x5)]) hC.x hC.b dX0_isAnyTaken_4 hl (by decide) rfl (fun ls hl => ?_)
  refine lv_iload_n hC.x hC.b dX0_isAnyTaken_6 rfl (lv_at hl 4 rfl) ?_
  refine lv_iload hC.x hC.b dX0_isAnyTaken_7 (lv_at hl 5 rfl) ?_
  refine lv_iload hC.x hC.b dX0_isAnyTaken_9 (lv_at hl 6 rfl) ?_
  refine lv_imul hC.x hC.b dX0_isAnyTaken_11 ?_
  refine lv_iadd hC.x hC.b dX0_isAnyTaken_12 ?_
  refine lv_istore (lv' := [(7, .int (x3 + (x4 * x5))), (6, .int (x3 + x4)), (0, .ref hc), (1, .int x1), (2, .int x2), (3, .int x3), (4, .int x4), (5, .int x5)]) hC.x hC.b dX0_isAnyTaken_13 hl (by decide) rfl (fun ls hl => ?_)
  refine lv_iload hC.x hC.b dX0_isAnyTaken_15 (lv_at hl 1 rfl) ?_
  refine lv_iload hC.x hC.b dX0_isAnyTaken_17 (lv_at hl 0 rfl) ?_
  refine hc_min hC hl q_164 q_165 q_166 q_167 (Nat.le_of_ble_eq_true rfl) (Nat.le_of_ble_eq_true rfl) (Nat.zero_le _) (Nat.zero_le _) dX0_isAnyTaken_19 ?_
  refine lv_iload hC.x hC.b dX0_isAnyTaken_22 (lv_at hl 1 rfl) ?_
  refine lv_iload hC.x hC.b dX0_isAnyTaken_24 (lv_at hl 0 rfl) ?_
  refine hc_max hC hl q_168 q_169 q_166 q_170 (Nat.le_of_ble_eq_true rfl) (Nat.le_of_ble_eq_true rfl) (Nat.zero_le _) (Nat.zero_le _) dX0_isAnyTaken_26 ?_
  refine hc_goP hC hW (hc_rS hC (c_X0_bitsBetween l D cy cz t1 t2 (if (x3 + (x4 * x5)) < (x3 + x4) then (x3 + (x4 * x5)) else (x3 + x4)) (if (x3 + x4) < (x3 + (x4 * x5)) then (x3 + (x4 * x5)) else (x3 + x4)) _ hq) (hc_preP hC hW) q_75 q_76 q_14 q_77 hd_X0_bitsBetween ⟨rfl, rfl⟩ ⟨Nat.le_of_ble_eq_true rfl, Nat.le_of_ble_eq_true rfl⟩ rfl hl.1 rfl (Nat.le_of_ble_eq_true rfl) dX0_isAnyTaken_29 ⟨Nat.zero_le _, Nat.zero_le _⟩) (fun r29 H locs hq hW => ?_)
  try dsimp only at hq
  refine lv_istore (lv' := [(8, .int r29), (7, .int (x3 + (x4 * x5))), (6, .int (x3 + x4)), (0, .ref hc), (1, .int x1), (2, .int x2), (3, .int x3), (4, .int x4), (5, .int x5)]) hC.x hC.b dX0_isAnyTaken_32 hl (by decide) rfl (fun ls hl => ?_)
  refine lv_aload_n hC.x hC.b dX0_isAnyTaken_34 rfl (lv_at hl 3 rfl) ?_
  refine hc_get (v := .ref (ac 14)) hC hW 0 0 14 inX0 rfl rfl (by decide) q_44 rfl dX0_isAnyTaken_35 ?_
  refine lv_iload_n hC.x hC.b dX0_isAnyTaken_38 rfl (lv_at hl 4 rfl) ?_
  refine lv_iload_n hC.x hC.b dX0_isAnyTaken_39 rfl (lv_at hl 5 rfl) ?_
  refine hc_goI hC hW (hc_rS hC (c_X0_bitsOf l D cy cz t1 t2 (ac 14) x1 x2 (wc 14) _ hq) (hc_preS hC hW [13] rfl rfl) q_151 q_152 q_14 q_153 hd_X0_bitsOf ⟨rfl, rfl⟩ ⟨Nat.le_of_ble_eq_true rfl, Nat.le_of_ble_eq_true rfl⟩ rfl hl.1 rfl (Nat.le_of_ble_eq_true rfl) dX0_isAnyTaken_40 ⟨Nat.zero_le _, Nat.zero_le _⟩) [13] [0, 1, 2, 3, 4, 5, 6, 7, 8, 9, 10, 11, 12] [0, 1, 2, 3, 4, 5, 6, 7, 8, 9, 10, 11, 12, 13] (List.eraseIdx (cC cy hc ac wc) 13) (fun u => (cC cy hc ac (upr wc 14 u))) rfl rfl (by decide) (by decide) (by decide) (fun u => rfl) (fun r40 u9 H locs hq hW => ?_)
  obtain ⟨f40, rfl⟩ : ∃ z, z = u9 := ⟨_, rfl⟩
  try dsimp only at hq hW
  refine lv_iload hC.x hC.b dX0_isAnyTaken_43 (lv_at hl 0 rfl) ?_
  refine lv_iand hC.x hC.b dX0_isAnyTaken_45 ?_
  refine lv_if_eq (tgt := 53) hC.x hC.b dX0_isAnyTaken_46 (by decide) (fun hc9 => ?_) (fun hc9 => ?_)
  · replace hq := hq.1 hc9
    refine lv_iconst (v := 0) hC.x hC.b dX0_isAnyTaken_53 (by decide) ?_
    exact hc_zret hC ((upr wc 14 f40)) hW rfl hq dX0_isAnyTaken_54
  · replace hq := hq.2 hc9
    refine lv_iconst (v := 1) hC.x hC.b dX0_isAnyTaken_49 (by decide) ?_
    refine lv_goto (tgt := 54) hC.x hC.b dX0_isAnyTaken_50 (by decide) ?_
    exact hc_zret hC ((upr wc 14 f40)) hW rfl hq dX0_isAnyTaken_54
def k_X0_reasonWithinReach_109  (Q : Int32 → Wd → Prop) (y0 : Int32) (wc : Wd) : Prop :=
 ((y0 = 0 → (Q 0 wc)) ∧
 (¬ y0 = 0 → (Q 3 wc)))
set_option maxHeartbeats 4000000 in
set_option maxRecDepth 100000 in
theorem B_X0_reasonWithinReach_109 {l : Launch} {p : Program} {e : Env} {s : State} {m : MethodId} {args : Array Value} {below : List Frame} {meth : Method} {c : Code} {A : Nat → Prop} {D : va_G} {cy cz : ClassId} {t1 t2 : Nat} (hc : Nat) (ac : Nat → Nat) (Q : Int32 → Wd → Prop)  (hC : Cx D cy cz t1 t2 p s m args meth c cX0_reasonWithinReach 11 (some .int) RX0 A) (y0 : Int32) (wc : Wd) {H : Heap} {locs : List Loc} {ls : Array Slot} (hq : k_X0_reasonWithinReach_109  Q y0 wc) (hW : Wo D A s (cC cy hc ac wc) H locs) (hl : lv_has ls 11 []) : W p l e (rM 2 52) s m args below meth c H locs 0 0 (MQ below (QI D (S := Wd) (fun r u => Q r u) (fun u => (cC cy hc ac u)) A) args s 0 0 A) (F0 m 109 ls [.int y0]) := by
  unfold k_X0_reasonWithinReach_109 at hq
  refine lv_istore (lv' := [(10, .int y0)]) hC.x hC.b dX0_reasonWithinReach_109 hl (by decide) rfl (fun ls hl => ?_)
  refine lv_iload hC.x hC.b dX0_reasonWithinReach_111 (lv_at hl 0 rfl) ?_
  refine lv_if_eq (tgt := 120) hC.x hC.b dX0_reasonWithinReach_113 (by decide) (fun hc9 => ?_) (fun hc9 => ?_)
  · replace hq := hq.1 hc9
    refine lv_iconst (v := 0) hC.x hC.b dX0_reasonWithinReach_120 (by decide) ?_
    exact hc_iret hC (wc) hW hq dX0_reasonWithinReach_121
  · replace hq := hq.2 hc9
    refine lv_iconst (v := 3) hC.x hC.b dX0_reasonWithinReach_116 (by decide) ?_
    refine lv_goto (tgt := 121) hC.x hC.b dX0_reasonWithinReach_117 (by decide) ?_
    exact hc_iret hC (wc) hW hq dX0_reasonWithinReach_121
def k_X0_reasonWithinReach_104  (Q : Int32 → Wd → Prop)  (wc : Wd) : Prop :=
 (k_X0_reasonWithinReach_109  Q 1 wc)
set_option maxHeartbeats 4000000 in
set_option maxRecDepth 100000 in
theorem B_X0_reasonWithinReach_104 {l : Launch} {p : Program} {e : Env} {s : State} {m : MethodId} {args : Array Value} {below : List Frame} {meth : Method} {c : Code} {A : Nat → Prop} {D : va_G} {cy cz : ClassId} {t1 t2 : Nat} (hc : Nat) (ac : Nat → Nat) (Q : Int32 → Wd → Prop)  (hC : Cx D cy cz t1 t2 p s m args meth c cX0_reasonWithinReach 11 (some .int) RX0 A)  (wc : Wd) {H : Heap} {locs : List Loc} {ls : Array Slot} (hq : k_X0_reasonWithinReach_104  Q  wc) (hW : Wo D A s (cC cy hc ac wc) H locs) (hl : lv_has ls 11 []) : W p l e (rM 2 52) s m args below meth c H locs 0 0 (MQ below (QI D (S := Wd) (fun r u => Q r u) (fun u => (cC cy hc ac u)) A) args s 0 0 A) (F0 m 104 ls []) := by
  unfold k_X0_reasonWithinReach_104 at hq
  refine lv_iconst (v := 1) hC.x hC.b dX0_reasonWithinReach_104 (by decide) ?_
  refine lv_goto (tgt := 109) hC.x hC.b dX0_reasonWithinReach_105 (by decide) ?_
  exact B_X0_reasonWithinReach_109 hc ac Q  hC 1 wc hq hW (lv_sub hl [] rfl)
def k_X0_reasonWithinReach (x1 : Int32) (x2 : Int32) (x3 : Int32) (wc : Wd) (Q : Int32 → Wd → Prop) : Prop :=
 (k_X0_hasCorner x1 wc (fun r2 wc2 => ((¬ r2 = 0 → (vp_in x1 31 ∧ (vp_in x1 31 ∧ (vp_in x1 31 ∧ (vp_in x1 31 ∧ (((((wc2 9 (x1).toNatClampNeg) + ((wc2 11 (x1).toNatClampNeg) * x2)) + ((wc2 10 (x1).toNatClampNeg) + ((wc2 12 (x1).toNatClampNeg) * x3))) ≤ (wc2 0 0) → (k_X0_isAnyTaken 1 ((wc2 9 (x1).toNatClampNeg) + ((wc2 11 (x1).toNatClampNeg) * x2)) (wc2 10 (x1).toNatClampNeg) (wc2 12 (x1).toNatClampNeg) x3 wc2 (fun r83 wc83 => ((¬ r83 = 0 → (k_X0_reasonWithinReach_104  Q wc83)) ∧
 (r83 = 0 → (k_X0_isAnyTaken 0 ((wc2 10 (x1).toNatClampNeg) + ((wc2 12 (x1).toNatClampNeg) * x3)) (wc2 9 (x1).toNatClampNeg) (wc2 11 (x1).toNatClampNeg) x2 wc83 (fun r98 wc98 => ((r98 = 0 → (k_X0_reasonWithinReach_109  Q 0 wc98)) ∧
 (¬ r98 = 0 → (k_X0_reasonWithinReach_104  Q wc98)))))))))) ∧
 (¬ (((wc2 9 (x1).toNatClampNeg) + ((wc2 11 (x1).toNatClampNeg) * x2)) + ((wc2 10 (x1).toNatClampNeg) + ((wc2 12 (x1).toNatClampNeg) * x3))) ≤ (wc2 0 0) → (Q 2 wc2)))))))) ∧
 (r2 = 0 → (Q 1 wc2)))))
set_option maxHeartbeats 4000000 in
set_option maxRecDepth 100000 in
theorem c_X0_reasonWithinReach (l : Launch) (D : va_G) (cy cz : ClassId) (t1 t2 : Nat) (hc : Nat) (ac : Nat → Nat) (x1 : Int32) (x2 : Int32) (x3 : Int32) (wc : Wd) (Q : Int32 → Wd → Prop) (hq : k_X0_reasonWithinReach x1 x2 x3 wc Q) : Ct l D cy cz t1 t2 yX0_reasonWithinReach cX0_reasonWithinReach 11 (some .int) (rM 2 52) [.ref hc, .int x1, .int x2, .int x3] (cC cy hc ac wc) (QI D (S := Wd) (fun r u => Q r u) (fun u => (cC cy hc ac u))) := by
  refine Ct.of (own := RX0) (by decide) rfl (Nat.le_of_ble_eq_true rfl) ?_
  intro p e s m below meth c A ls hC hW hl
  unfold k_X0_reasonWithinReach at hq
  have hl : lv_has ls 11 [(0, .ref hc), (1, .int x1), (2, .int x2), (3, .int x3)] := hl
  refine lv_aload_n hC.x hC.b dX0_reasonWithinReach_0 rfl (lv_at hl 0 rfl) ?_
  refine lv_iload_n hC.x hC.b dX0_reasonWithinReach_1 rfl (lv_at hl 1 rfl) ?_
  refine hc_goIW hC hW (hc_rV hC (c_X0_hasCorner l D cy cz t1 t2 hc ac x1 wc _ hq) (hc_preW hC hW) hW 0 0 rfl rfl q_150 q_128 q_129 q_14 q_130 hd_X0_hasCorner ⟨rfl, rfl⟩ ⟨Nat.le_of_ble_eq_true rfl, Nat.le_of_ble_eq_true rfl⟩ rfl hl.1 rfl (Nat.le_of_ble_eq_true rfl) dX0_reasonWithinReach_2 ⟨Nat.zero_le _, Nat.zero_le _⟩) (fun r2 u9 H locs hq hW => ?_)
  obtain ⟨wc2, rfl⟩ : ∃ z, z = u9 := ⟨_, rfl⟩
  try dsimp only at hq hW
  refine lv_if_ne (tgt := 10) hC.x hC.b dX0_reasonWithinReach_5 (by decide) (fun hc9 => ?_) (fun hc9 => ?_)
  · replace hq := hq.1 hc9
    refine lv_aload_n hC.x hC.b dX0_reasonWithinReach_10 rfl (lv_at hl 0 rfl) ?_
    refine hc_get (v := .ref (ac 9)) hC hW 0 0 9 inX0 rfl rfl (by decide) q_39 rfl dX0_reasonWithinReach_11 ?_
    refine lv_iload_n hC.x hC.b dX0_reasonWithinReach_14 rfl (lv_at hl 1 rfl) ?_
    refine hc_iald hC hW 8 rfl hq.1 dX0_reasonWithinReach_15 ?_
    replace hq := hq.2
    refine lv_istore (lv' := [(4, .int (wc2 9 (x1).toNatClampNeg)), (0, .ref hc), (1, .int x1), (2, .int x2), (3, .int x3)]) hC.x hC.b dX0_reasonWithinReach_16 hl (by decide) rfl (fun ls hl => ?_)
    refine lv_aload_n hC.x hC.b dX0_reasonWithinReach_18 rfl (lv_at hl 1 rfl) ?_
    refine hc_get (v := .ref (ac 10)) hC hW 0 0 10 inX0 rfl rfl (by decide) q_40 rfl dX0_reasonWithinReach_19 ?_
    refine lv_iload_n hC.x hC.b dX0_reasonWithinReach_22 rfl (lv_at hl 2 rfl) ?_
    refine hc_iald hC hW 9 rfl hq.1 dX0_reasonWithinReach_23 ?_
    replace hq := hq.2
    refine lv_istore (lv' := [(5, .int (wc2 10 (x1).toNatClampNeg)), (4, .int (wc2 9 (x1).toNatClampNeg)), (0, .ref hc), (1, .int x1), (2, .int x2), (3, .int x3)]) hC.x hC.b dX0_reasonWithinReach_24 hl (by decide) rfl (fun ls hl => ?_)
    refine lv_aload_n hC.x hC.b dX0_reasonWithinReach_26 rfl (lv_at hl 2 rfl) ?_
    refine hc_get (v := .ref (ac 11)) hC hW 0 0 11 inX0 rfl rfl (by decide) q_41 rfl dX0_reasonWithinReach_27 ?_
    refine lv_iload_n hC.x hC.b dX0_reasonWithinReach_30 rfl (lv_at hl 3 rfl) ?_
    refine hc_iald hC hW 10 rfl hq.1 dX0_reasonWithinReach_31 ?_
    replace hq := hq.2
    refine lv_istore (lv' := [(6, .int (wc2 11 (x1).toNatClampNeg)), (5, .int (wc2 10 (x1).toNatClampNeg)), (4, .int (wc2 9 (x1).toNatClampNeg)), (0, .ref hc), (1, .int x1), (2, .int x2), (3, .int x3)]) hC.x hC.b dX0_reasonWithinReach_32 hl (by decide) rfl (fun ls hl => ?_)
    refine lv_aload_n hC.x hC.b dX0_reasonWithinReach_34 rfl (lv_at hl 3 rfl) ?_
    refine hc_get (v := .ref (ac 12)) hC hW 0 0 12 inX0 rfl rfl (by decide) q_42 rfl dX0_reasonWithinReach_35 ?_
    refine lv_iload_n hC.x hC.b dX0_reasonWithinReach_38 rfl (lv_at hl 4 rfl) ?_
    refine hc_iald hC hW 11 rfl hq.1 dX0_reasonWithinReach_39 ?_
    replace hq := hq.2
    refine lv_istore (lv' := [(7, .int (wc2 12 (x1).toNatClampNeg)), (6, .int (wc2 11 (x1).toNatClampNeg)), (5, .int (wc2 10 (x1).toNatClampNeg)), (4, .int (wc2 9 (x1).toNatClampNeg)), (0, .ref hc), (1, .int x1), (2, .int x2), (3, .int x3)]) hC.x hC.b dX0_reasonWithinReach_40 hl (by decide) rfl (fun ls hl => ?_)
    refine lv_iload hC.x hC.b dX0_reasonWithinReach_42 (lv_at hl 3 rfl) ?_
    refine lv_iload hC.x hC.b dX0_reasonWithinReach_44 (lv_at hl 1 rfl) ?_
    refine lv_iload_n hC.x hC.b dX0_reasonWithinReach_46 rfl (lv_at hl 6 rfl) ?_
    refine lv_imul hC.x hC.b dX0_reasonWithinReach_47 ?_
    refine lv_iadd hC.x hC.b dX0_reasonWithinReach_48 ?_
    refine lv_istore (lv' := [(8, .int ((wc2 9 (x1).toNatClampNeg) + ((wc2 11 (x1).toNatClampNeg) * x2))), (7, .int (wc2 12 (x1).toNatClampNeg)), (6, .int (wc2 11 (x1).toNatClampNeg)), (5, .int (wc2 10 (x1).toNatClampNeg)), (4, .int (wc2 9 (x1).toNatClampNeg)), (0, .ref hc), (1, .int x1), (2, .int x2), (3, .int x3)]) hC.x hC.b dX0_reasonWithinReach_49 hl (by decide) rfl (fun ls hl => ?_)
    refine lv_iload hC.x hC.b dX0_reasonWithinReach_51 (lv_at hl 3 rfl) ?_
    refine lv_iload hC.x hC.b dX0_reasonWithinReach_53 (lv_at hl 1 rfl) ?_
    refine lv_iload_n hC.x hC.b dX0_reasonWithinReach_55 rfl (lv_at hl 8 rfl) ?_
    refine lv_imul hC.x hC.b dX0_reasonWithinReach_56 ?_
    refine lv_iadd hC.x hC.b dX0_reasonWithinReach_57 ?_
    refine lv_istore (lv' := [(9, .int ((wc2 10 (x1).toNatClampNeg) + ((wc2 12 (x1).toNatClampNeg) * x3))), (8, .int ((wc2 9 (x1).toNatClampNeg) + ((wc2 11 (x1).toNatClampNeg) * x2))), (7, .int (wc2 12 (x1).toNatClampNeg)), (6, .int (wc2 11 (x1).toNatClampNeg)), (5, .int (wc2 10 (x1).toNatClampNeg)), (4, .int (wc2 9 (x1).toNatClampNeg)), (0, .ref hc), (1, .int x1), (2, .int x2), (3, .int x3)]) hC.x hC.b dX0_reasonWithinReach_58 hl (by decide) rfl (fun ls hl => ?_)
    refine lv_iload hC.x hC.b dX0_reasonWithinReach_60 (lv_at hl 1 rfl) ?_
    refine lv_iload hC.x hC.b dX0_reasonWithinReach_62 (lv_at hl 0 rfl) ?_
    refine lv_iadd hC.x hC.b dX0_reasonWithinReach_64 ?_
    refine lv_aload_n hC.x hC.b dX0_reasonWithinReach_65 rfl (lv_at hl 6 rfl) ?_
    refine hc_get (v := .int (wc2 0 0)) hC hW 0 0 0 inX0 rfl rfl (by decide) q_49 rfl dX0_reasonWithinReach_66 ?_
    refine lv_icmp_le (tgt := 74) hC.x hC.b dX0_reasonWithinReach_69 (by decide) (fun hc9 => ?_) (fun hc9 => ?_)
    · replace hq := hq.1 hc9
      refine lv_aload_n hC.x hC.b dX0_reasonWithinReach_74 rfl (lv_at hl 6 rfl) ?_
      refine lv_iconst (v := 1) hC.x hC.b dX0_reasonWithinReach_75 (by decide) ?_
      refine lv_iload hC.x hC.b dX0_reasonWithinReach_76 (lv_at hl 1 rfl) ?_
      refine lv_iload hC.x hC.b dX0_reasonWithinReach_78 (lv_at hl 4 rfl) ?_
      refine lv_iload hC.x hC.b dX0_reasonWithinReach_80 (lv_at hl 2 rfl) ?_
      refine lv_iload_n hC.x hC.b dX0_reasonWithinReach_82 rfl (lv_at hl 9 rfl) ?_
      refine hc_goIW hC hW (hc_rV hC (c_X0_isAnyTaken l D cy cz t1 t2 hc ac 1 ((wc2 9 (x1).toNatClampNeg) + ((wc2 11 (x1).toNatClampNeg) * x2)) (wc2 10 (x1).toNatClampNeg) (wc2 12 (x1).toNatClampNeg) x3 wc2 _ hq) (hc_preW hC hW) hW 0 0 rfl rfl q_160 q_161 q_162 q_14 q_163 hd_X0_isAnyTaken ⟨rfl, rfl⟩ ⟨Nat.le_of_ble_eq_true rfl, Nat.le_of_ble_eq_true rfl⟩ rfl hl.1 rfl (Nat.le_of_ble_eq_true rfl) dX0_reasonWithinReach_83 ⟨Nat.zero_le _, Nat.zero_le _⟩) (fun r83 u9 H locs hq hW => ?_)
      obtain ⟨wc83, rfl⟩ : ∃ z, z = u9 := ⟨_, rfl⟩
      try dsimp only at hq hW
      refine lv_if_ne (tgt := 104) hC.x hC.b dX0_reasonWithinReach_86 (by decide) (fun hc9 => ?_) (fun hc9 => ?_)
      · replace hq := hq.1 hc9
        exact B_X0_reasonWithinReach_104 hc ac Q  hC wc83 hq hW (lv_sub hl [] rfl)
      · replace hq := hq.2 hc9
        refine lv_aload_n hC.x hC.b dX0_reasonWithinReach_89 rfl (lv_at hl 6 rfl) ?_
        refine lv_iconst (v := 0) hC.x hC.b dX0_reasonWithinReach_90 (by decide) ?_
        refine lv_iload hC.x hC.b dX0_reasonWithinReach_91 (lv_at hl 0 rfl) ?_
        refine lv_iload hC.x hC.b dX0_reasonWithinReach_93 (lv_at hl 5 rfl) ?_
        refine lv_iload hC.x hC.b dX0_reasonWithinReach_95 (lv_at hl 3 rfl) ?_
        refine lv_iload_n hC.x hC.b dX0_reasonWithinReach_97 rfl (lv_at hl 8 rfl) ?_
        refine hc_goIW hC hW (hc_rV hC (c_X0_isAnyTaken l D cy cz t1 t2 hc ac 0 ((wc2 10 (x1).toNatClampNeg) + ((wc2 12 (x1).toNatClampNeg) * x3)) (wc2 9 (x1).toNatClampNeg) (wc2 11 (x1).toNatClampNeg) x2 wc83 _ hq) (hc_preW hC hW) hW 0 0 rfl rfl q_160 q_161 q_162 q_14 q_163 hd_X0_isAnyTaken ⟨rfl, rfl⟩ ⟨Nat.le_of_ble_eq_true rfl, Nat.le_of_ble_eq_true rfl⟩ rfl hl.1 rfl (Nat.le_of_ble_eq_true rfl) dX0_reasonWithinReach_98 ⟨Nat.zero_le _, Nat.zero_le _⟩) (fun r98 u9 H locs hq hW => ?_)
        obtain ⟨wc98, rfl⟩ : ∃ z, z = u9 := ⟨_, rfl⟩
        try dsimp only at hq hW
        refine lv_if_eq (tgt := 108) hC.x hC.b dX0_reasonWithinReach_101 (by decide) (fun hc9 => ?_) (fun hc9 => ?_)
        · replace hq := hq.1 hc9
          refine lv_iconst (v := 0) hC.x hC.b dX0_reasonWithinReach_108 (by decide) ?_
          exact B_X0_reasonWithinReach_109 hc ac Q  hC 0 wc98 hq hW (lv_sub hl [] rfl)
        · replace hq := hq.2 hc9
          exact B_X0_reasonWithinReach_104 hc ac Q  hC wc98 hq hW (lv_sub hl [] rfl)
    · replace hq := hq.2 hc9
      refine lv_iconst (v := 2) hC.x hC.b dX0_reasonWithinReach_72 (by decide) ?_
      exact hc_iret hC (wc2) hW hq dX0_reasonWithinReach_73
  · replace hq := hq.2 hc9
    refine lv_iconst (v := 1) hC.x hC.b dX0_reasonWithinReach_8 (by decide) ?_
    exact hc_iret hC (wc2) hW hq dX0_reasonWithinReach_9
def k_X0_reasonAgainst (x1 : Int32) (x2 : Int32) (x3 : Int32) (wc : Wd) (Q : Int32 → Wd → Prop) : Prop :=
 (k_X0_reach x1 0 wc (fun r4 wc4 => ((r4 < x2 → (Q 1 wc4)) ∧
 (¬ r4 < x2 → (k_X0_reach x1 1 wc4 (fun r14 wc14 => ((x3 ≤ r14 → (k_X0_reasonWithinReach x1 x2 x3 wc14 (fun r26 wc26 => (Q r26 wc26)))) ∧
 (¬ x3 ≤ r14 → (Q 1 wc14)))))))))
set_option maxHeartbeats 4000000 in
set_option maxRecDepth 100000 in
theorem c_X0_reasonAgainst (l : Launch) (D : va_G) (cy cz : ClassId) (t1 t2 : Nat) (hc : Nat) (ac : Nat → Nat) (x1 : Int32) (x2 : Int32) (x3 : Int32) (wc : Wd) (Q : Int32 → Wd → Prop) (hq : k_X0_reasonAgainst x1 x2 x3 wc Q) : Ct l D cy cz t1 t2 yX0_reasonAgainst cX0_reasonAgainst 4 (some .int) (rM 3 82) [.ref hc, .int x1, .int x2, .int x3] (cC cy hc ac wc) (QI D (S := Wd) (fun r u => Q r u) (fun u => (cC cy hc ac u))) := by
  refine Ct.of (own := RX0) (by decide) rfl (Nat.le_of_ble_eq_true rfl) ?_
  intro p e s m below meth c A ls hC hW hl
  unfold k_X0_reasonAgainst at hq
  have hl : lv_has ls 4 [(0, .ref hc), (1, .int x1), (2, .int x2), (3, .int x3)] := hl
  refine lv_iload_n hC.x hC.b dX0_reasonAgainst_0 rfl (lv_at hl 2 rfl) ?_
  refine lv_aload_n hC.x hC.b dX0_reasonAgainst_1 rfl (lv_at hl 0 rfl) ?_
  refine lv_iload_n hC.x hC.b dX0_reasonAgainst_2 rfl (lv_at hl 1 rfl) ?_
  refine lv_iconst (v := 0) hC.x hC.b dX0_reasonAgainst_3 (by decide) ?_
  refine hc_goIW hC hW (hc_rV hC (c_X0_reach l D cy cz t1 t2 hc ac x1 0 wc _ hq) (hc_preW hC hW) hW 0 0 rfl rfl q_146 q_147 q_148 q_14 q_149 hd_X0_reach ⟨rfl, rfl⟩ ⟨Nat.le_of_ble_eq_true rfl, Nat.le_of_ble_eq_true rfl⟩ rfl hl.1 rfl (Nat.le_of_ble_eq_true rfl) dX0_reasonAgainst_4 ⟨Nat.zero_le _, Nat.zero_le _⟩) (fun r4 u9 H locs hq hW => ?_)
  obtain ⟨wc4, rfl⟩ : ∃ z, z = u9 := ⟨_, rfl⟩
  try dsimp only at hq hW
  refine lv_icmp_gt (tgt := 20) hC.x hC.b dX0_reasonAgainst_7 (by decide) (fun hc9 => ?_) (fun hc9 => ?_)
  · replace hq := hq.1 hc9
    refine lv_iconst (v := 1) hC.x hC.b dX0_reasonAgainst_20 (by decide) ?_
    exact hc_iret hC (wc4) hW hq dX0_reasonAgainst_21
  · replace hq := hq.2 hc9
    refine lv_iload_n hC.x hC.b dX0_reasonAgainst_10 rfl (lv_at hl 3 rfl) ?_
    refine lv_aload_n hC.x hC.b dX0_reasonAgainst_11 rfl (lv_at hl 0 rfl) ?_
    refine lv_iload_n hC.x hC.b dX0_reasonAgainst_12 rfl (lv_at hl 1 rfl) ?_
    refine lv_iconst (v := 1) hC.x hC.b dX0_reasonAgainst_13 (by decide) ?_
    refine hc_goIW hC hW (hc_rV hC (c_X0_reach l D cy cz t1 t2 hc ac x1 1 wc4 _ hq) (hc_preW hC hW) hW 0 0 rfl rfl q_146 q_147 q_148 q_14 q_149 hd_X0_reach ⟨rfl, rfl⟩ ⟨Nat.le_of_ble_eq_true rfl, Nat.le_of_ble_eq_true rfl⟩ rfl hl.1 rfl (Nat.le_of_ble_eq_true rfl) dX0_reasonAgainst_14 ⟨Nat.zero_le _, Nat.zero_le _⟩) (fun r14 u9 H locs hq hW => ?_)
    obtain ⟨wc14, rfl⟩ : ∃ z, z = u9 := ⟨_, rfl⟩
    try dsimp only at hq hW
    refine lv_icmp_le (tgt := 22) hC.x hC.b dX0_reasonAgainst_17 (by decide) (fun hc9 => ?_) (fun hc9 => ?_)
    · replace hq := hq.1 hc9
      refine lv_aload_n hC.x hC.b dX0_reasonAgainst_22 rfl (lv_at hl 0 rfl) ?_
      refine lv_iload_n hC.x hC.b dX0_reasonAgainst_23 rfl (lv_at hl 1 rfl) ?_
      refine lv_iload_n hC.x hC.b dX0_reasonAgainst_24 rfl (lv_at hl 2 rfl) ?_
      refine lv_iload_n hC.x hC.b dX0_reasonAgainst_25 rfl (lv_at hl 3 rfl) ?_
      refine hc_goIW hC hW (hc_rV hC (c_X0_reasonWithinReach l D cy cz t1 t2 hc ac x1 x2 x3 wc14 _ hq) (hc_preW hC hW) hW 0 0 rfl rfl q_156 q_157 q_158 q_14 q_159 hd_X0_reasonWithinReach ⟨rfl, rfl⟩ ⟨Nat.le_of_ble_eq_true rfl, Nat.le_of_ble_eq_true rfl⟩ rfl hl.1 rfl (Nat.le_of_ble_eq_true rfl) dX0_reasonAgainst_26 ⟨Nat.zero_le _, Nat.zero_le _⟩) (fun r26 u9 H locs hq hW => ?_)
      obtain ⟨wc26, rfl⟩ : ∃ z, z = u9 := ⟨_, rfl⟩
      try dsimp only at hq hW
      exact hc_iret hC (wc26) hW hq dX0_reasonAgainst_29
    · replace hq := hq.2 hc9
      refine lv_iconst (v := 1) hC.x hC.b dX0_reasonAgainst_20 (by decide) ?_
      exact hc_iret hC (wc14) hW hq dX0_reasonAgainst_21
def k_X0_firstP (x1 : Int32) (wc : Wd) (Q : Int32 → Wd → Prop) : Prop :=
 (k_X0_hasFace x1 wc (fun r2 wc2 => ((¬ r2 = 0 → (vp_in x1 14 ∧ ((¬ (wc2 5 (x1).toNatClampNeg) = 0 → (vp_in x1 14 ∧ (Q (wc2 6 (x1).toNatClampNeg) wc2))) ∧
 ((wc2 5 (x1).toNatClampNeg) = 0 → (vp_in x1 14 ∧ (Q (wc2 7 (x1).toNatClampNeg) wc2)))))) ∧
 (r2 = 0 → (Q 0 wc2)))))
set_option maxHeartbeats 4000000 in
set_option maxRecDepth 100000 in
theorem c_X0_firstP (l : Launch) (D : va_G) (cy cz : ClassId) (t1 t2 : Nat) (hc : Nat) (ac : Nat → Nat) (x1 : Int32) (wc : Wd) (Q : Int32 → Wd → Prop) (hq : k_X0_firstP x1 wc Q) : Ct l D cy cz t1 t2 yX0_firstP cX0_firstP 2 (some .int) (rM 2 41) [.ref hc, .int x1] (cC cy hc ac wc) (QI D (S := Wd) (fun r u => Q r u) (fun u => (cC cy hc ac u))) := by
  refine Ct.of (own := RX0) (by decide) rfl (Nat.le_of_ble_eq_true rfl) ?_
  intro p e s m below meth c A ls hC hW hl
  unfold k_X0_firstP at hq
  have hl : lv_has ls 2 [(0, .ref hc), (1, .int x1)] := hl
  refine lv_aload_n hC.x hC.b dX0_firstP_0 rfl (lv_at hl 0 rfl) ?_
  refine lv_iload_n hC.x hC.b dX0_firstP_1 rfl (lv_at hl 1 rfl) ?_
  refine hc_goIW hC hW (hc_rV hC (c_X0_hasFace l D cy cz t1 t2 hc ac x1 wc _ hq) (hc_preW hC hW) hW 0 0 rfl rfl q_280 q_273 q_274 q_14 q_275 hd_X0_hasFace ⟨rfl, rfl⟩ ⟨Nat.le_of_ble_eq_true rfl, Nat.le_of_ble_eq_true rfl⟩ rfl hl.1 rfl (Nat.le_of_ble_eq_true rfl) dX0_firstP_2 ⟨Nat.zero_le _, Nat.zero_le _⟩) (fun r2 u9 H locs hq hW => ?_)
  obtain ⟨wc2, rfl⟩ : ∃ z, z = u9 := ⟨_, rfl⟩
  try dsimp only at hq hW
  refine lv_if_ne (tgt := 10) hC.x hC.b dX0_firstP_5 (by decide) (fun hc9 => ?_) (fun hc9 => ?_)
  · replace hq := hq.1 hc9
    refine lv_aload_n hC.x hC.b dX0_firstP_10 rfl (lv_at hl 0 rfl) ?_
    refine hc_get (v := .ref (ac 5)) hC hW 0 0 5 inX0 rfl rfl (by decide) q_35 rfl dX0_firstP_11 ?_
    refine lv_iload_n hC.x hC.b dX0_firstP_14 rfl (lv_at hl 1 rfl) ?_
    refine hc_iald hC hW 4 rfl hq.1 dX0_firstP_15 ?_
    replace hq := hq.2
    refine lv_if_ne (tgt := 28) hC.x hC.b dX0_firstP_16 (by decide) (fun hc9 => ?_) (fun hc9 => ?_)
    · replace hq := hq.1 hc9
      refine lv_aload_n hC.x hC.b dX0_firstP_28 rfl (lv_at hl 0 rfl) ?_
      refine hc_get (v := .ref (ac 6)) hC hW 0 0 6 inX0 rfl rfl (by decide) q_36 rfl dX0_firstP_29 ?_
      refine lv_iload_n hC.x hC.b dX0_firstP_32 rfl (lv_at hl 1 rfl) ?_
      refine hc_iald hC hW 5 rfl hq.1 dX0_firstP_33 ?_
      replace hq := hq.2
      exact hc_iret hC (wc2) hW hq dX0_firstP_34
    · replace hq := hq.2 hc9
      refine lv_aload_n hC.x hC.b dX0_firstP_19 rfl (lv_at hl 0 rfl) ?_
      refine hc_get (v := .ref (ac 7)) hC hW 0 0 7 inX0 rfl rfl (by decide) q_37 rfl dX0_firstP_20 ?_
      refine lv_iload_n hC.x hC.b dX0_firstP_23 rfl (lv_at hl 1 rfl) ?_
      refine hc_iald hC hW 6 rfl hq.1 dX0_firstP_24 ?_
      replace hq := hq.2
      refine lv_goto (tgt := 34) hC.x hC.b dX0_firstP_25 (by decide) ?_
      exact hc_iret hC (wc2) hW hq dX0_firstP_34
  · replace hq := hq.2 hc9
    refine lv_iconst (v := 0) hC.x hC.b dX0_firstP_8 (by decide) ?_
    exact hc_iret hC (wc2) hW hq dX0_firstP_9
def k_X0_firstQ (x1 : Int32) (wc : Wd) (Q : Int32 → Wd → Prop) : Prop :=
 (k_X0_hasFace x1 wc (fun r2 wc2 => ((¬ r2 = 0 → (vp_in x1 14 ∧ ((¬ (wc2 5 (x1).toNatClampNeg) = 1 → (vp_in x1 14 ∧ (Q (wc2 6 (x1).toNatClampNeg) wc2))) ∧
 ((wc2 5 (x1).toNatClampNeg) = 1 → (vp_in x1 14 ∧ (Q (wc2 7 (x1).toNatClampNeg) wc2)))))) ∧
 (r2 = 0 → (Q 0 wc2)))))
set_option maxHeartbeats 4000000 in
set_option maxRecDepth 100000 in
theorem c_X0_firstQ (l : Launch) (D : va_G) (cy cz : ClassId) (t1 t2 : Nat) (hc : Nat) (ac : Nat → Nat) (x1 : Int32) (wc : Wd) (Q : Int32 → Wd → Prop) (hq : k_X0_firstQ x1 wc Q) : Ct l D cy cz t1 t2 yX0_firstQ cX0_firstQ 2 (some .int) (rM 2 41) [.ref hc, .int x1] (cC cy hc ac wc) (QI D (S := Wd) (fun r u => Q r u) (fun u => (cC cy hc ac u))) := by
  refine Ct.of (own := RX0) (by decide) rfl (Nat.le_of_ble_eq_true rfl) ?_
  intro p e s m below meth c A ls hC hW hl
  unfold k_X0_firstQ at hq
  have hl : lv_has ls 2 [(0, .ref hc), (1, .int x1)] := hl
  refine lv_aload_n hC.x hC.b dX0_firstQ_0 rfl (lv_at hl 0 rfl) ?_
  refine lv_iload_n hC.x hC.b dX0_firstQ_1 rfl (lv_at hl 1 rfl) ?_
  refine hc_goIW hC hW (hc_rV hC (c_X0_hasFace l D cy cz t1 t2 hc ac x1 wc _ hq) (hc_preW hC hW) hW 0 0 rfl rfl q_280 q_273 q_274 q_14 q_275 hd_X0_hasFace ⟨rfl, rfl⟩ ⟨Nat.le_of_ble_eq_true rfl, Nat.le_of_ble_eq_true rfl⟩ rfl hl.1 rfl (Nat.le_of_ble_eq_true rfl) dX0_firstQ_2 ⟨Nat.zero_le _, Nat.zero_le _⟩) (fun r2 u9 H locs hq hW => ?_)
  obtain ⟨wc2, rfl⟩ : ∃ z, z = u9 := ⟨_, rfl⟩
  try dsimp only at hq hW
  refine lv_if_ne (tgt := 10) hC.x hC.b dX0_firstQ_5 (by decide) (fun hc9 => ?_) (fun hc9 => ?_)
  · replace hq := hq.1 hc9
    refine lv_aload_n hC.x hC.b dX0_firstQ_10 rfl (lv_at hl 0 rfl) ?_
    refine hc_get (v := .ref (ac 5)) hC hW 0 0 5 inX0 rfl rfl (by decide) q_35 rfl dX0_firstQ_11 ?_
    refine lv_iload_n hC.x hC.b dX0_firstQ_14 rfl (lv_at hl 1 rfl) ?_
    refine hc_iald hC hW 4 rfl hq.1 dX0_firstQ_15 ?_
    replace hq := hq.2
    refine lv_iconst (v := 1) hC.x hC.b dX0_firstQ_16 (by decide) ?_
    refine lv_icmp_ne (tgt := 29) hC.x hC.b dX0_firstQ_17 (by decide) (fun hc9 => ?_) (fun hc9 => ?_)
    · replace hq := hq.1 hc9
      refine lv_aload_n hC.x hC.b dX0_firstQ_29 rfl (lv_at hl 0 rfl) ?_
      refine hc_get (v := .ref (ac 6)) hC hW 0 0 6 inX0 rfl rfl (by decide) q_36 rfl dX0_firstQ_30 ?_
      refine lv_iload_n hC.x hC.b dX0_firstQ_33 rfl (lv_at hl 1 rfl) ?_
      refine hc_iald hC hW 5 rfl hq.1 dX0_firstQ_34 ?_
      replace hq := hq.2
      exact hc_iret hC (wc2) hW hq dX0_firstQ_35
    · replace hq := hq.2 hc9
      refine lv_aload_n hC.x hC.b dX0_firstQ_20 rfl (lv_at hl 0 rfl) ?_
      refine hc_get (v := .ref (ac 7)) hC hW 0 0 7 inX0 rfl rfl (by decide) q_37 rfl dX0_firstQ_21 ?_
      refine lv_iload_n hC.x hC.b dX0_firstQ_24 rfl (lv_at hl 1 rfl) ?_
      refine hc_iald hC hW 6 rfl hq.1 dX0_firstQ_25 ?_
      replace hq := hq.2
      refine lv_goto (tgt := 35) hC.x hC.b dX0_firstQ_26 (by decide) ?_
      exact hc_iret hC (wc2) hW hq dX0_firstQ_35
  · replace hq := hq.2 hc9
    refine lv_iconst (v := 0) hC.x hC.b dX0_firstQ_8 (by decide) ?_
    exact hc_iret hC (wc2) hW hq dX0_firstQ_9
def k_X0_lastP (x1 : Int32) (wc : Wd) (Q : Int32 → Wd → Prop) : Prop :=
 (k_X0_hasFace x1 wc (fun r2 wc2 => ((¬ r2 = 0 → (vp_in x1 14 ∧ ((¬ (wc2 5 (x1).toNatClampNeg) = 0 → (vp_in x1 14 ∧ (Q (wc2 6 (x1).toNatClampNeg) wc2))) ∧
 ((wc2 5 (x1).toNatClampNeg) = 0 → (vp_in x1 14 ∧ (vp_in x1 14 ∧ (Q ((wc2 7 (x1).toNatClampNeg) + (wc2 8 (x1).toNatClampNeg)) wc2))))))) ∧
 (r2 = 0 → (Q 0 wc2)))))
set_option maxHeartbeats 4000000 in
set_option maxRecDepth 100000 in
theorem c_X0_lastP (l : Launch) (D : va_G) (cy cz : ClassId) (t1 t2 : Nat) (hc : Nat) (ac : Nat → Nat) (x1 : Int32) (wc : Wd) (Q : Int32 → Wd → Prop) (hq : k_X0_lastP x1 wc Q) : Ct l D cy cz t1 t2 yX0_lastP cX0_lastP 2 (some .int) (rM 2 41) [.ref hc, .int x1] (cC cy hc ac wc) (QI D (S := Wd) (fun r u => Q r u) (fun u => (cC cy hc ac u))) := by
  refine Ct.of (own := RX0) (by decide) rfl (Nat.le_of_ble_eq_true rfl) ?_
  intro p e s m below meth c A ls hC hW hl
  unfold k_X0_lastP at hq
  have hl : lv_has ls 2 [(0, .ref hc), (1, .int x1)] := hl
  refine lv_aload_n hC.x hC.b dX0_lastP_0 rfl (lv_at hl 0 rfl) ?_
  refine lv_iload_n hC.x hC.b dX0_lastP_1 rfl (lv_at hl 1 rfl) ?_
  refine hc_goIW hC hW (hc_rV hC (c_X0_hasFace l D cy cz t1 t2 hc ac x1 wc _ hq) (hc_preW hC hW) hW 0 0 rfl rfl q_280 q_273 q_274 q_14 q_275 hd_X0_hasFace ⟨rfl, rfl⟩ ⟨Nat.le_of_ble_eq_true rfl, Nat.le_of_ble_eq_true rfl⟩ rfl hl.1 rfl (Nat.le_of_ble_eq_true rfl) dX0_lastP_2 ⟨Nat.zero_le _, Nat.zero_le _⟩) (fun r2 u9 H locs hq hW => ?_)
  obtain ⟨wc2, rfl⟩ : ∃ z, z = u9 := ⟨_, rfl⟩
  try dsimp only at hq hW
  refine lv_if_ne (tgt := 10) hC.x hC.b dX0_lastP_5 (by decide) (fun hc9 => ?_) (fun hc9 => ?_)
  · replace hq := hq.1 hc9
    refine lv_aload_n hC.x hC.b dX0_lastP_10 rfl (lv_at hl 0 rfl) ?_
    refine hc_get (v := .ref (ac 5)) hC hW 0 0 5 inX0 rfl rfl (by decide) q_35 rfl dX0_lastP_11 ?_
    refine lv_iload_n hC.x hC.b dX0_lastP_14 rfl (lv_at hl 1 rfl) ?_
    refine hc_iald hC hW 4 rfl hq.1 dX0_lastP_15 ?_
    replace hq := hq.2
    refine lv_if_ne (tgt := 35) hC.x hC.b dX0_lastP_16 (by decide) (fun hc9 => ?_) (fun hc9 => ?_)
    · replace hq := hq.1 hc9
      refine lv_aload_n hC.x hC.b dX0_lastP_35 rfl (lv_at hl 0 rfl) ?_
      refine hc_get (v := .ref (ac 6)) hC hW 0 0 6 inX0 rfl rfl (by decide) q_36 rfl dX0_lastP_36 ?_
      refine lv_iload_n hC.x hC.b dX0_lastP_39 rfl (lv_at hl 1 rfl) ?_
      refine hc_iald hC hW 5 rfl hq.1 dX0_lastP_40 ?_
      replace hq := hq.2
      exact hc_iret hC (wc2) hW hq dX0_lastP_41
    · replace hq := hq.2 hc9
      refine lv_aload_n hC.x hC.b dX0_lastP_19 rfl (lv_at hl 0 rfl) ?_
      refine hc_get (v := .ref (ac 7)) hC hW 0 0 7 inX0 rfl rfl (by decide) q_37 rfl dX0_lastP_20 ?_
      refine lv_iload_n hC.x hC.b dX0_lastP_23 rfl (lv_at hl 1 rfl) ?_
      refine hc_iald hC hW 6 rfl hq.1 dX0_lastP_24 ?_
      replace hq := hq.2
      refine lv_aload_n hC.x hC.b dX0_lastP_25 rfl (lv_at hl 0 rfl) ?_
      refine hc_get (v := .ref (ac 8)) hC hW 0 0 8 inX0 rfl rfl (by decide) q_38 rfl dX0_lastP_26 ?_
      refine lv_iload_n hC.x hC.b dX0_lastP_29 rfl (lv_at hl 1 rfl) ?_
      refine hc_iald hC hW 7 rfl hq.1 dX0_lastP_30 ?_
      replace hq := hq.2
      refine lv_iadd hC.x hC.b dX0_lastP_31 ?_
      refine lv_goto (tgt := 41) hC.x hC.b dX0_lastP_32 (by decide) ?_
      exact hc_iret hC (wc2) hW hq dX0_lastP_41
  · replace hq := hq.2 hc9
    refine lv_iconst (v := 0) hC.x hC.b dX0_lastP_8 (by decide) ?_
    exact hc_iret hC (wc2) hW hq dX0_lastP_9
def k_X0_lastQ (x1 : Int32) (wc : Wd) (Q : Int32 → Wd → Prop) : Prop :=
 (k_X0_hasFace x1 wc (fun r2 wc2 => ((¬ r2 = 0 → (vp_in x1 14 ∧ ((¬ (wc2 5 (x1).toNatClampNeg) = 1 → (vp_in x1 14 ∧ (Q (wc2 6 (x1).toNatClampNeg) wc2))) ∧
 ((wc2 5 (x1).toNatClampNeg) = 1 → (vp_in x1 14 ∧ (vp_in x1 14 ∧ (Q ((wc2 7 (x1).toNatClampNeg) + (wc2 8 (x1).toNatClampNeg)) wc2))))))) ∧
 (r2 = 0 → (Q 0 wc2)))))
set_option maxHeartbeats 4000000 in
set_option maxRecDepth 100000 in
theorem c_X0_lastQ (l : Launch) (D : va_G) (cy cz : ClassId) (t1 t2 : Nat) (hc : Nat) (ac : Nat → Nat) (x1 : Int32) (wc : Wd) (Q : Int32 → Wd → Prop) (hq : k_X0_lastQ x1 wc Q) : Ct l D cy cz t1 t2 yX0_lastQ cX0_lastQ 2 (some .int) (rM 2 41) [.ref hc, .int x1] (cC cy hc ac wc) (QI D (S := Wd) (fun r u => Q r u) (fun u => (cC cy hc ac u))) := by
  refine Ct.of (own := RX0) (by decide) rfl (Nat.le_of_ble_eq_true rfl) ?_
  intro p e s m below meth c A ls hC hW hl
  unfold k_X0_lastQ at hq
  have hl : lv_has ls 2 [(0, .ref hc), (1, .int x1)] := hl
  refine lv_aload_n hC.x hC.b dX0_lastQ_0 rfl (lv_at hl 0 rfl) ?_
  refine lv_iload_n hC.x hC.b dX0_lastQ_1 rfl (lv_at hl 1 rfl) ?_
  refine hc_goIW hC hW (hc_rV hC (c_X0_hasFace l D cy cz t1 t2 hc ac x1 wc _ hq) (hc_preW hC hW) hW 0 0 rfl rfl q_280 q_273 q_274 q_14 q_275 hd_X0_hasFace ⟨rfl, rfl⟩ ⟨Nat.le_of_ble_eq_true rfl, Nat.le_of_ble_eq_true rfl⟩ rfl hl.1 rfl (Nat.le_of_ble_eq_true rfl) dX0_lastQ_2 ⟨Nat.zero_le _, Nat.zero_le _⟩) (fun r2 u9 H locs hq hW => ?_)
  obtain ⟨wc2, rfl⟩ : ∃ z, z = u9 := ⟨_, rfl⟩
  try dsimp only at hq hW
  refine lv_if_ne (tgt := 10) hC.x hC.b dX0_lastQ_5 (by decide) (fun hc9 => ?_) (fun hc9 => ?_)
  · replace hq := hq.1 hc9
    refine lv_aload_n hC.x hC.b dX0_lastQ_10 rfl (lv_at hl 0 rfl) ?_
    refine hc_get (v := .ref (ac 5)) hC hW 0 0 5 inX0 rfl rfl (by decide) q_35 rfl dX0_lastQ_11 ?_
    refine lv_iload_n hC.x hC.b dX0_lastQ_14 rfl (lv_at hl 1 rfl) ?_
    refine hc_iald hC hW 4 rfl hq.1 dX0_lastQ_15 ?_
    replace hq := hq.2
    refine lv_iconst (v := 1) hC.x hC.b dX0_lastQ_16 (by decide) ?_
    refine lv_icmp_ne (tgt := 36) hC.x hC.b dX0_lastQ_17 (by decide) (fun hc9 => ?_) (fun hc9 => ?_)
    · replace hq := hq.1 hc9
      refine lv_aload_n hC.x hC.b dX0_lastQ_36 rfl (lv_at hl 0 rfl) ?_
      refine hc_get (v := .ref (ac 6)) hC hW 0 0 6 inX0 rfl rfl (by decide) q_36 rfl dX0_lastQ_37 ?_
      refine lv_iload_n hC.x hC.b dX0_lastQ_40 rfl (lv_at hl 1 rfl) ?_
      refine hc_iald hC hW 5 rfl hq.1 dX0_lastQ_41 ?_
      replace hq := hq.2
      exact hc_iret hC (wc2) hW hq dX0_lastQ_42
    · replace hq := hq.2 hc9
      refine lv_aload_n hC.x hC.b dX0_lastQ_20 rfl (lv_at hl 0 rfl) ?_
      refine hc_get (v := .ref (ac 7)) hC hW 0 0 7 inX0 rfl rfl (by decide) q_37 rfl dX0_lastQ_21 ?_
      refine lv_iload_n hC.x hC.b dX0_lastQ_24 rfl (lv_at hl 1 rfl) ?_
      refine hc_iald hC hW 6 rfl hq.1 dX0_lastQ_25 ?_
      replace hq := hq.2
      refine lv_aload_n hC.x hC.b dX0_lastQ_26 rfl (lv_at hl 0 rfl) ?_
      refine hc_get (v := .ref (ac 8)) hC hW 0 0 8 inX0 rfl rfl (by decide) q_38 rfl dX0_lastQ_27 ?_
      refine lv_iload_n hC.x hC.b dX0_lastQ_30 rfl (lv_at hl 1 rfl) ?_
      refine hc_iald hC hW 7 rfl hq.1 dX0_lastQ_31 ?_
      replace hq := hq.2
      refine lv_iadd hC.x hC.b dX0_lastQ_32 ?_
      refine lv_goto (tgt := 42) hC.x hC.b dX0_lastQ_33 (by decide) ?_
      exact hc_iret hC (wc2) hW hq dX0_lastQ_42
  · replace hq := hq.2 hc9
    refine lv_iconst (v := 0) hC.x hC.b dX0_lastQ_8 (by decide) ?_
    exact hc_iret hC (wc2) hW hq dX0_lastQ_9
def k_X0_facesOn_55 (K5 : (Int32 × Int32 × Int32 × Int32 × Wd) → Prop) (Q : Int32 → Wd → Prop) (x1 : Int32) (x2 : Int32) (x3 : Int32) (x4 : Int32) (wc : Wd) : Prop :=
 (K5 (x1, x2, x3, (x4 + 1), wc))
set_option maxHeartbeats 4000000 in
set_option maxRecDepth 100000 in
theorem B_X0_facesOn_55 {l : Launch} {p : Program} {e : Env} {s : State} {m : MethodId} {args : Array Value} {below : List Frame} {meth : Method} {c : Code} {A : Nat → Prop} {D : va_G} {cy cz : ClassId} {t1 t2 : Nat} (hc : Nat) (ac : Nat → Nat) (Q : Int32 → Wd → Prop) (K5 : (Int32 × Int32 × Int32 × Int32 × Wd) → Prop) (hK5 : ∀ b9 : Int32 × Int32 × Int32 × Int32 × Wd, K5 b9 → ∀ (H : Heap) (locs : List Loc) (ls : Array Slot), Wo D A s (cC cy hc ac b9.2.2.2.2) H locs → lv_has ls 5 [(0, .ref hc), (1, .int b9.1), (2, .int b9.2.1), (3, .int b9.2.2.1), (4, .int b9.2.2.2.1)] → W p l e (rM 3 62) s m args below meth c H locs 0 0 (MQ below (QI D (S := Wd) (fun r u => Q r u) (fun u => (cC cy hc ac u)) A) args s 0 0 A) (F0 m 5 ls [])) (hC : Cx D cy cz t1 t2 p s m args meth c cX0_facesOn 5 (some .int) RX0 A) (x1 : Int32) (x2 : Int32) (x3 : Int32) (x4 : Int32) (wc : Wd) {H : Heap} {locs : List Loc} {ls : Array Slot} (hq : k_X0_facesOn_55 K5 Q x1 x2 x3 x4 wc) (hW : Wo D A s (cC cy hc ac wc) H locs) (hl : lv_has ls 5 [(0, .ref hc), (1, .int x1), (2, .int x2), (3, .int x3), (4, .int x4)]) : W p l e (rM 3 62) s m args below meth c H locs 0 0 (MQ below (QI D (S := Wd) (fun r u => Q r u) (fun u => (cC cy hc ac u)) A) args s 0 0 A) (F0 m 55 ls []) := by
  unfold k_X0_facesOn_55 at hq
  refine lv_iinc (v := (x4 + 1)) (lv' := [(4, .int (x4 + 1)), (0, .ref hc), (1, .int x1), (2, .int x2), (3, .int x3)]) hC.x hC.b dX0_facesOn_55 hl (k := 4) rfl rfl (by decide) rfl (fun ls hl => ?_)
  refine lv_goto (tgt := 5) hC.x hC.b dX0_facesOn_58 (by decide) ?_
  exact hK5 (x1, x2, x3, (x4 + 1), wc) hq _ _ _ hW (lv_sub hl [1, 2, 3, 4, 0] rfl)
def k_X0_facesOn_5 (K5 : (Int32 × Int32 × Int32 × Int32 × Wd) → Prop) (Q : Int32 → Wd → Prop) (x1 : Int32) (x2 : Int32) (x3 : Int32) (x4 : Int32) (wc : Wd) : Prop :=
 (k_X0_faces wc (fun r8 wc8 => ((r8 ≤ x4 → (Q x3 wc8)) ∧
 (¬ r8 ≤ x4 → (k_X0_firstP x4 wc8 (fun r18 wc18 => (k_X0_lastP x4 wc18 (fun r24 wc24 => (k_X3_isWithin x1 r18 r24 (fun r27 => ((r27 = 0 → (k_X0_facesOn_55 K5 Q x1 x2 x3 x4 wc24)) ∧
 (¬ r27 = 0 → (k_X0_firstQ x4 wc24 (fun r37 wc37 => (k_X0_lastQ x4 wc37 (fun r43 wc43 => (k_X3_isWithin x2 r37 r43 (fun r46 => ((r46 = 0 → (k_X0_facesOn_55 K5 Q x1 x2 x3 x4 wc43)) ∧
 (¬ r46 = 0 → (k_X0_facesOn_55 K5 Q x1 x2 (x3 + 1) x4 wc43)))))))))))))))))))))
set_option maxHeartbeats 4000000 in
set_option maxRecDepth 100000 in
theorem B_X0_facesOn_5 {l : Launch} {p : Program} {e : Env} {s : State} {m : MethodId} {args : Array Value} {below : List Frame} {meth : Method} {c : Code} {A : Nat → Prop} {D : va_G} {cy cz : ClassId} {t1 t2 : Nat} (hc : Nat) (ac : Nat → Nat) (Q : Int32 → Wd → Prop) (K5 : (Int32 × Int32 × Int32 × Int32 × Wd) → Prop) (hK5 : ∀ b9 : Int32 × Int32 × Int32 × Int32 × Wd, K5 b9 → ∀ (H : Heap) (locs : List Loc) (ls : Array Slot), Wo D A s (cC cy hc ac b9.2.2.2.2) H locs → lv_has ls 5 [(0, .ref hc), (1, .int b9.1), (2, .int b9.2.1), (3, .int b9.2.2.1), (4, .int b9.2.2.2.1)] → W p l e (rM 3 62) s m args below meth c H locs 0 0 (MQ below (QI D (S := Wd) (fun r u => Q r u) (fun u => (cC cy hc ac u)) A) args s 0 0 A) (F0 m 5 ls [])) (hC : Cx D cy cz t1 t2 p s m args meth c cX0_facesOn 5 (some .int) RX0 A) (x1 : Int32) (x2 : Int32) (x3 : Int32) (x4 : Int32) (wc : Wd) {H : Heap} {locs : List Loc} {ls : Array Slot} (hq : k_X0_facesOn_5 K5 Q x1 x2 x3 x4 wc) (hW : Wo D A s (cC cy hc ac wc) H locs) (hl : lv_has ls 5 [(0, .ref hc), (1, .int x1), (2, .int x2), (3, .int x3), (4, .int x4)]) : W p l e (rM 3 62) s m args below meth c H locs 0 0 (MQ below (QI D (S := Wd) (fun r u => Q r u) (fun u => (cC cy hc ac u)) A) args s 0 0 A) (F0 m 5 ls []) := by
  unfold k_X0_facesOn_5 at hq
  refine lv_iload hC.x hC.b dX0_facesOn_5 (lv_at hl 4 rfl) ?_
  refine lv_aload_n hC.x hC.b dX0_facesOn_7 rfl (lv_at hl 0 rfl) ?_
  refine hc_goIW hC hW (hc_rV hC (c_X0_faces l D cy cz t1 t2 hc ac wc _ hq) (hc_preW hC hW) hW 0 0 rfl rfl q_67 q_68 q_69 q_14 q_70 hd_X0_faces ⟨rfl, rfl⟩ ⟨Nat.le_of_ble_eq_true rfl, Nat.le_of_ble_eq_true rfl⟩ rfl hl.1 rfl (Nat.le_of_ble_eq_true rfl) dX0_facesOn_8 ⟨Nat.zero_le _, Nat.zero_le _⟩) (fun r8 u9 H locs hq hW => ?_)
  obtain ⟨wc8, rfl⟩ : ∃ z, z = u9 := ⟨_, rfl⟩
  try dsimp only at hq hW
  refine lv_icmp_ge (tgt := 61) hC.x hC.b dX0_facesOn_11 (by decide) (fun hc9 => ?_) (fun hc9 => ?_)
  · replace hq := hq.1 hc9
    refine lv_iload_n hC.x hC.b dX0_facesOn_61 rfl (lv_at hl 3 rfl) ?_
    exact hc_iret hC (wc8) hW hq dX0_facesOn_62
  · replace hq := hq.2 hc9
    refine lv_iload_n hC.x hC.b dX0_facesOn_14 rfl (lv_at hl 1 rfl) ?_
    refine lv_aload_n hC.x hC.b dX0_facesOn_15 rfl (lv_at hl 0 rfl) ?_
    refine lv_iload hC.x hC.b dX0_facesOn_16 (lv_at hl 4 rfl) ?_
    refine hc_goIW hC hW (hc_rV hC (c_X0_firstP l D cy cz t1 t2 hc ac x4 wc8 _ hq) (hc_preW hC hW) hW 0 0 rfl rfl q_301 q_277 q_278 q_14 q_279 hd_X0_firstP ⟨rfl, rfl⟩ ⟨Nat.le_of_ble_eq_true rfl, Nat.le_of_ble_eq_true rfl⟩ rfl hl.1 rfl (Nat.le_of_ble_eq_true rfl) dX0_facesOn_18 ⟨Nat.zero_le _, Nat.zero_le _⟩) (fun r18 u9 H locs hq hW => ?_)
    obtain ⟨wc18, rfl⟩ : ∃ z, z = u9 := ⟨_, rfl⟩
    try dsimp only at hq hW
    refine lv_aload_n hC.x hC.b dX0_facesOn_21 rfl (lv_at hl 0 rfl) ?_
    refine lv_iload hC.x hC.b dX0_facesOn_22 (lv_at hl 4 rfl) ?_
    refine hc_goIW hC hW (hc_rV hC (c_X0_lastP l D cy cz t1 t2 hc ac x4 wc18 _ hq) (hc_preW hC hW) hW 0 0 rfl rfl q_302 q_303 q_304 q_14 q_305 hd_X0_lastP ⟨rfl, rfl⟩ ⟨Nat.le_of_ble_eq_true rfl, Nat.le_of_ble_eq_true rfl⟩ rfl hl.1 rfl (Nat.le_of_ble_eq_true rfl) dX0_facesOn_24 ⟨Nat.zero_le _, Nat.zero_le _⟩) (fun r24 u9 H locs hq hW => ?_)
    obtain ⟨wc24, rfl⟩ : ∃ z, z = u9 := ⟨_, rfl⟩
    try dsimp only at hq hW
    refine hc_goP hC hW (hc_rN hC (c_X3_isWithin l D cy cz t1 t2 x1 r18 r24 _ hq) (hc_preP hC hW) hC.en.1.2.2.2.1 q_113 q_2 q_114 hd_X3_isWithin ⟨rfl, rfl⟩ ⟨Nat.le_of_ble_eq_true rfl, Nat.le_of_ble_eq_true rfl⟩ rfl hl.1 rfl (Nat.le_of_ble_eq_true rfl) dX0_facesOn_27 ⟨Nat.zero_le _, Nat.zero_le _⟩) (fun r27 H locs hq hW => ?_)
    try dsimp only at hq
    refine lv_if_eq (tgt := 55) hC.x hC.b dX0_facesOn_30 (by decide) (fun hc9 => ?_) (fun hc9 => ?_)
    · replace hq := hq.1 hc9
      exact B_X0_facesOn_55 hc ac Q K5 hK5 hC x1 x2 x3 x4 wc24 hq hW (lv_sub hl [0, 1, 2, 3, 4] rfl)
    · replace hq := hq.2 hc9
      refine lv_iload_n hC.x hC.b dX0_facesOn_33 rfl (lv_at hl 2 rfl) ?_
      refine lv_aload_n hC.x hC.b dX0_facesOn_34 rfl (lv_at hl 0 rfl) ?_
      refine lv_iload hC.x hC.b dX0_facesOn_35 (lv_at hl 4 rfl) ?_
      refine hc_goIW hC hW (hc_rV hC (c_X0_firstQ l D cy cz t1 t2 hc ac x4 wc24 _ hq) (hc_preW hC hW) hW 0 0 rfl rfl q_306 q_282 q_283 q_14 q_284 hd_X0_firstQ ⟨rfl, rfl⟩ ⟨Nat.le_of_ble_eq_true rfl, Nat.le_of_ble_eq_true rfl⟩ rfl hl.1 rfl (Nat.le_of_ble_eq_true rfl) dX0_facesOn_37 ⟨Nat.zero_le _, Nat.zero_le _⟩) (fun r37 u9 H locs hq hW => ?_)
      obtain ⟨wc37, rfl⟩ : ∃ z, z = u9 := ⟨_, rfl⟩
      try dsimp only at hq hW
      refine lv_aload_n hC.x hC.b dX0_facesOn_40 rfl (lv_at hl 0 rfl) ?_
      refine lv_iload hC.x hC.b dX0_facesOn_41 (lv_at hl 4 rfl) ?_
      refine hc_goIW hC hW (hc_rV hC (c_X0_lastQ l D cy cz t1 t2 hc ac x4 wc37 _ hq) (hc_preW hC hW) hW 0 0 rfl rfl q_307 q_308 q_309 q_14 q_310 hd_X0_lastQ ⟨rfl, rfl⟩ ⟨Nat.le_of_ble_eq_true rfl, Nat.le_of_ble_eq_true rfl⟩ rfl hl.1 rfl (Nat.le_of_ble_eq_true rfl) dX0_facesOn_43 ⟨Nat.zero_le _, Nat.zero_le _⟩) (fun r43 u9 H locs hq hW => ?_)
      obtain ⟨wc43, rfl⟩ : ∃ z, z = u9 := ⟨_, rfl⟩
      try dsimp only at hq hW
      refine hc_goP hC hW (hc_rN hC (c_X3_isWithin l D cy cz t1 t2 x2 r37 r43 _ hq) (hc_preP hC hW) hC.en.1.2.2.2.1 q_113 q_2 q_114 hd_X3_isWithin ⟨rfl, rfl⟩ ⟨Nat.le_of_ble_eq_true rfl, Nat.le_of_ble_eq_true rfl⟩ rfl hl.1 rfl (Nat.le_of_ble_eq_true rfl) dX0_facesOn_46 ⟨Nat.zero_le _, Nat.zero_le _⟩) (fun r46 H locs hq hW => ?_)
      try dsimp only at hq
      refine lv_if_eq (tgt := 55) hC.x hC.b dX0_facesOn_49 (by decide) (fun hc9 => ?_) (fun hc9 => ?_)
      · replace hq := hq.1 hc9
        exact B_X0_facesOn_55 hc ac Q K5 hK5 hC x1 x2 x3 x4 wc43 hq hW (lv_sub hl [0, 1, 2, 3, 4] rfl)
      · replace hq := hq.2 hc9
        refine lv_iinc (v := (x3 + 1)) (lv' := [(3, .int (x3 + 1)), (0, .ref hc), (1, .int x1), (2, .int x2), (4, .int x4)]) hC.x hC.b dX0_facesOn_52 hl (k := 3) rfl rfl (by decide) rfl (fun ls hl => ?_)
        exact B_X0_facesOn_55 hc ac Q K5 hK5 hC x1 x2 (x3 + 1) x4 wc43 hq hW (lv_sub hl [1, 2, 3, 0, 4] rfl)
def k_X0_facesOn (x1 : Int32) (x2 : Int32) (wc : Wd) (Q : Int32 → Wd → Prop) : Prop :=
 (∃ n : Nat, lpf (fun (K : (Int32 × Int32 × Int32 × Int32 × Wd) → Prop) (u : Int32 × Int32 × Int32 × Int32 × Wd) => k_X0_facesOn_5  K Q u.1 u.2.1 u.2.2.1 u.2.2.2.1 u.2.2.2.2) n (x1, x2, 0, 0, wc))
set_option maxHeartbeats 4000000 in
set_option maxRecDepth 100000 in
theorem c_X0_facesOn (l : Launch) (D : va_G) (cy cz : ClassId) (t1 t2 : Nat) (hc : Nat) (ac : Nat → Nat) (x1 : Int32) (x2 : Int32) (wc : Wd) (Q : Int32 → Wd → Prop) (hq : k_X0_facesOn x1 x2 wc Q) : Ct l D cy cz t1 t2 yX0_facesOn cX0_facesOn 5 (some .int) (rM 3 62) [.ref hc, .int x1, .int x2] (cC cy hc ac wc) (QI D (S := Wd) (fun r u => Q r u) (fun u => (cC cy hc ac u))) := by
  refine Ct.of (own := RX0) (by decide) rfl (Nat.le_of_ble_eq_true rfl) ?_
  intro p e s m below meth c A ls hC hW hl
  unfold k_X0_facesOn at hq
  have hl : lv_has ls 5 [(0, .ref hc), (1, .int x1), (2, .int x2)] := hl
  refine lv_iconst (v := 0) hC.x hC.b dX0_facesOn_0 (by decide) ?_
  refine lv_istore_n (lv' := [(3, .int 0), (0, .ref hc), (1, .int x1), (2, .int x2)]) hC.x hC.b dX0_facesOn_1 rfl hl (by decide) rfl (fun ls hl => ?_)
  refine lv_iconst (v := 0) hC.x hC.b dX0_facesOn_2 (by decide) ?_
  refine lv_istore (lv' := [(4, .int 0), (3, .int 0), (0, .ref hc), (1, .int x1), (2, .int x2)]) hC.x hC.b dX0_facesOn_3 hl (by decide) rfl (fun ls hl => ?_)
  obtain ⟨n9, hq⟩ := hq
  exact lpf_use (G := (fun (u : Int32 × Int32 × Int32 × Int32 × Wd) => ∀ (H : Heap) (locs : List Loc) (ls : Array Slot), Wo D A s (cC cy hc ac u.2.2.2.2) H locs → lv_has ls 5 [(0, .ref hc), (1, .int u.1), (2, .int u.2.1), (3, .int u.2.2.1), (4, .int u.2.2.2.1)] → W p l e (rM 3 62) s m _ below meth c H locs 0 0 (MQ below (QI D (S := Wd) (fun r u => Q r u) (fun u => (cC cy hc ac u)) A) _ s 0 0 A) (F0 m 5 ls []))) (fun K hK u hq H locs ls hW hl => B_X0_facesOn_5 hc ac Q  K hK hC u.1 u.2.1 u.2.2.1 u.2.2.2.1 u.2.2.2.2 hq hW hl) n9 _ hq _ _ _ hW (lv_sub hl [2, 3, 4, 1, 0] rfl)
def k_J6_bitCount_0f7a4 (x0 : Int32)  (Q : Int32 → Prop) : Prop :=
 (Q ((((((((x0 - (((x0).toUInt32 >>> (((1 : Int32)).toUInt32 &&& Int32.toUInt32 31)).toInt32 &&& 1431655765)) &&& 858993459) + ((((x0 - (((x0).toUInt32 >>> (((1 : Int32)).toUInt32 &&& Int32.toUInt32 31)).toInt32 &&& 1431655765))).toUInt32 >>> (((2 : Int32)).toUInt32 &&& Int32.toUInt32 31)).toInt32 &&& 858993459)) + (((((x0 - (((x0).toUInt32 >>> (((1 : Int32)).toUInt32 &&& Int32.toUInt32 31)).toInt32 &&& 1431655765)) &&& 858993459) + ((((x0 - (((x0).toUInt32 >>> (((1 : Int32)).toUInt32 &&& Int32.toUInt32 31)).toInt32 &&& 1431655765))).toUInt32 >>> (((2 : Int32)).toUInt32 &&& Int32.toUInt32 31)).toInt32 &&& 858993459))).toUInt32 >>> (((4 : Int32)).toUInt32 &&& Int32.toUInt32 31)).toInt32) &&& 252645135) + (((((((x0 - (((x0).toUInt32 >>> (((1 : Int32)).toUInt32 &&& Int32.toUInt32 31)).toInt32 &&& 1431655765)) &&& 858993459) + ((((x0 - (((x0).toUInt32 >>> (((1 : Int32)).toUInt32 &&& Int32.toUInt32 31)).toInt32 &&& 1431655765))).toUInt32 >>> (((2 : Int32)).toUInt32 &&& Int32.toUInt32 31)).toInt32 &&& 858993459)) + (((((x0 - (((x0).toUInt32 >>> (((1 : Int32)).toUInt32 &&& Int32.toUInt32 31)).toInt32 &&& 1431655765)) &&& 858993459) + ((((x0 - (((x0).toUInt32 >>> (((1 : Int32)).toUInt32 &&& Int32.toUInt32 31)).toInt32 &&& 1431655765))).toUInt32 >>> (((2 : Int32)).toUInt32 &&& Int32.toUInt32 31)).toInt32 &&& 858993459))).toUInt32 >>> (((4 : Int32)).toUInt32 &&& Int32.toUInt32 31)).toInt32) &&& 252645135)).toUInt32 >>> (((8 : Int32)).toUInt32 &&& Int32.toUInt32 31)).toInt32) + ((((((((x0 - (((x0).toUInt32 >>> (((1 : Int32)).toUInt32 &&& Int32.toUInt32 31)).toInt32 &&& 1431655765)) &&& 858993459) + ((((x0 - (((x0).toUInt32 >>> (((1 : Int32)).toUInt32 &&& Int32.toUInt32 31)).toInt32 &&& 1431655765))).toUInt32 >>> (((2 : Int32)).toUInt32 &&& Int32.toUInt32 31)).toInt32 &&& 858993459)) + (((((x0 - (((x0).toUInt32 >>> (((1 : Int32)).toUInt32 &&& Int32.toUInt32 31)).toInt32 &&& 1431655765)) &&& 858993459) + ((((x0 - (((x0).toUInt32 >>> (((1 : Int32)).toUInt32 &&& Int32.toUInt32 31)).toInt32 &&& 1431655765))).toUInt32 >>> (((2 : Int32)).toUInt32 &&& Int32.toUInt32 31)).toInt32 &&& 858993459))).toUInt32 >>> (((4 : Int32)).toUInt32 &&& Int32.toUInt32 31)).toInt32) &&& 252645135) + (((((((x0 - (((x0).toUInt32 >>> (((1 : Int32)).toUInt32 &&& Int32.toUInt32 31)).toInt32 &&& 1431655765)) &&& 858993459) + ((((x0 - (((x0).toUInt32 >>> (((1 : Int32)).toUInt32 &&& Int32.toUInt32 31)).toInt32 &&& 1431655765))).toUInt32 >>> (((2 : Int32)).toUInt32 &&& Int32.toUInt32 31)).toInt32 &&& 858993459)) + (((((x0 - (((x0).toUInt32 >>> (((1 : Int32)).toUInt32 &&& Int32.toUInt32 31)).toInt32 &&& 1431655765)) &&& 858993459) + ((((x0 - (((x0).toUInt32 >>> (((1 : Int32)).toUInt32 &&& Int32.toUInt32 31)).toInt32 &&& 1431655765))).toUInt32 >>> (((2 : Int32)).toUInt32 &&& Int32.toUInt32 31)).toInt32 &&& 858993459))).toUInt32 >>> (((4 : Int32)).toUInt32 &&& Int32.toUInt32 31)).toInt32) &&& 252645135)).toUInt32 >>> (((8 : Int32)).toUInt32 &&& Int32.toUInt32 31)).toInt32)).toUInt32 >>> (((16 : Int32)).toUInt32 &&& Int32.toUInt32 31)).toInt32) &&& 63))
set_option maxHeartbeats 4000000 in
set_option maxRecDepth 100000 in
theorem c_J6_bitCount_0f7a4 (l : Launch) (D : va_G) (cy cz : ClassId) (t1 t2 : Nat)  (x0 : Int32)  (Q : Int32 → Prop) (hq : k_J6_bitCount_0f7a4 x0 Q) : Ct l D cy cz t1 t2 yJ6_bitCount_0f7a4 cJ6_bitCount_0f7a4 1 (some .int) (rM 0 0) [.int x0] ([] : va_W) (QI D (S := Unit) (fun r u => Q r ) (fun _ => ([] : va_W))) := by
  refine Ct.of (own := RJ6) (by decide) rfl (Nat.le_of_ble_eq_true rfl) ?_
  intro p e s m below meth c A ls hC hW hl
  unfold k_J6_bitCount_0f7a4 at hq
  have hl : lv_has ls 1 [(0, .int x0)] := hl
  refine lv_iload_n hC.x hC.b dJ6_bitCount_0f7a4_0 rfl (lv_at hl 0 rfl) ?_
  refine lv_iload_n hC.x hC.b dJ6_bitCount_0f7a4_1 rfl (lv_at hl 0 rfl) ?_
  refine lv_iconst (v := 1) hC.x hC.b dJ6_bitCount_0f7a4_2 (by decide) ?_
  refine lv_iushr (v := ((x0).toUInt32 >>> (((1 : Int32)).toUInt32 &&& Int32.toUInt32 31)).toInt32) hC.x hC.b dJ6_bitCount_0f7a4_3 rfl ?_
  refine lv_ldcw (v := 1431655765) hC.x hC.b hC.ow (hC.ts _ q_563) dJ6_bitCount_0f7a4_4 ?_
  refine lv_iand hC.x hC.b dJ6_bitCount_0f7a4_7 ?_
  refine lv_isub hC.x hC.b dJ6_bitCount_0f7a4_8 ?_
  refine lv_istore_n (lv' := [(0, .int (x0 - (((x0).toUInt32 >>> (((1 : Int32)).toUInt32 &&& Int32.toUInt32 31)).toInt32 &&& 1431655765)))]) hC.x hC.b dJ6_bitCount_0f7a4_9 rfl hl (by decide) rfl (fun ls hl => ?_)
  refine lv_iload_n hC.x hC.b dJ6_bitCount_0f7a4_10 rfl (lv_at hl 0 rfl) ?_
  refine lv_ldcw (v := 858993459) hC.x hC.b hC.ow (hC.ts _ q_564) dJ6_bitCount_0f7a4_11 ?_
  refine lv_iand hC.x hC.b dJ6_bitCount_0f7a4_14 ?_
  refine lv_iload_n hC.x hC.b dJ6_bitCount_0f7a4_15 rfl (lv_at hl 0 rfl) ?_
  refine lv_iconst (v := 2) hC.x hC.b dJ6_bitCount_0f7a4_16 (by decide) ?_
  refine lv_iushr (v := (((x0 - (((x0).toUInt32 >>> (((1 : Int32)).toUInt32 &&& Int32.toUInt32 31)).toInt32 &&& 1431655765))).toUInt32 >>> (((2 : Int32)).toUInt32 &&& Int32.toUInt32 31)).toInt32) hC.x hC.b dJ6_bitCount_0f7a4_17 rfl ?_
  refine lv_ldcw (v := 858993459) hC.x hC.b hC.ow (hC.ts _ q_564) dJ6_bitCount_0f7a4_18 ?_
  refine lv_iand hC.x hC.b dJ6_bitCount_0f7a4_21 ?_
  refine lv_iadd hC.x hC.b dJ6_bitCount_0f7a4_22 ?_
  refine lv_istore_n (lv' := [(0, .int (((x0 - (((x0).toUInt32 >>> (((1 : Int32)).toUInt32 &&& Int32.toUInt32 31)).toInt32 &&& 1431655765)) &&& 858993459) + ((((x0 - (((x0).toUInt32 >>> (((1 : Int32)).toUInt32 &&& Int32.toUInt32 31)).toInt32 &&& 1431655765))).toUInt32 >>> (((2 : Int32)).toUInt32 &&& Int32.toUInt32 31)).toInt32 &&& 858993459)))]) hC.x hC.b dJ6_bitCount_0f7a4_23 rfl hl (by decide) rfl (fun ls hl => ?_)
  refine lv_iload_n hC.x hC.b dJ6_bitCount_0f7a4_24 rfl (lv_at hl 0 rfl) ?_
  refine lv_iload_n hC.x hC.b dJ6_bitCount_0f7a4_25 rfl (lv_at hl 0 rfl) ?_
  refine lv_iconst (v := 4) hC.x hC.b dJ6_bitCount_0f7a4_26 (by decide) ?_
  refine lv_iushr (v := (((((x0 - (((x0).toUInt32 >>> (((1 : Int32)).toUInt32 &&& Int32.toUInt32 31)).toInt32 &&& 1431655765)) &&& 858993459) + ((((x0 - (((x0).toUInt32 >>> (((1 : Int32)).toUInt32 &&& Int32.toUInt32 31)).toInt32 &&& 1431655765))).toUInt32 >>> (((2 : Int32)).toUInt32 &&& Int32.toUInt32 31)).toInt32 &&& 858993459))).toUInt32 >>> (((4 : Int32)).toUInt32 &&& Int32.toUInt32 31)).toInt32) hC.x hC.b dJ6_bitCount_0f7a4_27 rfl ?_
  refine lv_iadd hC.x hC.b dJ6_bitCount_0f7a4_28 ?_
  refine lv_ldcw (v := 252645135) hC.x hC.b hC.ow (hC.ts _ q_565) dJ6_bitCount_0f7a4_29 ?_
  refine lv_iand hC.x hC.b dJ6_bitCount_0f7a4_32 ?_
  refine lv_istore_n (lv' := [(0, .int (((((x0 - (((x0).toUInt32 >>> (((1 : Int32)).toUInt32 &&& Int32.toUInt32 31)).toInt32 &&& 1431655765)) &&& 858993459) + ((((x0 - (((x0).toUInt32 >>> (((1 : Int32)).toUInt32 &&& Int32.toUInt32 31)).toInt32 &&& 1431655765))).toUInt32 >>> (((2 : Int32)).toUInt32 &&& Int32.toUInt32 31)).toInt32 &&& 858993459)) + (((((x0 - (((x0).toUInt32 >>> (((1 : Int32)).toUInt32 &&& Int32.toUInt32 31)).toInt32 &&& 1431655765)) &&& 858993459) + ((((x0 - (((x0).toUInt32 >>> (((1 : Int32)).toUInt32 &&& Int32.toUInt32 31)).toInt32 &&& 1431655765))).toUInt32 >>> (((2 : Int32)).toUInt32 &&& Int32.toUInt32 31)).toInt32 &&& 858993459))).toUInt32 >>> (((4 : Int32)).toUInt32 &&& Int32.toUInt32 31)).toInt32) &&& 252645135))]) hC.x hC.b dJ6_bitCount_0f7a4_33 rfl hl (by decide) rfl (fun ls hl => ?_)
  refine lv_iload_n hC.x hC.b dJ6_bitCount_0f7a4_34 rfl (lv_at hl 0 rfl) ?_
  refine lv_iload_n hC.x hC.b dJ6_bitCount_0f7a4_35 rfl (lv_at hl 0 rfl) ?_
  refine lv_bipush (v := 8) hC.x hC.b dJ6_bitCount_0f7a4_36 (by decide) ?_
  refine lv_iushr (v := (((((((x0 - (((x0).toUInt32 >>> (((1 : Int32)).toUInt32 &&& Int32.toUInt32 31)).toInt32 &&& 1431655765)) &&& 858993459) + ((((x0 - (((x0).toUInt32 >>> (((1 : Int32)).toUInt32 &&& Int32.toUInt32 31)).toInt32 &&& 1431655765))).toUInt32 >>> (((2 : Int32)).toUInt32 &&& Int32.toUInt32 31)).toInt32 &&& 858993459)) + (((((x0 - (((x0).toUInt32 >>> (((1 : Int32)).toUInt32 &&& Int32.toUInt32 31)).toInt32 &&& 1431655765)) &&& 858993459) + ((((x0 - (((x0).toUInt32 >>> (((1 : Int32)).toUInt32 &&& Int32.toUInt32 31)).toInt32 &&& 1431655765))).toUInt32 >>> (((2 : Int32)).toUInt32 &&& Int32.toUInt32 31)).toInt32 &&& 858993459))).toUInt32 >>> (((4 : Int32)).toUInt32 &&& Int32.toUInt32 31)).toInt32) &&& 252645135)).toUInt32 >>> (((8 : Int32)).toUInt32 &&& Int32.toUInt32 31)).toInt32) hC.x hC.b dJ6_bitCount_0f7a4_38 rfl ?_
  refine lv_iadd hC.x hC.b dJ6_bitCount_0f7a4_39 ?_
  refine lv_istore_n (lv' := [(0, .int ((((((x0 - (((x0).toUInt32 >>> (((1 : Int32)).toUInt32 &&& Int32.toUInt32 31)).toInt32 &&& 1431655765)) &&& 858993459) + ((((x0 - (((x0).toUInt32 >>> (((1 : Int32)).toUInt32 &&& Int32.toUInt32 31)).toInt32 &&& 1431655765))).toUInt32 >>> (((2 : Int32)).toUInt32 &&& Int32.toUInt32 31)).toInt32 &&& 858993459)) + (((((x0 - (((x0).toUInt32 >>> (((1 : Int32)).toUInt32 &&& Int32.toUInt32 31)).toInt32 &&& 1431655765)) &&& 858993459) + ((((x0 - (((x0).toUInt32 >>> (((1 : Int32)).toUInt32 &&& Int32.toUInt32 31)).toInt32 &&& 1431655765))).toUInt32 >>> (((2 : Int32)).toUInt32 &&& Int32.toUInt32 31)).toInt32 &&& 858993459))).toUInt32 >>> (((4 : Int32)).toUInt32 &&& Int32.toUInt32 31)).toInt32) &&& 252645135) + (((((((x0 - (((x0).toUInt32 >>> (((1 : Int32)).toUInt32 &&& Int32.toUInt32 31)).toInt32 &&& 1431655765)) &&& 858993459) + ((((x0 - (((x0).toUInt32 >>> (((1 : Int32)).toUInt32 &&& Int32.toUInt32 31)).toInt32 &&& 1431655765))).toUInt32 >>> (((2 : Int32)).toUInt32 &&& Int32.toUInt32 31)).toInt32 &&& 858993459)) + (((((x0 - (((x0).toUInt32 >>> (((1 : Int32)).toUInt32 &&& Int32.toUInt32 31)).toInt32 &&& 1431655765)) &&& 858993459) + ((((x0 - (((x0).toUInt32 >>> (((1 : Int32)).toUInt32 &&& Int32.toUInt32 31)).toInt32 &&& 1431655765))).toUInt32 >>> (((2 : Int32)).toUInt32 &&& Int32.toUInt32 31)).toInt32 &&& 858993459))).toUInt32 >>> (((4 : Int32)).toUInt32 &&& Int32.toUInt32 31)).toInt32) &&& 252645135)).toUInt32 >>> (((8 : Int32)).toUInt32 &&& Int32.toUInt32 31)).toInt32))]) hC.x hC.b dJ6_bitCount_0f7a4_40 rfl hl (by decide) rfl (fun ls hl => ?_)
  refine lv_iload_n hC.x hC.b dJ6_bitCount_0f7a4_41 rfl (lv_at hl 0 rfl) ?_
  refine lv_iload_n hC.x hC.b dJ6_bitCount_0f7a4_42 rfl (lv_at hl 0 rfl) ?_
  refine lv_bipush (v := 16) hC.x hC.b dJ6_bitCount_0f7a4_43 (by decide) ?_
  refine lv_iushr (v := ((((((((x0 - (((x0).toUInt32 >>> (((1 : Int32)).toUInt32 &&& Int32.toUInt32 31)).toInt32 &&& 1431655765)) &&& 858993459) + ((((x0 - (((x0).toUInt32 >>> (((1 : Int32)).toUInt32 &&& Int32.toUInt32 31)).toInt32 &&& 1431655765))).toUInt32 >>> (((2 : Int32)).toUInt32 &&& Int32.toUInt32 31)).toInt32 &&& 858993459)) + (((((x0 - (((x0).toUInt32 >>> (((1 : Int32)).toUInt32 &&& Int32.toUInt32 31)).toInt32 &&& 1431655765)) &&& 858993459) + ((((x0 - (((x0).toUInt32 >>> (((1 : Int32)).toUInt32 &&& Int32.toUInt32 31)).toInt32 &&& 1431655765))).toUInt32 >>> (((2 : Int32)).toUInt32 &&& Int32.toUInt32 31)).toInt32 &&& 858993459))).toUInt32 >>> (((4 : Int32)).toUInt32 &&& Int32.toUInt32 31)).toInt32) &&& 252645135) + (((((((x0 - (((x0).toUInt32 >>> (((1 : Int32)).toUInt32 &&& Int32.toUInt32 31)).toInt32 &&& 1431655765)) &&& 858993459) + ((((x0 - (((x0).toUInt32 >>> (((1 : Int32)).toUInt32 &&& Int32.toUInt32 31)).toInt32 &&& 1431655765))).toUInt32 >>> (((2 : Int32)).toUInt32 &&& Int32.toUInt32 31)).toInt32 &&& 858993459)) + (((((x0 - (((x0).toUInt32 >>> (((1 : Int32)).toUInt32 &&& Int32.toUInt32 31)).toInt32 &&& 1431655765)) &&& 858993459) + ((((x0 - (((x0).toUInt32 >>> (((1 : Int32)).toUInt32 &&& Int32.toUInt32 31)).toInt32 &&& 1431655765))).toUInt32 >>> (((2 : Int32)).toUInt32 &&& Int32.toUInt32 31)).toInt32 &&& 858993459))).toUInt32 >>> (((4 : Int32)).toUInt32 &&& Int32.toUInt32 31)).toInt32) &&& 252645135)).toUInt32 >>> (((8 : Int32)).toUInt32 &&& Int32.toUInt32 31)).toInt32)).toUInt32 >>> (((16 : Int32)).toUInt32 &&& Int32.toUInt32 31)).toInt32) hC.x hC.b dJ6_bitCount_0f7a4_45 rfl ?_
  refine lv_iadd hC.x hC.b dJ6_bitCount_0f7a4_46 ?_
  refine lv_istore_n (lv' := [(0, .int (((((((x0 - (((x0).toUInt32 >>> (((1 : Int32)).toUInt32 &&& Int32.toUInt32 31)).toInt32 &&& 1431655765)) &&& 858993459) + ((((x0 - (((x0).toUInt32 >>> (((1 : Int32)).toUInt32 &&& Int32.toUInt32 31)).toInt32 &&& 1431655765))).toUInt32 >>> (((2 : Int32)).toUInt32 &&& Int32.toUInt32 31)).toInt32 &&& 858993459)) + (((((x0 - (((x0).toUInt32 >>> (((1 : Int32)).toUInt32 &&& Int32.toUInt32 31)).toInt32 &&& 1431655765)) &&& 858993459) + ((((x0 - (((x0).toUInt32 >>> (((1 : Int32)).toUInt32 &&& Int32.toUInt32 31)).toInt32 &&& 1431655765))).toUInt32 >>> (((2 : Int32)).toUInt32 &&& Int32.toUInt32 31)).toInt32 &&& 858993459))).toUInt32 >>> (((4 : Int32)).toUInt32 &&& Int32.toUInt32 31)).toInt32) &&& 252645135) + (((((((x0 - (((x0).toUInt32 >>> (((1 : Int32)).toUInt32 &&& Int32.toUInt32 31)).toInt32 &&& 1431655765)) &&& 858993459) + ((((x0 - (((x0).toUInt32 >>> (((1 : Int32)).toUInt32 &&& Int32.toUInt32 31)).toInt32 &&& 1431655765))).toUInt32 >>> (((2 : Int32)).toUInt32 &&& Int32.toUInt32 31)).toInt32 &&& 858993459)) + (((((x0 - (((x0).toUInt32 >>> (((1 : Int32)).toUInt32 &&& Int32.toUInt32 31)).toInt32 &&& 1431655765)) &&& 858993459) + ((((x0 - (((x0).toUInt32 >>> (((1 : Int32)).toUInt32 &&& Int32.toUInt32 31)).toInt32 &&& 1431655765))).toUInt32 >>> (((2 : Int32)).toUInt32 &&& Int32.toUInt32 31)).toInt32 &&& 858993459))).toUInt32 >>> (((4 : Int32)).toUInt32 &&& Int32.toUInt32 31)).toInt32) &&& 252645135)).toUInt32 >>> (((8 : Int32)).toUInt32 &&& Int32.toUInt32 31)).toInt32) + ((((((((x0 - (((x0).toUInt32 >>> (((1 : Int32)).toUInt32 &&& Int32.toUInt32 31)).toInt32 &&& 1431655765)) &&& 858993459) + ((((x0 - (((x0).toUInt32 >>> (((1 : Int32)).toUInt32 &&& Int32.toUInt32 31)).toInt32 &&& 1431655765))).toUInt32 >>> (((2 : Int32)).toUInt32 &&& Int32.toUInt32 31)).toInt32 &&& 858993459)) + (((((x0 - (((x0).toUInt32 >>> (((1 : Int32)).toUInt32 &&& Int32.toUInt32 31)).toInt32 &&& 1431655765)) &&& 858993459) + ((((x0 - (((x0).toUInt32 >>> (((1 : Int32)).toUInt32 &&& Int32.toUInt32 31)).toInt32 &&& 1431655765))).toUInt32 >>> (((2 : Int32)).toUInt32 &&& Int32.toUInt32 31)).toInt32 &&& 858993459))).toUInt32 >>> (((4 : Int32)).toUInt32 &&& Int32.toUInt32 31)).toInt32) &&& 252645135) + (((((((x0 - (((x0).toUInt32 >>> (((1 : Int32)).toUInt32 &&& Int32.toUInt32 31)).toInt32 &&& 1431655765)) &&& 858993459) + ((((x0 - (((x0).toUInt32 >>> (((1 : Int32)).toUInt32 &&& Int32.toUInt32 31)).toInt32 &&& 1431655765))).toUInt32 >>> (((2 : Int32)).toUInt32 &&& Int32.toUInt32 31)).toInt32 &&& 858993459)) + (((((x0 - (((x0).toUInt32 >>> (((1 : Int32)).toUInt32 &&& Int32.toUInt32 31)).toInt32 &&& 1431655765)) &&& 858993459) + ((((x0 - (((x0).toUInt32 >>> (((1 : Int32)).toUInt32 &&& Int32.toUInt32 31)).toInt32 &&& 1431655765))).toUInt32 >>> (((2 : Int32)).toUInt32 &&& Int32.toUInt32 31)).toInt32 &&& 858993459))).toUInt32 >>> (((4 : Int32)).toUInt32 &&& Int32.toUInt32 31)).toInt32) &&& 252645135)).toUInt32 >>> (((8 : Int32)).toUInt32 &&& Int32.toUInt32 31)).toInt32)).toUInt32 >>> (((16 : Int32)).toUInt32 &&& Int32.toUInt32 31)).toInt32))]) hC.x hC.b dJ6_bitCount_0f7a4_47 rfl hl (by decide) rfl (fun ls hl => ?_)
  refine lv_iload_n hC.x hC.b dJ6_bitCount_0f7a4_48 rfl (lv_at hl 0 rfl) ?_
  refine lv_bipush (v := 63) hC.x hC.b dJ6_bitCount_0f7a4_49 (by decide) ?_
  refine lv_iand hC.x hC.b dJ6_bitCount_0f7a4_51 ?_
  exact hc_iret hC () hW hq dJ6_bitCount_0f7a4_52
def k_X0_placesOnFaces_4 (K4 : (Int32 × Int32 × Wd) → Prop) (Q : Int32 → Wd → Prop) (x1 : Int32) (x2 : Int32) (wc : Wd) : Prop :=
 (((13 : Int32) ≤ x2 → (Q x1 wc)) ∧
 (¬ (13 : Int32) ≤ x2 → (k_X0_bitsOf 0 x2 (wc 14) (fun r17 f17 => (k_J6_bitCount_0f7a4 r17 (fun r20 => (K4 ((x1 + r20), (x2 + 1), (upr wc 14 f17)))))))))
set_option maxHeartbeats 4000000 in
set_option maxRecDepth 100000 in
theorem B_X0_placesOnFaces_4 {l : Launch} {p : Program} {e : Env} {s : State} {m : MethodId} {args : Array Value} {below : List Frame} {meth : Method} {c : Code} {A : Nat → Prop} {D : va_G} {cy cz : ClassId} {t1 t2 : Nat} (hc : Nat) (ac : Nat → Nat) (Q : Int32 → Wd → Prop) (K4 : (Int32 × Int32 × Wd) → Prop) (hK4 : ∀ b9 : Int32 × Int32 × Wd, K4 b9 → ∀ (H : Heap) (locs : List Loc) (ls : Array Slot), Wo D A s (cC cy hc ac b9.2.2) H locs → lv_has ls 3 [(0, .ref hc), (1, .int b9.1), (2, .int b9.2.1)] → W p l e (rM 1 23) s m args below meth c H locs 0 0 (MQ below (QI D (S := Wd) (fun r u => Q r u) (fun u => (cC cy hc ac u)) A) args s 0 0 A) (F0 m 4 ls [])) (hC : Cx D cy cz t1 t2 p s m args meth c cX0_placesOnFaces 3 (some .int) RX0 A) (x1 : Int32) (x2 : Int32) (wc : Wd) {H : Heap} {locs : List Loc} {ls : Array Slot} (hq : k_X0_placesOnFaces_4 K4 Q x1 x2 wc) (hW : Wo D A s (cC cy hc ac wc) H locs) (hl : lv_has ls 3 [(0, .ref hc), (1, .int x1), (2, .int x2)]) : W p l e (rM 1 23) s m args below meth c H locs 0 0 (MQ below (QI D (S := Wd) (fun r u => Q r u) (fun u => (cC cy hc ac u)) A) args s 0 0 A) (F0 m 4 ls []) := by
  unfold k_X0_placesOnFaces_4 at hq
  refine lv_iload_n hC.x hC.b dX0_placesOnFaces_4 rfl (lv_at hl 2 rfl) ?_
  refine lv_bipush (v := 13) hC.x hC.b dX0_placesOnFaces_5 (by decide) ?_
  refine lv_icmp_ge (tgt := 31) hC.x hC.b dX0_placesOnFaces_7 (by decide) (fun hc9 => ?_) (fun hc9 => ?_)
  · replace hq := hq.1 hc9
    refine lv_iload_n hC.x hC.b dX0_placesOnFaces_31 rfl (lv_at hl 1 rfl) ?_
    exact hc_iret hC (wc) hW hq dX0_placesOnFaces_32
  · replace hq := hq.2 hc9
    refine lv_iload_n hC.x hC.b dX0_placesOnFaces_10 rfl (lv_at hl 1 rfl) ?_
    refine lv_aload_n hC.x hC.b dX0_placesOnFaces_11 rfl (lv_at hl 0 rfl) ?_
    refine hc_get (v := .ref (ac 14)) hC hW 0 0 14 inX0 rfl rfl (by decide) q_44 rfl dX0_placesOnFaces_12 ?_
    refine lv_iconst (v := 0) hC.x hC.b dX0_placesOnFaces_15 (by decide) ?_
    refine lv_iload_n hC.x hC.b dX0_placesOnFaces_16 rfl (lv_at hl 2 rfl) ?_
    refine hc_goI hC hW (hc_rS hC (c_X0_bitsOf l D cy cz t1 t2 (ac 14) 0 x2 (wc 14) _ hq) (hc_preS hC hW [13] rfl rfl) q_151 q_152 q_14 q_153 hd_X0_bitsOf ⟨rfl, rfl⟩ ⟨Nat.le_of_ble_eq_true rfl, Nat.le_of_ble_eq_true rfl⟩ rfl hl.1 rfl (Nat.le_of_ble_eq_true rfl) dX0_placesOnFaces_17 ⟨Nat.zero_le _, Nat.zero_le _⟩) [13] [0, 1, 2, 3, 4, 5, 6, 7, 8, 9, 10, 11, 12] [0, 1, 2, 3, 4, 5, 6, 7, 8, 9, 10, 11, 12, 13] (List.eraseIdx (cC cy hc ac wc) 13) (fun u => (cC cy hc ac (upr wc 14 u))) rfl rfl (by decide) (by decide) (by decide) (fun u => rfl) (fun r17 u9 H locs hq hW => ?_)
    obtain ⟨f17, rfl⟩ : ∃ z, z = u9 := ⟨_, rfl⟩
    try dsimp only at hq hW
    refine hc_goP hC hW (hc_rS hC (c_J6_bitCount_0f7a4 l D cy cz t1 t2 r17 _ hq) (hc_preP hC hW) q_559 q_560 q_561 q_562 hd_J6_bitCount_0f7a4 ⟨rfl, rfl⟩ ⟨Nat.le_of_ble_eq_true rfl, Nat.le_of_ble_eq_true rfl⟩ rfl hl.1 rfl (Nat.le_of_ble_eq_true rfl) dX0_placesOnFaces_20 ⟨Nat.zero_le _, Nat.zero_le _⟩) (fun r20 H locs hq hW => ?_)
    try dsimp only at hq
    refine lv_iadd hC.x hC.b dX0_placesOnFaces_23 ?_
    refine lv_istore_n (lv' := [(1, .int (x1 + r20)), (0, .ref hc), (2, .int x2)]) hC.x hC.b dX0_placesOnFaces_24 rfl hl (by decide) rfl (fun ls hl => ?_)
    refine lv_iinc (v := (x2 + 1)) (lv' := [(2, .int (x2 + 1)), (1, .int (x1 + r20)), (0, .ref hc)]) hC.x hC.b dX0_placesOnFaces_25 hl (k := 2) rfl rfl (by decide) rfl (fun ls hl => ?_)
    refine lv_goto (tgt := 4) hC.x hC.b dX0_placesOnFaces_28 (by decide) ?_
    exact hK4 ((x1 + r20), (x2 + 1), (upr wc 14 f17)) hq _ _ _ hW (lv_sub hl [2, 1, 0] rfl)
def k_X0_placesOnFaces  (wc : Wd) (Q : Int32 → Wd → Prop) : Prop :=
 (∃ n : Nat, lpf (fun (K : (Int32 × Int32 × Wd) → Prop) (u : Int32 × Int32 × Wd) => k_X0_placesOnFaces_4  K Q u.1 u.2.1 u.2.2) n (0, 0, wc))
set_option maxHeartbeats 4000000 in
set_option maxRecDepth 100000 in
theorem c_X0_placesOnFaces (l : Launch) (D : va_G) (cy cz : ClassId) (t1 t2 : Nat) (hc : Nat) (ac : Nat → Nat)  (wc : Wd) (Q : Int32 → Wd → Prop) (hq : k_X0_placesOnFaces wc Q) : Ct l D cy cz t1 t2 yX0_placesOnFaces cX0_placesOnFaces 3 (some .int) (rM 1 23) [.ref hc] (cC cy hc ac wc) (QI D (S := Wd) (fun r u => Q r u) (fun u => (cC cy hc ac u))) := by
  refine Ct.of (own := RX0) (by decide) rfl (Nat.le_of_ble_eq_true rfl) ?_
  intro p e s m below meth c A ls hC hW hl
  unfold k_X0_placesOnFaces at hq
  have hl : lv_has ls 3 [(0, .ref hc)] := hl
  refine lv_iconst (v := 0) hC.x hC.b dX0_placesOnFaces_0 (by decide) ?_
  refine lv_istore_n (lv' := [(1, .int 0), (0, .ref hc)]) hC.x hC.b dX0_placesOnFaces_1 rfl hl (by decide) rfl (fun ls hl => ?_)
  refine lv_iconst (v := 0) hC.x hC.b dX0_placesOnFaces_2 (by decide) ?_
  refine lv_istore_n (lv' := [(2, .int 0), (1, .int 0), (0, .ref hc)]) hC.x hC.b dX0_placesOnFaces_3 rfl hl (by decide) rfl (fun ls hl => ?_)
  obtain ⟨n9, hq⟩ := hq
  exact lpf_use (G := (fun (u : Int32 × Int32 × Wd) => ∀ (H : Heap) (locs : List Loc) (ls : Array Slot), Wo D A s (cC cy hc ac u.2.2) H locs → lv_has ls 3 [(0, .ref hc), (1, .int u.1), (2, .int u.2.1)] → W p l e (rM 1 23) s m _ below meth c H locs 0 0 (MQ below (QI D (S := Wd) (fun r u => Q r u) (fun u => (cC cy hc ac u)) A) _ s 0 0 A) (F0 m 4 ls []))) (fun K hK u hq H locs ls hW hl => B_X0_placesOnFaces_4 hc ac Q  K hK hC u.1 u.2.1 u.2.2 hq hW hl) n9 _ hq _ _ _ hW (lv_sub hl [2, 1, 0] rfl)
def k_X0_sumOfSizes_4 (K4 : (Int32 × Int32 × Wd) → Prop) (Q : Int32 → Wd → Prop) (x1 : Int32) (x2 : Int32) (wc : Wd) : Prop :=
 (((wc 1 0) ≤ x2 → (Q x1 wc)) ∧
 (¬ (wc 1 0) ≤ x2 → (((6 : Int32) ≤ x2 → (Q x1 wc)) ∧
 (¬ (6 : Int32) ≤ x2 → (vp_in x2 6 ∧ (vp_in x2 6 ∧ (K4 ((x1 + ((wc 3 (x2).toNatClampNeg) * (wc 4 (x2).toNatClampNeg))), (x2 + 1), wc))))))))
set_option maxHeartbeats 4000000 in
set_option maxRecDepth 100000 in
theorem B_X0_sumOfSizes_4 {l : Launch} {p : Program} {e : Env} {s : State} {m : MethodId} {args : Array Value} {below : List Frame} {meth : Method} {c : Code} {A : Nat → Prop} {D : va_G} {cy cz : ClassId} {t1 t2 : Nat} (hc : Nat) (ac : Nat → Nat) (Q : Int32 → Wd → Prop) (K4 : (Int32 × Int32 × Wd) → Prop) (hK4 : ∀ b9 : Int32 × Int32 × Wd, K4 b9 → ∀ (H : Heap) (locs : List Loc) (ls : Array Slot), Wo D A s (cC cy hc ac b9.2.2) H locs → lv_has ls 3 [(0, .ref hc), (1, .int b9.1), (2, .int b9.2.1)] → W p l e (rM 0 0) s m args below meth c H locs 0 0 (MQ below (QI D (S := Wd) (fun r u => Q r u) (fun u => (cC cy hc ac u)) A) args s 0 0 A) (F0 m 4 ls [])) (hC : Cx D cy cz t1 t2 p s m args meth c cX0_sumOfSizes 3 (some .int) RX0 A) (x1 : Int32) (x2 : Int32) (wc : Wd) {H : Heap} {locs : List Loc} {ls : Array Slot} (hq : k_X0_sumOfSizes_4 K4 Q x1 x2 wc) (hW : Wo D A s (cC cy hc ac wc) H locs) (hl : lv_has ls 3 [(0, .ref hc), (1, .int x1), (2, .int x2)]) : W p l e (rM 0 0) s m args below meth c H locs 0 0 (MQ below (QI D (S := Wd) (fun r u => Q r u) (fun u => (cC cy hc ac u)) A) args s 0 0 A) (F0 m 4 ls []) := by
  unfold k_X0_sumOfSizes_4 at hq
  refine lv_iload_n hC.x hC.b dX0_sumOfSizes_4 rfl (lv_at hl 2 rfl) ?_
  refine lv_aload_n hC.x hC.b dX0_sumOfSizes_5 rfl (lv_at hl 0 rfl) ?_
  refine hc_get (v := .int (wc 1 0)) hC hW 0 0 1 inX0 rfl rfl (by decide) q_50 rfl dX0_sumOfSizes_6 ?_
  refine lv_icmp_ge (tgt := 40) hC.x hC.b dX0_sumOfSizes_9 (by decide) (fun hc9 => ?_) (fun hc9 => ?_)
  · replace hq := hq.1 hc9
    refine lv_iload_n hC.x hC.b dX0_sumOfSizes_40 rfl (lv_at hl 1 rfl) ?_
    exact hc_iret hC (wc) hW hq dX0_sumOfSizes_41
  · replace hq := hq.2 hc9
    refine lv_iload_n hC.x hC.b dX0_sumOfSizes_12 rfl (lv_at hl 2 rfl) ?_
    refine lv_bipush (v := 6) hC.x hC.b dX0_sumOfSizes_13 (by decide) ?_
    refine lv_icmp_ge (tgt := 40) hC.x hC.b dX0_sumOfSizes_15 (by decide) (fun hc9 => ?_) (fun hc9 => ?_)
    · replace hq := hq.1 hc9
      refine lv_iload_n hC.x hC.b dX0_sumOfSizes_40 rfl (lv_at hl 1 rfl) ?_
      exact hc_iret hC (wc) hW hq dX0_sumOfSizes_41
    · replace hq := hq.2 hc9
      refine lv_iload_n hC.x hC.b dX0_sumOfSizes_18 rfl (lv_at hl 1 rfl) ?_
      refine lv_aload_n hC.x hC.b dX0_sumOfSizes_19 rfl (lv_at hl 0 rfl) ?_
      refine hc_get (v := .ref (ac 3)) hC hW 0 0 3 inX0 rfl rfl (by decide) q_33 rfl dX0_sumOfSizes_20 ?_
      refine lv_iload_n hC.x hC.b dX0_sumOfSizes_23 rfl (lv_at hl 2 rfl) ?_
      refine hc_iald hC hW 2 rfl hq.1 dX0_sumOfSizes_24 ?_
      replace hq := hq.2
      refine lv_aload_n hC.x hC.b dX0_sumOfSizes_25 rfl (lv_at hl 0 rfl) ?_
      refine hc_get (v := .ref (ac 4)) hC hW 0 0 4 inX0 rfl rfl (by decide) q_34 rfl dX0_sumOfSizes_26 ?_
      refine lv_iload_n hC.x hC.b dX0_sumOfSizes_29 rfl (lv_at hl 2 rfl) ?_
      refine hc_iald hC hW 3 rfl hq.1 dX0_sumOfSizes_30 ?_
      replace hq := hq.2
      refine lv_imul hC.x hC.b dX0_sumOfSizes_31 ?_
      refine lv_iadd hC.x hC.b dX0_sumOfSizes_32 ?_
      refine lv_istore_n (lv' := [(1, .int (x1 + ((wc 3 (x2).toNatClampNeg) * (wc 4 (x2).toNatClampNeg)))), (0, .ref hc), (2, .int x2)]) hC.x hC.b dX0_sumOfSizes_33 rfl hl (by decide) rfl (fun ls hl => ?_)
      refine lv_iinc (v := (x2 + 1)) (lv' := [(2, .int (x2 + 1)), (1, .int (x1 + ((wc 3 (x2).toNatClampNeg) * (wc 4 (x2).toNatClampNeg)))), (0, .ref hc)]) hC.x hC.b dX0_sumOfSizes_34 hl (k := 2) rfl rfl (by decide) rfl (fun ls hl => ?_)
      refine lv_goto (tgt := 4) hC.x hC.b dX0_sumOfSizes_37 (by decide) ?_
      exact hK4 ((x1 + ((wc 3 (x2).toNatClampNeg) * (wc 4 (x2).toNatClampNeg))), (x2 + 1), wc) hq _ _ _ hW (lv_sub hl [2, 1, 0] rfl)
def k_X0_sumOfSizes  (wc : Wd) (Q : Int32 → Wd → Prop) : Prop :=
 (∃ n : Nat, lpf (fun (K : (Int32 × Int32 × Wd) → Prop) (u : Int32 × Int32 × Wd) => k_X0_sumOfSizes_4  K Q u.1 u.2.1 u.2.2) n (0, 0, wc))
set_option maxHeartbeats 4000000 in
set_option maxRecDepth 100000 in
theorem c_X0_sumOfSizes (l : Launch) (D : va_G) (cy cz : ClassId) (t1 t2 : Nat) (hc : Nat) (ac : Nat → Nat)  (wc : Wd) (Q : Int32 → Wd → Prop) (hq : k_X0_sumOfSizes wc Q) : Ct l D cy cz t1 t2 yX0_sumOfSizes cX0_sumOfSizes 3 (some .int) (rM 0 0) [.ref hc] (cC cy hc ac wc) (QI D (S := Wd) (fun r u => Q r u) (fun u => (cC cy hc ac u))) := by
  refine Ct.of (own := RX0) (by decide) rfl (Nat.le_of_ble_eq_true rfl) ?_
  intro p e s m below meth c A ls hC hW hl
  unfold k_X0_sumOfSizes at hq
  have hl : lv_has ls 3 [(0, .ref hc)] := hl
  refine lv_iconst (v := 0) hC.x hC.b dX0_sumOfSizes_0 (by decide) ?_
  refine lv_istore_n (lv' := [(1, .int 0), (0, .ref hc)]) hC.x hC.b dX0_sumOfSizes_1 rfl hl (by decide) rfl (fun ls hl => ?_)
  refine lv_iconst (v := 0) hC.x hC.b dX0_sumOfSizes_2 (by decide) ?_
  refine lv_istore_n (lv' := [(2, .int 0), (1, .int 0), (0, .ref hc)]) hC.x hC.b dX0_sumOfSizes_3 rfl hl (by decide) rfl (fun ls hl => ?_)
  obtain ⟨n9, hq⟩ := hq
  exact lpf_use (G := (fun (u : Int32 × Int32 × Wd) => ∀ (H : Heap) (locs : List Loc) (ls : Array Slot), Wo D A s (cC cy hc ac u.2.2) H locs → lv_has ls 3 [(0, .ref hc), (1, .int u.1), (2, .int u.2.1)] → W p l e (rM 0 0) s m _ below meth c H locs 0 0 (MQ below (QI D (S := Wd) (fun r u => Q r u) (fun u => (cC cy hc ac u)) A) _ s 0 0 A) (F0 m 4 ls []))) (fun K hK u hq H locs ls hW hl => B_X0_sumOfSizes_4 hc ac Q  K hK hC u.1 u.2.1 u.2.2 hq hW hl) n9 _ hq _ _ _ hW (lv_sub hl [2, 1, 0] rfl)
def k_X3_isStep (x0 : Int32)  (Q : Int32 → Prop) : Prop :=
 (k_X3_isWithin x0 0 10 (fun r4 => ((r4 = 0 ∨ r4 = 1) ∧ Q r4)))
set_option maxHeartbeats 4000000 in
set_option maxRecDepth 100000 in
theorem c_X3_isStep (l : Launch) (D : va_G) (cy cz : ClassId) (t1 t2 : Nat)  (x0 : Int32)  (Q : Int32 → Prop) (hq : k_X3_isStep x0 Q) : Ct l D cy cz t1 t2 yX3_isStep cX3_isStep 1 (some .boolean) (rM 1 22) [.int x0] ([] : va_W) (QI D (S := Unit) (fun r u => Q r ) (fun _ => ([] : va_W))) := by
  refine Ct.of (own := RX3) (by decide) rfl (Nat.le_of_ble_eq_true rfl) ?_
  intro p e s m below meth c A ls hC hW hl
  unfold k_X3_isStep at hq
  have hl : lv_has ls 1 [(0, .int x0)] := hl
  refine lv_iload_n hC.x hC.b dX3_isStep_0 rfl (lv_at hl 0 rfl) ?_
  refine lv_iconst (v := 0) hC.x hC.b dX3_isStep_1 (by decide) ?_
  refine lv_bipush (v := 10) hC.x hC.b dX3_isStep_2 (by decide) ?_
  refine hc_goP hC hW (hc_rS hC (c_X3_isWithin l D cy cz t1 t2 x0 0 10 _ hq) (hc_preP hC hW) q_112 q_113 q_2 q_114 hd_X3_isWithin ⟨rfl, rfl⟩ ⟨Nat.le_of_ble_eq_true rfl, Nat.le_of_ble_eq_true rfl⟩ rfl hl.1 rfl (Nat.le_of_ble_eq_true rfl) dX3_isStep_4 ⟨Nat.zero_le _, Nat.zero_le _⟩) (fun r4 H locs hq hW => ?_)
  try dsimp only at hq
  exact hc_zret hC () hW (hc_nb hq.1) hq.2 dX3_isStep_7
def k_X3_acrossOf (x0 : Int32) (x1 : Int32) (x2 : Int32)  (Q : Int32 → Prop) : Prop :=
 (k_X3_isStep x0 (fun r1 => ((r1 = 0 → (Q 0)) ∧
 (¬ r1 = 0 → (vp_in x0 11 ∧ (Q ((25 * x1) + ((tabC (x0).toNatClampNeg) * x2))))))))
set_option maxHeartbeats 4000000 in
set_option maxRecDepth 100000 in
theorem c_X3_acrossOf (l : Launch) (D : va_G) (cy cz : ClassId) (t1 t2 : Nat)  (x0 : Int32) (x1 : Int32) (x2 : Int32)  (Q : Int32 → Prop) (hq : k_X3_acrossOf x0 x1 x2 Q) : Ct l D cy cz t1 t2 yX3_acrossOf cX3_acrossOf 3 (some .int) (rM 2 42) [.int x0, .int x1, .int x2] ([] : va_W) (QI D (S := Unit) (fun r u => Q r ) (fun _ => ([] : va_W))) := by
  refine Ct.of (own := RX3) (by decide) rfl (Nat.le_of_ble_eq_true rfl) ?_
  intro p e s m below meth c A ls hC hW hl
  unfold k_X3_acrossOf at hq
  have hl : lv_has ls 3 [(0, .int x0), (1, .int x1), (2, .int x2)] := hl
  refine lv_iload_n hC.x hC.b dX3_acrossOf_0 rfl (lv_at hl 0 rfl) ?_
  refine hc_goP hC hW (hc_rS hC (c_X3_isStep l D cy cz t1 t2 x0 _ hq) (hc_preP hC hW) q_398 q_399 q_2 q_400 hd_X3_isStep ⟨rfl, rfl⟩ ⟨Nat.le_of_ble_eq_true rfl, Nat.le_of_ble_eq_true rfl⟩ rfl hl.1 rfl (Nat.le_of_ble_eq_true rfl) dX3_acrossOf_1 ⟨Nat.zero_le _, Nat.zero_le _⟩) (fun r1 H locs hq hW => ?_)
  try dsimp only at hq
  refine lv_if_eq (tgt := 22) hC.x hC.b dX3_acrossOf_4 (by decide) (fun hc9 => ?_) (fun hc9 => ?_)
  · replace hq := hq.1 hc9
    refine lv_iconst (v := 0) hC.x hC.b dX3_acrossOf_22 (by decide) ?_
    exact hc_iret hC () hW hq dX3_acrossOf_23
  · replace hq := hq.2 hc9
    refine lv_bipush (v := 25) hC.x hC.b dX3_acrossOf_7 (by decide) ?_
    refine lv_iload_n hC.x hC.b dX3_acrossOf_9 rfl (lv_at hl 1 rfl) ?_
    refine lv_imul hC.x hC.b dX3_acrossOf_10 ?_
    refine hc_getC hC hW q_407 dX3_acrossOf_11 ?_
    refine lv_iload_n hC.x hC.b dX3_acrossOf_14 rfl (lv_at hl 0 rfl) ?_
    refine hc_ldC hC hW hq.1 dX3_acrossOf_15 ?_
    replace hq := hq.2
    refine lv_iload_n hC.x hC.b dX3_acrossOf_16 rfl (lv_at hl 2 rfl) ?_
    refine lv_imul hC.x hC.b dX3_acrossOf_17 ?_
    refine lv_iadd hC.x hC.b dX3_acrossOf_18 ?_
    refine lv_goto (tgt := 23) hC.x hC.b dX3_acrossOf_19 (by decide) ?_
    exact hc_iret hC () hW hq dX3_acrossOf_23
def k_X0_leastAcross_9 (K9 : (Int32 × Int32 × Int32 × Wd) → Prop) (Q : Int32 → Wd → Prop) (x1 : Int32) (x2 : Int32) (x3 : Int32) (wc : Wd) : Prop :=
 (k_X0_faces wc (fun r11 wc11 => ((r11 ≤ x3 → (Q x2 wc11)) ∧
 (¬ r11 ≤ x3 → (k_X0_firstP x3 wc11 (fun r21 wc21 => (k_X0_firstQ x3 wc21 (fun r26 wc26 => (k_X3_acrossOf x1 r21 r26 (fun r29 => (k_X0_lastP x3 wc26 (fun r40 wc40 => (k_X0_lastQ x3 wc40 (fun r45 wc45 => (k_X3_acrossOf x1 r40 r45 (fun r48 => (K9 (x1, (if r48 < (if r29 < x2 then r29 else x2) then r48 else (if r29 < x2 then r29 else x2)), (x3 + 1), wc45))))))))))))))))))
set_option maxHeartbeats 4000000 in
set_option maxRecDepth 100000 in
theorem B_X0_leastAcross_9 {l : Launch} {p : Program} {e : Env} {s : State} {m : MethodId} {args : Array Value} {below : List Frame} {meth : Method} {c : Code} {A : Nat → Prop} {D : va_G} {cy cz : ClassId} {t1 t2 : Nat} (hc : Nat) (ac : Nat → Nat) (Q : Int32 → Wd → Prop) (K9 : (Int32 × Int32 × Int32 × Wd) → Prop) (hK9 : ∀ b9 : Int32 × Int32 × Int32 × Wd, K9 b9 → ∀ (H : Heap) (locs : List Loc) (ls : Array Slot), Wo D A s (cC cy hc ac b9.2.2.2) H locs → lv_has ls 4 [(0, .ref hc), (1, .int b9.1), (2, .int b9.2.1), (3, .int b9.2.2.1)] → W p l e (rM 3 64) s m args below meth c H locs 0 0 (MQ below (QI D (S := Wd) (fun r u => Q r u) (fun u => (cC cy hc ac u)) A) args s 0 0 A) (F0 m 9 ls [])) (hC : Cx D cy cz t1 t2 p s m args meth c cX0_leastAcross 4 (some .int) RX0 A) (x1 : Int32) (x2 : Int32) (x3 : Int32) (wc : Wd) {H : Heap} {locs : List Loc} {ls : Array Slot} (hq : k_X0_leastAcross_9 K9 Q x1 x2 x3 wc) (hW : Wo D A s (cC cy hc ac wc) H locs) (hl : lv_has ls 4 [(0, .ref hc), (1, .int x1), (2, .int x2), (3, .int x3)]) : W p l e (rM 3 64) s m args below meth c H locs 0 0 (MQ below (QI D (S := Wd) (fun r u => Q r u) (fun u => (cC cy hc ac u)) A) args s 0 0 A) (F0 m 9 ls []) := by
  unfold k_X0_leastAcross_9 at hq
  refine lv_iload_n hC.x hC.b dX0_leastAcross_9 rfl (lv_at hl 3 rfl) ?_
  refine lv_aload_n hC.x hC.b dX0_leastAcross_10 rfl (lv_at hl 0 rfl) ?_
  refine hc_goIW hC hW (hc_rV hC (c_X0_faces l D cy cz t1 t2 hc ac wc _ hq) (hc_preW hC hW) hW 0 0 rfl rfl q_67 q_68 q_69 q_14 q_70 hd_X0_faces ⟨rfl, rfl⟩ ⟨Nat.le_of_ble_eq_true rfl, Nat.le_of_ble_eq_true rfl⟩ rfl hl.1 rfl (Nat.le_of_ble_eq_true rfl) dX0_leastAcross_11 ⟨Nat.zero_le _, Nat.zero_le _⟩) (fun r11 u9 H locs hq hW => ?_)
  obtain ⟨wc11, rfl⟩ : ∃ z, z = u9 := ⟨_, rfl⟩
  try dsimp only at hq hW
  refine lv_icmp_ge (tgt := 61) hC.x hC.b dX0_leastAcross_14 (by decide) (fun hc9 => ?_) (fun hc9 => ?_)
  · replace hq := hq.1 hc9
    refine lv_iload_n hC.x hC.b dX0_leastAcross_61 rfl (lv_at hl 2 rfl) ?_
    exact hc_iret hC (wc11) hW hq dX0_leastAcross_62
  · replace hq := hq.2 hc9
    refine lv_iload_n hC.x hC.b dX0_leastAcross_17 rfl (lv_at hl 2 rfl) ?_
    refine lv_iload_n hC.x hC.b dX0_leastAcross_18 rfl (lv_at hl 1 rfl) ?_
    refine lv_aload_n hC.x hC.b dX0_leastAcross_19 rfl (lv_at hl 0 rfl) ?_
    refine lv_iload_n hC.x hC.b dX0_leastAcross_20 rfl (lv_at hl 3 rfl) ?_
    refine hc_goIW hC hW (hc_rV hC (c_X0_firstP l D cy cz t1 t2 hc ac x3 wc11 _ hq) (hc_preW hC hW) hW 0 0 rfl rfl q_301 q_277 q_278 q_14 q_279 hd_X0_firstP ⟨rfl, rfl⟩ ⟨Nat.le_of_ble_eq_true rfl, Nat.le_of_ble_eq_true rfl⟩ rfl hl.1 rfl (Nat.le_of_ble_eq_true rfl) dX0_leastAcross_21 ⟨Nat.zero_le _, Nat.zero_le _⟩) (fun r21 u9 H locs hq hW => ?_)
    obtain ⟨wc21, rfl⟩ : ∃ z, z = u9 := ⟨_, rfl⟩
    try dsimp only at hq hW
    refine lv_aload_n hC.x hC.b dX0_leastAcross_24 rfl (lv_at hl 0 rfl) ?_
    refine lv_iload_n hC.x hC.b dX0_leastAcross_25 rfl (lv_at hl 3 rfl) ?_
    refine hc_goIW hC hW (hc_rV hC (c_X0_firstQ l D cy cz t1 t2 hc ac x3 wc21 _ hq) (hc_preW hC hW) hW 0 0 rfl rfl q_306 q_282 q_283 q_14 q_284 hd_X0_firstQ ⟨rfl, rfl⟩ ⟨Nat.le_of_ble_eq_true rfl, Nat.le_of_ble_eq_true rfl⟩ rfl hl.1 rfl (Nat.le_of_ble_eq_true rfl) dX0_leastAcross_26 ⟨Nat.zero_le _, Nat.zero_le _⟩) (fun r26 u9 H locs hq hW => ?_)
    obtain ⟨wc26, rfl⟩ : ∃ z, z = u9 := ⟨_, rfl⟩
    try dsimp only at hq hW
    refine hc_goP hC hW (hc_rN hC (c_X3_acrossOf l D cy cz t1 t2 x1 r21 r26 _ hq) (hc_preP hC hW) hC.en.1.2.2.2.2.1 q_405 q_2 q_406 hd_X3_acrossOf ⟨rfl, rfl⟩ ⟨Nat.le_of_ble_eq_true rfl, Nat.le_of_ble_eq_true rfl⟩ rfl hl.1 rfl (Nat.le_of_ble_eq_true rfl) dX0_leastAcross_29 ⟨Nat.zero_le _, Nat.zero_le _⟩) (fun r29 H locs hq hW => ?_)
    try dsimp only at hq
    refine hc_min hC hl q_164 q_165 q_166 q_167 (Nat.le_of_ble_eq_true rfl) (Nat.le_of_ble_eq_true rfl) (Nat.zero_le _) (Nat.zero_le _) dX0_leastAcross_32 ?_
    refine lv_istore_n (lv' := [(2, .int (if r29 < x2 then r29 else x2)), (0, .ref hc), (1, .int x1), (3, .int x3)]) hC.x hC.b dX0_leastAcross_35 rfl hl (by decide) rfl (fun ls hl => ?_)
    refine lv_iload_n hC.x hC.b dX0_leastAcross_36 rfl (lv_at hl 0 rfl) ?_
    refine lv_iload_n hC.x hC.b dX0_leastAcross_37 rfl (lv_at hl 2 rfl) ?_
    refine lv_aload_n hC.x hC.b dX0_leastAcross_38 rfl (lv_at hl 1 rfl) ?_
    refine lv_iload_n hC.x hC.b dX0_leastAcross_39 rfl (lv_at hl 3 rfl) ?_
    refine hc_goIW hC hW (hc_rV hC (c_X0_lastP l D cy cz t1 t2 hc ac x3 wc26 _ hq) (hc_preW hC hW) hW 0 0 rfl rfl q_302 q_303 q_304 q_14 q_305 hd_X0_lastP ⟨rfl, rfl⟩ ⟨Nat.le_of_ble_eq_true rfl, Nat.le_of_ble_eq_true rfl⟩ rfl hl.1 rfl (Nat.le_of_ble_eq_true rfl) dX0_leastAcross_40 ⟨Nat.zero_le _, Nat.zero_le _⟩) (fun r40 u9 H locs hq hW => ?_)
    obtain ⟨wc40, rfl⟩ : ∃ z, z = u9 := ⟨_, rfl⟩
    try dsimp only at hq hW
    refine lv_aload_n hC.x hC.b dX0_leastAcross_43 rfl (lv_at hl 1 rfl) ?_
    refine lv_iload_n hC.x hC.b dX0_leastAcross_44 rfl (lv_at hl 3 rfl) ?_
    refine hc_goIW hC hW (hc_rV hC (c_X0_lastQ l D cy cz t1 t2 hc ac x3 wc40 _ hq) (hc_preW hC hW) hW 0 0 rfl rfl q_307 q_308 q_309 q_14 q_310 hd_X0_lastQ ⟨rfl, rfl⟩ ⟨Nat.le_of_ble_eq_true rfl, Nat.le_of_ble_eq_true rfl⟩ rfl hl.1 rfl (Nat.le_of_ble_eq_true rfl) dX0_leastAcross_45 ⟨Nat.zero_le _, Nat.zero_le _⟩) (fun r45 u9 H locs hq hW => ?_)
    obtain ⟨wc45, rfl⟩ : ∃ z, z = u9 := ⟨_, rfl⟩
    try dsimp only at hq hW
    refine hc_goP hC hW (hc_rN hC (c_X3_acrossOf l D cy cz t1 t2 x1 r40 r45 _ hq) (hc_preP hC hW) hC.en.1.2.2.2.2.1 q_405 q_2 q_406 hd_X3_acrossOf ⟨rfl, rfl⟩ ⟨Nat.le_of_ble_eq_true rfl, Nat.le_of_ble_eq_true rfl⟩ rfl hl.1 rfl (Nat.le_of_ble_eq_true rfl) dX0_leastAcross_48 ⟨Nat.zero_le _, Nat.zero_le _⟩) (fun r48 H locs hq hW => ?_)
    try dsimp only at hq
    refine hc_min hC hl q_164 q_165 q_166 q_167 (Nat.le_of_ble_eq_true rfl) (Nat.le_of_ble_eq_true rfl) (Nat.zero_le _) (Nat.zero_le _) dX0_leastAcross_51 ?_
    refine lv_istore_n (lv' := [(2, .int (if r48 < (if r29 < x2 then r29 else x2) then r48 else (if r29 < x2 then r29 else x2))), (0, .ref hc), (1, .int x1), (3, .int x3)]) hC.x hC.b dX0_leastAcross_54 rfl hl (by decide) rfl (fun ls hl => ?_)
    refine lv_iinc (v := (x3 + 1)) (lv' := [(3, .int (x3 + 1)), (2, .int (if r48 < (if r29 < x2 then r29 else x2) then r48 else (if r29 < x2 then r29 else x2))), (0, .ref hc), (1, .int x1)]) hC.x hC.b dX0_leastAcross_55 hl (k := 3) rfl rfl (by decide) rfl (fun ls hl => ?_)
    refine lv_goto (tgt := 9) hC.x hC.b dX0_leastAcross_58 (by decide) ?_
    exact hK9 (x1, (if r48 < (if r29 < x2 then r29 else x2) then r48 else (if r29 < x2 then r29 else x2)), (x3 + 1), wc45) hq _ _ _ hW (lv_sub hl [2, 3, 1, 0] rfl)
def k_X0_leastAcross (x1 : Int32) (wc : Wd) (Q : Int32 → Wd → Prop) : Prop :=
 (k_X3_acrossOf x1 0 0 (fun r3 => (∃ n : Nat, lpf (fun (K : (Int32 × Int32 × Int32 × Wd) → Prop) (u : Int32 × Int32 × Int32 × Wd) => k_X0_leastAcross_9  K Q u.1 u.2.1 u.2.2.1 u.2.2.2) n (x1, r3, 0, wc))))
set_option maxHeartbeats 4000000 in
set_option maxRecDepth 100000 in
theorem c_X0_leastAcross (l : Launch) (D : va_G) (cy cz : ClassId) (t1 t2 : Nat) (hc : Nat) (ac : Nat → Nat) (x1 : Int32) (wc : Wd) (Q : Int32 → Wd → Prop) (hq : k_X0_leastAcross x1 wc Q) : Ct l D cy cz t1 t2 yX0_leastAcross cX0_leastAcross 4 (some .int) (rM 3 64) [.ref hc, .int x1] (cC cy hc ac wc) (QI D (S := Wd) (fun r u => Q r u) (fun u => (cC cy hc ac u))) := by
  refine Ct.of (own := RX0) (by decide) rfl (Nat.le_of_ble_eq_true rfl) ?_
  intro p e s m below meth c A ls hC hW hl
  unfold k_X0_leastAcross at hq
  have hl : lv_has ls 4 [(0, .ref hc), (1, .int x1)] := hl
  refine lv_iload_n hC.x hC.b dX0_leastAcross_0 rfl (lv_at hl 1 rfl) ?_
  refine lv_iconst (v := 0) hC.x hC.b dX0_leastAcross_1 (by decide) ?_
  refine lv_iconst (v := 0) hC.x hC.b dX0_leastAcross_2 (by decide) ?_
  refine hc_goP hC hW (hc_rN hC (c_X3_acrossOf l D cy cz t1 t2 x1 0 0 _ hq) (hc_preP hC hW) hC.en.1.2.2.2.2.1 q_405 q_2 q_406 hd_X3_acrossOf ⟨rfl, rfl⟩ ⟨Nat.le_of_ble_eq_true rfl, Nat.le_of_ble_eq_true rfl⟩ rfl hl.1 rfl (Nat.le_of_ble_eq_true rfl) dX0_leastAcross_3 ⟨Nat.zero_le _, Nat.zero_le _⟩) (fun r3 H locs hq hW => ?_)
  try dsimp only at hq
  refine lv_istore_n (lv' := [(2, .int r3), (0, .ref hc), (1, .int x1)]) hC.x hC.b dX0_leastAcross_6 rfl hl (by decide) rfl (fun ls hl => ?_)
  refine lv_iconst (v := 0) hC.x hC.b dX0_leastAcross_7 (by decide) ?_
  refine lv_istore_n (lv' := [(3, .int 0), (2, .int r3), (0, .ref hc), (1, .int x1)]) hC.x hC.b dX0_leastAcross_8 rfl hl (by decide) rfl (fun ls hl => ?_)
  obtain ⟨n9, hq⟩ := hq
  exact lpf_use (G := (fun (u : Int32 × Int32 × Int32 × Wd) => ∀ (H : Heap) (locs : List Loc) (ls : Array Slot), Wo D A s (cC cy hc ac u.2.2.2) H locs → lv_has ls 4 [(0, .ref hc), (1, .int u.1), (2, .int u.2.1), (3, .int u.2.2.1)] → W p l e (rM 3 64) s m _ below meth c H locs 0 0 (MQ below (QI D (S := Wd) (fun r u => Q r u) (fun u => (cC cy hc ac u)) A) _ s 0 0 A) (F0 m 9 ls []))) (fun K hK u hq H locs ls hW hl => B_X0_leastAcross_9 hc ac Q  K hK hC u.1 u.2.1 u.2.2.1 u.2.2.2 hq hW hl) n9 _ hq _ _ _ hW (lv_sub hl [2, 3, 1, 0] rfl)
def k_X0_greatestAcross_9 (K9 : (Int32 × Int32 × Int32 × Wd) → Prop) (Q : Int32 → Wd → Prop) (x1 : Int32) (x2 : Int32) (x3 : Int32) (wc : Wd) : Prop :=
 (k_X0_faces wc (fun r11 wc11 => ((r11 ≤ x3 → (Q x2 wc11)) ∧
 (¬ r11 ≤ x3 → (k_X0_firstP x3 wc11 (fun r21 wc21 => (k_X0_firstQ x3 wc21 (fun r26 wc26 => (k_X3_acrossOf x1 r21 r26 (fun r29 => (k_X0_lastP x3 wc26 (fun r40 wc40 => (k_X0_lastQ x3 wc40 (fun r45 wc45 => (k_X3_acrossOf x1 r40 r45 (fun r48 => (K9 (x1, (if (if x2 < r29 then r29 else x2) < r48 then r48 else (if x2 < r29 then r29 else x2)), (x3 + 1), wc45))))))))))))))))))
set_option maxHeartbeats 4000000 in
set_option maxRecDepth 100000 in
theorem B_X0_greatestAcross_9 {l : Launch} {p : Program} {e : Env} {s : State} {m : MethodId} {args : Array Value} {below : List Frame} {meth : Method} {c : Code} {A : Nat → Prop} {D : va_G} {cy cz : ClassId} {t1 t2 : Nat} (hc : Nat) (ac : Nat → Nat) (Q : Int32 → Wd → Prop) (K9 : (Int32 × Int32 × Int32 × Wd) → Prop) (hK9 : ∀ b9 : Int32 × Int32 × Int32 × Wd, K9 b9 → ∀ (H : Heap) (locs : List Loc) (ls : Array Slot), Wo D A s (cC cy hc ac b9.2.2.2) H locs → lv_has ls 4 [(0, .ref hc), (1, .int b9.1), (2, .int b9.2.1), (3, .int b9.2.2.1)] → W p l e (rM 3 64) s m args below meth c H locs 0 0 (MQ below (QI D (S := Wd) (fun r u => Q r u) (fun u => (cC cy hc ac u)) A) args s 0 0 A) (F0 m 9 ls [])) (hC : Cx D cy cz t1 t2 p s m args meth c cX0_greatestAcross 4 (some .int) RX0 A) (x1 : Int32) (x2 : Int32) (x3 : Int32) (wc : Wd) {H : Heap} {locs : List Loc} {ls : Array Slot} (hq : k_X0_greatestAcross_9 K9 Q x1 x2 x3 wc) (hW : Wo D A s (cC cy hc ac wc) H locs) (hl : lv_has ls 4 [(0, .ref hc), (1, .int x1), (2, .int x2), (3, .int x3)]) : W p l e (rM 3 64) s m args below meth c H locs 0 0 (MQ below (QI D (S := Wd) (fun r u => Q r u) (fun u => (cC cy hc ac u)) A) args s 0 0 A) (F0 m 9 ls []) := by
  unfold k_X0_greatestAcross_9 at hq
  refine lv_iload_n hC.x hC.b dX0_greatestAcross_9 rfl (lv_at hl 3 rfl) ?_
  refine lv_aload_n hC.x hC.b dX0_greatestAcross_10 rfl (lv_at hl 0 rfl) ?_
  refine hc_goIW hC hW (hc_rV hC (c_X0_faces l D cy cz t1 t2 hc ac wc _ hq) (hc_preW hC hW) hW 0 0 rfl rfl q_67 q_68 q_69 q_14 q_70 hd_X0_faces ⟨rfl, rfl⟩ ⟨Nat.le_of_ble_eq_true rfl, Nat.le_of_ble_eq_true rfl⟩ rfl hl.1 rfl (Nat.le_of_ble_eq_true rfl) dX0_greatestAcross_11 ⟨Nat.zero_le _, Nat.zero_le _⟩) (fun r11 u9 H locs hq hW => ?_)
  obtain ⟨wc11, rfl⟩ : ∃ z, z = u9 := ⟨_, rfl⟩
  try dsimp only at hq hW
  refine lv_icmp_ge (tgt := 61) hC.x hC.b dX0_greatestAcross_14 (by decide) (fun hc9 => ?_) (fun hc9 => ?_)
  · replace hq := hq.1 hc9
    refine lv_iload_n hC.x hC.b dX0_greatestAcross_61 rfl (lv_at hl 2 rfl) ?_
    exact hc_iret hC (wc11) hW hq dX0_greatestAcross_62
  · replace hq := hq.2 hc9
    refine lv_iload_n hC.x hC.b dX0_greatestAcross_17 rfl (lv_at hl 2 rfl) ?_
    refine lv_iload_n hC.x hC.b dX0_greatestAcross_18 rfl (lv_at hl 1 rfl) ?_
    refine lv_aload_n hC.x hC.b dX0_greatestAcross_19 rfl (lv_at hl 0 rfl) ?_
    refine lv_iload_n hC.x hC.b dX0_greatestAcross_20 rfl (lv_at hl 3 rfl) ?_
    refine hc_goIW hC hW (hc_rV hC (c_X0_firstP l D cy cz t1 t2 hc ac x3 wc11 _ hq) (hc_preW hC hW) hW 0 0 rfl rfl q_301 q_277 q_278 q_14 q_279 hd_X0_firstP ⟨rfl, rfl⟩ ⟨Nat.le_of_ble_eq_true rfl, Nat.le_of_ble_eq_true rfl⟩ rfl hl.1 rfl (Nat.le_of_ble_eq_true rfl) dX0_greatestAcross_21 ⟨Nat.zero_le _, Nat.zero_le _⟩) (fun r21 u9 H locs hq hW => ?_)
    obtain ⟨wc21, rfl⟩ : ∃ z, z = u9 := ⟨_, rfl⟩
    try dsimp only at hq hW
    refine lv_aload_n hC.x hC.b dX0_greatestAcross_24 rfl (lv_at hl 0 rfl) ?_
    refine lv_iload_n hC.x hC.b dX0_greatestAcross_25 rfl (lv_at hl 3 rfl) ?_
    refine hc_goIW hC hW (hc_rV hC (c_X0_firstQ l D cy cz t1 t2 hc ac x3 wc21 _ hq) (hc_preW hC hW) hW 0 0 rfl rfl q_306 q_282 q_283 q_14 q_284 hd_X0_firstQ ⟨rfl, rfl⟩ ⟨Nat.le_of_ble_eq_true rfl, Nat.le_of_ble_eq_true rfl⟩ rfl hl.1 rfl (Nat.le_of_ble_eq_true rfl) dX0_greatestAcross_26 ⟨Nat.zero_le _, Nat.zero_le _⟩) (fun r26 u9 H locs hq hW => ?_)
    obtain ⟨wc26, rfl⟩ : ∃ z, z = u9 := ⟨_, rfl⟩
    try dsimp only at hq hW
    refine hc_goP hC hW (hc_rN hC (c_X3_acrossOf l D cy cz t1 t2 x1 r21 r26 _ hq) (hc_preP hC hW) hC.en.1.2.2.2.2.1 q_405 q_2 q_406 hd_X3_acrossOf ⟨rfl, rfl⟩ ⟨Nat.le_of_ble_eq_true rfl, Nat.le_of_ble_eq_true rfl⟩ rfl hl.1 rfl (Nat.le_of_ble_eq_true rfl) dX0_greatestAcross_29 ⟨Nat.zero_le _, Nat.zero_le _⟩) (fun r29 H locs hq hW => ?_)
    try dsimp only at hq
    refine hc_max hC hl q_168 q_169 q_166 q_170 (Nat.le_of_ble_eq_true rfl) (Nat.le_of_ble_eq_true rfl) (Nat.zero_le _) (Nat.zero_le _) dX0_greatestAcross_32 ?_
    refine lv_istore_n (lv' := [(2, .int (if x2 < r29 then r29 else x2)), (0, .ref hc), (1, .int x1), (3, .int x3)]) hC.x hC.b dX0_greatestAcross_35 rfl hl (by decide) rfl (fun ls hl => ?_)
    refine lv_iload_n hC.x hC.b dX0_greatestAcross_36 rfl (lv_at hl 0 rfl) ?_
    refine lv_iload_n hC.x hC.b dX0_greatestAcross_37 rfl (lv_at hl 2 rfl) ?_
    refine lv_aload_n hC.x hC.b dX0_greatestAcross_38 rfl (lv_at hl 1 rfl) ?_
    refine lv_iload_n hC.x hC.b dX0_greatestAcross_39 rfl (lv_at hl 3 rfl) ?_
    refine hc_goIW hC hW (hc_rV hC (c_X0_lastP l D cy cz t1 t2 hc ac x3 wc26 _ hq) (hc_preW hC hW) hW 0 0 rfl rfl q_302 q_303 q_304 q_14 q_305 hd_X0_lastP ⟨rfl, rfl⟩ ⟨Nat.le_of_ble_eq_true rfl, Nat.le_of_ble_eq_true rfl⟩ rfl hl.1 rfl (Nat.le_of_ble_eq_true rfl) dX0_greatestAcross_40 ⟨Nat.zero_le _, Nat.zero_le _⟩) (fun r40 u9 H locs hq hW => ?_)
    obtain ⟨wc40, rfl⟩ : ∃ z, z = u9 := ⟨_, rfl⟩
    try dsimp only at hq hW
    refine lv_aload_n hC.x hC.b dX0_greatestAcross_43 rfl (lv_at hl 1 rfl) ?_
    refine lv_iload_n hC.x hC.b dX0_greatestAcross_44 rfl (lv_at hl 3 rfl) ?_
    refine hc_goIW hC hW (hc_rV hC (c_X0_lastQ l D cy cz t1 t2 hc ac x3 wc40 _ hq) (hc_preW hC hW) hW 0 0 rfl rfl q_307 q_308 q_309 q_14 q_310 hd_X0_lastQ ⟨rfl, rfl⟩ ⟨Nat.le_of_ble_eq_true rfl, Nat.le_of_ble_eq_true rfl⟩ rfl hl.1 rfl (Nat.le_of_ble_eq_true rfl) dX0_greatestAcross_45 ⟨Nat.zero_le _, Nat.zero_le _⟩) (fun r45 u9 H locs hq hW => ?_)
    obtain ⟨wc45, rfl⟩ : ∃ z, z = u9 := ⟨_, rfl⟩
    try dsimp only at hq hW
    refine hc_goP hC hW (hc_rN hC (c_X3_acrossOf l D cy cz t1 t2 x1 r40 r45 _ hq) (hc_preP hC hW) hC.en.1.2.2.2.2.1 q_405 q_2 q_406 hd_X3_acrossOf ⟨rfl, rfl⟩ ⟨Nat.le_of_ble_eq_true rfl, Nat.le_of_ble_eq_true rfl⟩ rfl hl.1 rfl (Nat.le_of_ble_eq_true rfl) dX0_greatestAcross_48 ⟨Nat.zero_le _, Nat.zero_le _⟩) (fun r48 H locs hq hW => ?_)
    try dsimp only at hq
    refine hc_max hC hl q_168 q_169 q_166 q_170 (Nat.le_of_ble_eq_true rfl) (Nat.le_of_ble_eq_true rfl) (Nat.zero_le _) (Nat.zero_le _) dX0_greatestAcross_51 ?_
    refine lv_istore_n (lv' := [(2, .int (if (if x2 < r29 then r29 else x2) < r48 then r48 else (if x2 < r29 then r29 else x2))), (0, .ref hc), (1, .int x1), (3, .int x3)]) hC.x hC.b dX0_greatestAcross_54 rfl hl (by decide) rfl (fun ls hl => ?_)
    refine lv_iinc (v := (x3 + 1)) (lv' := [(3, .int (x3 + 1)), (2, .int (if (if x2 < r29 then r29 else x2) < r48 then r48 else (if x2 < r29 then r29 else x2))), (0, .ref hc), (1, .int x1)]) hC.x hC.b dX0_greatestAcross_55 hl (k := 3) rfl rfl (by decide) rfl (fun ls hl => ?_)
    refine lv_goto (tgt := 9) hC.x hC.b dX0_greatestAcross_58 (by decide) ?_
    exact hK9 (x1, (if (if x2 < r29 then r29 else x2) < r48 then r48 else (if x2 < r29 then r29 else x2)), (x3 + 1), wc45) hq _ _ _ hW (lv_sub hl [2, 3, 1, 0] rfl)
def k_X0_greatestAcross (x1 : Int32) (wc : Wd) (Q : Int32 → Wd → Prop) : Prop :=
 (k_X3_acrossOf x1 0 0 (fun r3 => (∃ n : Nat, lpf (fun (K : (Int32 × Int32 × Int32 × Wd) → Prop) (u : Int32 × Int32 × Int32 × Wd) => k_X0_greatestAcross_9  K Q u.1 u.2.1 u.2.2.1 u.2.2.2) n (x1, r3, 0, wc))))
set_option maxHeartbeats 4000000 in
set_option maxRecDepth 100000 in
theorem c_X0_greatestAcross (l : Launch) (D : va_G) (cy cz : ClassId) (t1 t2 : Nat) (hc : Nat) (ac : Nat → Nat) (x1 : Int32) (wc : Wd) (Q : Int32 → Wd → Prop) (hq : k_X0_greatestAcross x1 wc Q) : Ct l D cy cz t1 t2 yX0_greatestAcross cX0_greatestAcross 4 (some .int) (rM 3 64) [.ref hc, .int x1] (cC cy hc ac wc) (QI D (S := Wd) (fun r u => Q r u) (fun u => (cC cy hc ac u))) := by
  refine Ct.of (own := RX0) (by decide) rfl (Nat.le_of_ble_eq_true rfl) ?_
  intro p e s m below meth c A ls hC hW hl
  unfold k_X0_greatestAcross at hq
  have hl : lv_has ls 4 [(0, .ref hc), (1, .int x1)] := hl
  refine lv_iload_n hC.x hC.b dX0_greatestAcross_0 rfl (lv_at hl 1 rfl) ?_
  refine lv_iconst (v := 0) hC.x hC.b dX0_greatestAcross_1 (by decide) ?_
  refine lv_iconst (v := 0) hC.x hC.b dX0_greatestAcross_2 (by decide) ?_
  refine hc_goP hC hW (hc_rN hC (c_X3_acrossOf l D cy cz t1 t2 x1 0 0 _ hq) (hc_preP hC hW) hC.en.1.2.2.2.2.1 q_405 q_2 q_406 hd_X3_acrossOf ⟨rfl, rfl⟩ ⟨Nat.le_of_ble_eq_true rfl, Nat.le_of_ble_eq_true rfl⟩ rfl hl.1 rfl (Nat.le_of_ble_eq_true rfl) dX0_greatestAcross_3 ⟨Nat.zero_le _, Nat.zero_le _⟩) (fun r3 H locs hq hW => ?_)
  try dsimp only at hq
  refine lv_istore_n (lv' := [(2, .int r3), (0, .ref hc), (1, .int x1)]) hC.x hC.b dX0_greatestAcross_6 rfl hl (by decide) rfl (fun ls hl => ?_)
  refine lv_iconst (v := 0) hC.x hC.b dX0_greatestAcross_7 (by decide) ?_
  refine lv_istore_n (lv' := [(3, .int 0), (2, .int r3), (0, .ref hc), (1, .int x1)]) hC.x hC.b dX0_greatestAcross_8 rfl hl (by decide) rfl (fun ls hl => ?_)
  obtain ⟨n9, hq⟩ := hq
  exact lpf_use (G := (fun (u : Int32 × Int32 × Int32 × Wd) => ∀ (H : Heap) (locs : List Loc) (ls : Array Slot), Wo D A s (cC cy hc ac u.2.2.2) H locs → lv_has ls 4 [(0, .ref hc), (1, .int u.1), (2, .int u.2.1), (3, .int u.2.2.1)] → W p l e (rM 3 64) s m _ below meth c H locs 0 0 (MQ below (QI D (S := Wd) (fun r u => Q r u) (fun u => (cC cy hc ac u)) A) _ s 0 0 A) (F0 m 9 ls []))) (fun K hK u hq H locs ls hW hl => B_X0_greatestAcross_9 hc ac Q  K hK hC u.1 u.2.1 u.2.2.1 u.2.2.2 hq hW hl) n9 _ hq _ _ _ hW (lv_sub hl [2, 3, 1, 0] rfl)
def k_X3_upOf (x0 : Int32) (x1 : Int32)  (Q : Int32 → Prop) : Prop :=
 (k_X3_isStep x0 (fun r1 => ((r1 = 0 → (Q 0)) ∧
 (¬ r1 = 0 → (vp_in x0 11 ∧ (Q ((tabS (x0).toNatClampNeg) * x1)))))))
set_option maxHeartbeats 4000000 in
set_option maxRecDepth 100000 in
theorem c_X3_upOf (l : Launch) (D : va_G) (cy cz : ClassId) (t1 t2 : Nat)  (x0 : Int32) (x1 : Int32)  (Q : Int32 → Prop) (hq : k_X3_upOf x0 x1 Q) : Ct l D cy cz t1 t2 yX3_upOf cX3_upOf 2 (some .int) (rM 2 42) [.int x0, .int x1] ([] : va_W) (QI D (S := Unit) (fun r u => Q r ) (fun _ => ([] : va_W))) := by
  refine Ct.of (own := RX3) (by decide) rfl (Nat.le_of_ble_eq_true rfl) ?_
  intro p e s m below meth c A ls hC hW hl
  unfold k_X3_upOf at hq
  have hl : lv_has ls 2 [(0, .int x0), (1, .int x1)] := hl
  refine lv_iload_n hC.x hC.b dX3_upOf_0 rfl (lv_at hl 0 rfl) ?_
  refine hc_goP hC hW (hc_rS hC (c_X3_isStep l D cy cz t1 t2 x0 _ hq) (hc_preP hC hW) q_398 q_399 q_2 q_400 hd_X3_isStep ⟨rfl, rfl⟩ ⟨Nat.le_of_ble_eq_true rfl, Nat.le_of_ble_eq_true rfl⟩ rfl hl.1 rfl (Nat.le_of_ble_eq_true rfl) dX3_upOf_1 ⟨Nat.zero_le _, Nat.zero_le _⟩) (fun r1 H locs hq hW => ?_)
  try dsimp only at hq
  refine lv_if_eq (tgt := 17) hC.x hC.b dX3_upOf_4 (by decide) (fun hc9 => ?_) (fun hc9 => ?_)
  · replace hq := hq.1 hc9
    refine lv_iconst (v := 0) hC.x hC.b dX3_upOf_17 (by decide) ?_
    exact hc_iret hC () hW hq dX3_upOf_18
  · replace hq := hq.2 hc9
    refine hc_getS hC hW q_418 dX3_upOf_7 ?_
    refine lv_iload_n hC.x hC.b dX3_upOf_10 rfl (lv_at hl 0 rfl) ?_
    refine hc_ldS hC hW hq.1 dX3_upOf_11 ?_
    replace hq := hq.2
    refine lv_iload_n hC.x hC.b dX3_upOf_12 rfl (lv_at hl 1 rfl) ?_
    refine lv_imul hC.x hC.b dX3_upOf_13 ?_
    refine lv_goto (tgt := 18) hC.x hC.b dX3_upOf_14 (by decide) ?_
    exact hc_iret hC () hW hq dX3_upOf_18
def k_X0_greatestUp_8 (K8 : (Int32 × Int32 × Int32 × Wd) → Prop) (Q : Int32 → Wd → Prop) (x1 : Int32) (x2 : Int32) (x3 : Int32) (wc : Wd) : Prop :=
 (k_X0_faces wc (fun r10 wc10 => ((r10 ≤ x3 → (Q x2 wc10)) ∧
 (¬ r10 ≤ x3 → (k_X0_lastQ x3 wc10 (fun r20 wc20 => (k_X3_upOf x1 r20 (fun r23 => (K8 (x1, (if x2 < r23 then r23 else x2), (x3 + 1), wc20))))))))))
set_option maxHeartbeats 4000000 in
set_option maxRecDepth 100000 in
theorem B_X0_greatestUp_8 {l : Launch} {p : Program} {e : Env} {s : State} {m : MethodId} {args : Array Value} {below : List Frame} {meth : Method} {c : Code} {A : Nat → Prop} {D : va_G} {cy cz : ClassId} {t1 t2 : Nat} (hc : Nat) (ac : Nat → Nat) (Q : Int32 → Wd → Prop) (K8 : (Int32 × Int32 × Int32 × Wd) → Prop) (hK8 : ∀ b9 : Int32 × Int32 × Int32 × Wd, K8 b9 → ∀ (H : Heap) (locs : List Loc) (ls : Array Slot), Wo D A s (cC cy hc ac b9.2.2.2) H locs → lv_has ls 4 [(0, .ref hc), (1, .int b9.1), (2, .int b9.2.1), (3, .int b9.2.2.1)] → W p l e (rM 3 63) s m args below meth c H locs 0 0 (MQ below (QI D (S := Wd) (fun r u => Q r u) (fun u => (cC cy hc ac u)) A) args s 0 0 A) (F0 m 8 ls [])) (hC : Cx D cy cz t1 t2 p s m args meth c cX0_greatestUp 4 (some .int) RX0 A) (x1 : Int32) (x2 : Int32) (x3 : Int32) (wc : Wd) {H : Heap} {locs : List Loc} {ls : Array Slot} (hq : k_X0_greatestUp_8 K8 Q x1 x2 x3 wc) (hW : Wo D A s (cC cy hc ac wc) H locs) (hl : lv_has ls 4 [(0, .ref hc), (1, .int x1), (2, .int x2), (3, .int x3)]) : W p l e (rM 3 63) s m args below meth c H locs 0 0 (MQ below (QI D (S := Wd) (fun r u => Q r u) (fun u => (cC cy hc ac u)) A) args s 0 0 A) (F0 m 8 ls []) := by
  unfold k_X0_greatestUp_8 at hq
  refine lv_iload_n hC.x hC.b dX0_greatestUp_8 rfl (lv_at hl 3 rfl) ?_
  refine lv_aload_n hC.x hC.b dX0_greatestUp_9 rfl (lv_at hl 0 rfl) ?_
  refine hc_goIW hC hW (hc_rV hC (c_X0_faces l D cy cz t1 t2 hc ac wc _ hq) (hc_preW hC hW) hW 0 0 rfl rfl q_67 q_68 q_69 q_14 q_70 hd_X0_faces ⟨rfl, rfl⟩ ⟨Nat.le_of_ble_eq_true rfl, Nat.le_of_ble_eq_true rfl⟩ rfl hl.1 rfl (Nat.le_of_ble_eq_true rfl) dX0_greatestUp_10 ⟨Nat.zero_le _, Nat.zero_le _⟩) (fun r10 u9 H locs hq hW => ?_)
  obtain ⟨wc10, rfl⟩ : ∃ z, z = u9 := ⟨_, rfl⟩
  try dsimp only at hq hW
  refine lv_icmp_ge (tgt := 36) hC.x hC.b dX0_greatestUp_13 (by decide) (fun hc9 => ?_) (fun hc9 => ?_)
  · replace hq := hq.1 hc9
    refine lv_iload_n hC.x hC.b dX0_greatestUp_36 rfl (lv_at hl 2 rfl) ?_
    exact hc_iret hC (wc10) hW hq dX0_greatestUp_37
  · replace hq := hq.2 hc9
    refine lv_iload_n hC.x hC.b dX0_greatestUp_16 rfl (lv_at hl 2 rfl) ?_
    refine lv_iload_n hC.x hC.b dX0_greatestUp_17 rfl (lv_at hl 1 rfl) ?_
    refine lv_aload_n hC.x hC.b dX0_greatestUp_18 rfl (lv_at hl 0 rfl) ?_
    refine lv_iload_n hC.x hC.b dX0_greatestUp_19 rfl (lv_at hl 3 rfl) ?_
    refine hc_goIW hC hW (hc_rV hC (c_X0_lastQ l D cy cz t1 t2 hc ac x3 wc10 _ hq) (hc_preW hC hW) hW 0 0 rfl rfl q_307 q_308 q_309 q_14 q_310 hd_X0_lastQ ⟨rfl, rfl⟩ ⟨Nat.le_of_ble_eq_true rfl, Nat.le_of_ble_eq_true rfl⟩ rfl hl.1 rfl (Nat.le_of_ble_eq_true rfl) dX0_greatestUp_20 ⟨Nat.zero_le _, Nat.zero_le _⟩) (fun r20 u9 H locs hq hW => ?_)
    obtain ⟨wc20, rfl⟩ : ∃ z, z = u9 := ⟨_, rfl⟩
    try dsimp only at hq hW
    refine hc_goP hC hW (hc_rN hC (c_X3_upOf l D cy cz t1 t2 x1 r20 _ hq) (hc_preP hC hW) hC.en.1.2.2.2.2.2.1 q_416 q_2 q_417 hd_X3_upOf ⟨rfl, rfl⟩ ⟨Nat.le_of_ble_eq_true rfl, Nat.le_of_ble_eq_true rfl⟩ rfl hl.1 rfl (Nat.le_of_ble_eq_true rfl) dX0_greatestUp_23 ⟨Nat.zero_le _, Nat.zero_le _⟩) (fun r23 H locs hq hW => ?_)
    try dsimp only at hq
    refine hc_max hC hl q_168 q_169 q_166 q_170 (Nat.le_of_ble_eq_true rfl) (Nat.le_of_ble_eq_true rfl) (Nat.zero_le _) (Nat.zero_le _) dX0_greatestUp_26 ?_
    refine lv_istore_n (lv' := [(2, .int (if x2 < r23 then r23 else x2)), (0, .ref hc), (1, .int x1), (3, .int x3)]) hC.x hC.b dX0_greatestUp_29 rfl hl (by decide) rfl (fun ls hl => ?_)
    refine lv_iinc (v := (x3 + 1)) (lv' := [(3, .int (x3 + 1)), (2, .int (if x2 < r23 then r23 else x2)), (0, .ref hc), (1, .int x1)]) hC.x hC.b dX0_greatestUp_30 hl (k := 3) rfl rfl (by decide) rfl (fun ls hl => ?_)
    refine lv_goto (tgt := 8) hC.x hC.b dX0_greatestUp_33 (by decide) ?_
    exact hK8 (x1, (if x2 < r23 then r23 else x2), (x3 + 1), wc20) hq _ _ _ hW (lv_sub hl [2, 3, 1, 0] rfl)
def k_X0_greatestUp (x1 : Int32) (wc : Wd) (Q : Int32 → Wd → Prop) : Prop :=
 (k_X3_upOf x1 0 (fun r2 => (∃ n : Nat, lpf (fun (K : (Int32 × Int32 × Int32 × Wd) → Prop) (u : Int32 × Int32 × Int32 × Wd) => k_X0_greatestUp_8  K Q u.1 u.2.1 u.2.2.1 u.2.2.2) n (x1, r2, 0, wc))))
set_option maxHeartbeats 4000000 in
set_option maxRecDepth 100000 in
theorem c_X0_greatestUp (l : Launch) (D : va_G) (cy cz : ClassId) (t1 t2 : Nat) (hc : Nat) (ac : Nat → Nat) (x1 : Int32) (wc : Wd) (Q : Int32 → Wd → Prop) (hq : k_X0_greatestUp x1 wc Q) : Ct l D cy cz t1 t2 yX0_greatestUp cX0_greatestUp 4 (some .int) (rM 3 63) [.ref hc, .int x1] (cC cy hc ac wc) (QI D (S := Wd) (fun r u => Q r u) (fun u => (cC cy hc ac u))) := by
  refine Ct.of (own := RX0) (by decide) rfl (Nat.le_of_ble_eq_true rfl) ?_
  intro p e s m below meth c A ls hC hW hl
  unfold k_X0_greatestUp at hq
  have hl : lv_has ls 4 [(0, .ref hc), (1, .int x1)] := hl
  refine lv_iload_n hC.x hC.b dX0_greatestUp_0 rfl (lv_at hl 1 rfl) ?_
  refine lv_iconst (v := 0) hC.x hC.b dX0_greatestUp_1 (by decide) ?_
  refine hc_goP hC hW (hc_rN hC (c_X3_upOf l D cy cz t1 t2 x1 0 _ hq) (hc_preP hC hW) hC.en.1.2.2.2.2.2.1 q_416 q_2 q_417 hd_X3_upOf ⟨rfl, rfl⟩ ⟨Nat.le_of_ble_eq_true rfl, Nat.le_of_ble_eq_true rfl⟩ rfl hl.1 rfl (Nat.le_of_ble_eq_true rfl) dX0_greatestUp_2 ⟨Nat.zero_le _, Nat.zero_le _⟩) (fun r2 H locs hq hW => ?_)
  try dsimp only at hq
  refine lv_istore_n (lv' := [(2, .int r2), (0, .ref hc), (1, .int x1)]) hC.x hC.b dX0_greatestUp_5 rfl hl (by decide) rfl (fun ls hl => ?_)
  refine lv_iconst (v := 0) hC.x hC.b dX0_greatestUp_6 (by decide) ?_
  refine lv_istore_n (lv' := [(3, .int 0), (2, .int r2), (0, .ref hc), (1, .int x1)]) hC.x hC.b dX0_greatestUp_7 rfl hl (by decide) rfl (fun ls hl => ?_)
  obtain ⟨n9, hq⟩ := hq
  exact lpf_use (G := (fun (u : Int32 × Int32 × Int32 × Wd) => ∀ (H : Heap) (locs : List Loc) (ls : Array Slot), Wo D A s (cC cy hc ac u.2.2.2) H locs → lv_has ls 4 [(0, .ref hc), (1, .int u.1), (2, .int u.2.1), (3, .int u.2.2.1)] → W p l e (rM 3 63) s m _ below meth c H locs 0 0 (MQ below (QI D (S := Wd) (fun r u => Q r u) (fun u => (cC cy hc ac u)) A) _ s 0 0 A) (F0 m 8 ls []))) (fun K hK u hq H locs ls hW hl => B_X0_greatestUp_8 hc ac Q  K hK hC u.1 u.2.1 u.2.2.1 u.2.2.2 hq hW hl) n9 _ hq _ _ _ hW (lv_sub hl [2, 3, 1, 0] rfl)
def k_X0_leastUp_8 (K8 : (Int32 × Int32 × Int32 × Wd) → Prop) (Q : Int32 → Wd → Prop) (x1 : Int32) (x2 : Int32) (x3 : Int32) (wc : Wd) : Prop :=
 (k_X0_faces wc (fun r10 wc10 => ((r10 ≤ x3 → (Q x2 wc10)) ∧
 (¬ r10 ≤ x3 → (k_X0_firstQ x3 wc10 (fun r20 wc20 => (k_X3_upOf x1 r20 (fun r23 => (K8 (x1, (if r23 < x2 then r23 else x2), (x3 + 1), wc20))))))))))
set_option maxHeartbeats 4000000 in
set_option maxRecDepth 100000 in
theorem B_X0_leastUp_8 {l : Launch} {p : Program} {e : Env} {s : State} {m : MethodId} {args : Array Value} {below : List Frame} {meth : Method} {c : Code} {A : Nat → Prop} {D : va_G} {cy cz : ClassId} {t1 t2 : Nat} (hc : Nat) (ac : Nat → Nat) (Q : Int32 → Wd → Prop) (K8 : (Int32 × Int32 × Int32 × Wd) → Prop) (hK8 : ∀ b9 : Int32 × Int32 × Int32 × Wd, K8 b9 → ∀ (H : Heap) (locs : List Loc) (ls : Array Slot), Wo D A s (cC cy hc ac b9.2.2.2) H locs → lv_has ls 4 [(0, .ref hc), (1, .int b9.1), (2, .int b9.2.1), (3, .int b9.2.2.1)] → W p l e (rM 3 63) s m args below meth c H locs 0 0 (MQ below (QI D (S := Wd) (fun r u => Q r u) (fun u => (cC cy hc ac u)) A) args s 0 0 A) (F0 m 8 ls [])) (hC : Cx D cy cz t1 t2 p s m args meth c cX0_leastUp 4 (some .int) RX0 A) (x1 : Int32) (x2 : Int32) (x3 : Int32) (wc : Wd) {H : Heap} {locs : List Loc} {ls : Array Slot} (hq : k_X0_leastUp_8 K8 Q x1 x2 x3 wc) (hW : Wo D A s (cC cy hc ac wc) H locs) (hl : lv_has ls 4 [(0, .ref hc), (1, .int x1), (2, .int x2), (3, .int x3)]) : W p l e (rM 3 63) s m args below meth c H locs 0 0 (MQ below (QI D (S := Wd) (fun r u => Q r u) (fun u => (cC cy hc ac u)) A) args s 0 0 A) (F0 m 8 ls []) := by
  unfold k_X0_leastUp_8 at hq
  refine lv_iload_n hC.x hC.b dX0_leastUp_8 rfl (lv_at hl 3 rfl) ?_
  refine lv_aload_n hC.x hC.b dX0_leastUp_9 rfl (lv_at hl 0 rfl) ?_
  refine hc_goIW hC hW (hc_rV hC (c_X0_faces l D cy cz t1 t2 hc ac wc _ hq) (hc_preW hC hW) hW 0 0 rfl rfl q_67 q_68 q_69 q_14 q_70 hd_X0_faces ⟨rfl, rfl⟩ ⟨Nat.le_of_ble_eq_true rfl, Nat.le_of_ble_eq_true rfl⟩ rfl hl.1 rfl (Nat.le_of_ble_eq_true rfl) dX0_leastUp_10 ⟨Nat.zero_le _, Nat.zero_le _⟩) (fun r10 u9 H locs hq hW => ?_)
  obtain ⟨wc10, rfl⟩ : ∃ z, z = u9 := ⟨_, rfl⟩
  try dsimp only at hq hW
  refine lv_icmp_ge (tgt := 36) hC.x hC.b dX0_leastUp_13 (by decide) (fun hc9 => ?_) (fun hc9 => ?_)
  · replace hq := hq.1 hc9
    refine lv_iload_n hC.x hC.b dX0_leastUp_36 rfl (lv_at hl 2 rfl) ?_
    exact hc_iret hC (wc10) hW hq dX0_leastUp_37
  · replace hq := hq.2 hc9
    refine lv_iload_n hC.x hC.b dX0_leastUp_16 rfl (lv_at hl 2 rfl) ?_
    refine lv_iload_n hC.x hC.b dX0_leastUp_17 rfl (lv_at hl 1 rfl) ?_
    refine lv_aload_n hC.x hC.b dX0_leastUp_18 rfl (lv_at hl 0 rfl) ?_
    refine lv_iload_n hC.x hC.b dX0_leastUp_19 rfl (lv_at hl 3 rfl) ?_
    refine hc_goIW hC hW (hc_rV hC (c_X0_firstQ l D cy cz t1 t2 hc ac x3 wc10 _ hq) (hc_preW hC hW) hW 0 0 rfl rfl q_306 q_282 q_283 q_14 q_284 hd_X0_firstQ ⟨rfl, rfl⟩ ⟨Nat.le_of_ble_eq_true rfl, Nat.le_of_ble_eq_true rfl⟩ rfl hl.1 rfl (Nat.le_of_ble_eq_true rfl) dX0_leastUp_20 ⟨Nat.zero_le _, Nat.zero_le _⟩) (fun r20 u9 H locs hq hW => ?_)
    obtain ⟨wc20, rfl⟩ : ∃ z, z = u9 := ⟨_, rfl⟩
    try dsimp only at hq hW
    refine hc_goP hC hW (hc_rN hC (c_X3_upOf l D cy cz t1 t2 x1 r20 _ hq) (hc_preP hC hW) hC.en.1.2.2.2.2.2.1 q_416 q_2 q_417 hd_X3_upOf ⟨rfl, rfl⟩ ⟨Nat.le_of_ble_eq_true rfl, Nat.le_of_ble_eq_true rfl⟩ rfl hl.1 rfl (Nat.le_of_ble_eq_true rfl) dX0_leastUp_23 ⟨Nat.zero_le _, Nat.zero_le _⟩) (fun r23 H locs hq hW => ?_)
    try dsimp only at hq
    refine hc_min hC hl q_164 q_165 q_166 q_167 (Nat.le_of_ble_eq_true rfl) (Nat.le_of_ble_eq_true rfl) (Nat.zero_le _) (Nat.zero_le _) dX0_leastUp_26 ?_
    refine lv_istore_n (lv' := [(2, .int (if r23 < x2 then r23 else x2)), (0, .ref hc), (1, .int x1), (3, .int x3)]) hC.x hC.b dX0_leastUp_29 rfl hl (by decide) rfl (fun ls hl => ?_)
    refine lv_iinc (v := (x3 + 1)) (lv' := [(3, .int (x3 + 1)), (2, .int (if r23 < x2 then r23 else x2)), (0, .ref hc), (1, .int x1)]) hC.x hC.b dX0_leastUp_30 hl (k := 3) rfl rfl (by decide) rfl (fun ls hl => ?_)
    refine lv_goto (tgt := 8) hC.x hC.b dX0_leastUp_33 (by decide) ?_
    exact hK8 (x1, (if r23 < x2 then r23 else x2), (x3 + 1), wc20) hq _ _ _ hW (lv_sub hl [2, 3, 1, 0] rfl)
def k_X0_leastUp (x1 : Int32) (wc : Wd) (Q : Int32 → Wd → Prop) : Prop :=
 (k_X3_upOf x1 0 (fun r2 => (∃ n : Nat, lpf (fun (K : (Int32 × Int32 × Int32 × Wd) → Prop) (u : Int32 × Int32 × Int32 × Wd) => k_X0_leastUp_8  K Q u.1 u.2.1 u.2.2.1 u.2.2.2) n (x1, r2, 0, wc))))
set_option maxHeartbeats 4000000 in
set_option maxRecDepth 100000 in
theorem c_X0_leastUp (l : Launch) (D : va_G) (cy cz : ClassId) (t1 t2 : Nat) (hc : Nat) (ac : Nat → Nat) (x1 : Int32) (wc : Wd) (Q : Int32 → Wd → Prop) (hq : k_X0_leastUp x1 wc Q) : Ct l D cy cz t1 t2 yX0_leastUp cX0_leastUp 4 (some .int) (rM 3 63) [.ref hc, .int x1] (cC cy hc ac wc) (QI D (S := Wd) (fun r u => Q r u) (fun u => (cC cy hc ac u))) := by
  refine Ct.of (own := RX0) (by decide) rfl (Nat.le_of_ble_eq_true rfl) ?_
  intro p e s m below meth c A ls hC hW hl
  unfold k_X0_leastUp at hq
  have hl : lv_has ls 4 [(0, .ref hc), (1, .int x1)] := hl
  refine lv_iload_n hC.x hC.b dX0_leastUp_0 rfl (lv_at hl 1 rfl) ?_
  refine lv_iconst (v := 0) hC.x hC.b dX0_leastUp_1 (by decide) ?_
  refine hc_goP hC hW (hc_rN hC (c_X3_upOf l D cy cz t1 t2 x1 0 _ hq) (hc_preP hC hW) hC.en.1.2.2.2.2.2.1 q_416 q_2 q_417 hd_X3_upOf ⟨rfl, rfl⟩ ⟨Nat.le_of_ble_eq_true rfl, Nat.le_of_ble_eq_true rfl⟩ rfl hl.1 rfl (Nat.le_of_ble_eq_true rfl) dX0_leastUp_2 ⟨Nat.zero_le _, Nat.zero_le _⟩) (fun r2 H locs hq hW => ?_)
  try dsimp only at hq
  refine lv_istore_n (lv' := [(2, .int r2), (0, .ref hc), (1, .int x1)]) hC.x hC.b dX0_leastUp_5 rfl hl (by decide) rfl (fun ls hl => ?_)
  refine lv_iconst (v := 0) hC.x hC.b dX0_leastUp_6 (by decide) ?_
  refine lv_istore_n (lv' := [(3, .int 0), (2, .int r2), (0, .ref hc), (1, .int x1)]) hC.x hC.b dX0_leastUp_7 rfl hl (by decide) rfl (fun ls hl => ?_)
  obtain ⟨n9, hq⟩ := hq
  exact lpf_use (G := (fun (u : Int32 × Int32 × Int32 × Wd) => ∀ (H : Heap) (locs : List Loc) (ls : Array Slot), Wo D A s (cC cy hc ac u.2.2.2) H locs → lv_has ls 4 [(0, .ref hc), (1, .int u.1), (2, .int u.2.1), (3, .int u.2.2.1)] → W p l e (rM 3 63) s m _ below meth c H locs 0 0 (MQ below (QI D (S := Wd) (fun r u => Q r u) (fun u => (cC cy hc ac u)) A) _ s 0 0 A) (F0 m 8 ls []))) (fun K hK u hq H locs ls hW hl => B_X0_leastUp_8 hc ac Q  K hK hC u.1 u.2.1 u.2.2.1 u.2.2.2 hq hW hl) n9 _ hq _ _ _ hW (lv_sub hl [2, 3, 1, 0] rfl)
