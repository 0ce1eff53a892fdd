def k_X3_size (x1 : Int32) (wh : Wd) (wc : Wd) (Q : Int32 → Wd → Wd → Prop) : Prop :=
 (k_X3_isWithin x1 4 12 (fun r4 => ((¬ r4 = 0 → (((wc 1 0) ≤ 0 → (k_X0_begin x1 wc (fun wc39 => (Q (wc 0 0) wh wc39)))) ∧
 (¬ (wc 1 0) ≤ 0 → (Q (-3) wh wc)))) ∧
 (r4 = 0 → (Q (-2) wh wc)))))
set_option maxHeartbeats 4000000 in
set_option maxRecDepth 100000 in
theorem c_X3_size (l : Launch) (D : va_G) (cy cz : ClassId) (t1 t2 : Nat) (hh : Nat) (hc : Nat) (hi : Nat) (hj : Nat) (hs : Nat) (ht : Nat) (ac : Nat → Nat) (x1 : Int32) (wh : Wd) (wc : Wd) (Q : Int32 → Wd → Wd → Prop) (hq : k_X3_size x1 wh wc Q) : Ct l D cy cz t1 t2 yX3_size cX3_size 3 (some .int) (rM 4 93) [.ref hh, .int x1] (cH hh hc hi hj hs ht wh ++ (cC cy hc ac wc)) (QI D (S := Wd × Wd) (fun r u => Q r u.1 u.2) (fun u => (cH hh hc hi hj hs ht u.1 ++ (cC cy hc ac u.2)))) := by
  refine Ct.of (own := RX3) (by decide) rfl (Nat.le_of_ble_eq_true rfl) ?_
  intro p e s m below meth c A ls hC hW hl
  unfold k_X3_size at hq
  have hl : lv_has ls 3 [(0, .ref hh), (1, .int x1)] := hl
  refine lv_iload_n hC.x hC.b dX3_size_0 rfl (lv_at hl 1 rfl) ?_
  refine lv_iconst (v := 4) hC.x hC.b dX3_size_1 (by decide) ?_
  refine lv_bipush (v := 12) hC.x hC.b dX3_size_2 (by decide) ?_
  refine hc_goP hC hW (hc_rS hC (c_X3_isWithin l D cy cz t1 t2 x1 4 12 _ hq) (hc_preP hC hW) q_112 q_113 q_2 q_114 hd_X3_isWithin ⟨rfl, rfl⟩ ⟨Nat.le_of_ble_eq_true rfl, Nat.le_of_ble_eq_true rfl⟩ rfl hl.1 rfl (Nat.le_of_ble_eq_true rfl) dX3_size_4 ⟨Nat.zero_le _, Nat.zero_le _⟩) (fun r4 H locs hq hW => ?_)
  try dsimp only at hq
  refine lv_if_ne (tgt := 13) hC.x hC.b dX3_size_7 (by decide) (fun hc9 => ?_) (fun hc9 => ?_)
  · replace hq := hq.1 hc9
    refine lv_aload_n hC.x hC.b dX3_size_13 rfl (lv_at hl 0 rfl) ?_
    refine hc_get (v := .ref hc) hC hW 0 3 0 inX3 rfl rfl (by decide) q_15 rfl dX3_size_14 ?_
    refine hc_get (v := .int (wc 1 0)) hC hW 1 0 1 inX0 rfl rfl (by decide) q_110 rfl dX3_size_17 ?_
    refine lv_if_le (tgt := 26) hC.x hC.b dX3_size_20 (by decide) (fun hc9 => ?_) (fun hc9 => ?_)
    · replace hq := hq.1 hc9
      refine lv_aload_n hC.x hC.b dX3_size_26 rfl (lv_at hl 0 rfl) ?_
      refine hc_get (v := .ref hc) hC hW 0 3 0 inX3 rfl rfl (by decide) q_15 rfl dX3_size_27 ?_
      refine hc_get (v := .int (wc 0 0)) hC hW 1 0 0 inX0 rfl rfl (by decide) q_111 rfl dX3_size_30 ?_
      refine lv_istore_n (lv' := [(2, .int (wc 0 0)), (0, .ref hh), (1, .int x1)]) hC.x hC.b dX3_size_33 rfl hl (by decide) rfl (fun ls hl => ?_)
      refine lv_aload_n hC.x hC.b dX3_size_34 rfl (lv_at hl 1 rfl) ?_
      refine hc_get (v := .ref hc) hC hW 0 3 0 inX3 rfl rfl (by decide) q_15 rfl dX3_size_35 ?_
      refine lv_iload_n hC.x hC.b dX3_size_38 rfl (lv_at hl 2 rfl) ?_
      refine hc_goV hC hW (hc_rV hC (c_X0_begin l D cy cz t1 t2 hc ac x1 wc _ hq) (hc_preS hC hW [1, 2, 3, 4, 5, 6, 7, 8, 9, 10, 11, 12, 13, 14] rfl rfl) hW 1 0 rfl rfl q_115 q_46 q_47 q_14 q_48 hd_X0_begin ⟨rfl, rfl⟩ ⟨Nat.le_of_ble_eq_true rfl, Nat.le_of_ble_eq_true rfl⟩ rfl hl.1 rfl (Nat.le_of_ble_eq_true rfl) dX3_size_39 ⟨Nat.zero_le _, Nat.zero_le _⟩) [1, 2, 3, 4, 5, 6, 7, 8, 9, 10, 11, 12, 13, 14] [0] [0, 1, 2, 3, 4, 5, 6, 7, 8, 9, 10, 11, 12, 13, 14] (cH hh hc hi hj hs ht wh) (fun u => (cH hh hc hi hj hs ht wh ++ (cC cy hc ac u))) rfl rfl (by decide) (by decide) (by decide) (fun u => rfl) (fun u9 H locs hq hW => ?_)
      obtain ⟨wc39, rfl⟩ : ∃ z, z = u9 := ⟨_, rfl⟩
      try dsimp only at hq hW
      refine lv_iload_n hC.x hC.b dX3_size_42 rfl (lv_at hl 0 rfl) ?_
      exact hc_iret hC (wh, wc39) hW hq dX3_size_43
    · replace hq := hq.2 hc9
      refine lv_bipush (v := (-3)) hC.x hC.b dX3_size_23 (by decide) ?_
      exact hc_iret hC (wh, wc) hW hq dX3_size_25
  · replace hq := hq.2 hc9
    refine lv_bipush (v := (-2)) hC.x hC.b dX3_size_10 (by decide) ?_
    exact hc_iret hC (wh, wc) hW hq dX3_size_12
def k_X3_areSides (x0 : Int32) (x1 : Int32)  (Q : Int32 → Prop) : Prop :=
 (k_X3_isWithin x0 1 12 (fun r4 => ((r4 = 0 → (Q 0)) ∧
 (¬ r4 = 0 → (k_X3_isWithin x1 1 12 (fun r14 => ((r14 = 0 → (Q 0)) ∧
 (¬ r14 = 0 → (Q 1)))))))))
set_option maxHeartbeats 4000000 in
set_option maxRecDepth 100000 in
theorem c_X3_areSides (l : Launch) (D : va_G) (cy cz : ClassId) (t1 t2 : Nat)  (x0 : Int32) (x1 : Int32)  (Q : Int32 → Prop) (hq : k_X3_areSides x0 x1 Q) : Ct l D cy cz t1 t2 yX3_areSides cX3_areSides 2 (some .boolean) (rM 1 22) [.int x0, .int x1] ([] : va_W) (QI D (S := Unit) (fun r u => Q r ) (fun _ => ([] : va_W))) := by
  refine Ct.of (own := RX3) (by decide) rfl (Nat.le_of_ble_eq_true rfl) ?_
  intro p e s m below meth c A ls hC hW hl
  unfold k_X3_areSides at hq
  have hl : lv_has ls 2 [(0, .int x0), (1, .int x1)] := hl
  refine lv_iload_n hC.x hC.b dX3_areSides_0 rfl (lv_at hl 0 rfl) ?_
  refine lv_iconst (v := 1) hC.x hC.b dX3_areSides_1 (by decide) ?_
  refine lv_bipush (v := 12) hC.x hC.b dX3_areSides_2 (by decide) ?_
  refine hc_goP hC hW (hc_rS hC (c_X3_isWithin l D cy cz t1 t2 x0 1 12 _ hq) (hc_preP hC hW) q_112 q_113 q_2 q_114 hd_X3_isWithin ⟨rfl, rfl⟩ ⟨Nat.le_of_ble_eq_true rfl, Nat.le_of_ble_eq_true rfl⟩ rfl hl.1 rfl (Nat.le_of_ble_eq_true rfl) dX3_areSides_4 ⟨Nat.zero_le _, Nat.zero_le _⟩) (fun r4 H locs hq hW => ?_)
  try dsimp only at hq
  refine lv_if_eq (tgt := 24) hC.x hC.b dX3_areSides_7 (by decide) (fun hc9 => ?_) (fun hc9 => ?_)
  · replace hq := hq.1 hc9
    refine lv_iconst (v := 0) hC.x hC.b dX3_areSides_24 (by decide) ?_
    exact hc_zret hC () hW rfl hq dX3_areSides_25
  · replace hq := hq.2 hc9
    refine lv_iload_n hC.x hC.b dX3_areSides_10 rfl (lv_at hl 1 rfl) ?_
    refine lv_iconst (v := 1) hC.x hC.b dX3_areSides_11 (by decide) ?_
    refine lv_bipush (v := 12) hC.x hC.b dX3_areSides_12 (by decide) ?_
    refine hc_goP hC hW (hc_rS hC (c_X3_isWithin l D cy cz t1 t2 x1 1 12 _ hq) (hc_preP hC hW) q_112 q_113 q_2 q_114 hd_X3_isWithin ⟨rfl, rfl⟩ ⟨Nat.le_of_ble_eq_true rfl, Nat.le_of_ble_eq_true rfl⟩ rfl hl.1 rfl (Nat.le_of_ble_eq_true rfl) dX3_areSides_14 ⟨Nat.zero_le _, Nat.zero_le _⟩) (fun r14 H locs hq hW => ?_)
    try dsimp only at hq
    refine lv_if_eq (tgt := 24) hC.x hC.b dX3_areSides_17 (by decide) (fun hc9 => ?_) (fun hc9 => ?_)
    · replace hq := hq.1 hc9
      refine lv_iconst (v := 0) hC.x hC.b dX3_areSides_24 (by decide) ?_
      exact hc_zret hC () hW rfl hq dX3_areSides_25
    · replace hq := hq.2 hc9
      refine lv_iconst (v := 1) hC.x hC.b dX3_areSides_20 (by decide) ?_
      refine lv_goto (tgt := 25) hC.x hC.b dX3_areSides_21 (by decide) ?_
      exact hc_zret hC () hW rfl hq dX3_areSides_25
def k_X3_put (x1 : Int32) (x2 : Int32) (x3 : Int32) (wh : Wd) (wc : Wd) (Q : Int32 → Wd → Wd → Prop) : Prop :=
 (k_X0_hasCorner x1 wc (fun r5 wc5 => ((¬ r5 = 0 → (k_X3_areSides x2 x3 (fun r15 => ((¬ r15 = 0 → (k_X0_isFull wc5 (fun r28 wc28 => ((r28 = 0 → (k_X0_reasonAgainst x1 x2 x3 wc28 (fun r44 wc44 => ((r44 = 0 → (k_X0_addBox x1 x2 x3 wc44 (fun wc60 => (k_X0_faces wc60 (fun r67 wc67 => (Q r67 wh wc67)))))) ∧
 (¬ r44 = 0 → (Q (-5) wh wc44)))))) ∧
 (¬ r28 = 0 → (Q (-4) wh wc28)))))) ∧
 (r15 = 0 → (Q (-2) wh wc5)))))) ∧
 (r5 = 0 → (Q (-1) wh wc5)))))
set_option maxHeartbeats 4000000 in
set_option maxRecDepth 100000 in
theorem c_X3_put (l : Launch) (D : va_G) (cy cz : ClassId) (t1 t2 : Nat) (hh : Nat) (hc : Nat) (hi : Nat) (hj : Nat) (hs : Nat) (ht : Nat) (ac : Nat → Nat) (x1 : Int32) (x2 : Int32) (x3 : Int32) (wh : Wd) (wc : Wd) (Q : Int32 → Wd → Wd → Prop) (hq : k_X3_put x1 x2 x3 wh wc Q) : Ct l D cy cz t1 t2 yX3_put cX3_put 4 (some .int) (rM 4 105) [.ref hh, .int x1, .int x2, .int x3] (cH hh hc hi hj hs ht wh ++ (cC cy hc ac wc)) (QI D (S := Wd × Wd) (fun r u => Q r u.1 u.2) (fun u => (cH hh hc hi hj hs ht u.1 ++ (cC cy hc ac u.2)))) := by
  refine Ct.of (own := RX3) (by decide) rfl (Nat.le_of_ble_eq_true rfl) ?_
  intro p e s m below meth c A ls hC hW hl
  unfold k_X3_put at hq
  have hl : lv_has ls 4 [(0, .ref hh), (1, .int x1), (2, .int x2), (3, .int x3)] := hl
  refine lv_aload_n hC.x hC.b dX3_put_0 rfl (lv_at hl 0 rfl) ?_
  refine hc_get (v := .ref hc) hC hW 0 3 0 inX3 rfl rfl (by decide) q_15 rfl dX3_put_1 ?_
  refine lv_iload_n hC.x hC.b dX3_put_4 rfl (lv_at hl 1 rfl) ?_
  refine hc_goI hC hW (hc_rV hC (c_X0_hasCorner l D cy cz t1 t2 hc ac x1 wc _ hq) (hc_preS hC hW [1, 2, 3, 4, 5, 6, 7, 8, 9, 10, 11, 12, 13, 14] rfl rfl) hW 1 0 rfl rfl q_127 q_128 q_129 q_14 q_130 hd_X0_hasCorner ⟨rfl, rfl⟩ ⟨Nat.le_of_ble_eq_true rfl, Nat.le_of_ble_eq_true rfl⟩ rfl hl.1 rfl (Nat.le_of_ble_eq_true rfl) dX3_put_5 ⟨Nat.zero_le _, Nat.zero_le _⟩) [1, 2, 3, 4, 5, 6, 7, 8, 9, 10, 11, 12, 13, 14] [0] [0, 1, 2, 3, 4, 5, 6, 7, 8, 9, 10, 11, 12, 13, 14] (cH hh hc hi hj hs ht wh) (fun u => (cH hh hc hi hj hs ht wh ++ (cC cy hc ac u))) rfl rfl (by decide) (by decide) (by decide) (fun u => rfl) (fun r5 u9 H locs hq hW => ?_)
  obtain ⟨wc5, rfl⟩ : ∃ z, z = u9 := ⟨_, rfl⟩
  try dsimp only at hq hW
  refine lv_if_ne (tgt := 13) hC.x hC.b dX3_put_8 (by decide) (fun hc9 => ?_) (fun hc9 => ?_)
  · replace hq := hq.1 hc9
    refine lv_iload_n hC.x hC.b dX3_put_13 rfl (lv_at hl 2 rfl) ?_
    refine lv_iload_n hC.x hC.b dX3_put_14 rfl (lv_at hl 3 rfl) ?_
    refine hc_goP hC hW (hc_rS hC (c_X3_areSides l D cy cz t1 t2 x2 x3 _ hq) (hc_preP hC hW) q_135 q_136 q_2 q_137 hd_X3_areSides ⟨rfl, rfl⟩ ⟨Nat.le_of_ble_eq_true rfl, Nat.le_of_ble_eq_true rfl⟩ rfl hl.1 rfl (Nat.le_of_ble_eq_true rfl) dX3_put_15 ⟨Nat.zero_le _, Nat.zero_le _⟩) (fun r15 H locs hq hW => ?_)
    try dsimp only at hq
    refine lv_if_ne (tgt := 24) hC.x hC.b dX3_put_18 (by decide) (fun hc9 => ?_) (fun hc9 => ?_)
    · replace hq := hq.1 hc9
      refine lv_aload_n hC.x hC.b dX3_put_24 rfl (lv_at hl 0 rfl) ?_
      refine hc_get (v := .ref hc) hC hW 0 3 0 inX3 rfl rfl (by decide) q_15 rfl dX3_put_25 ?_
      refine hc_goI hC hW (hc_rV hC (c_X0_isFull l D cy cz t1 t2 hc ac wc5 _ hq) (hc_preS hC hW [1, 2, 3, 4, 5, 6, 7, 8, 9, 10, 11, 12, 13, 14] rfl rfl) hW 1 0 rfl rfl q_138 q_139 q_140 q_14 q_141 hd_X0_isFull ⟨rfl, rfl⟩ ⟨Nat.le_of_ble_eq_true rfl, Nat.le_of_ble_eq_true rfl⟩ rfl hl.1 rfl (Nat.le_of_ble_eq_true rfl) dX3_put_28 ⟨Nat.zero_le _, Nat.zero_le _⟩) [1, 2, 3, 4, 5, 6, 7, 8, 9, 10, 11, 12, 13, 14] [0] [0, 1, 2, 3, 4, 5, 6, 7, 8, 9, 10, 11, 12, 13, 14] (cH hh hc hi hj hs ht wh) (fun u => (cH hh hc hi hj hs ht wh ++ (cC cy hc ac u))) rfl rfl (by decide) (by decide) (by decide) (fun u => rfl) (fun r28 u9 H locs hq hW => ?_)
      obtain ⟨wc28, rfl⟩ : ∃ z, z = u9 := ⟨_, rfl⟩
      try dsimp only at hq hW
      refine lv_if_eq (tgt := 37) hC.x hC.b dX3_put_31 (by decide) (fun hc9 => ?_) (fun hc9 => ?_)
      · replace hq := hq.1 hc9
        refine lv_aload_n hC.x hC.b dX3_put_37 rfl (lv_at hl 0 rfl) ?_
        refine hc_get (v := .ref hc) hC hW 0 3 0 inX3 rfl rfl (by decide) q_15 rfl dX3_put_38 ?_
        refine lv_iload_n hC.x hC.b dX3_put_41 rfl (lv_at hl 1 rfl) ?_
        refine lv_iload_n hC.x hC.b dX3_put_42 rfl (lv_at hl 2 rfl) ?_
        refine lv_iload_n hC.x hC.b dX3_put_43 rfl (lv_at hl 3 rfl) ?_
        refine hc_goI hC hW (hc_rV hC (c_X0_reasonAgainst l D cy cz t1 t2 hc ac x1 x2 x3 wc28 _ hq) (hc_preS hC hW [1, 2, 3, 4, 5, 6, 7, 8, 9, 10, 11, 12, 13, 14] rfl rfl) hW 1 0 rfl rfl q_142 q_143 q_144 q_14 q_145 hd_X0_reasonAgainst ⟨rfl, rfl⟩ ⟨Nat.le_of_ble_eq_true rfl, Nat.le_of_ble_eq_true rfl⟩ rfl hl.1 rfl (Nat.le_of_ble_eq_true rfl) dX3_put_44 ⟨Nat.zero_le _, Nat.zero_le _⟩) [1, 2, 3, 4, 5, 6, 7, 8, 9, 10, 11, 12, 13, 14] [0] [0, 1, 2, 3, 4, 5, 6, 7, 8, 9, 10, 11, 12, 13, 14] (cH hh hc hi hj hs ht wh) (fun u => (cH hh hc hi hj hs ht wh ++ (cC cy hc ac u))) rfl rfl (by decide) (by decide) (by decide) (fun u => rfl) (fun r44 u9 H locs hq hW => ?_)
        obtain ⟨wc44, rfl⟩ : ∃ z, z = u9 := ⟨_, rfl⟩
        try dsimp only at hq hW
        refine lv_if_eq (tgt := 53) hC.x hC.b dX3_put_47 (by decide) (fun hc9 => ?_) (fun hc9 => ?_)
        · replace hq := hq.1 hc9
          refine lv_aload_n hC.x hC.b dX3_put_53 rfl (lv_at hl 0 rfl) ?_
          refine hc_get (v := .ref hc) hC hW 0 3 0 inX3 rfl rfl (by decide) q_15 rfl dX3_put_54 ?_
          refine lv_iload_n hC.x hC.b dX3_put_57 rfl (lv_at hl 1 rfl) ?_
          refine lv_iload_n hC.x hC.b dX3_put_58 rfl (lv_at hl 2 rfl) ?_
          refine lv_iload_n hC.x hC.b dX3_put_59 rfl (lv_at hl 3 rfl) ?_
          refine hc_goV hC hW (hc_rV hC (c_X0_addBox l D cy cz t1 t2 hc ac x1 x2 x3 wc44 _ hq) (hc_preS hC hW [1, 2, 3, 4, 5, 6, 7, 8, 9, 10, 11, 12, 13, 14] rfl rfl) hW 1 0 rfl rfl q_171 q_172 q_173 q_14 q_174 hd_X0_addBox ⟨rfl, rfl⟩ ⟨Nat.le_of_ble_eq_true rfl, Nat.le_of_ble_eq_true rfl⟩ rfl hl.1 rfl (Nat.le_of_ble_eq_true rfl) dX3_put_60 ⟨Nat.zero_le _, Nat.zero_le _⟩) [1, 2, 3, 4, 5, 6, 7, 8, 9, 10, 11, 12, 13, 14] [0] [0, 1, 2, 3, 4, 5, 6, 7, 8, 9, 10, 11, 12, 13, 14] (cH hh hc hi hj hs ht wh) (fun u => (cH hh hc hi hj hs ht wh ++ (cC cy hc ac u))) rfl rfl (by decide) (by decide) (by decide) (fun u => rfl) (fun u9 H locs hq hW => ?_)
          obtain ⟨wc60, rfl⟩ : ∃ z, z = u9 := ⟨_, rfl⟩
          try dsimp only at hq hW
          refine lv_aload_n hC.x hC.b dX3_put_63 rfl (lv_at hl 0 rfl) ?_
          refine hc_get (v := .ref hc) hC hW 0 3 0 inX3 rfl rfl (by decide) q_15 rfl dX3_put_64 ?_
          refine hc_goI hC hW (hc_rV hC (c_X0_faces l D cy cz t1 t2 hc ac wc60 _ hq) (hc_preS hC hW [1, 2, 3, 4, 5, 6, 7, 8, 9, 10, 11, 12, 13, 14] rfl rfl) hW 1 0 rfl rfl q_176 q_68 q_69 q_14 q_70 hd_X0_faces ⟨rfl, rfl⟩ ⟨Nat.le_of_ble_eq_true rfl, Nat.le_of_ble_eq_true rfl⟩ rfl hl.1 rfl (Nat.le_of_ble_eq_true rfl) dX3_put_67 ⟨Nat.zero_le _, Nat.zero_le _⟩) [1, 2, 3, 4, 5, 6, 7, 8, 9, 10, 11, 12, 13, 14] [0] [0, 1, 2, 3, 4, 5, 6, 7, 8, 9, 10, 11, 12, 13, 14] (cH hh hc hi hj hs ht wh) (fun u => (cH hh hc hi hj hs ht wh ++ (cC cy hc ac u))) rfl rfl (by decide) (by decide) (by decide) (fun u => rfl) (fun r67 u9 H locs hq hW => ?_)
          obtain ⟨wc67, rfl⟩ : ∃ z, z = u9 := ⟨_, rfl⟩
          try dsimp only at hq hW
          exact hc_iret hC (wh, wc67) hW hq dX3_put_70
        · replace hq := hq.2 hc9
          refine lv_bipush (v := (-5)) hC.x hC.b dX3_put_50 (by decide) ?_
          exact hc_iret hC (wh, wc44) hW hq dX3_put_52
      · replace hq := hq.2 hc9
        refine lv_bipush (v := (-4)) hC.x hC.b dX3_put_34 (by decide) ?_
        exact hc_iret hC (wh, wc28) hW hq dX3_put_36
    · replace hq := hq.2 hc9
      refine lv_bipush (v := (-2)) hC.x hC.b dX3_put_21 (by decide) ?_
      exact hc_iret hC (wh, wc5) hW hq dX3_put_23
  · replace hq := hq.2 hc9
    refine lv_iconst (v := (-1)) hC.x hC.b dX3_put_11 (by decide) ?_
    exact hc_iret hC (wh, wc5) hW hq dX3_put_12
def k_X3_off  (wh : Wd) (wc : Wd) (Q : Int32 → Wd → Wd → Prop) : Prop :=
 ((¬ (wc 1 0) = 0 → (k_X0_dropBox wc (fun wc17 => (Q (wc17 1 0) wh wc17)))) ∧
 ((wc 1 0) = 0 → (Q (-3) wh wc)))
set_option maxHeartbeats 4000000 in
set_option maxRecDepth 100000 in
theorem c_X3_off (l : Launch) (D : va_G) (cy cz : ClassId) (t1 t2 : Nat) (hh : Nat) (hc : Nat) (hi : Nat) (hj : Nat) (hs : Nat) (ht : Nat) (ac : Nat → Nat)  (wh : Wd) (wc : Wd) (Q : Int32 → Wd → Wd → Prop) (hq : k_X3_off wh wc Q) : Ct l D cy cz t1 t2 yX3_off cX3_off 1 (some .int) (rM 4 92) [.ref hh] (cH hh hc hi hj hs ht wh ++ (cC cy hc ac wc)) (QI D (S := Wd × Wd) (fun r u => Q r u.1 u.2) (fun u => (cH hh hc hi hj hs ht u.1 ++ (cC cy hc ac u.2)))) := by
  refine Ct.of (own := RX3) (by decide) rfl (Nat.le_of_ble_eq_true rfl) ?_
  intro p e s m below meth c A ls hC hW hl
  unfold k_X3_off at hq
  have hl : lv_has ls 1 [(0, .ref hh)] := hl
  refine lv_aload_n hC.x hC.b dX3_off_0 rfl (lv_at hl 0 rfl) ?_
  refine hc_get (v := .ref hc) hC hW 0 3 0 inX3 rfl rfl (by decide) q_15 rfl dX3_off_1 ?_
  refine hc_get (v := .int (wc 1 0)) hC hW 1 0 1 inX0 rfl rfl (by decide) q_110 rfl dX3_off_4 ?_
  refine lv_if_ne (tgt := 13) hC.x hC.b dX3_off_7 (by decide) (fun hc9 => ?_) (fun hc9 => ?_)
  · replace hq := hq.1 hc9
    refine lv_aload_n hC.x hC.b dX3_off_13 rfl (lv_at hl 0 rfl) ?_
    refine hc_get (v := .ref hc) hC hW 0 3 0 inX3 rfl rfl (by decide) q_15 rfl dX3_off_14 ?_
    refine hc_goV hC hW (hc_rV hC (c_X0_dropBox l D cy cz t1 t2 hc ac wc _ hq) (hc_preS hC hW [1, 2, 3, 4, 5, 6, 7, 8, 9, 10, 11, 12, 13, 14] rfl rfl) hW 1 0 rfl rfl q_237 q_238 q_239 q_14 q_240 hd_X0_dropBox ⟨rfl, rfl⟩ ⟨Nat.le_of_ble_eq_true rfl, Nat.le_of_ble_eq_true rfl⟩ rfl hl.1 rfl (Nat.le_of_ble_eq_true rfl) dX3_off_17 ⟨Nat.zero_le _, Nat.zero_le _⟩) [1, 2, 3, 4, 5, 6, 7, 8, 9, 10, 11, 12, 13, 14] [0] [0, 1, 2, 3, 4, 5, 6, 7, 8, 9, 10, 11, 12, 13, 14] (cH hh hc hi hj hs ht wh) (fun u => (cH hh hc hi hj hs ht wh ++ (cC cy hc ac u))) rfl rfl (by decide) (by decide) (by decide) (fun u => rfl) (fun u9 H locs hq hW => ?_)
    obtain ⟨wc17, rfl⟩ : ∃ z, z = u9 := ⟨_, rfl⟩
    try dsimp only at hq hW
    refine lv_aload_n hC.x hC.b dX3_off_20 rfl (lv_at hl 0 rfl) ?_
    refine hc_get (v := .ref hc) hC hW 0 3 0 inX3 rfl rfl (by decide) q_15 rfl dX3_off_21 ?_
    refine hc_get (v := .int (wc17 1 0)) hC hW 1 0 1 inX0 rfl rfl (by decide) q_110 rfl dX3_off_24 ?_
    exact hc_iret hC (wh, wc17) hW hq dX3_off_27
  · replace hq := hq.2 hc9
    refine lv_bipush (v := (-3)) hC.x hC.b dX3_off_10 (by decide) ?_
    exact hc_iret hC (wh, wc) hW hq dX3_off_12
def k_X3_why (x1 : Int32) (x2 : Int32) (x3 : Int32) (wh : Wd) (wc : Wd) (Q : Int32 → Wd → Wd → Prop) : Prop :=
 (k_X0_hasCorner x1 wc (fun r5 wc5 => ((¬ r5 = 0 → (k_X3_areSides x2 x3 (fun r15 => ((¬ r15 = 0 → (k_X0_reasonAgainst x1 x2 x3 wc5 (fun r31 wc31 => (Q r31 wh wc31)))) ∧
 (r15 = 0 → (Q (-2) wh wc5)))))) ∧
 (r5 = 0 → (Q (-1) wh wc5)))))
set_option maxHeartbeats 4000000 in
set_option maxRecDepth 100000 in
theorem c_X3_why (l : Launch) (D : va_G) (cy cz : ClassId) (t1 t2 : Nat) (hh : Nat) (hc : Nat) (hi : Nat) (hj : Nat) (hs : Nat) (ht : Nat) (ac : Nat → Nat) (x1 : Int32) (x2 : Int32) (x3 : Int32) (wh : Wd) (wc : Wd) (Q : Int32 → Wd → Wd → Prop) (hq : k_X3_why x1 x2 x3 wh wc Q) : Ct l D cy cz t1 t2 yX3_why cX3_why 4 (some .int) (rM 4 105) [.ref hh, .int x1, .int x2, .int x3] (cH hh hc hi hj hs ht wh ++ (cC cy hc ac wc)) (QI D (S := Wd × Wd) (fun r u => Q r u.1 u.2) (fun u => (cH hh hc hi hj hs ht u.1 ++ (cC cy hc ac u.2)))) := by
  refine Ct.of (own := RX3) (by decide) rfl (Nat.le_of_ble_eq_true rfl) ?_
  intro p e s m below meth c A ls hC hW hl
  unfold k_X3_why at hq
  have hl : lv_has ls 4 [(0, .ref hh), (1, .int x1), (2, .int x2), (3, .int x3)] := hl
  refine lv_aload_n hC.x hC.b dX3_why_0 rfl (lv_at hl 0 rfl) ?_
  refine hc_get (v := .ref hc) hC hW 0 3 0 inX3 rfl rfl (by decide) q_15 rfl dX3_why_1 ?_
  refine lv_iload_n hC.x hC.b dX3_why_4 rfl (lv_at hl 1 rfl) ?_
  refine hc_goI hC hW (hc_rV hC (c_X0_hasCorner l D cy cz t1 t2 hc ac x1 wc _ hq) (hc_preS hC hW [1, 2, 3, 4, 5, 6, 7, 8, 9, 10, 11, 12, 13, 14] rfl rfl) hW 1 0 rfl rfl q_127 q_128 q_129 q_14 q_130 hd_X0_hasCorner ⟨rfl, rfl⟩ ⟨Nat.le_of_ble_eq_true rfl, Nat.le_of_ble_eq_true rfl⟩ rfl hl.1 rfl (Nat.le_of_ble_eq_true rfl) dX3_why_5 ⟨Nat.zero_le _, Nat.zero_le _⟩) [1, 2, 3, 4, 5, 6, 7, 8, 9, 10, 11, 12, 13, 14] [0] [0, 1, 2, 3, 4, 5, 6, 7, 8, 9, 10, 11, 12, 13, 14] (cH hh hc hi hj hs ht wh) (fun u => (cH hh hc hi hj hs ht wh ++ (cC cy hc ac u))) rfl rfl (by decide) (by decide) (by decide) (fun u => rfl) (fun r5 u9 H locs hq hW => ?_)
  obtain ⟨wc5, rfl⟩ : ∃ z, z = u9 := ⟨_, rfl⟩
  try dsimp only at hq hW
  refine lv_if_ne (tgt := 13) hC.x hC.b dX3_why_8 (by decide) (fun hc9 => ?_) (fun hc9 => ?_)
  · replace hq := hq.1 hc9
    refine lv_iload_n hC.x hC.b dX3_why_13 rfl (lv_at hl 2 rfl) ?_
    refine lv_iload_n hC.x hC.b dX3_why_14 rfl (lv_at hl 3 rfl) ?_
    refine hc_goP hC hW (hc_rS hC (c_X3_areSides l D cy cz t1 t2 x2 x3 _ hq) (hc_preP hC hW) q_135 q_136 q_2 q_137 hd_X3_areSides ⟨rfl, rfl⟩ ⟨Nat.le_of_ble_eq_true rfl, Nat.le_of_ble_eq_true rfl⟩ rfl hl.1 rfl (Nat.le_of_ble_eq_true rfl) dX3_why_15 ⟨Nat.zero_le _, Nat.zero_le _⟩) (fun r15 H locs hq hW => ?_)
    try dsimp only at hq
    refine lv_if_ne (tgt := 24) hC.x hC.b dX3_why_18 (by decide) (fun hc9 => ?_) (fun hc9 => ?_)
    · replace hq := hq.1 hc9
      refine lv_aload_n hC.x hC.b dX3_why_24 rfl (lv_at hl 0 rfl) ?_
      refine hc_get (v := .ref hc) hC hW 0 3 0 inX3 rfl rfl (by decide) q_15 rfl dX3_why_25 ?_
      refine lv_iload_n hC.x hC.b dX3_why_28 rfl (lv_at hl 1 rfl) ?_
      refine lv_iload_n hC.x hC.b dX3_why_29 rfl (lv_at hl 2 rfl) ?_
      refine lv_iload_n hC.x hC.b dX3_why_30 rfl (lv_at hl 3 rfl) ?_
      refine hc_goI hC hW (hc_rV hC (c_X0_reasonAgainst l D cy cz t1 t2 hc ac x1 x2 x3 wc5 _ hq) (hc_preS hC hW [1, 2, 3, 4, 5, 6, 7, 8, 9, 10, 11, 12, 13, 14] rfl rfl) hW 1 0 rfl rfl q_142 q_143 q_144 q_14 q_145 hd_X0_reasonAgainst ⟨rfl, rfl⟩ ⟨Nat.le_of_ble_eq_true rfl, Nat.le_of_ble_eq_true rfl⟩ rfl hl.1 rfl (Nat.le_of_ble_eq_true rfl) dX3_why_31 ⟨Nat.zero_le _, Nat.zero_le _⟩) [1, 2, 3, 4, 5, 6, 7, 8, 9, 10, 11, 12, 13, 14] [0] [0, 1, 2, 3, 4, 5, 6, 7, 8, 9, 10, 11, 12, 13, 14] (cH hh hc hi hj hs ht wh) (fun u => (cH hh hc hi hj hs ht wh ++ (cC cy hc ac u))) rfl rfl (by decide) (by decide) (by decide) (fun u => rfl) (fun r31 u9 H locs hq hW => ?_)
      obtain ⟨wc31, rfl⟩ : ∃ z, z = u9 := ⟨_, rfl⟩
      try dsimp only at hq hW
      exact hc_iret hC (wh, wc31) hW hq dX3_why_34
    · replace hq := hq.2 hc9
      refine lv_bipush (v := (-2)) hC.x hC.b dX3_why_21 (by decide) ?_
      exact hc_iret hC (wh, wc5) hW hq dX3_why_23
  · replace hq := hq.2 hc9
    refine lv_iconst (v := (-1)) hC.x hC.b dX3_why_11 (by decide) ?_
    exact hc_iret hC (wh, wc5) hW hq dX3_why_12
def k_X3_corner (x1 : Int32) (x2 : Int32) (wh : Wd) (wc : Wd) (Q : Int32 → Wd → Wd → Prop) : Prop :=
 (k_X0_hasCorner x1 wc (fun r5 wc5 => ((¬ r5 = 0 → ((x2 = 0 → (vp_in x1 31 ∧ (Q ((wc5 9 (x1).toNatClampNeg) + 100) wh wc5))) ∧
 (x2 = 1 → (vp_in x1 31 ∧ (Q ((wc5 10 (x1).toNatClampNeg) + 100) wh wc5))) ∧
 (x2 = 2 → (vp_in x1 31 ∧ (Q ((wc5 11 (x1).toNatClampNeg) + 1) wh wc5))) ∧
 (x2 = 3 → (vp_in x1 31 ∧ (Q ((wc5 12 (x1).toNatClampNeg) + 1) wh wc5))) ∧
 (x2 = 4 → (k_X0_reach x1 0 wc5 (fun r108 wc108 => (Q r108 wh wc108)))) ∧
 (x2 = 5 → (k_X0_reach x1 1 wc5 (fun r118 wc118 => (Q r118 wh wc118)))) ∧
 ((¬ x2 = 0 ∧ ¬ x2 = 1 ∧ ¬ x2 = 2 ∧ ¬ x2 = 3 ∧ ¬ x2 = 4 ∧ ¬ x2 = 5) → (Q (-2) wh wc5)))) ∧
 (r5 = 0 → (Q (-1) wh wc5)))))
set_option maxHeartbeats 4000000 in
set_option maxRecDepth 100000 in
theorem c_X3_corner (l : Launch) (D : va_G) (cy cz : ClassId) (t1 t2 : Nat) (hh : Nat) (hc : Nat) (hi : Nat) (hj : Nat) (hs : Nat) (ht : Nat) (ac : Nat → Nat) (x1 : Int32) (x2 : Int32) (wh : Wd) (wc : Wd) (Q : Int32 → Wd → Wd → Prop) (hq : k_X3_corner x1 x2 wh wc Q) : Ct l D cy cz t1 t2 yX3_corner cX3_corner 3 (some .int) (rM 3 71) [.ref hh, .int x1, .int x2] (cH hh hc hi hj hs ht wh ++ (cC cy hc ac wc)) (QI D (S := Wd × Wd) (fun r u => Q r u.1 u.2) (fun u => (cH hh hc hi hj hs ht u.1 ++ (cC cy hc ac u.2)))) := by
  refine Ct.of (own := RX3) (by decide) rfl (Nat.le_of_ble_eq_true rfl) ?_
  intro p e s m below meth c A ls hC hW hl
  unfold k_X3_corner at hq
  have hl : lv_has ls 3 [(0, .ref hh), (1, .int x1), (2, .int x2)] := hl
  refine lv_aload_n hC.x hC.b dX3_corner_0 rfl (lv_at hl 0 rfl) ?_
  refine hc_get (v := .ref hc) hC hW 0 3 0 inX3 rfl rfl (by decide) q_15 rfl dX3_corner_1 ?_
  refine lv_iload_n hC.x hC.b dX3_corner_4 rfl (lv_at hl 1 rfl) ?_
  refine hc_goI hC hW (hc_rV hC (c_X0_hasCorner l D cy cz t1 t2 hc ac x1 wc _ hq) (hc_preS hC hW [1, 2, 3, 4, 5, 6, 7, 8, 9, 10, 11, 12, 13, 14] rfl rfl) hW 1 0 rfl rfl q_127 q_128 q_129 q_14 q_130 hd_X0_hasCorner ⟨rfl, rfl⟩ ⟨Nat.le_of_ble_eq_true rfl, Nat.le_of_ble_eq_true rfl⟩ rfl hl.1 rfl (Nat.le_of_ble_eq_true rfl) dX3_corner_5 ⟨Nat.zero_le _, Nat.zero_le _⟩) [1, 2, 3, 4, 5, 6, 7, 8, 9, 10, 11, 12, 13, 14] [0] [0, 1, 2, 3, 4, 5, 6, 7, 8, 9, 10, 11, 12, 13, 14] (cH hh hc hi hj hs ht wh) (fun u => (cH hh hc hi hj hs ht wh ++ (cC cy hc ac u))) rfl rfl (by decide) (by decide) (by decide) (fun u => rfl) (fun r5 u9 H locs hq hW => ?_)
  obtain ⟨wc5, rfl⟩ : ∃ z, z = u9 := ⟨_, rfl⟩
  try dsimp only at hq hW
  refine lv_if_ne (tgt := 13) hC.x hC.b dX3_corner_8 (by decide) (fun hc9 => ?_) (fun hc9 => ?_)
  · replace hq := hq.1 hc9
    refine lv_iload_n hC.x hC.b dX3_corner_13 rfl (lv_at hl 2 rfl) ?_
    by_cases hs0 : x2 = 0
    · refine lv_tableIn (tgt := 52) hC.x hC.b dX3_corner_14 (by rw [hs0]; decide) (by rw [hs0]; decide) (by rw [hs0]; rfl) (by decide) ?_
      replace hq := hq.1 hs0
      refine lv_aload_n hC.x hC.b dX3_corner_52 rfl (lv_at hl 0 rfl) ?_
      refine hc_get (v := .ref hc) hC hW 0 3 0 inX3 rfl rfl (by decide) q_15 rfl dX3_corner_53 ?_
      refine hc_get (v := .ref (ac 9)) hC hW 1 0 9 inX0 rfl rfl (by decide) q_257 rfl dX3_corner_56 ?_
      refine lv_iload_n hC.x hC.b dX3_corner_59 rfl (lv_at hl 1 rfl) ?_
      refine hc_iald hC hW 9 rfl hq.1 dX3_corner_60 ?_
      replace hq := hq.2
      refine lv_bipush (v := 100) hC.x hC.b dX3_corner_61 (by decide) ?_
      refine lv_iadd hC.x hC.b dX3_corner_63 ?_
      exact hc_iret hC (wh, wc5) hW hq dX3_corner_64
    by_cases hs1 : x2 = 1
    · refine lv_tableIn (tgt := 65) hC.x hC.b dX3_corner_14 (by rw [hs1]; decide) (by rw [hs1]; decide) (by rw [hs1]; rfl) (by decide) ?_
      replace hq := hq.2.1 hs1
      refine lv_aload_n hC.x hC.b dX3_corner_65 rfl (lv_at hl 0 rfl) ?_
      refine hc_get (v := .ref hc) hC hW 0 3 0 inX3 rfl rfl (by decide) q_15 rfl dX3_corner_66 ?_
      refine hc_get (v := .ref (ac 10)) hC hW 1 0 10 inX0 rfl rfl (by decide) q_258 rfl dX3_corner_69 ?_
      refine lv_iload_n hC.x hC.b dX3_corner_72 rfl (lv_at hl 1 rfl) ?_
      refine hc_iald hC hW 10 rfl hq.1 dX3_corner_73 ?_
      replace hq := hq.2
      refine lv_bipush (v := 100) hC.x hC.b dX3_corner_74 (by decide) ?_
      refine lv_iadd hC.x hC.b dX3_corner_76 ?_
      exact hc_iret hC (wh, wc5) hW hq dX3_corner_77
    by_cases hs2 : x2 = 2
    · refine lv_tableIn (tgt := 78) hC.x hC.b dX3_corner_14 (by rw [hs2]; decide) (by rw [hs2]; decide) (by rw [hs2]; rfl) (by decide) ?_
      replace hq := hq.2.2.1 hs2
      refine lv_aload_n hC.x hC.b dX3_corner_78 rfl (lv_at hl 0 rfl) ?_
      refine hc_get (v := .ref hc) hC hW 0 3 0 inX3 rfl rfl (by decide) q_15 rfl dX3_corner_79 ?_
      refine hc_get (v := .ref (ac 11)) hC hW 1 0 11 inX0 rfl rfl (by decide) q_259 rfl dX3_corner_82 ?_
      refine lv_iload_n hC.x hC.b dX3_corner_85 rfl (lv_at hl 1 rfl) ?_
      refine hc_iald hC hW 11 rfl hq.1 dX3_corner_86 ?_
      replace hq := hq.2
      refine lv_iconst (v := 1) hC.x hC.b dX3_corner_87 (by decide) ?_
      refine lv_iadd hC.x hC.b dX3_corner_88 ?_
      exact hc_iret hC (wh, wc5) hW hq dX3_corner_89
    by_cases hs3 : x2 = 3
    · refine lv_tableIn (tgt := 90) hC.x hC.b dX3_corner_14 (by rw [hs3]; decide) (by rw [hs3]; decide) (by rw [hs3]; rfl) (by decide) ?_
      replace hq := hq.2.2.2.1 hs3
      refine lv_aload_n hC.x hC.b dX3_corner_90 rfl (lv_at hl 0 rfl) ?_
      refine hc_get (v := .ref hc) hC hW 0 3 0 inX3 rfl rfl (by decide) q_15 rfl dX3_corner_91 ?_
      refine hc_get (v := .ref (ac 12)) hC hW 1 0 12 inX0 rfl rfl (by decide) q_260 rfl dX3_corner_94 ?_
      refine lv_iload_n hC.x hC.b dX3_corner_97 rfl (lv_at hl 1 rfl) ?_
      refine hc_iald hC hW 12 rfl hq.1 dX3_corner_98 ?_
      replace hq := hq.2
      refine lv_iconst (v := 1) hC.x hC.b dX3_corner_99 (by decide) ?_
      refine lv_iadd hC.x hC.b dX3_corner_100 ?_
      exact hc_iret hC (wh, wc5) hW hq dX3_corner_101
    by_cases hs4 : x2 = 4
    · refine lv_tableIn (tgt := 102) hC.x hC.b dX3_corner_14 (by rw [hs4]; decide) (by rw [hs4]; decide) (by rw [hs4]; rfl) (by decide) ?_
      replace hq := hq.2.2.2.2.1 hs4
      refine lv_aload_n hC.x hC.b dX3_corner_102 rfl (lv_at hl 0 rfl) ?_
      refine hc_get (v := .ref hc) hC hW 0 3 0 inX3 rfl rfl (by decide) q_15 rfl dX3_corner_103 ?_
      refine lv_iload_n hC.x hC.b dX3_corner_106 rfl (lv_at hl 1 rfl) ?_
      refine lv_iconst (v := 0) hC.x hC.b dX3_corner_107 (by decide) ?_
      refine hc_goI hC hW (hc_rV hC (c_X0_reach l D cy cz t1 t2 hc ac x1 0 wc5 _ hq) (hc_preS hC hW [1, 2, 3, 4, 5, 6, 7, 8, 9, 10, 11, 12, 13, 14] rfl rfl) hW 1 0 rfl rfl q_261 q_147 q_148 q_14 q_149 hd_X0_reach ⟨rfl, rfl⟩ ⟨Nat.le_of_ble_eq_true rfl, Nat.le_of_ble_eq_true rfl⟩ rfl hl.1 rfl (Nat.le_of_ble_eq_true rfl) dX3_corner_108 ⟨Nat.zero_le _, Nat.zero_le _⟩) [1, 2, 3, 4, 5, 6, 7, 8, 9, 10, 11, 12, 13, 14] [0] [0, 1, 2, 3, 4, 5, 6, 7, 8, 9, 10, 11, 12, 13, 14] (cH hh hc hi hj hs ht wh) (fun u => (cH hh hc hi hj hs ht wh ++ (cC cy hc ac u))) rfl rfl (by decide) (by decide) (by decide) (fun u => rfl) (fun r108 u9 H locs hq hW => ?_)
      obtain ⟨wc108, rfl⟩ : ∃ z, z = u9 := ⟨_, rfl⟩
      try dsimp only at hq hW
      exact hc_iret hC (wh, wc108) hW hq dX3_corner_111
    by_cases hs5 : x2 = 5
    · refine lv_tableIn (tgt := 112) hC.x hC.b dX3_corner_14 (by rw [hs5]; decide) (by rw [hs5]; decide) (by rw [hs5]; rfl) (by decide) ?_
      replace hq := hq.2.2.2.2.2.1 hs5
      refine lv_aload_n hC.x hC.b dX3_corner_112 rfl (lv_at hl 0 rfl) ?_
      refine hc_get (v := .ref hc) hC hW 0 3 0 inX3 rfl rfl (by decide) q_15 rfl dX3_corner_113 ?_
      refine lv_iload_n hC.x hC.b dX3_corner_116 rfl (lv_at hl 1 rfl) ?_
      refine lv_iconst (v := 1) hC.x hC.b dX3_corner_117 (by decide) ?_
      refine hc_goI hC hW (hc_rV hC (c_X0_reach l D cy cz t1 t2 hc ac x1 1 wc5 _ hq) (hc_preS hC hW [1, 2, 3, 4, 5, 6, 7, 8, 9, 10, 11, 12, 13, 14] rfl rfl) hW 1 0 rfl rfl q_261 q_147 q_148 q_14 q_149 hd_X0_reach ⟨rfl, rfl⟩ ⟨Nat.le_of_ble_eq_true rfl, Nat.le_of_ble_eq_true rfl⟩ rfl hl.1 rfl (Nat.le_of_ble_eq_true rfl) dX3_corner_118 ⟨Nat.zero_le _, Nat.zero_le _⟩) [1, 2, 3, 4, 5, 6, 7, 8, 9, 10, 11, 12, 13, 14] [0] [0, 1, 2, 3, 4, 5, 6, 7, 8, 9, 10, 11, 12, 13, 14] (cH hh hc hi hj hs ht wh) (fun u => (cH hh hc hi hj hs ht wh ++ (cC cy hc ac u))) rfl rfl (by decide) (by decide) (by decide) (fun u => rfl) (fun r118 u9 H locs hq hW => ?_)
      obtain ⟨wc118, rfl⟩ : ∃ z, z = u9 := ⟨_, rfl⟩
      try dsimp only at hq hW
      exact hc_iret hC (wh, wc118) hW hq dX3_corner_121
    refine lv_tableOut (tgt := 122) hC.x hC.b dX3_corner_14 (by have e0 := lv_neT (a := 0) hs0 rfl; have e1 := lv_neT (a := 1) hs1 rfl; have e2 := lv_neT (a := 2) hs2 rfl; have e3 := lv_neT (a := 3) hs3 rfl; have e4 := lv_neT (a := 4) hs4 rfl; have e5 := lv_neT (a := 5) hs5 rfl; omega) (by decide) ?_
    replace hq := hq.2.2.2.2.2.2 ⟨hs0, hs1, hs2, hs3, hs4, hs5⟩
    refine lv_bipush (v := (-2)) hC.x hC.b dX3_corner_122 (by decide) ?_
    exact hc_iret hC (wh, wc5) hW hq dX3_corner_124
  · replace hq := hq.2 hc9
    refine lv_iconst (v := (-1)) hC.x hC.b dX3_corner_11 (by decide) ?_
    exact hc_iret hC (wh, wc5) hW hq dX3_corner_12
def k_X3_face (x1 : Int32) (x2 : Int32) (wh : Wd) (wc : Wd) (Q : Int32 → Wd → Wd → Prop) : Prop :=
 (k_X0_hasFace x1 wc (fun r5 wc5 => ((¬ r5 = 0 → ((x2 = 0 → (vp_in x1 14 ∧ (Q (wc5 5 (x1).toNatClampNeg) wh wc5))) ∧
 (x2 = 1 → (k_X0_firstP x1 wc5 (fun r59 wc59 => (Q (r59 + 100) wh wc59)))) ∧
 (x2 = 2 → (k_X0_firstQ x1 wc5 (fun r71 wc71 => (Q (r71 + 100) wh wc71)))) ∧
 (x2 = 3 → (vp_in x1 14 ∧ (Q (wc5 8 (x1).toNatClampNeg) wh wc5))) ∧
 ((¬ x2 = 0 ∧ ¬ x2 = 1 ∧ ¬ x2 = 2 ∧ ¬ x2 = 3) → (Q (-2) wh wc5)))) ∧
 (r5 = 0 → (Q (-1) wh wc5)))))
set_option maxHeartbeats 4000000 in
set_option maxRecDepth 100000 in
theorem c_X3_face (l : Launch) (D : va_G) (cy cz : ClassId) (t1 t2 : Nat) (hh : Nat) (hc : Nat) (hi : Nat) (hj : Nat) (hs : Nat) (ht : Nat) (ac : Nat → Nat) (x1 : Int32) (x2 : Int32) (wh : Wd) (wc : Wd) (Q : Int32 → Wd → Wd → Prop) (hq : k_X3_face x1 x2 wh wc Q) : Ct l D cy cz t1 t2 yX3_face cX3_face 3 (some .int) (rM 3 62) [.ref hh, .int x1, .int x2] (cH hh hc hi hj hs ht wh ++ (cC cy hc ac wc)) (QI D (S := Wd × Wd) (fun r u => Q r u.1 u.2) (fun u => (cH hh hc hi hj hs ht u.1 ++ (cC cy hc ac u.2)))) := by
  refine Ct.of (own := RX3) (by decide) rfl (Nat.le_of_ble_eq_true rfl) ?_
  intro p e s m below meth c A ls hC hW hl
  unfold k_X3_face at hq
  have hl : lv_has ls 3 [(0, .ref hh), (1, .int x1), (2, .int x2)] := hl
  refine lv_aload_n hC.x hC.b dX3_face_0 rfl (lv_at hl 0 rfl) ?_
  refine hc_get (v := .ref hc) hC hW 0 3 0 inX3 rfl rfl (by decide) q_15 rfl dX3_face_1 ?_
  refine lv_iload_n hC.x hC.b dX3_face_4 rfl (lv_at hl 1 rfl) ?_
  refine hc_goI hC hW (hc_rV hC (c_X0_hasFace l D cy cz t1 t2 hc ac x1 wc _ hq) (hc_preS hC hW [1, 2, 3, 4, 5, 6, 7, 8, 9, 10, 11, 12, 13, 14] rfl rfl) hW 1 0 rfl rfl q_272 q_273 q_274 q_14 q_275 hd_X0_hasFace ⟨rfl, rfl⟩ ⟨Nat.le_of_ble_eq_true rfl, Nat.le_of_ble_eq_true rfl⟩ rfl hl.1 rfl (Nat.le_of_ble_eq_true rfl) dX3_face_5 ⟨Nat.zero_le _, Nat.zero_le _⟩) [1, 2, 3, 4, 5, 6, 7, 8, 9, 10, 11, 12, 13, 14] [0] [0, 1, 2, 3, 4, 5, 6, 7, 8, 9, 10, 11, 12, 13, 14] (cH hh hc hi hj hs ht wh) (fun u => (cH hh hc hi hj hs ht wh ++ (cC cy hc ac u))) rfl rfl (by decide) (by decide) (by decide) (fun u => rfl) (fun r5 u9 H locs hq hW => ?_)
  obtain ⟨wc5, rfl⟩ : ∃ z, z = u9 := ⟨_, rfl⟩
  try dsimp only at hq hW
  refine lv_if_ne (tgt := 13) hC.x hC.b dX3_face_8 (by decide) (fun hc9 => ?_) (fun hc9 => ?_)
  · replace hq := hq.1 hc9
    refine lv_iload_n hC.x hC.b dX3_face_13 rfl (lv_at hl 2 rfl) ?_
    by_cases hs0 : x2 = 0
    · refine lv_tableIn (tgt := 44) hC.x hC.b dX3_face_14 (by rw [hs0]; decide) (by rw [hs0]; decide) (by rw [hs0]; rfl) (by decide) ?_
      replace hq := hq.1 hs0
      refine lv_aload_n hC.x hC.b dX3_face_44 rfl (lv_at hl 0 rfl) ?_
      refine hc_get (v := .ref hc) hC hW 0 3 0 inX3 rfl rfl (by decide) q_15 rfl dX3_face_45 ?_
      refine hc_get (v := .ref (ac 5)) hC hW 1 0 5 inX0 rfl rfl (by decide) q_270 rfl dX3_face_48 ?_
      refine lv_iload_n hC.x hC.b dX3_face_51 rfl (lv_at hl 1 rfl) ?_
      refine hc_iald hC hW 5 rfl hq.1 dX3_face_52 ?_
      replace hq := hq.2
      exact hc_iret hC (wh, wc5) hW hq dX3_face_53
    by_cases hs1 : x2 = 1
    · refine lv_tableIn (tgt := 54) hC.x hC.b dX3_face_14 (by rw [hs1]; decide) (by rw [hs1]; decide) (by rw [hs1]; rfl) (by decide) ?_
      replace hq := hq.2.1 hs1
      refine lv_aload_n hC.x hC.b dX3_face_54 rfl (lv_at hl 0 rfl) ?_
      refine hc_get (v := .ref hc) hC hW 0 3 0 inX3 rfl rfl (by decide) q_15 rfl dX3_face_55 ?_
      refine lv_iload_n hC.x hC.b dX3_face_58 rfl (lv_at hl 1 rfl) ?_
      refine hc_goI hC hW (hc_rV hC (c_X0_firstP l D cy cz t1 t2 hc ac x1 wc5 _ hq) (hc_preS hC hW [1, 2, 3, 4, 5, 6, 7, 8, 9, 10, 11, 12, 13, 14] rfl rfl) hW 1 0 rfl rfl q_276 q_277 q_278 q_14 q_279 hd_X0_firstP ⟨rfl, rfl⟩ ⟨Nat.le_of_ble_eq_true rfl, Nat.le_of_ble_eq_true rfl⟩ rfl hl.1 rfl (Nat.le_of_ble_eq_true rfl) dX3_face_59 ⟨Nat.zero_le _, Nat.zero_le _⟩) [1, 2, 3, 4, 5, 6, 7, 8, 9, 10, 11, 12, 13, 14] [0] [0, 1, 2, 3, 4, 5, 6, 7, 8, 9, 10, 11, 12, 13, 14] (cH hh hc hi hj hs ht wh) (fun u => (cH hh hc hi hj hs ht wh ++ (cC cy hc ac u))) rfl rfl (by decide) (by decide) (by decide) (fun u => rfl) (fun r59 u9 H locs hq hW => ?_)
      obtain ⟨wc59, rfl⟩ : ∃ z, z = u9 := ⟨_, rfl⟩
      try dsimp only at hq hW
      refine lv_bipush (v := 100) hC.x hC.b dX3_face_62 (by decide) ?_
      refine lv_iadd hC.x hC.b dX3_face_64 ?_
      exact hc_iret hC (wh, wc59) hW hq dX3_face_65
    by_cases hs2 : x2 = 2
    · refine lv_tableIn (tgt := 66) hC.x hC.b dX3_face_14 (by rw [hs2]; decide) (by rw [hs2]; decide) (by rw [hs2]; rfl) (by decide) ?_
      replace hq := hq.2.2.1 hs2
      refine lv_aload_n hC.x hC.b dX3_face_66 rfl (lv_at hl 0 rfl) ?_
      refine hc_get (v := .ref hc) hC hW 0 3 0 inX3 rfl rfl (by decide) q_15 rfl dX3_face_67 ?_
      refine lv_iload_n hC.x hC.b dX3_face_70 rfl (lv_at hl 1 rfl) ?_
      refine hc_goI hC hW (hc_rV hC (c_X0_firstQ l D cy cz t1 t2 hc ac x1 wc5 _ hq) (hc_preS hC hW [1, 2, 3, 4, 5, 6, 7, 8, 9, 10, 11, 12, 13, 14] rfl rfl) hW 1 0 rfl rfl q_281 q_282 q_283 q_14 q_284 hd_X0_firstQ ⟨rfl, rfl⟩ ⟨Nat.le_of_ble_eq_true rfl, Nat.le_of_ble_eq_true rfl⟩ rfl hl.1 rfl (Nat.le_of_ble_eq_true rfl) dX3_face_71 ⟨Nat.zero_le _, Nat.zero_le _⟩) [1, 2, 3, 4, 5, 6, 7, 8, 9, 10, 11, 12, 13, 14] [0] [0, 1, 2, 3, 4, 5, 6, 7, 8, 9, 10, 11, 12, 13, 14] (cH hh hc hi hj hs ht wh) (fun u => (cH hh hc hi hj hs ht wh ++ (cC cy hc ac u))) rfl rfl (by decide) (by decide) (by decide) (fun u => rfl) (fun r71 u9 H locs hq hW => ?_)
      obtain ⟨wc71, rfl⟩ : ∃ z, z = u9 := ⟨_, rfl⟩
      try dsimp only at hq hW
      refine lv_bipush (v := 100) hC.x hC.b dX3_face_74 (by decide) ?_
      refine lv_iadd hC.x hC.b dX3_face_76 ?_
      exact hc_iret hC (wh, wc71) hW hq dX3_face_77
    by_cases hs3 : x2 = 3
    · refine lv_tableIn (tgt := 78) hC.x hC.b dX3_face_14 (by rw [hs3]; decide) (by rw [hs3]; decide) (by rw [hs3]; rfl) (by decide) ?_
      replace hq := hq.2.2.2.1 hs3
      refine lv_aload_n hC.x hC.b dX3_face_78 rfl (lv_at hl 0 rfl) ?_
      refine hc_get (v := .ref hc) hC hW 0 3 0 inX3 rfl rfl (by decide) q_15 rfl dX3_face_79 ?_
      refine hc_get (v := .ref (ac 8)) hC hW 1 0 8 inX0 rfl rfl (by decide) q_271 rfl dX3_face_82 ?_
      refine lv_iload_n hC.x hC.b dX3_face_85 rfl (lv_at hl 1 rfl) ?_
      refine hc_iald hC hW 8 rfl hq.1 dX3_face_86 ?_
      replace hq := hq.2
      exact hc_iret hC (wh, wc5) hW hq dX3_face_87
    refine lv_tableOut (tgt := 88) hC.x hC.b dX3_face_14 (by have e0 := lv_neT (a := 0) hs0 rfl; have e1 := lv_neT (a := 1) hs1 rfl; have e2 := lv_neT (a := 2) hs2 rfl; have e3 := lv_neT (a := 3) hs3 rfl; omega) (by decide) ?_
    replace hq := hq.2.2.2.2 ⟨hs0, hs1, hs2, hs3⟩
    refine lv_bipush (v := (-2)) hC.x hC.b dX3_face_88 (by decide) ?_
    exact hc_iret hC (wh, wc5) hW hq dX3_face_90
  · replace hq := hq.2 hc9
    refine lv_iconst (v := (-1)) hC.x hC.b dX3_face_11 (by decide) ?_
    exact hc_iret hC (wh, wc5) hW hq dX3_face_12
def k_X3_on (x1 : Int32) (x2 : Int32) (wh : Wd) (wc : Wd) (Q : Int32 → Wd → Wd → Prop) : Prop :=
 (k_X3_isWithin x1 (-12) 12 (fun r5 => ((r5 = 0 → (Q (-2) wh wc)) ∧
 (¬ r5 = 0 → (k_X3_isWithin x2 (-12) 12 (fun r16 => ((¬ r16 = 0 → (k_X0_facesOn x1 x2 wc (fun r31 wc31 => (Q r31 wh wc31)))) ∧
 (r16 = 0 → (Q (-2) wh wc)))))))))
set_option maxHeartbeats 4000000 in
set_option maxRecDepth 100000 in
theorem c_X3_on (l : Launch) (D : va_G) (cy cz : ClassId) (t1 t2 : Nat) (hh : Nat) (hc : Nat) (hi : Nat) (hj : Nat) (hs : Nat) (ht : Nat) (ac : Nat → Nat) (x1 : Int32) (x2 : Int32) (wh : Wd) (wc : Wd) (Q : Int32 → Wd → Wd → Prop) (hq : k_X3_on x1 x2 wh wc Q) : Ct l D cy cz t1 t2 yX3_on cX3_on 3 (some .int) (rM 4 86) [.ref hh, .int x1, .int x2] (cH hh hc hi hj hs ht wh ++ (cC cy hc ac wc)) (QI D (S := Wd × Wd) (fun r u => Q r u.1 u.2) (fun u => (cH hh hc hi hj hs ht u.1 ++ (cC cy hc ac u.2)))) := by
  refine Ct.of (own := RX3) (by decide) rfl (Nat.le_of_ble_eq_true rfl) ?_
  intro p e s m below meth c A ls hC hW hl
  unfold k_X3_on at hq
  have hl : lv_has ls 3 [(0, .ref hh), (1, .int x1), (2, .int x2)] := hl
  refine lv_iload_n hC.x hC.b dX3_on_0 rfl (lv_at hl 1 rfl) ?_
  refine lv_bipush (v := (-12)) hC.x hC.b dX3_on_1 (by decide) ?_
  refine lv_bipush (v := 12) hC.x hC.b dX3_on_3 (by decide) ?_
  refine hc_goP hC hW (hc_rS hC (c_X3_isWithin l D cy cz t1 t2 x1 (-12) 12 _ hq) (hc_preP hC hW) q_112 q_113 q_2 q_114 hd_X3_isWithin ⟨rfl, rfl⟩ ⟨Nat.le_of_ble_eq_true rfl, Nat.le_of_ble_eq_true rfl⟩ rfl hl.1 rfl (Nat.le_of_ble_eq_true rfl) dX3_on_5 ⟨Nat.zero_le _, Nat.zero_le _⟩) (fun r5 H locs hq hW => ?_)
  try dsimp only at hq
  refine lv_if_eq (tgt := 22) hC.x hC.b dX3_on_8 (by decide) (fun hc9 => ?_) (fun hc9 => ?_)
  · replace hq := hq.1 hc9
    refine lv_bipush (v := (-2)) hC.x hC.b dX3_on_22 (by decide) ?_
    exact hc_iret hC (wh, wc) hW hq dX3_on_24
  · replace hq := hq.2 hc9
    refine lv_iload_n hC.x hC.b dX3_on_11 rfl (lv_at hl 2 rfl) ?_
    refine lv_bipush (v := (-12)) hC.x hC.b dX3_on_12 (by decide) ?_
    refine lv_bipush (v := 12) hC.x hC.b dX3_on_14 (by decide) ?_
    refine hc_goP hC hW (hc_rS hC (c_X3_isWithin l D cy cz t1 t2 x2 (-12) 12 _ hq) (hc_preP hC hW) q_112 q_113 q_2 q_114 hd_X3_isWithin ⟨rfl, rfl⟩ ⟨Nat.le_of_ble_eq_true rfl, Nat.le_of_ble_eq_true rfl⟩ rfl hl.1 rfl (Nat.le_of_ble_eq_true rfl) dX3_on_16 ⟨Nat.zero_le _, Nat.zero_le _⟩) (fun r16 H locs hq hW => ?_)
    try dsimp only at hq
    refine lv_if_ne (tgt := 25) hC.x hC.b dX3_on_19 (by decide) (fun hc9 => ?_) (fun hc9 => ?_)
    · replace hq := hq.1 hc9
      refine lv_aload_n hC.x hC.b dX3_on_25 rfl (lv_at hl 0 rfl) ?_
      refine hc_get (v := .ref hc) hC hW 0 3 0 inX3 rfl rfl (by decide) q_15 rfl dX3_on_26 ?_
      refine lv_iload_n hC.x hC.b dX3_on_29 rfl (lv_at hl 1 rfl) ?_
      refine lv_iload_n hC.x hC.b dX3_on_30 rfl (lv_at hl 2 rfl) ?_
      refine hc_goI hC hW (hc_rV hC (c_X0_facesOn l D cy cz t1 t2 hc ac x1 x2 wc _ hq) (hc_preS hC hW [1, 2, 3, 4, 5, 6, 7, 8, 9, 10, 11, 12, 13, 14] rfl rfl) hW 1 0 rfl rfl q_297 q_298 q_299 q_14 q_300 hd_X0_facesOn ⟨rfl, rfl⟩ ⟨Nat.le_of_ble_eq_true rfl, Nat.le_of_ble_eq_true rfl⟩ rfl hl.1 rfl (Nat.le_of_ble_eq_true rfl) dX3_on_31 ⟨Nat.zero_le _, Nat.zero_le _⟩) [1, 2, 3, 4, 5, 6, 7, 8, 9, 10, 11, 12, 13, 14] [0] [0, 1, 2, 3, 4, 5, 6, 7, 8, 9, 10, 11, 12, 13, 14] (cH hh hc hi hj hs ht wh) (fun u => (cH hh hc hi hj hs ht wh ++ (cC cy hc ac u))) rfl rfl (by decide) (by decide) (by decide) (fun u => rfl) (fun r31 u9 H locs hq hW => ?_)
      obtain ⟨wc31, rfl⟩ : ∃ z, z = u9 := ⟨_, rfl⟩
      try dsimp only at hq hW
      exact hc_iret hC (wh, wc31) hW hq dX3_on_34
    · replace hq := hq.2 hc9
      refine lv_bipush (v := (-2)) hC.x hC.b dX3_on_22 (by decide) ?_
      exact hc_iret hC (wh, wc) hW hq dX3_on_24
def k_X3_ways  (wh : Wd) (wc : Wd) (ws : Wd) (Q : Int32 → Wd → Wd → Wd → Prop) : Prop :=
 (k_X1_sweep ws wc (fun ws8 wc8 => (Q (ws8 0 0) wh wc8 ws8)))
set_option maxHeartbeats 4000000 in
set_option maxRecDepth 100000 in
theorem c_X3_ways (l : Launch) (D : va_G) (cy cz : ClassId) (t1 t2 : Nat) (hh : Nat) (hc : Nat) (hi : Nat) (hj : Nat) (hs : Nat) (ht : Nat) (ac : Nat → Nat)  (wh : Wd) (wc : Wd) (ws : Wd) (Q : Int32 → Wd → Wd → Wd → Prop) (hq : k_X3_ways wh wc ws Q) : Ct l D cy cz t1 t2 yX3_ways cX3_ways 1 (some .int) (rM 4 109) [.ref hh] (cH hh hc hi hj hs ht wh ++ (cC cy hc ac wc ++ (cS hs ws))) (QI D (S := Wd × Wd × Wd) (fun r u => Q r u.1 u.2.1 u.2.2) (fun u => (cH hh hc hi hj hs ht u.1 ++ (cC cy hc ac u.2.1 ++ (cS hs u.2.2))))) := by
  refine Ct.of (own := RX3) (by decide) rfl (Nat.le_of_ble_eq_true rfl) ?_
  intro p e s m below meth c A ls hC hW hl
  unfold k_X3_ways at hq
  have hl : lv_has ls 1 [(0, .ref hh)] := hl
  refine lv_aload_n hC.x hC.b dX3_ways_0 rfl (lv_at hl 0 rfl) ?_
  refine hc_get (v := .ref hs) hC hW 0 3 4 inX3 rfl rfl (by decide) q_22 rfl dX3_ways_1 ?_
  refine lv_aload_n hC.x hC.b dX3_ways_4 rfl (lv_at hl 0 rfl) ?_
  refine hc_get (v := .ref hc) hC hW 0 3 0 inX3 rfl rfl (by decide) q_15 rfl dX3_ways_5 ?_
  refine hc_goV hC hW (hc_rV hC (c_X1_sweep l D cy cz t1 t2 hs hc ac ws wc _ hq) (hc_preS hC hW [15, 1, 2, 3, 4, 5, 6, 7, 8, 9, 10, 11, 12, 13, 14] rfl rfl) hW 15 1 rfl rfl q_320 q_321 q_322 q_21 q_323 hd_X1_sweep ⟨rfl, rfl⟩ ⟨Nat.le_of_ble_eq_true rfl, Nat.le_of_ble_eq_true rfl⟩ rfl hl.1 rfl (Nat.le_of_ble_eq_true rfl) dX3_ways_8 ⟨Nat.zero_le _, Nat.zero_le _⟩) [15, 1, 2, 3, 4, 5, 6, 7, 8, 9, 10, 11, 12, 13, 14] [0] [0, 2, 3, 4, 5, 6, 7, 8, 9, 10, 11, 12, 13, 14, 15, 1] (cH hh hc hi hj hs ht wh) (fun u => (cH hh hc hi hj hs ht wh ++ (cC cy hc ac u.2 ++ (cS hs u.1)))) rfl rfl (by decide) (by decide) (by decide) (fun u => rfl) (fun u9 H locs hq hW => ?_)
  obtain ⟨ws8, wc8⟩ := u9
  try dsimp only at hq hW
  refine lv_aload_n hC.x hC.b dX3_ways_11 rfl (lv_at hl 0 rfl) ?_
  refine hc_get (v := .ref hs) hC hW 0 3 4 inX3 rfl rfl (by decide) q_22 rfl dX3_ways_12 ?_
  refine hc_get (v := .int (ws8 0 0)) hC hW 15 1 0 inX1 rfl rfl (by decide) q_319 rfl dX3_ways_15 ?_
  exact hc_iret hC (wh, wc8, ws8) hW hq dX3_ways_18
def k_X3_greatest (x1 : Int32) (wh : Wd) (wc : Wd) (ws : Wd) (Q : Int32 → Wd → Wd → Wd → Prop) : Prop :=
 (k_X3_isWithin x1 0 3 (fun r3 => ((¬ r3 = 0 → (k_X1_sweep ws wc (fun ws20 wc20 => ((¬ (ws20 0 0) = 0 → ((x1 = 0 → (Q (ws20 1 0) wh wc20 ws20)) ∧
 (x1 = 1 → (Q (ws20 2 0) wh wc20 ws20)) ∧
 (x1 = 2 → (Q (ws20 3 0) wh wc20 ws20)) ∧
 ((¬ x1 = 0 ∧ ¬ x1 = 1 ∧ ¬ x1 = 2) → (Q (ws20 4 0) wh wc20 ws20)))) ∧
 ((ws20 0 0) = 0 → (Q (-6) wh wc20 ws20)))))) ∧
 (r3 = 0 → (Q (-2) wh wc ws)))))
set_option maxHeartbeats 4000000 in
set_option maxRecDepth 100000 in
theorem c_X3_greatest (l : Launch) (D : va_G) (cy cz : ClassId) (t1 t2 : Nat) (hh : Nat) (hc : Nat) (hi : Nat) (hj : Nat) (hs : Nat) (ht : Nat) (ac : Nat → Nat) (x1 : Int32) (wh : Wd) (wc : Wd) (ws : Wd) (Q : Int32 → Wd → Wd → Wd → Prop) (hq : k_X3_greatest x1 wh wc ws Q) : Ct l D cy cz t1 t2 yX3_greatest cX3_greatest 2 (some .int) (rM 4 109) [.ref hh, .int x1] (cH hh hc hi hj hs ht wh ++ (cC cy hc ac wc ++ (cS hs ws))) (QI D (S := Wd × Wd × Wd) (fun r u => Q r u.1 u.2.1 u.2.2) (fun u => (cH hh hc hi hj hs ht u.1 ++ (cC cy hc ac u.2.1 ++ (cS hs u.2.2))))) := by
  refine Ct.of (own := RX3) (by decide) rfl (Nat.le_of_ble_eq_true rfl) ?_
  intro p e s m below meth c A ls hC hW hl
  unfold k_X3_greatest at hq
  have hl : lv_has ls 2 [(0, .ref hh), (1, .int x1)] := hl
  refine lv_iload_n hC.x hC.b dX3_greatest_0 rfl (lv_at hl 1 rfl) ?_
  refine lv_iconst (v := 0) hC.x hC.b dX3_greatest_1 (by decide) ?_
  refine lv_iconst (v := 3) hC.x hC.b dX3_greatest_2 (by decide) ?_
  refine hc_goP hC hW (hc_rS hC (c_X3_isWithin l D cy cz t1 t2 x1 0 3 _ hq) (hc_preP hC hW) q_112 q_113 q_2 q_114 hd_X3_isWithin ⟨rfl, rfl⟩ ⟨Nat.le_of_ble_eq_true rfl, Nat.le_of_ble_eq_true rfl⟩ rfl hl.1 rfl (Nat.le_of_ble_eq_true rfl) dX3_greatest_3 ⟨Nat.zero_le _, Nat.zero_le _⟩) (fun r3 H locs hq hW => ?_)
  try dsimp only at hq
  refine lv_if_ne (tgt := 12) hC.x hC.b dX3_greatest_6 (by decide) (fun hc9 => ?_) (fun hc9 => ?_)
  · replace hq := hq.1 hc9
    refine lv_aload_n hC.x hC.b dX3_greatest_12 rfl (lv_at hl 0 rfl) ?_
    refine hc_get (v := .ref hs) hC hW 0 3 4 inX3 rfl rfl (by decide) q_22 rfl dX3_greatest_13 ?_
    refine lv_aload_n hC.x hC.b dX3_greatest_16 rfl (lv_at hl 0 rfl) ?_
    refine hc_get (v := .ref hc) hC hW 0 3 0 inX3 rfl rfl (by decide) q_15 rfl dX3_greatest_17 ?_
    refine hc_goV hC hW (hc_rV hC (c_X1_sweep l D cy cz t1 t2 hs hc ac ws wc _ hq) (hc_preS hC hW [15, 1, 2, 3, 4, 5, 6, 7, 8, 9, 10, 11, 12, 13, 14] rfl rfl) hW 15 1 rfl rfl q_320 q_321 q_322 q_21 q_323 hd_X1_sweep ⟨rfl, rfl⟩ ⟨Nat.le_of_ble_eq_true rfl, Nat.le_of_ble_eq_true rfl⟩ rfl hl.1 rfl (Nat.le_of_ble_eq_true rfl) dX3_greatest_20 ⟨Nat.zero_le _, Nat.zero_le _⟩) [15, 1, 2, 3, 4, 5, 6, 7, 8, 9, 10, 11, 12, 13, 14] [0] [0, 2, 3, 4, 5, 6, 7, 8, 9, 10, 11, 12, 13, 14, 15, 1] (cH hh hc hi hj hs ht wh) (fun u => (cH hh hc hi hj hs ht wh ++ (cC cy hc ac u.2 ++ (cS hs u.1)))) rfl rfl (by decide) (by decide) (by decide) (fun u => rfl) (fun u9 H locs hq hW => ?_)
    obtain ⟨ws20, wc20⟩ := u9
    try dsimp only at hq hW
    refine lv_aload_n hC.x hC.b dX3_greatest_23 rfl (lv_at hl 0 rfl) ?_
    refine hc_get (v := .ref hs) hC hW 0 3 4 inX3 rfl rfl (by decide) q_22 rfl dX3_greatest_24 ?_
    refine hc_get (v := .int (ws20 0 0)) hC hW 15 1 0 inX1 rfl rfl (by decide) q_319 rfl dX3_greatest_27 ?_
    refine lv_if_ne (tgt := 36) hC.x hC.b dX3_greatest_30 (by decide) (fun hc9 => ?_) (fun hc9 => ?_)
    · replace hq := hq.1 hc9
      refine lv_iload_n hC.x hC.b dX3_greatest_36 rfl (lv_at hl 1 rfl) ?_
      by_cases hs0 : x1 = 0
      · refine lv_tableIn (tgt := 64) hC.x hC.b dX3_greatest_37 (by rw [hs0]; decide) (by rw [hs0]; decide) (by rw [hs0]; rfl) (by decide) ?_
        replace hq := hq.1 hs0
        refine lv_aload_n hC.x hC.b dX3_greatest_64 rfl (lv_at hl 0 rfl) ?_
        refine hc_get (v := .ref hs) hC hW 0 3 4 inX3 rfl rfl (by decide) q_22 rfl dX3_greatest_65 ?_
        refine hc_get (v := .int (ws20 1 0)) hC hW 15 1 1 inX1 rfl rfl (by decide) q_358 rfl dX3_greatest_68 ?_
        exact hc_iret hC (wh, wc20, ws20) hW hq dX3_greatest_71
      by_cases hs1 : x1 = 1
      · refine lv_tableIn (tgt := 72) hC.x hC.b dX3_greatest_37 (by rw [hs1]; decide) (by rw [hs1]; decide) (by rw [hs1]; rfl) (by decide) ?_
        replace hq := hq.2.1 hs1
        refine lv_aload_n hC.x hC.b dX3_greatest_72 rfl (lv_at hl 0 rfl) ?_
        refine hc_get (v := .ref hs) hC hW 0 3 4 inX3 rfl rfl (by decide) q_22 rfl dX3_greatest_73 ?_
        refine hc_get (v := .int (ws20 2 0)) hC hW 15 1 2 inX1 rfl rfl (by decide) q_359 rfl dX3_greatest_76 ?_
        exact hc_iret hC (wh, wc20, ws20) hW hq dX3_greatest_79
      by_cases hs2 : x1 = 2
      · refine lv_tableIn (tgt := 80) hC.x hC.b dX3_greatest_37 (by rw [hs2]; decide) (by rw [hs2]; decide) (by rw [hs2]; rfl) (by decide) ?_
        replace hq := hq.2.2.1 hs2
        refine lv_aload_n hC.x hC.b dX3_greatest_80 rfl (lv_at hl 0 rfl) ?_
        refine hc_get (v := .ref hs) hC hW 0 3 4 inX3 rfl rfl (by decide) q_22 rfl dX3_greatest_81 ?_
        refine hc_get (v := .int (ws20 3 0)) hC hW 15 1 3 inX1 rfl rfl (by decide) q_360 rfl dX3_greatest_84 ?_
        exact hc_iret hC (wh, wc20, ws20) hW hq dX3_greatest_87
      refine lv_tableOut (tgt := 88) hC.x hC.b dX3_greatest_37 (by have e0 := lv_neT (a := 0) hs0 rfl; have e1 := lv_neT (a := 1) hs1 rfl; have e2 := lv_neT (a := 2) hs2 rfl; omega) (by decide) ?_
      replace hq := hq.2.2.2 ⟨hs0, hs1, hs2⟩
      refine lv_aload_n hC.x hC.b dX3_greatest_88 rfl (lv_at hl 0 rfl) ?_
      refine hc_get (v := .ref hs) hC hW 0 3 4 inX3 rfl rfl (by decide) q_22 rfl dX3_greatest_89 ?_
      refine hc_get (v := .int (ws20 4 0)) hC hW 15 1 4 inX1 rfl rfl (by decide) q_361 rfl dX3_greatest_92 ?_
      exact hc_iret hC (wh, wc20, ws20) hW hq dX3_greatest_95
    · replace hq := hq.2 hc9
      refine lv_bipush (v := (-6)) hC.x hC.b dX3_greatest_33 (by decide) ?_
      exact hc_iret hC (wh, wc20, ws20) hW hq dX3_greatest_35
  · replace hq := hq.2 hc9
    refine lv_bipush (v := (-2)) hC.x hC.b dX3_greatest_9 (by decide) ?_
    exact hc_iret hC (wh, wc, ws) hW hq dX3_greatest_11
def k_X3_two  (wh : Wd) (wc : Wd) (ws : Wd) (Q : Int32 → Wd → Wd → Wd → Prop) : Prop :=
 (k_X1_bestTwo ws wc (fun r8 ws8 wc8 => ((¬ r8 = 0 → (Q r8 wh wc8 ws8)) ∧
 (r8 = 0 → (Q (-6) wh wc8 ws8)))))
set_option maxHeartbeats 4000000 in
set_option maxRecDepth 100000 in
theorem c_X3_two (l : Launch) (D : va_G) (cy cz : ClassId) (t1 t2 : Nat) (hh : Nat) (hc : Nat) (hi : Nat) (hj : Nat) (hs : Nat) (ht : Nat) (ac : Nat → Nat)  (wh : Wd) (wc : Wd) (ws : Wd) (Q : Int32 → Wd → Wd → Wd → Prop) (hq : k_X3_two wh wc ws Q) : Ct l D cy cz t1 t2 yX3_two cX3_two 2 (some .int) (rM 6 161) [.ref hh] (cH hh hc hi hj hs ht wh ++ (cC cy hc ac wc ++ (cS hs ws))) (QI D (S := Wd × Wd × Wd) (fun r u => Q r u.1 u.2.1 u.2.2) (fun u => (cH hh hc hi hj hs ht u.1 ++ (cC cy hc ac u.2.1 ++ (cS hs u.2.2))))) := by
  refine Ct.of (own := RX3) (by decide) rfl (Nat.le_of_ble_eq_true rfl) ?_
  intro p e s m below meth c A ls hC hW hl
  unfold k_X3_two at hq
  have hl : lv_has ls 2 [(0, .ref hh)] := hl
  refine lv_aload_n hC.x hC.b dX3_two_0 rfl (lv_at hl 0 rfl) ?_
  refine hc_get (v := .ref hs) hC hW 0 3 4 inX3 rfl rfl (by decide) q_22 rfl dX3_two_1 ?_
  refine lv_aload_n hC.x hC.b dX3_two_4 rfl (lv_at hl 0 rfl) ?_
  refine hc_get (v := .ref hc) hC hW 0 3 0 inX3 rfl rfl (by decide) q_15 rfl dX3_two_5 ?_
  refine hc_goI hC hW (hc_rV hC (c_X1_bestTwo l D cy cz t1 t2 hs hc ac ws wc _ hq) (hc_preS hC hW [15, 1, 2, 3, 4, 5, 6, 7, 8, 9, 10, 11, 12, 13, 14] rfl rfl) hW 15 1 rfl rfl q_370 q_371 q_372 q_21 q_373 hd_X1_bestTwo ⟨rfl, rfl⟩ ⟨Nat.le_of_ble_eq_true rfl, Nat.le_of_ble_eq_true rfl⟩ rfl hl.1 rfl (Nat.le_of_ble_eq_true rfl) dX3_two_8 ⟨Nat.zero_le _, Nat.zero_le _⟩) [15, 1, 2, 3, 4, 5, 6, 7, 8, 9, 10, 11, 12, 13, 14] [0] [0, 2, 3, 4, 5, 6, 7, 8, 9, 10, 11, 12, 13, 14, 15, 1] (cH hh hc hi hj hs ht wh) (fun u => (cH hh hc hi hj hs ht wh ++ (cC cy hc ac u.2 ++ (cS hs u.1)))) rfl rfl (by decide) (by decide) (by decide) (fun u => rfl) (fun r8 u9 H locs hq hW => ?_)
  obtain ⟨ws8, wc8⟩ := u9
  try dsimp only at hq hW
  refine lv_istore_n (lv' := [(1, .int r8), (0, .ref hh)]) hC.x hC.b dX3_two_11 rfl hl (by decide) rfl (fun ls hl => ?_)
  refine lv_iload_n hC.x hC.b dX3_two_12 rfl (lv_at hl 0 rfl) ?_
  refine lv_if_ne (tgt := 21) hC.x hC.b dX3_two_13 (by decide) (fun hc9 => ?_) (fun hc9 => ?_)
  · replace hq := hq.1 hc9
    refine lv_iload_n hC.x hC.b dX3_two_21 rfl (lv_at hl 0 rfl) ?_
    exact hc_iret hC (wh, wc8, ws8) hW hq dX3_two_22
  · replace hq := hq.2 hc9
    refine lv_bipush (v := (-6)) hC.x hC.b dX3_two_16 (by decide) ?_
    refine lv_goto (tgt := 22) hC.x hC.b dX3_two_18 (by decide) ?_
    exact hc_iret hC (wh, wc8, ws8) hW hq dX3_two_22
def k_X3_view (x1 : Int32) (x2 : Int32) (wh : Wd) (wc : Wd) (Q : Int32 → Wd → Wd → Prop) : Prop :=
 (k_X3_isStep x1 (fun r1 => ((¬ r1 = 0 → ((x2 = 0 → (k_X0_leastAcross x1 wc (fun r45 wc45 => (Q (r45 + 1000) wh wc45)))) ∧
 (x2 = 1 → (k_X0_greatestAcross x1 wc (fun r58 wc58 => (Q (r58 + 1000) wh wc58)))) ∧
 (x2 = 2 → (k_X0_greatestUp x1 wc (fun r71 wc71 => (Q (r71 + 1000) wh wc71)))) ∧
 (x2 = 3 → (k_X0_leastUp x1 wc (fun r84 wc84 => (Q (r84 + 1000) wh wc84)))) ∧
 ((¬ x2 = 0 ∧ ¬ x2 = 1 ∧ ¬ x2 = 2 ∧ ¬ x2 = 3) → (Q (-2) wh wc)))) ∧
 (r1 = 0 → (Q (-2) wh wc)))))
set_option maxHeartbeats 4000000 in
set_option maxRecDepth 100000 in
theorem c_X3_view (l : Launch) (D : va_G) (cy cz : ClassId) (t1 t2 : Nat) (hh : Nat) (hc : Nat) (hi : Nat) (hj : Nat) (hs : Nat) (ht : Nat) (ac : Nat → Nat) (x1 : Int32) (x2 : Int32) (wh : Wd) (wc : Wd) (Q : Int32 → Wd → Wd → Prop) (hq : k_X3_view x1 x2 wh wc Q) : Ct l D cy cz t1 t2 yX3_view cX3_view 3 (some .int) (rM 4 87) [.ref hh, .int x1, .int x2] (cH hh hc hi hj hs ht wh ++ (cC cy hc ac wc)) (QI D (S := Wd × Wd) (fun r u => Q r u.1 u.2) (fun u => (cH hh hc hi hj hs ht u.1 ++ (cC cy hc ac u.2)))) := by
  refine Ct.of (own := RX3) (by decide) rfl (Nat.le_of_ble_eq_true rfl) ?_
  intro p e s m below meth c A ls hC hW hl
  unfold k_X3_view at hq
  have hl : lv_has ls 3 [(0, .ref hh), (1, .int x1), (2, .int x2)] := hl
  refine lv_iload_n hC.x hC.b dX3_view_0 rfl (lv_at hl 1 rfl) ?_
  refine hc_goP hC hW (hc_rS hC (c_X3_isStep l D cy cz t1 t2 x1 _ hq) (hc_preP hC hW) q_398 q_399 q_2 q_400 hd_X3_isStep ⟨rfl, rfl⟩ ⟨Nat.le_of_ble_eq_true rfl, Nat.le_of_ble_eq_true rfl⟩ rfl hl.1 rfl (Nat.le_of_ble_eq_true rfl) dX3_view_1 ⟨Nat.zero_le _, Nat.zero_le _⟩) (fun r1 H locs hq hW => ?_)
  try dsimp only at hq
  refine lv_if_ne (tgt := 10) hC.x hC.b dX3_view_4 (by decide) (fun hc9 => ?_) (fun hc9 => ?_)
  · replace hq := hq.1 hc9
    refine lv_iload_n hC.x hC.b dX3_view_10 rfl (lv_at hl 2 rfl) ?_
    by_cases hs0 : x2 = 0
    · refine lv_tableIn (tgt := 40) hC.x hC.b dX3_view_11 (by rw [hs0]; decide) (by rw [hs0]; decide) (by rw [hs0]; rfl) (by decide) ?_
      replace hq := hq.1 hs0
      refine lv_aload_n hC.x hC.b dX3_view_40 rfl (lv_at hl 0 rfl) ?_
      refine hc_get (v := .ref hc) hC hW 0 3 0 inX3 rfl rfl (by decide) q_15 rfl dX3_view_41 ?_
      refine lv_iload_n hC.x hC.b dX3_view_44 rfl (lv_at hl 1 rfl) ?_
      refine hc_goI hC hW (hc_rV hC (c_X0_leastAcross l D cy cz t1 t2 hc ac x1 wc _ hq) (hc_preS hC hW [1, 2, 3, 4, 5, 6, 7, 8, 9, 10, 11, 12, 13, 14] rfl rfl) hW 1 0 rfl rfl q_401 q_402 q_403 q_14 q_404 hd_X0_leastAcross ⟨rfl, rfl⟩ ⟨Nat.le_of_ble_eq_true rfl, Nat.le_of_ble_eq_true rfl⟩ rfl hl.1 rfl (Nat.le_of_ble_eq_true rfl) dX3_view_45 ⟨Nat.zero_le _, Nat.zero_le _⟩) [1, 2, 3, 4, 5, 6, 7, 8, 9, 10, 11, 12, 13, 14] [0] [0, 1, 2, 3, 4, 5, 6, 7, 8, 9, 10, 11, 12, 13, 14] (cH hh hc hi hj hs ht wh) (fun u => (cH hh hc hi hj hs ht wh ++ (cC cy hc ac u))) rfl rfl (by decide) (by decide) (by decide) (fun u => rfl) (fun r45 u9 H locs hq hW => ?_)
      obtain ⟨wc45, rfl⟩ : ∃ z, z = u9 := ⟨_, rfl⟩
      try dsimp only at hq hW
      refine lv_sipush (v := 1000) hC.x hC.b dX3_view_48 (by decide) ?_
      refine lv_iadd hC.x hC.b dX3_view_51 ?_
      exact hc_iret hC (wh, wc45) hW hq dX3_view_52
    by_cases hs1 : x2 = 1
    · refine lv_tableIn (tgt := 53) hC.x hC.b dX3_view_11 (by rw [hs1]; decide) (by rw [hs1]; decide) (by rw [hs1]; rfl) (by decide) ?_
      replace hq := hq.2.1 hs1
      refine lv_aload_n hC.x hC.b dX3_view_53 rfl (lv_at hl 0 rfl) ?_
      refine hc_get (v := .ref hc) hC hW 0 3 0 inX3 rfl rfl (by decide) q_15 rfl dX3_view_54 ?_
      refine lv_iload_n hC.x hC.b dX3_view_57 rfl (lv_at hl 1 rfl) ?_
      refine hc_goI hC hW (hc_rV hC (c_X0_greatestAcross l D cy cz t1 t2 hc ac x1 wc _ hq) (hc_preS hC hW [1, 2, 3, 4, 5, 6, 7, 8, 9, 10, 11, 12, 13, 14] rfl rfl) hW 1 0 rfl rfl q_408 q_409 q_410 q_14 q_411 hd_X0_greatestAcross ⟨rfl, rfl⟩ ⟨Nat.le_of_ble_eq_true rfl, Nat.le_of_ble_eq_true rfl⟩ rfl hl.1 rfl (Nat.le_of_ble_eq_true rfl) dX3_view_58 ⟨Nat.zero_le _, Nat.zero_le _⟩) [1, 2, 3, 4, 5, 6, 7, 8, 9, 10, 11, 12, 13, 14] [0] [0, 1, 2, 3, 4, 5, 6, 7, 8, 9, 10, 11, 12, 13, 14] (cH hh hc hi hj hs ht wh) (fun u => (cH hh hc hi hj hs ht wh ++ (cC cy hc ac u))) rfl rfl (by decide) (by decide) (by decide) (fun u => rfl) (fun r58 u9 H locs hq hW => ?_)
      obtain ⟨wc58, rfl⟩ : ∃ z, z = u9 := ⟨_, rfl⟩
      try dsimp only at hq hW
      refine lv_sipush (v := 1000) hC.x hC.b dX3_view_61 (by decide) ?_
      refine lv_iadd hC.x hC.b dX3_view_64 ?_
      exact hc_iret hC (wh, wc58) hW hq dX3_view_65
    by_cases hs2 : x2 = 2
    · refine lv_tableIn (tgt := 66) hC.x hC.b dX3_view_11 (by rw [hs2]; decide) (by rw [hs2]; decide) (by rw [hs2]; rfl) (by decide) ?_
      replace hq := hq.2.2.1 hs2
      refine lv_aload_n hC.x hC.b dX3_view_66 rfl (lv_at hl 0 rfl) ?_
      refine hc_get (v := .ref hc) hC hW 0 3 0 inX3 rfl rfl (by decide) q_15 rfl dX3_view_67 ?_
      refine lv_iload_n hC.x hC.b dX3_view_70 rfl (lv_at hl 1 rfl) ?_
      refine hc_goI hC hW (hc_rV hC (c_X0_greatestUp l D cy cz t1 t2 hc ac x1 wc _ hq) (hc_preS hC hW [1, 2, 3, 4, 5, 6, 7, 8, 9, 10, 11, 12, 13, 14] rfl rfl) hW 1 0 rfl rfl q_412 q_413 q_414 q_14 q_415 hd_X0_greatestUp ⟨rfl, rfl⟩ ⟨Nat.le_of_ble_eq_true rfl, Nat.le_of_ble_eq_true rfl⟩ rfl hl.1 rfl (Nat.le_of_ble_eq_true rfl) dX3_view_71 ⟨Nat.zero_le _, Nat.zero_le _⟩) [1, 2, 3, 4, 5, 6, 7, 8, 9, 10, 11, 12, 13, 14] [0] [0, 1, 2, 3, 4, 5, 6, 7, 8, 9, 10, 11, 12, 13, 14] (cH hh hc hi hj hs ht wh) (fun u => (cH hh hc hi hj hs ht wh ++ (cC cy hc ac u))) rfl rfl (by decide) (by decide) (by decide) (fun u => rfl) (fun r71 u9 H locs hq hW => ?_)
      obtain ⟨wc71, rfl⟩ : ∃ z, z = u9 := ⟨_, rfl⟩
      try dsimp only at hq hW
      refine lv_sipush (v := 1000) hC.x hC.b dX3_view_74 (by decide) ?_
      refine lv_iadd hC.x hC.b dX3_view_77 ?_
      exact hc_iret hC (wh, wc71) hW hq dX3_view_78
    by_cases hs3 : x2 = 3
    · refine lv_tableIn (tgt := 79) hC.x hC.b dX3_view_11 (by rw [hs3]; decide) (by rw [hs3]; decide) (by rw [hs3]; rfl) (by decide) ?_
      replace hq := hq.2.2.2.1 hs3
      refine lv_aload_n hC.x hC.b dX3_view_79 rfl (lv_at hl 0 rfl) ?_
      refine hc_get (v := .ref hc) hC hW 0 3 0 inX3 rfl rfl (by decide) q_15 rfl dX3_view_80 ?_
      refine lv_iload_n hC.x hC.b dX3_view_83 rfl (lv_at hl 1 rfl) ?_
      refine hc_goI hC hW (hc_rV hC (c_X0_leastUp l D cy cz t1 t2 hc ac x1 wc _ hq) (hc_preS hC hW [1, 2, 3, 4, 5, 6, 7, 8, 9, 10, 11, 12, 13, 14] rfl rfl) hW 1 0 rfl rfl q_419 q_420 q_421 q_14 q_422 hd_X0_leastUp ⟨rfl, rfl⟩ ⟨Nat.le_of_ble_eq_true rfl, Nat.le_of_ble_eq_true rfl⟩ rfl hl.1 rfl (Nat.le_of_ble_eq_true rfl) dX3_view_84 ⟨Nat.zero_le _, Nat.zero_le _⟩) [1, 2, 3, 4, 5, 6, 7, 8, 9, 10, 11, 12, 13, 14] [0] [0, 1, 2, 3, 4, 5, 6, 7, 8, 9, 10, 11, 12, 13, 14] (cH hh hc hi hj hs ht wh) (fun u => (cH hh hc hi hj hs ht wh ++ (cC cy hc ac u))) rfl rfl (by decide) (by decide) (by decide) (fun u => rfl) (fun r84 u9 H locs hq hW => ?_)
      obtain ⟨wc84, rfl⟩ : ∃ z, z = u9 := ⟨_, rfl⟩
      try dsimp only at hq hW
      refine lv_sipush (v := 1000) hC.x hC.b dX3_view_87 (by decide) ?_
      refine lv_iadd hC.x hC.b dX3_view_90 ?_
      exact hc_iret hC (wh, wc84) hW hq dX3_view_91
    refine lv_tableOut (tgt := 92) hC.x hC.b dX3_view_11 (by have e0 := lv_neT (a := 0) hs0 rfl; have e1 := lv_neT (a := 1) hs1 rfl; have e2 := lv_neT (a := 2) hs2 rfl; have e3 := lv_neT (a := 3) hs3 rfl; omega) (by decide) ?_
    replace hq := hq.2.2.2.2 ⟨hs0, hs1, hs2, hs3⟩
    refine lv_bipush (v := (-2)) hC.x hC.b dX3_view_92 (by decide) ?_
    exact hc_iret hC (wh, wc) hW hq dX3_view_94
  · replace hq := hq.2 hc9
    refine lv_bipush (v := (-2)) hC.x hC.b dX3_view_7 (by decide) ?_
    exact hc_iret hC (wh, wc) hW hq dX3_view_9
def k_X3_above (x1 : Int32) (x2 : Int32) (x3 : Int32) (wh : Wd) (wc : Wd) (wt : Wd) (Q : Int32 → Wd → Wd → Wd → Prop) : Prop :=
 (k_X3_isStep x1 (fun r1 => ((r1 = 0 → (Q (-2) wh wc wt)) ∧
 (¬ r1 = 0 → (k_X3_isWithin x2 (-600) 600 (fun r14 => ((r14 = 0 → (Q (-2) wh wc wt)) ∧
 (¬ r14 = 0 → (k_X3_isWithin x3 0 2 (fun r23 => ((¬ r23 = 0 → (k_X2_look x1 x2 wt wc (fun wt42 wc42 => ((¬ (wt42 0 0) = 0 → ((x3 = 0 → (Q (wt42 1 0) wh wc42 wt42)) ∧
 (x3 = 1 → (Q ((wt42 2 0) + 100000) wh wc42 wt42)) ∧
 ((¬ x3 = 0 ∧ ¬ x3 = 1) → (Q (wt42 3 0) wh wc42 wt42)))) ∧
 ((wt42 0 0) = 0 → (Q (-6) wh wc42 wt42)))))) ∧
 (r23 = 0 → (Q (-2) wh wc wt)))))))))))))
set_option maxHeartbeats 4000000 in
set_option maxRecDepth 100000 in
theorem c_X3_above (l : Launch) (D : va_G) (cy cz : ClassId) (t1 t2 : Nat) (hh : Nat) (hc : Nat) (hi : Nat) (hj : Nat) (hs : Nat) (ht : Nat) (ac : Nat → Nat) (x1 : Int32) (x2 : Int32) (x3 : Int32) (wh : Wd) (wc : Wd) (wt : Wd) (Q : Int32 → Wd → Wd → Wd → Prop) (hq : k_X3_above x1 x2 x3 wh wc wt Q) : Ct l D cy cz t1 t2 yX3_above cX3_above 4 (some .int) (rM 5 116) [.ref hh, .int x1, .int x2, .int x3] (cH hh hc hi hj hs ht wh ++ (cC cy hc ac wc ++ (cT ht wt))) (QI D (S := Wd × Wd × Wd) (fun r u => Q r u.1 u.2.1 u.2.2) (fun u => (cH hh hc hi hj hs ht u.1 ++ (cC cy hc ac u.2.1 ++ (cT ht u.2.2))))) := by
  refine Ct.of (own := RX3) (by decide) rfl (Nat.le_of_ble_eq_true rfl) ?_
  intro p e s m below meth c A ls hC hW hl
  unfold k_X3_above at hq
  have hl : lv_has ls 4 [(0, .ref hh), (1, .int x1), (2, .int x2), (3, .int x3)] := hl
  refine lv_iload_n hC.x hC.b dX3_above_0 rfl (lv_at hl 1 rfl) ?_
  refine hc_goP hC hW (hc_rS hC (c_X3_isStep l D cy cz t1 t2 x1 _ hq) (hc_preP hC hW) q_398 q_399 q_2 q_400 hd_X3_isStep ⟨rfl, rfl⟩ ⟨Nat.le_of_ble_eq_true rfl, Nat.le_of_ble_eq_true rfl⟩ rfl hl.1 rfl (Nat.le_of_ble_eq_true rfl) dX3_above_1 ⟨Nat.zero_le _, Nat.zero_le _⟩) (fun r1 H locs hq hW => ?_)
  try dsimp only at hq
  refine lv_if_eq (tgt := 29) hC.x hC.b dX3_above_4 (by decide) (fun hc9 => ?_) (fun hc9 => ?_)
  · replace hq := hq.1 hc9
    refine lv_bipush (v := (-2)) hC.x hC.b dX3_above_29 (by decide) ?_
    exact hc_iret hC (wh, wc, wt) hW hq dX3_above_31
  · replace hq := hq.2 hc9
    refine lv_iload_n hC.x hC.b dX3_above_7 rfl (lv_at hl 2 rfl) ?_
    refine lv_sipush (v := (-600)) hC.x hC.b dX3_above_8 (by decide) ?_
    refine lv_sipush (v := 600) hC.x hC.b dX3_above_11 (by decide) ?_
    refine hc_goP hC hW (hc_rS hC (c_X3_isWithin l D cy cz t1 t2 x2 (-600) 600 _ hq) (hc_preP hC hW) q_112 q_113 q_2 q_114 hd_X3_isWithin ⟨rfl, rfl⟩ ⟨Nat.le_of_ble_eq_true rfl, Nat.le_of_ble_eq_true rfl⟩ rfl hl.1 rfl (Nat.le_of_ble_eq_true rfl) dX3_above_14 ⟨Nat.zero_le _, Nat.zero_le _⟩) (fun r14 H locs hq hW => ?_)
    try dsimp only at hq
    refine lv_if_eq (tgt := 29) hC.x hC.b dX3_above_17 (by decide) (fun hc9 => ?_) (fun hc9 => ?_)
    · replace hq := hq.1 hc9
      refine lv_bipush (v := (-2)) hC.x hC.b dX3_above_29 (by decide) ?_
      exact hc_iret hC (wh, wc, wt) hW hq dX3_above_31
    · replace hq := hq.2 hc9
      refine lv_iload_n hC.x hC.b dX3_above_20 rfl (lv_at hl 3 rfl) ?_
      refine lv_iconst (v := 0) hC.x hC.b dX3_above_21 (by decide) ?_
      refine lv_iconst (v := 2) hC.x hC.b dX3_above_22 (by decide) ?_
      refine hc_goP hC hW (hc_rS hC (c_X3_isWithin l D cy cz t1 t2 x3 0 2 _ hq) (hc_preP hC hW) q_112 q_113 q_2 q_114 hd_X3_isWithin ⟨rfl, rfl⟩ ⟨Nat.le_of_ble_eq_true rfl, Nat.le_of_ble_eq_true rfl⟩ rfl hl.1 rfl (Nat.le_of_ble_eq_true rfl) dX3_above_23 ⟨Nat.zero_le _, Nat.zero_le _⟩) (fun r23 H locs hq hW => ?_)
      try dsimp only at hq
      refine lv_if_ne (tgt := 32) hC.x hC.b dX3_above_26 (by decide) (fun hc9 => ?_) (fun hc9 => ?_)
      · replace hq := hq.1 hc9
        refine lv_aload_n hC.x hC.b dX3_above_32 rfl (lv_at hl 0 rfl) ?_
        refine hc_get (v := .ref ht) hC hW 0 3 5 inX3 rfl rfl (by decide) q_26 rfl dX3_above_33 ?_
        refine lv_aload_n hC.x hC.b dX3_above_36 rfl (lv_at hl 0 rfl) ?_
        refine hc_get (v := .ref hc) hC hW 0 3 0 inX3 rfl rfl (by decide) q_15 rfl dX3_above_37 ?_
        refine lv_iload_n hC.x hC.b dX3_above_40 rfl (lv_at hl 1 rfl) ?_
        refine lv_iload_n hC.x hC.b dX3_above_41 rfl (lv_at hl 2 rfl) ?_
        refine hc_goV hC hW (hc_rV hC (c_X2_look l D cy cz t1 t2 ht hc ac x1 x2 wt wc _ hq) (hc_preS hC hW [15, 1, 2, 3, 4, 5, 6, 7, 8, 9, 10, 11, 12, 13, 14] rfl rfl) hW 15 2 rfl rfl q_459 q_460 q_461 q_25 q_462 hd_X2_look ⟨rfl, rfl⟩ ⟨Nat.le_of_ble_eq_true rfl, Nat.le_of_ble_eq_true rfl⟩ rfl hl.1 rfl (Nat.le_of_ble_eq_true rfl) dX3_above_42 ⟨Nat.zero_le _, Nat.zero_le _⟩) [15, 1, 2, 3, 4, 5, 6, 7, 8, 9, 10, 11, 12, 13, 14] [0] [0, 2, 3, 4, 5, 6, 7, 8, 9, 10, 11, 12, 13, 14, 15, 1] (cH hh hc hi hj hs ht wh) (fun u => (cH hh hc hi hj hs ht wh ++ (cC cy hc ac u.2 ++ (cT ht u.1)))) rfl rfl (by decide) (by decide) (by decide) (fun u => rfl) (fun u9 H locs hq hW => ?_)
        obtain ⟨wt42, wc42⟩ := u9
        try dsimp only at hq hW
        refine lv_aload_n hC.x hC.b dX3_above_45 rfl (lv_at hl 0 rfl) ?_
        refine hc_get (v := .ref ht) hC hW 0 3 5 inX3 rfl rfl (by decide) q_26 rfl dX3_above_46 ?_
        refine hc_get (v := .int (wt42 0 0)) hC hW 15 2 0 inX2 rfl rfl (by decide) q_454 rfl dX3_above_49 ?_
        refine lv_if_ne (tgt := 58) hC.x hC.b dX3_above_52 (by decide) (fun hc9 => ?_) (fun hc9 => ?_)
        · replace hq := hq.1 hc9
          refine lv_iload_n hC.x hC.b dX3_above_58 rfl (lv_at hl 3 rfl) ?_
          by_cases hs0 : x3 = 0
          · refine lv_lookup (tgt := 84) (off := 25) hC.x hC.b dX3_above_59 (by decide) (by rw [hs0]; rfl) (by decide) ?_
            replace hq := hq.1 hs0
            refine lv_aload_n hC.x hC.b dX3_above_84 rfl (lv_at hl 0 rfl) ?_
            refine hc_get (v := .ref ht) hC hW 0 3 5 inX3 rfl rfl (by decide) q_26 rfl dX3_above_85 ?_
            refine hc_get (v := .int (wt42 1 0)) hC hW 15 2 1 inX2 rfl rfl (by decide) q_455 rfl dX3_above_88 ?_
            exact hc_iret hC (wh, wc42, wt42) hW hq dX3_above_91
          by_cases hs1 : x3 = 1
          · refine lv_lookup (tgt := 92) (off := 33) hC.x hC.b dX3_above_59 (by decide) (by rw [hs1]; rfl) (by decide) ?_
            replace hq := hq.2.1 hs1
            refine lv_aload_n hC.x hC.b dX3_above_92 rfl (lv_at hl 0 rfl) ?_
            refine hc_get (v := .ref ht) hC hW 0 3 5 inX3 rfl rfl (by decide) q_26 rfl dX3_above_93 ?_
            refine hc_get (v := .int (wt42 2 0)) hC hW 15 2 2 inX2 rfl rfl (by decide) q_456 rfl dX3_above_96 ?_
            refine lv_ldc (v := 100000) hC.x hC.b hC.ow (hC.ts _ q_457) dX3_above_99 ?_
            refine lv_iadd hC.x hC.b dX3_above_101 ?_
            exact hc_iret hC (wh, wc42, wt42) hW hq dX3_above_102
          refine lv_lookup (tgt := 103) (off := 44) hC.x hC.b dX3_above_59 (by decide) ((lv_osw (a := 0) hs0 rfl).trans ((lv_osw (a := 1) hs1 rfl).trans (rfl))) (by decide) ?_
          replace hq := hq.2.2 ⟨hs0, hs1⟩
          refine lv_aload_n hC.x hC.b dX3_above_103 rfl (lv_at hl 0 rfl) ?_
          refine hc_get (v := .ref ht) hC hW 0 3 5 inX3 rfl rfl (by decide) q_26 rfl dX3_above_104 ?_
          refine hc_get (v := .int (wt42 3 0)) hC hW 15 2 3 inX2 rfl rfl (by decide) q_458 rfl dX3_above_107 ?_
          exact hc_iret hC (wh, wc42, wt42) hW hq dX3_above_110
        · replace hq := hq.2 hc9
          refine lv_bipush (v := (-6)) hC.x hC.b dX3_above_55 (by decide) ?_
          exact hc_iret hC (wh, wc42, wt42) hW hq dX3_above_57
      · replace hq := hq.2 hc9
        refine lv_bipush (v := (-2)) hC.x hC.b dX3_above_29 (by decide) ?_
        exact hc_iret hC (wh, wc, wt) hW hq dX3_above_31
def k_X3_apart (x1 : Int32) (x2 : Int32) (x3 : Int32) (wh : Wd) (wc : Wd) (Q : Int32 → Wd → Wd → Prop) : Prop :=
 (k_X0_hasFace x1 wc (fun r5 wc5 => ((r5 = 0 → (Q (-1) wh wc5)) ∧
 (¬ r5 = 0 → (k_X0_hasFace x2 wc5 (fun r16 wc16 => ((¬ r16 = 0 → (k_X3_isStep x3 (fun r25 => ((¬ r25 = 0 → (k_X0_firstP x1 wc16 (fun r40 wc40 => (k_X0_firstQ x1 wc40 (fun r48 wc48 => (k_X3_acrossOf x3 r40 r48 (fun r51 => (k_X0_firstP x2 wc48 (fun r60 wc60 => (k_X0_firstQ x2 wc60 (fun r68 wc68 => (k_X3_acrossOf x3 r60 r68 (fun r71 => (k_X0_firstQ x1 wc68 (fun r83 wc83 => (k_X3_upOf x3 r83 (fun r86 => (k_X0_firstQ x2 wc83 (fun r95 wc95 => (k_X3_upOf x3 r95 (fun r98 => (Q (((r51 - r71) * (r51 - r71)) + ((r86 - r98) * (r86 - r98))) wh wc95)))))))))))))))))))))) ∧
 (r25 = 0 → (Q (-2) wh wc16)))))) ∧
 (r16 = 0 → (Q (-1) wh wc16)))))))))
set_option maxHeartbeats 4000000 in
set_option maxRecDepth 100000 in
theorem c_X3_apart (l : Launch) (D : va_G) (cy cz : ClassId) (t1 t2 : Nat) (hh : Nat) (hc : Nat) (hi : Nat) (hj : Nat) (hs : Nat) (ht : Nat) (ac : Nat → Nat) (x1 : Int32) (x2 : Int32) (x3 : Int32) (wh : Wd) (wc : Wd) (Q : Int32 → Wd → Wd → Prop) (hq : k_X3_apart x1 x2 x3 wh wc Q) : Ct l D cy cz t1 t2 yX3_apart cX3_apart 6 (some .int) (rM 3 64) [.ref hh, .int x1, .int x2, .int x3] (cH hh hc hi hj hs ht wh ++ (cC cy hc ac wc)) (QI D (S := Wd × Wd) (fun r u => Q r u.1 u.2) (fun u => (cH hh hc hi hj hs ht u.1 ++ (cC cy hc ac u.2)))) := by
  refine Ct.of (own := RX3) (by decide) rfl (Nat.le_of_ble_eq_true rfl) ?_
  intro p e s m below meth c A ls hC hW hl
  unfold k_X3_apart at hq
  have hl : lv_has ls 6 [(0, .ref hh), (1, .int x1), (2, .int x2), (3, .int x3)] := hl
  refine lv_aload_n hC.x hC.b dX3_apart_0 rfl (lv_at hl 0 rfl) ?_
  refine hc_get (v := .ref hc) hC hW 0 3 0 inX3 rfl rfl (by decide) q_15 rfl dX3_apart_1 ?_
  refine lv_iload_n hC.x hC.b dX3_apart_4 rfl (lv_at hl 1 rfl) ?_
  refine hc_goI hC hW (hc_rV hC (c_X0_hasFace l D cy cz t1 t2 hc ac x1 wc _ hq) (hc_preS hC hW [1, 2, 3, 4, 5, 6, 7, 8, 9, 10, 11, 12, 13, 14] rfl rfl) hW 1 0 rfl rfl q_272 q_273 q_274 q_14 q_275 hd_X0_hasFace ⟨rfl, rfl⟩ ⟨Nat.le_of_ble_eq_true rfl, Nat.le_of_ble_eq_true rfl⟩ rfl hl.1 rfl (Nat.le_of_ble_eq_true rfl) dX3_apart_5 ⟨Nat.zero_le _, Nat.zero_le _⟩) [1, 2, 3, 4, 5, 6, 7, 8, 9, 10, 11, 12, 13, 14] [0] [0, 1, 2, 3, 4, 5, 6, 7, 8, 9, 10, 11, 12, 13, 14] (cH hh hc hi hj hs ht wh) (fun u => (cH hh hc hi hj hs ht wh ++ (cC cy hc ac u))) rfl rfl (by decide) (by decide) (by decide) (fun u => rfl) (fun r5 u9 H locs hq hW => ?_)
  obtain ⟨wc5, rfl⟩ : ∃ z, z = u9 := ⟨_, rfl⟩
  try dsimp only at hq hW
  refine lv_if_eq (tgt := 22) hC.x hC.b dX3_apart_8 (by decide) (fun hc9 => ?_) (fun hc9 => ?_)
  · replace hq := hq.1 hc9
    refine lv_iconst (v := (-1)) hC.x hC.b dX3_apart_22 (by decide) ?_
    exact hc_iret hC (wh, wc5) hW hq dX3_apart_23
  · replace hq := hq.2 hc9
    refine lv_aload_n hC.x hC.b dX3_apart_11 rfl (lv_at hl 0 rfl) ?_
    refine hc_get (v := .ref hc) hC hW 0 3 0 inX3 rfl rfl (by decide) q_15 rfl dX3_apart_12 ?_
    refine lv_iload_n hC.x hC.b dX3_apart_15 rfl (lv_at hl 2 rfl) ?_
    refine hc_goI hC hW (hc_rV hC (c_X0_hasFace l D cy cz t1 t2 hc ac x2 wc5 _ hq) (hc_preS hC hW [1, 2, 3, 4, 5, 6, 7, 8, 9, 10, 11, 12, 13, 14] rfl rfl) hW 1 0 rfl rfl q_272 q_273 q_274 q_14 q_275 hd_X0_hasFace ⟨rfl, rfl⟩ ⟨Nat.le_of_ble_eq_true rfl, Nat.le_of_ble_eq_true rfl⟩ rfl hl.1 rfl (Nat.le_of_ble_eq_true rfl) dX3_apart_16 ⟨Nat.zero_le _, Nat.zero_le _⟩) [1, 2, 3, 4, 5, 6, 7, 8, 9, 10, 11, 12, 13, 14] [0] [0, 1, 2, 3, 4, 5, 6, 7, 8, 9, 10, 11, 12, 13, 14] (cH hh hc hi hj hs ht wh) (fun u => (cH hh hc hi hj hs ht wh ++ (cC cy hc ac u))) rfl rfl (by decide) (by decide) (by decide) (fun u => rfl) (fun r16 u9 H locs hq hW => ?_)
    obtain ⟨wc16, rfl⟩ : ∃ z, z = u9 := ⟨_, rfl⟩
    try dsimp only at hq hW
    refine lv_if_ne (tgt := 24) hC.x hC.b dX3_apart_19 (by decide) (fun hc9 => ?_) (fun hc9 => ?_)
    · replace hq := hq.1 hc9
      refine lv_iload_n hC.x hC.b dX3_apart_24 rfl (lv_at hl 3 rfl) ?_
      refine hc_goP hC hW (hc_rS hC (c_X3_isStep l D cy cz t1 t2 x3 _ hq) (hc_preP hC hW) q_398 q_399 q_2 q_400 hd_X3_isStep ⟨rfl, rfl⟩ ⟨Nat.le_of_ble_eq_true rfl, Nat.le_of_ble_eq_true rfl⟩ rfl hl.1 rfl (Nat.le_of_ble_eq_true rfl) dX3_apart_25 ⟨Nat.zero_le _, Nat.zero_le _⟩) (fun r25 H locs hq hW => ?_)
      try dsimp only at hq
      refine lv_if_ne (tgt := 34) hC.x hC.b dX3_apart_28 (by decide) (fun hc9 => ?_) (fun hc9 => ?_)
      · replace hq := hq.1 hc9
        refine lv_iload_n hC.x hC.b dX3_apart_34 rfl (lv_at hl 3 rfl) ?_
        refine lv_aload_n hC.x hC.b dX3_apart_35 rfl (lv_at hl 0 rfl) ?_
        refine hc_get (v := .ref hc) hC hW 0 3 0 inX3 rfl rfl (by decide) q_15 rfl dX3_apart_36 ?_
        refine lv_iload_n hC.x hC.b dX3_apart_39 rfl (lv_at hl 1 rfl) ?_
        refine hc_goI hC hW (hc_rV hC (c_X0_firstP l D cy cz t1 t2 hc ac x1 wc16 _ hq) (hc_preS hC hW [1, 2, 3, 4, 5, 6, 7, 8, 9, 10, 11, 12, 13, 14] rfl rfl) hW 1 0 rfl rfl q_276 q_277 q_278 q_14 q_279 hd_X0_firstP ⟨rfl, rfl⟩ ⟨Nat.le_of_ble_eq_true rfl, Nat.le_of_ble_eq_true rfl⟩ rfl hl.1 rfl (Nat.le_of_ble_eq_true rfl) dX3_apart_40 ⟨Nat.zero_le _, Nat.zero_le _⟩) [1, 2, 3, 4, 5, 6, 7, 8, 9, 10, 11, 12, 13, 14] [0] [0, 1, 2, 3, 4, 5, 6, 7, 8, 9, 10, 11, 12, 13, 14] (cH hh hc hi hj hs ht wh) (fun u => (cH hh hc hi hj hs ht wh ++ (cC cy hc ac u))) rfl rfl (by decide) (by decide) (by decide) (fun u => rfl) (fun r40 u9 H locs hq hW => ?_)
        obtain ⟨wc40, rfl⟩ : ∃ z, z = u9 := ⟨_, rfl⟩
        try dsimp only at hq hW
        refine lv_aload_n hC.x hC.b dX3_apart_43 rfl (lv_at hl 0 rfl) ?_
        refine hc_get (v := .ref hc) hC hW 0 3 0 inX3 rfl rfl (by decide) q_15 rfl dX3_apart_44 ?_
        refine lv_iload_n hC.x hC.b dX3_apart_47 rfl (lv_at hl 1 rfl) ?_
        refine hc_goI hC hW (hc_rV hC (c_X0_firstQ l D cy cz t1 t2 hc ac x1 wc40 _ hq) (hc_preS hC hW [1, 2, 3, 4, 5, 6, 7, 8, 9, 10, 11, 12, 13, 14] rfl rfl) hW 1 0 rfl rfl q_281 q_282 q_283 q_14 q_284 hd_X0_firstQ ⟨rfl, rfl⟩ ⟨Nat.le_of_ble_eq_true rfl, Nat.le_of_ble_eq_true rfl⟩ rfl hl.1 rfl (Nat.le_of_ble_eq_true rfl) dX3_apart_48 ⟨Nat.zero_le _, Nat.zero_le _⟩) [1, 2, 3, 4, 5, 6, 7, 8, 9, 10, 11, 12, 13, 14] [0] [0, 1, 2, 3, 4, 5, 6, 7, 8, 9, 10, 11, 12, 13, 14] (cH hh hc hi hj hs ht wh) (fun u => (cH hh hc hi hj hs ht wh ++ (cC cy hc ac u))) rfl rfl (by decide) (by decide) (by decide) (fun u => rfl) (fun r48 u9 H locs hq hW => ?_)
        obtain ⟨wc48, rfl⟩ : ∃ z, z = u9 := ⟨_, rfl⟩
        try dsimp only at hq hW
        refine hc_goP hC hW (hc_rS hC (c_X3_acrossOf l D cy cz t1 t2 x3 r40 r48 _ hq) (hc_preP hC hW) q_511 q_405 q_2 q_406 hd_X3_acrossOf ⟨rfl, rfl⟩ ⟨Nat.le_of_ble_eq_true rfl, Nat.le_of_ble_eq_true rfl⟩ rfl hl.1 rfl (Nat.le_of_ble_eq_true rfl) dX3_apart_51 ⟨Nat.zero_le _, Nat.zero_le _⟩) (fun r51 H locs hq hW => ?_)
        try dsimp only at hq
        refine lv_iload_n hC.x hC.b dX3_apart_54 rfl (lv_at hl 3 rfl) ?_
        refine lv_aload_n hC.x hC.b dX3_apart_55 rfl (lv_at hl 0 rfl) ?_
        refine hc_get (v := .ref hc) hC hW 0 3 0 inX3 rfl rfl (by decide) q_15 rfl dX3_apart_56 ?_
        refine lv_iload_n hC.x hC.b dX3_apart_59 rfl (lv_at hl 2 rfl) ?_
        refine hc_goI hC hW (hc_rV hC (c_X0_firstP l D cy cz t1 t2 hc ac x2 wc48 _ hq) (hc_preS hC hW [1, 2, 3, 4, 5, 6, 7, 8, 9, 10, 11, 12, 13, 14] rfl rfl) hW 1 0 rfl rfl q_276 q_277 q_278 q_14 q_279 hd_X0_firstP ⟨rfl, rfl⟩ ⟨Nat.le_of_ble_eq_true rfl, Nat.le_of_ble_eq_true rfl⟩ rfl hl.1 rfl (Nat.le_of_ble_eq_true rfl) dX3_apart_60 ⟨Nat.zero_le _, Nat.zero_le _⟩) [1, 2, 3, 4, 5, 6, 7, 8, 9, 10, 11, 12, 13, 14] [0] [0, 1, 2, 3, 4, 5, 6, 7, 8, 9, 10, 11, 12, 13, 14] (cH hh hc hi hj hs ht wh) (fun u => (cH hh hc hi hj hs ht wh ++ (cC cy hc ac u))) rfl rfl (by decide) (by decide) (by decide) (fun u => rfl) (fun r60 u9 H locs hq hW => ?_)
        obtain ⟨wc60, rfl⟩ : ∃ z, z = u9 := ⟨_, rfl⟩
        try dsimp only at hq hW
        refine lv_aload_n hC.x hC.b dX3_apart_63 rfl (lv_at hl 0 rfl) ?_
        refine hc_get (v := .ref hc) hC hW 0 3 0 inX3 rfl rfl (by decide) q_15 rfl dX3_apart_64 ?_
        refine lv_iload_n hC.x hC.b dX3_apart_67 rfl (lv_at hl 2 rfl) ?_
        refine hc_goI hC hW (hc_rV hC (c_X0_firstQ l D cy cz t1 t2 hc ac x2 wc60 _ hq) (hc_preS hC hW [1, 2, 3, 4, 5, 6, 7, 8, 9, 10, 11, 12, 13, 14] rfl rfl) hW 1 0 rfl rfl q_281 q_282 q_283 q_14 q_284 hd_X0_firstQ ⟨rfl, rfl⟩ ⟨Nat.le_of_ble_eq_true rfl, Nat.le_of_ble_eq_true rfl⟩ rfl hl.1 rfl (Nat.le_of_ble_eq_true rfl) dX3_apart_68 ⟨Nat.zero_le _, Nat.zero_le _⟩) [1, 2, 3, 4, 5, 6, 7, 8, 9, 10, 11, 12, 13, 14] [0] [0, 1, 2, 3, 4, 5, 6, 7, 8, 9, 10, 11, 12, 13, 14] (cH hh hc hi hj hs ht wh) (fun u => (cH hh hc hi hj hs ht wh ++ (cC cy hc ac u))) rfl rfl (by decide) (by decide) (by decide) (fun u => rfl) (fun r68 u9 H locs hq hW => ?_)
        obtain ⟨wc68, rfl⟩ : ∃ z, z = u9 := ⟨_, rfl⟩
        try dsimp only at hq hW
        refine hc_goP hC hW (hc_rS hC (c_X3_acrossOf l D cy cz t1 t2 x3 r60 r68 _ hq) (hc_preP hC hW) q_511 q_405 q_2 q_406 hd_X3_acrossOf ⟨rfl, rfl⟩ ⟨Nat.le_of_ble_eq_true rfl, Nat.le_of_ble_eq_true rfl⟩ rfl hl.1 rfl (Nat.le_of_ble_eq_true rfl) dX3_apart_71 ⟨Nat.zero_le _, Nat.zero_le _⟩) (fun r71 H locs hq hW => ?_)
        try dsimp only at hq
        refine lv_isub hC.x hC.b dX3_apart_74 ?_
        refine lv_istore (lv' := [(4, .int (r51 - r71)), (0, .ref hh), (1, .int x1), (2, .int x2), (3, .int x3)]) hC.x hC.b dX3_apart_75 hl (by decide) rfl (fun ls hl => ?_)
        refine lv_iload_n hC.x hC.b dX3_apart_77 rfl (lv_at hl 4 rfl) ?_
        refine lv_aload_n hC.x hC.b dX3_apart_78 rfl (lv_at hl 1 rfl) ?_
        refine hc_get (v := .ref hc) hC hW 0 3 0 inX3 rfl rfl (by decide) q_15 rfl dX3_apart_79 ?_
        refine lv_iload_n hC.x hC.b dX3_apart_82 rfl (lv_at hl 2 rfl) ?_
        refine hc_goI hC hW (hc_rV hC (c_X0_firstQ l D cy cz t1 t2 hc ac x1 wc68 _ hq) (hc_preS hC hW [1, 2, 3, 4, 5, 6, 7, 8, 9, 10, 11, 12, 13, 14] rfl rfl) hW 1 0 rfl rfl q_281 q_282 q_283 q_14 q_284 hd_X0_firstQ ⟨rfl, rfl⟩ ⟨Nat.le_of_ble_eq_true rfl, Nat.le_of_ble_eq_true rfl⟩ rfl hl.1 rfl (Nat.le_of_ble_eq_true rfl) dX3_apart_83 ⟨Nat.zero_le _, Nat.zero_le _⟩) [1, 2, 3, 4, 5, 6, 7, 8, 9, 10, 11, 12, 13, 14] [0] [0, 1, 2, 3, 4, 5, 6, 7, 8, 9, 10, 11, 12, 13, 14] (cH hh hc hi hj hs ht wh) (fun u => (cH hh hc hi hj hs ht wh ++ (cC cy hc ac u))) rfl rfl (by decide) (by decide) (by decide) (fun u => rfl) (fun r83 u9 H locs hq hW => ?_)
        obtain ⟨wc83, rfl⟩ : ∃ z, z = u9 := ⟨_, rfl⟩
        try dsimp only at hq hW
        refine hc_goP hC hW (hc_rS hC (c_X3_upOf l D cy cz t1 t2 x3 r83 _ hq) (hc_preP hC hW) q_512 q_416 q_2 q_417 hd_X3_upOf ⟨rfl, rfl⟩ ⟨Nat.le_of_ble_eq_true rfl, Nat.le_of_ble_eq_true rfl⟩ rfl hl.1 rfl (Nat.le_of_ble_eq_true rfl) dX3_apart_86 ⟨Nat.zero_le _, Nat.zero_le _⟩) (fun r86 H locs hq hW => ?_)
        try dsimp only at hq
        refine lv_iload_n hC.x hC.b dX3_apart_89 rfl (lv_at hl 4 rfl) ?_
        refine lv_aload_n hC.x hC.b dX3_apart_90 rfl (lv_at hl 1 rfl) ?_
        refine hc_get (v := .ref hc) hC hW 0 3 0 inX3 rfl rfl (by decide) q_15 rfl dX3_apart_91 ?_
        refine lv_iload_n hC.x hC.b dX3_apart_94 rfl (lv_at hl 3 rfl) ?_
        refine hc_goI hC hW (hc_rV hC (c_X0_firstQ l D cy cz t1 t2 hc ac x2 wc83 _ hq) (hc_preS hC hW [1, 2, 3, 4, 5, 6, 7, 8, 9, 10, 11, 12, 13, 14] rfl rfl) hW 1 0 rfl rfl q_281 q_282 q_283 q_14 q_284 hd_X0_firstQ ⟨rfl, rfl⟩ ⟨Nat.le_of_ble_eq_true rfl, Nat.le_of_ble_eq_true rfl⟩ rfl hl.1 rfl (Nat.le_of_ble_eq_true rfl) dX3_apart_95 ⟨Nat.zero_le _, Nat.zero_le _⟩) [1, 2, 3, 4, 5, 6, 7, 8, 9, 10, 11, 12, 13, 14] [0] [0, 1, 2, 3, 4, 5, 6, 7, 8, 9, 10, 11, 12, 13, 14] (cH hh hc hi hj hs ht wh) (fun u => (cH hh hc hi hj hs ht wh ++ (cC cy hc ac u))) rfl rfl (by decide) (by decide) (by decide) (fun u => rfl) (fun r95 u9 H locs hq hW => ?_)
        obtain ⟨wc95, rfl⟩ : ∃ z, z = u9 := ⟨_, rfl⟩
        try dsimp only at hq hW
        refine hc_goP hC hW (hc_rS hC (c_X3_upOf l D cy cz t1 t2 x3 r95 _ hq) (hc_preP hC hW) q_512 q_416 q_2 q_417 hd_X3_upOf ⟨rfl, rfl⟩ ⟨Nat.le_of_ble_eq_true rfl, Nat.le_of_ble_eq_true rfl⟩ rfl hl.1 rfl (Nat.le_of_ble_eq_true rfl) dX3_apart_98 ⟨Nat.zero_le _, Nat.zero_le _⟩) (fun r98 H locs hq hW => ?_)
        try dsimp only at hq
        refine lv_isub hC.x hC.b dX3_apart_101 ?_
        refine lv_istore (lv' := [(5, .int (r86 - r98)), (4, .int (r51 - r71)), (0, .ref hh), (1, .int x1), (2, .int x2), (3, .int x3)]) hC.x hC.b dX3_apart_102 hl (by decide) rfl (fun ls hl => ?_)
        refine lv_iload hC.x hC.b dX3_apart_104 (lv_at hl 1 rfl) ?_
        refine lv_iload hC.x hC.b dX3_apart_106 (lv_at hl 1 rfl) ?_
        refine lv_imul hC.x hC.b dX3_apart_108 ?_
        refine lv_iload hC.x hC.b dX3_apart_109 (lv_at hl 0 rfl) ?_
        refine lv_iload hC.x hC.b dX3_apart_111 (lv_at hl 0 rfl) ?_
        refine lv_imul hC.x hC.b dX3_apart_113 ?_
        refine lv_iadd hC.x hC.b dX3_apart_114 ?_
        exact hc_iret hC (wh, wc95) hW hq dX3_apart_115
      · replace hq := hq.2 hc9
        refine lv_bipush (v := (-2)) hC.x hC.b dX3_apart_31 (by decide) ?_
        exact hc_iret hC (wh, wc16) hW hq dX3_apart_33
    · replace hq := hq.2 hc9
      refine lv_iconst (v := (-1)) hC.x hC.b dX3_apart_22 (by decide) ?_
      exact hc_iret hC (wh, wc16) hW hq dX3_apart_23
def k_X3_isImage_9  (Q : Int32 → Prop)   : Prop :=
 (Q 1)
set_option maxHeartbeats 4000000 in
set_option maxRecDepth 100000 in
theorem B_X3_isImage_9 {l : Launch} {p : Program} {e : Env} {s : State} {m : MethodId} {args : Array Value} {below : List Frame} {meth : Method} {c : Code} {A : Nat → Prop} {D : va_G} {cy cz : ClassId} {t1 t2 : Nat}  (Q : Int32 → Prop)  (hC : Cx D cy cz t1 t2 p s m args meth c cX3_isImage 1 (some .boolean) RX3 A)   {H : Heap} {locs : List Loc} {ls : Array Slot} (hq : k_X3_isImage_9  Q  ) (hW : Wo D A s ([] : va_W) H locs) (hl : lv_has ls 1 []) : W p l e (rM 0 0) s m args below meth c H locs 0 0 (MQ below (QI D (S := Unit) (fun r u => Q r ) (fun _ => ([] : va_W)) A) args s 0 0 A) (F0 m 9 ls []) := by
  unfold k_X3_isImage_9 at hq
  refine lv_iconst (v := 1) hC.x hC.b dX3_isImage_9 (by decide) ?_
  refine lv_goto (tgt := 14) hC.x hC.b dX3_isImage_10 (by decide) ?_
  exact hc_zret hC () hW rfl hq dX3_isImage_14
def k_X3_isImage (x0 : Int32)  (Q : Int32 → Prop) : Prop :=
 ((x0 = 0 → (k_X3_isImage_9  Q )) ∧
 (¬ x0 = 0 → ((¬ x0 = 1 → (Q 0)) ∧
 (x0 = 1 → (k_X3_isImage_9  Q )))))
set_option maxHeartbeats 4000000 in
set_option maxRecDepth 100000 in
theorem c_X3_isImage (l : Launch) (D : va_G) (cy cz : ClassId) (t1 t2 : Nat)  (x0 : Int32)  (Q : Int32 → Prop) (hq : k_X3_isImage x0 Q) : Ct l D cy cz t1 t2 yX3_isImage cX3_isImage 1 (some .boolean) (rM 0 0) [.int x0] ([] : va_W) (QI D (S := Unit) (fun r u => Q r ) (fun _ => ([] : va_W))) := by
  refine Ct.of (own := RX3) (by decide) rfl (Nat.le_of_ble_eq_true rfl) ?_
  intro p e s m below meth c A ls hC hW hl
  unfold k_X3_isImage at hq
  have hl : lv_has ls 1 [(0, .int x0)] := hl
  refine lv_iload_n hC.x hC.b dX3_isImage_0 rfl (lv_at hl 0 rfl) ?_
  refine lv_if_eq (tgt := 9) hC.x hC.b dX3_isImage_1 (by decide) (fun hc9 => ?_) (fun hc9 => ?_)
  · replace hq := hq.1 hc9
    exact B_X3_isImage_9  Q  hC  hq hW (lv_sub hl [] rfl)
  · replace hq := hq.2 hc9
    refine lv_iload_n hC.x hC.b dX3_isImage_4 rfl (lv_at hl 0 rfl) ?_
    refine lv_iconst (v := 1) hC.x hC.b dX3_isImage_5 (by decide) ?_
    refine lv_icmp_ne (tgt := 13) hC.x hC.b dX3_isImage_6 (by decide) (fun hc9 => ?_) (fun hc9 => ?_)
    · replace hq := hq.1 hc9
      refine lv_iconst (v := 0) hC.x hC.b dX3_isImage_13 (by decide) ?_
      exact hc_zret hC () hW rfl hq dX3_isImage_14
    · replace hq := hq.2 hc9
      exact B_X3_isImage_9  Q  hC  hq hW (lv_sub hl [] rfl)
theorem c_X3_imageAt (l : Launch) (D : va_G) (cy cz : ClassId) (t1 t2 : Nat) (hh hc hi hj hs ht : Nat) (x1 : Int32) (wh : Wd) : Ct l D cy cz t1 t2 yX3_imageAt cX3_imageAt 2 (some (.object "HingeCards$Card")) (rM 0 0) [.ref hh, .int x1] (cH hh hc hi hj hs ht wh) (QR D (fun b => (x1 = 0 → b = hi) ∧ (¬ x1 = 0 → b = hj)) (cH hh hc hi hj hs ht wh)) := by
  refine Ct.of (own := RX3) (by decide) rfl (Nat.le_of_ble_eq_true rfl) ?_
  intro p e s m below meth c A ls hC hW hl
  have hl : lv_has ls 2 [(0, .ref hh), (1, .int x1)] := hl
  refine lv_iload_n hC.x hC.b dX3_imageAt_0 rfl (lv_at hl 1 rfl) ?_
  refine lv_if_ne (tgt := 11) hC.x hC.b dX3_imageAt_1 (by decide) (fun hc9 => ?_) (fun hc9 => ?_)
  · refine lv_aload_n hC.x hC.b dX3_imageAt_11 rfl (lv_at hl 0 rfl) ?_
    refine hc_get (v := .ref hj) hC hW 0 3 2 inX3 rfl rfl (by decide) q_17 rfl dX3_imageAt_12 ?_
    exact hc_aret hC ⟨_, rfl⟩ hW ⟨fun h => absurd h hc9, fun _ => rfl⟩ dX3_imageAt_15
  · refine lv_aload_n hC.x hC.b dX3_imageAt_4 rfl (lv_at hl 0 rfl) ?_
    refine hc_get (v := .ref hi) hC hW 0 3 1 inX3 rfl rfl (by decide) q_16 rfl dX3_imageAt_5 ?_
    refine lv_goto (tgt := 15) hC.x hC.b dX3_imageAt_8 (by decide) ?_
    exact hc_aret hC ⟨_, rfl⟩ hW ⟨fun _ => rfl, fun h => absurd hc9 h⟩ dX3_imageAt_15
def k_X3_image (x1 : Int32) (wh : Wd) (wc : Wd) (wi : Wd) (wj : Wd) (Q : Int32 → Wd → Wd → Wd → Wd → Prop) : Prop :=
 (k_X3_isImage x1 (fun r1 => ((¬ r1 = 0 → ((x1 = 0 → (k_X0_copyFrom wi wc (fun wi19 wc19 => (Q 1 (up2 wh 3 0 ((wh 3 0) ||| (1 <<< (x1 &&& 31)))) wc19 wi19 wj)))) ∧
 (¬ x1 = 0 → (k_X0_copyFrom wj wc (fun wj19 wc19 => (Q 1 (up2 wh 3 0 ((wh 3 0) ||| (1 <<< (x1 &&& 31)))) wc19 wi wj19)))))) ∧
 (r1 = 0 → (Q (-2) wh wc wi wj)))))
set_option maxHeartbeats 4000000 in
set_option maxRecDepth 100000 in
theorem c_X3_image (l : Launch) (D : va_G) (cy cz : ClassId) (t1 t2 : Nat) (hh : Nat) (hc : Nat) (hi : Nat) (hj : Nat) (hs : Nat) (ht : Nat) (ac : Nat → Nat) (ai : Nat → Nat) (aj : Nat → Nat) (x1 : Int32) (wh : Wd) (wc : Wd) (wi : Wd) (wj : Wd) (Q : Int32 → Wd → Wd → Wd → Wd → Prop) (hq : k_X3_image x1 wh wc wi wj Q) : Ct l D cy cz t1 t2 yX3_image cX3_image 2 (some .int) (rM 5 115) [.ref hh, .int x1] (cH hh hc hi hj hs ht wh ++ (cC cy hc ac wc ++ (cC cy hi ai wi ++ (cC cy hj aj wj)))) (QI D (S := Wd × Wd × Wd × Wd) (fun r u => Q r u.1 u.2.1 u.2.2.1 u.2.2.2) (fun u => (cH hh hc hi hj hs ht u.1 ++ (cC cy hc ac u.2.1 ++ (cC cy hi ai u.2.2.1 ++ (cC cy hj aj u.2.2.2)))))) := by
  refine Ct.of (own := RX3) (by decide) rfl (Nat.le_of_ble_eq_true rfl) ?_
  intro p e s m below meth c A ls hC hW hl
  unfold k_X3_image at hq
  have hl : lv_has ls 2 [(0, .ref hh), (1, .int x1)] := hl
  refine lv_iload_n hC.x hC.b dX3_image_0 rfl (lv_at hl 1 rfl) ?_
  refine hc_goP hC hW (hc_rS hC (c_X3_isImage l D cy cz t1 t2 x1 _ hq) (hc_preP hC hW) q_521 q_522 q_2 q_523 hd_X3_isImage ⟨rfl, rfl⟩ ⟨Nat.le_of_ble_eq_true rfl, Nat.le_of_ble_eq_true rfl⟩ rfl hl.1 rfl (Nat.le_of_ble_eq_true rfl) dX3_image_1 ⟨Nat.zero_le _, Nat.zero_le _⟩) (fun r1 H locs hq hW => ?_)
  try dsimp only at hq
  refine lv_if_ne (tgt := 10) hC.x hC.b dX3_image_4 (by decide) (fun hc9 => ?_) (fun hc9 => ?_)
  · replace hq := hq.1 hc9
    refine lv_aload_n hC.x hC.b dX3_image_10 rfl (lv_at hl 0 rfl) ?_
    refine lv_iload_n hC.x hC.b dX3_image_11 rfl (lv_at hl 1 rfl) ?_
    refine hc_goR (wc := cH hh hc hi hj hs ht wh) (post := fun b => (x1 = 0 → b = hi) ∧ (¬ x1 = 0 → b = hj)) hC hW (hc_rV (rest := []) hC (c_X3_imageAt l D cy cz t1 t2 hh hc hi hj hs ht x1 wh) (hc_preS hC hW [0] rfl rfl) hW 0 3 rfl rfl q_524 q_525 q_526 q_2 q_527 hd_X3_imageAt ⟨rfl, rfl⟩ ⟨Nat.le_of_ble_eq_true rfl, Nat.le_of_ble_eq_true rfl⟩ rfl hl.1 rfl (Nat.le_of_ble_eq_true rfl) dX3_image_12 ⟨Nat.zero_le _, Nat.zero_le _⟩) [0] [1, 2, 3, 4, 5, 6, 7, 8, 9, 10, 11, 12, 13, 14, 15, 16, 17, 18, 19, 20, 21, 22, 23, 24, 25, 26, 27, 28, 29, 30, 31, 32, 33, 34, 35, 36, 37, 38, 39, 40, 41, 42] [42, 0, 1, 2, 3, 4, 5, 6, 7, 8, 9, 10, 11, 12, 13, 14, 15, 16, 17, 18, 19, 20, 21, 22, 23, 24, 25, 26, 27, 28, 29, 30, 31, 32, 33, 34, 35, 36, 37, 38, 39, 40, 41] (cC cy hc ac wc ++ (cC cy hi ai wi ++ (cC cy hj aj wj))) rfl rfl (by decide) (by decide) (by decide) rfl (fun b9 H locs hb9 hW => ?_)
    by_cases hk9 : x1 = 0
    · rw [hb9.1 hk9]
      replace hq := hq.1 hk9
      refine lv_aload_n hC.x hC.b dX3_image_15 rfl (lv_at hl 0 rfl) ?_
      refine hc_get (v := .ref hc) hC hW 0 3 0 inX3 rfl rfl (by decide) q_15 rfl dX3_image_16 ?_
      refine hc_goV hC hW (hc_rV hC (c_X0_copyFrom l D cy cz t1 t2 hi ai hc ac wi wc _ hq) (hc_preS hC hW [15, 16, 17, 18, 19, 20, 21, 22, 23, 24, 25, 26, 27, 28, 1, 2, 3, 4, 5, 6, 7, 8, 9, 10, 11, 12, 13, 14] rfl rfl) hW 15 0 rfl rfl q_528 q_529 q_530 q_14 q_531 hd_X0_copyFrom ⟨rfl, rfl⟩ ⟨Nat.le_of_ble_eq_true rfl, Nat.le_of_ble_eq_true rfl⟩ rfl hl.1 rfl (Nat.le_of_ble_eq_true rfl) dX3_image_19 ⟨Nat.zero_le _, Nat.zero_le _⟩) [15, 16, 17, 18, 19, 20, 21, 22, 23, 24, 25, 26, 27, 28, 1, 2, 3, 4, 5, 6, 7, 8, 9, 10, 11, 12, 13, 14] [0, 29, 30, 31, 32, 33, 34, 35, 36, 37, 38, 39, 40, 41, 42] [0, 29, 30, 31, 32, 33, 34, 35, 36, 37, 38, 39, 40, 41, 42, 15, 16, 17, 18, 19, 20, 21, 22, 23, 24, 25, 26, 27, 28, 1, 2, 3, 4, 5, 6, 7, 8, 9, 10, 11, 12, 13, 14] (cH hh hc hi hj hs ht wh ++ (cC cy hj aj wj)) (fun u => (cH hh hc hi hj hs ht wh ++ (cC cy hc ac u.2 ++ (cC cy hi ai u.1 ++ (cC cy hj aj wj))))) rfl rfl (by decide) (by decide) (by decide) (fun u => rfl) (fun u9 H locs hq hW => ?_)
      obtain ⟨wi19, wc19⟩ := u9
      try dsimp only at hq hW
      refine lv_aload_n hC.x hC.b dX3_image_22 rfl (lv_at hl 0 rfl) ?_
      refine lv_dup hC.x hC.b dX3_image_23 rfl ?_
      refine hc_get (v := .int (wh 3 0)) hC hW 0 3 3 inX3 rfl rfl (by decide) q_18 rfl dX3_image_24 ?_
      refine lv_iconst (v := 1) hC.x hC.b dX3_image_27 (by decide) ?_
      refine lv_iload_n hC.x hC.b dX3_image_28 rfl (lv_at hl 1 rfl) ?_
      refine lv_ishl hC.x hC.b dX3_image_29 ?_
      refine lv_ior hC.x hC.b dX3_image_30 ?_
      refine hc_put (ws' := (cH hh hc hi hj hs ht (up2 wh 3 0 ((wh 3 0) ||| (1 <<< (x1 &&& 31)))) ++ (cC cy hc ac wc19 ++ (cC cy hi ai wi19 ++ (cC cy hj aj wj))))) hC hW 0 3 3 inX3 tyX3 tyX3_ok nmX3 rfl rfl (by decide) q_18 rfl rfl rfl rfl (Nat.le_of_ble_eq_true rfl) rfl dX3_image_31 (fun H locs hW => ?_)
      refine lv_iconst (v := 1) hC.x hC.b dX3_image_34 (by decide) ?_
      exact hc_iret hC ((up2 wh 3 0 ((wh 3 0) ||| (1 <<< (x1 &&& 31)))), wc19, wi19, wj) hW hq dX3_image_35
    · rw [hb9.2 hk9]
      replace hq := hq.2 hk9
      refine lv_aload_n hC.x hC.b dX3_image_15 rfl (lv_at hl 0 rfl) ?_
      refine hc_get (v := .ref hc) hC hW 0 3 0 inX3 rfl rfl (by decide) q_15 rfl dX3_image_16 ?_
      refine hc_goV hC hW (hc_rV hC (c_X0_copyFrom l D cy cz t1 t2 hj aj hc ac wj wc _ hq) (hc_preS hC hW [29, 30, 31, 32, 33, 34, 35, 36, 37, 38, 39, 40, 41, 42, 1, 2, 3, 4, 5, 6, 7, 8, 9, 10, 11, 12, 13, 14] rfl rfl) hW 29 0 rfl rfl q_528 q_529 q_530 q_14 q_531 hd_X0_copyFrom ⟨rfl, rfl⟩ ⟨Nat.le_of_ble_eq_true rfl, Nat.le_of_ble_eq_true rfl⟩ rfl hl.1 rfl (Nat.le_of_ble_eq_true rfl) dX3_image_19 ⟨Nat.zero_le _, Nat.zero_le _⟩) [29, 30, 31, 32, 33, 34, 35, 36, 37, 38, 39, 40, 41, 42, 1, 2, 3, 4, 5, 6, 7, 8, 9, 10, 11, 12, 13, 14] [0, 15, 16, 17, 18, 19, 20, 21, 22, 23, 24, 25, 26, 27, 28] [0, 29, 30, 31, 32, 33, 34, 35, 36, 37, 38, 39, 40, 41, 42, 1, 2, 3, 4, 5, 6, 7, 8, 9, 10, 11, 12, 13, 14, 15, 16, 17, 18, 19, 20, 21, 22, 23, 24, 25, 26, 27, 28] (cH hh hc hi hj hs ht wh ++ (cC cy hi ai wi)) (fun u => (cH hh hc hi hj hs ht wh ++ (cC cy hc ac u.2 ++ (cC cy hi ai wi ++ (cC cy hj aj u.1))))) rfl rfl (by decide) (by decide) (by decide) (fun u => rfl) (fun u9 H locs hq hW => ?_)
      obtain ⟨wj19, wc19⟩ := u9
      try dsimp only at hq hW
      refine lv_aload_n hC.x hC.b dX3_image_22 rfl (lv_at hl 0 rfl) ?_
      refine lv_dup hC.x hC.b dX3_image_23 rfl ?_
      refine hc_get (v := .int (wh 3 0)) hC hW 0 3 3 inX3 rfl rfl (by decide) q_18 rfl dX3_image_24 ?_
      refine lv_iconst (v := 1) hC.x hC.b dX3_image_27 (by decide) ?_
      refine lv_iload_n hC.x hC.b dX3_image_28 rfl (lv_at hl 1 rfl) ?_
      refine lv_ishl hC.x hC.b dX3_image_29 ?_
      refine lv_ior hC.x hC.b dX3_image_30 ?_
      refine hc_put (ws' := (cH hh hc hi hj hs ht (up2 wh 3 0 ((wh 3 0) ||| (1 <<< (x1 &&& 31)))) ++ (cC cy hc ac wc19 ++ (cC cy hi ai wi ++ (cC cy hj aj wj19))))) hC hW 0 3 3 inX3 tyX3 tyX3_ok nmX3 rfl rfl (by decide) q_18 rfl rfl rfl rfl (Nat.le_of_ble_eq_true rfl) rfl dX3_image_31 (fun H locs hW => ?_)
      refine lv_iconst (v := 1) hC.x hC.b dX3_image_34 (by decide) ?_
      exact hc_iret hC ((up2 wh 3 0 ((wh 3 0) ||| (1 <<< (x1 &&& 31)))), wc19, wi, wj19) hW hq dX3_image_35
  · replace hq := hq.2 hc9
    refine lv_bipush (v := (-2)) hC.x hC.b dX3_image_7 (by decide) ?_
    exact hc_iret hC (wh, wc, wi, wj) hW hq dX3_image_9
def k_X3_restore (x1 : Int32) (wh : Wd) (wc : Wd) (wi : Wd) (wj : Wd) (Q : Int32 → Wd → Wd → Wd → Wd → Prop) : Prop :=
 (k_X3_isImage x1 (fun r1 => ((¬ r1 = 0 → (k_X3_isBit (wh 3 0) x1 (fun r15 => ((¬ r15 = 0 → ((x1 = 0 → (k_X0_copyFrom wc wi (fun wc33 wi33 => (Q 1 wh wc33 wi33 wj)))) ∧
 (¬ x1 = 0 → (k_X0_copyFrom wc wj (fun wc33 wj33 => (Q 1 wh wc33 wi wj33)))))) ∧
 (r15 = 0 → (Q (-3) wh wc wi wj)))))) ∧
 (r1 = 0 → (Q (-2) wh wc wi wj)))))
set_option maxHeartbeats 4000000 in
set_option maxRecDepth 100000 in
theorem c_X3_restore (l : Launch) (D : va_G) (cy cz : ClassId) (t1 t2 : Nat) (hh : Nat) (hc : Nat) (hi : Nat) (hj : Nat) (hs : Nat) (ht : Nat) (ac : Nat → Nat) (ai : Nat → Nat) (aj : Nat → Nat) (x1 : Int32) (wh : Wd) (wc : Wd) (wi : Wd) (wj : Wd) (Q : Int32 → Wd → Wd → Wd → Wd → Prop) (hq : k_X3_restore x1 wh wc wi wj Q) : Ct l D cy cz t1 t2 yX3_restore cX3_restore 2 (some .int) (rM 5 115) [.ref hh, .int x1] (cH hh hc hi hj hs ht wh ++ (cC cy hc ac wc ++ (cC cy hi ai wi ++ (cC cy hj aj wj)))) (QI D (S := Wd × Wd × Wd × Wd) (fun r u => Q r u.1 u.2.1 u.2.2.1 u.2.2.2) (fun u => (cH hh hc hi hj hs ht u.1 ++ (cC cy hc ac u.2.1 ++ (cC cy hi ai u.2.2.1 ++ (cC cy hj aj u.2.2.2)))))) := by
  refine Ct.of (own := RX3) (by decide) rfl (Nat.le_of_ble_eq_true rfl) ?_
  intro p e s m below meth c A ls hC hW hl
  unfold k_X3_restore at hq
  have hl : lv_has ls 2 [(0, .ref hh), (1, .int x1)] := hl
  refine lv_iload_n hC.x hC.b dX3_restore_0 rfl (lv_at hl 1 rfl) ?_
  refine hc_goP hC hW (hc_rS hC (c_X3_isImage l D cy cz t1 t2 x1 _ hq) (hc_preP hC hW) q_521 q_522 q_2 q_523 hd_X3_isImage ⟨rfl, rfl⟩ ⟨Nat.le_of_ble_eq_true rfl, Nat.le_of_ble_eq_true rfl⟩ rfl hl.1 rfl (Nat.le_of_ble_eq_true rfl) dX3_restore_1 ⟨Nat.zero_le _, Nat.zero_le _⟩) (fun r1 H locs hq hW => ?_)
  try dsimp only at hq
  refine lv_if_ne (tgt := 10) hC.x hC.b dX3_restore_4 (by decide) (fun hc9 => ?_) (fun hc9 => ?_)
  · replace hq := hq.1 hc9
    refine lv_aload_n hC.x hC.b dX3_restore_10 rfl (lv_at hl 0 rfl) ?_
    refine hc_get (v := .int (wh 3 0)) hC hW 0 3 3 inX3 rfl rfl (by decide) q_18 rfl dX3_restore_11 ?_
    refine lv_iload_n hC.x hC.b dX3_restore_14 rfl (lv_at hl 1 rfl) ?_
    refine hc_goP hC hW (hc_rS hC (c_X3_isBit l D cy cz t1 t2 (wh 3 0) x1 _ hq) (hc_preP hC hW) q_541 q_154 q_2 q_155 hd_X3_isBit ⟨rfl, rfl⟩ ⟨Nat.le_of_ble_eq_true rfl, Nat.le_of_ble_eq_true rfl⟩ rfl hl.1 rfl (Nat.le_of_ble_eq_true rfl) dX3_restore_15 ⟨Nat.zero_le _, Nat.zero_le _⟩) (fun r15 H locs hq hW => ?_)
    try dsimp only at hq
    refine lv_if_ne (tgt := 24) hC.x hC.b dX3_restore_18 (by decide) (fun hc9 => ?_) (fun hc9 => ?_)
    · replace hq := hq.1 hc9
      refine lv_aload_n hC.x hC.b dX3_restore_24 rfl (lv_at hl 0 rfl) ?_
      refine hc_get (v := .ref hc) hC hW 0 3 0 inX3 rfl rfl (by decide) q_15 rfl dX3_restore_25 ?_
      refine lv_aload_n hC.x hC.b dX3_restore_28 rfl (lv_at hl 0 rfl) ?_
      refine lv_iload_n hC.x hC.b dX3_restore_29 rfl (lv_at hl 1 rfl) ?_
      refine hc_goR (wc := cH hh hc hi hj hs ht wh) (post := fun b => (x1 = 0 → b = hi) ∧ (¬ x1 = 0 → b = hj)) hC hW (hc_rV (rest := [.ref hc]) hC (c_X3_imageAt l D cy cz t1 t2 hh hc hi hj hs ht x1 wh) (hc_preS hC hW [0] rfl rfl) hW 0 3 rfl rfl q_524 q_525 q_526 q_2 q_527 hd_X3_imageAt ⟨rfl, rfl⟩ ⟨Nat.le_of_ble_eq_true rfl, Nat.le_of_ble_eq_true rfl⟩ rfl hl.1 rfl (Nat.le_of_ble_eq_true rfl) dX3_restore_30 ⟨Nat.zero_le _, Nat.zero_le _⟩) [0] [1, 2, 3, 4, 5, 6, 7, 8, 9, 10, 11, 12, 13, 14, 15, 16, 17, 18, 19, 20, 21, 22, 23, 24, 25, 26, 27, 28, 29, 30, 31, 32, 33, 34, 35, 36, 37, 38, 39, 40, 41, 42] [42, 0, 1, 2, 3, 4, 5, 6, 7, 8, 9, 10, 11, 12, 13, 14, 15, 16, 17, 18, 19, 20, 21, 22, 23, 24, 25, 26, 27, 28, 29, 30, 31, 32, 33, 34, 35, 36, 37, 38, 39, 40, 41] (cC cy hc ac wc ++ (cC cy hi ai wi ++ (cC cy hj aj wj))) rfl rfl (by decide) (by decide) (by decide) rfl (fun b9 H locs hb9 hW => ?_)
      by_cases hk9 : x1 = 0
      · rw [hb9.1 hk9]
        replace hq := hq.1 hk9
        refine hc_goV hC hW (hc_rV hC (c_X0_copyFrom l D cy cz t1 t2 hc ac hi ai wc wi _ hq) (hc_preS hC hW [1, 2, 3, 4, 5, 6, 7, 8, 9, 10, 11, 12, 13, 14, 15, 16, 17, 18, 19, 20, 21, 22, 23, 24, 25, 26, 27, 28] rfl rfl) hW 1 0 rfl rfl q_528 q_529 q_530 q_14 q_531 hd_X0_copyFrom ⟨rfl, rfl⟩ ⟨Nat.le_of_ble_eq_true rfl, Nat.le_of_ble_eq_true rfl⟩ rfl hl.1 rfl (Nat.le_of_ble_eq_true rfl) dX3_restore_33 ⟨Nat.zero_le _, Nat.zero_le _⟩) [1, 2, 3, 4, 5, 6, 7, 8, 9, 10, 11, 12, 13, 14, 15, 16, 17, 18, 19, 20, 21, 22, 23, 24, 25, 26, 27, 28] [0, 29, 30, 31, 32, 33, 34, 35, 36, 37, 38, 39, 40, 41, 42] [0, 15, 16, 17, 18, 19, 20, 21, 22, 23, 24, 25, 26, 27, 28, 29, 30, 31, 32, 33, 34, 35, 36, 37, 38, 39, 40, 41, 42, 1, 2, 3, 4, 5, 6, 7, 8, 9, 10, 11, 12, 13, 14] (cH hh hc hi hj hs ht wh ++ (cC cy hj aj wj)) (fun u => (cH hh hc hi hj hs ht wh ++ (cC cy hc ac u.1 ++ (cC cy hi ai u.2 ++ (cC cy hj aj wj))))) rfl rfl (by decide) (by decide) (by decide) (fun u => rfl) (fun u9 H locs hq hW => ?_)
        obtain ⟨wc33, wi33⟩ := u9
        try dsimp only at hq hW
        refine lv_iconst (v := 1) hC.x hC.b dX3_restore_36 (by decide) ?_
        exact hc_iret hC (wh, wc33, wi33, wj) hW hq dX3_restore_37
      · rw [hb9.2 hk9]
        replace hq := hq.2 hk9
        refine hc_goV hC hW (hc_rV hC (c_X0_copyFrom l D cy cz t1 t2 hc ac hj aj wc wj _ hq) (hc_preS hC hW [1, 2, 3, 4, 5, 6, 7, 8, 9, 10, 11, 12, 13, 14, 29, 30, 31, 32, 33, 34, 35, 36, 37, 38, 39, 40, 41, 42] rfl rfl) hW 1 0 rfl rfl q_528 q_529 q_530 q_14 q_531 hd_X0_copyFrom ⟨rfl, rfl⟩ ⟨Nat.le_of_ble_eq_true rfl, Nat.le_of_ble_eq_true rfl⟩ rfl hl.1 rfl (Nat.le_of_ble_eq_true rfl) dX3_restore_33 ⟨Nat.zero_le _, Nat.zero_le _⟩) [1, 2, 3, 4, 5, 6, 7, 8, 9, 10, 11, 12, 13, 14, 29, 30, 31, 32, 33, 34, 35, 36, 37, 38, 39, 40, 41, 42] [0, 15, 16, 17, 18, 19, 20, 21, 22, 23, 24, 25, 26, 27, 28] [0, 15, 16, 17, 18, 19, 20, 21, 22, 23, 24, 25, 26, 27, 28, 1, 2, 3, 4, 5, 6, 7, 8, 9, 10, 11, 12, 13, 14, 29, 30, 31, 32, 33, 34, 35, 36, 37, 38, 39, 40, 41, 42] (cH hh hc hi hj hs ht wh ++ (cC cy hi ai wi)) (fun u => (cH hh hc hi hj hs ht wh ++ (cC cy hc ac u.1 ++ (cC cy hi ai wi ++ (cC cy hj aj u.2))))) rfl rfl (by decide) (by decide) (by decide) (fun u => rfl) (fun u9 H locs hq hW => ?_)
        obtain ⟨wc33, wj33⟩ := u9
        try dsimp only at hq hW
        refine lv_iconst (v := 1) hC.x hC.b dX3_restore_36 (by decide) ?_
        exact hc_iret hC (wh, wc33, wi, wj33) hW hq dX3_restore_37
    · replace hq := hq.2 hc9
      refine lv_bipush (v := (-3)) hC.x hC.b dX3_restore_21 (by decide) ?_
      exact hc_iret hC (wh, wc, wi, wj) hW hq dX3_restore_23
  · replace hq := hq.2 hc9
    refine lv_bipush (v := (-2)) hC.x hC.b dX3_restore_7 (by decide) ?_
    exact hc_iret hC (wh, wc, wi, wj) hW hq dX3_restore_9
def k_X3_count (x1 : Int32) (wh : Wd) (wc : Wd) (Q : Int32 → Wd → Wd → Prop) : Prop :=
 ((x1 = 0 → (Q (wc 1 0) wh wc)) ∧
 (x1 = 1 → (k_X0_faces wc (fun r56 wc56 => (Q r56 wh wc56)))) ∧
 (x1 = 2 → (k_X0_corners wc (fun r64 wc64 => (Q r64 wh wc64)))) ∧
 (x1 = 3 → (Q (wc 0 0) wh wc)) ∧
 (x1 = 4 → (k_X0_sumOfSizes wc (fun r80 wc80 => (Q r80 wh wc80)))) ∧
 (x1 = 5 → (k_X0_placesOnFaces wc (fun r88 wc88 => (Q r88 wh wc88)))) ∧
 (x1 = 6 → (Q (wh 3 0) wh wc)) ∧
 ((¬ x1 = 0 ∧ ¬ x1 = 1 ∧ ¬ x1 = 2 ∧ ¬ x1 = 3 ∧ ¬ x1 = 4 ∧ ¬ x1 = 5 ∧ ¬ x1 = 6) → (Q (-2) wh wc)))
set_option maxHeartbeats 4000000 in
set_option maxRecDepth 100000 in
theorem c_X3_count (l : Launch) (D : va_G) (cy cz : ClassId) (t1 t2 : Nat) (hh : Nat) (hc : Nat) (hi : Nat) (hj : Nat) (hs : Nat) (ht : Nat) (ac : Nat → Nat) (x1 : Int32) (wh : Wd) (wc : Wd) (Q : Int32 → Wd → Wd → Prop) (hq : k_X3_count x1 wh wc Q) : Ct l D cy cz t1 t2 yX3_count cX3_count 2 (some .int) (rM 2 45) [.ref hh, .int x1] (cH hh hc hi hj hs ht wh ++ (cC cy hc ac wc)) (QI D (S := Wd × Wd) (fun r u => Q r u.1 u.2) (fun u => (cH hh hc hi hj hs ht u.1 ++ (cC cy hc ac u.2)))) := by
  refine Ct.of (own := RX3) (by decide) rfl (Nat.le_of_ble_eq_true rfl) ?_
  intro p e s m below meth c A ls hC hW hl
  unfold k_X3_count at hq
  have hl : lv_has ls 2 [(0, .ref hh), (1, .int x1)] := hl
  refine lv_iload_n hC.x hC.b dX3_count_0 rfl (lv_at hl 1 rfl) ?_
  by_cases hs0 : x1 = 0
  · refine lv_tableIn (tgt := 44) hC.x hC.b dX3_count_1 (by rw [hs0]; decide) (by rw [hs0]; decide) (by rw [hs0]; rfl) (by decide) ?_
    replace hq := hq.1 hs0
    refine lv_aload_n hC.x hC.b dX3_count_44 rfl (lv_at hl 0 rfl) ?_
    refine hc_get (v := .ref hc) hC hW 0 3 0 inX3 rfl rfl (by decide) q_15 rfl dX3_count_45 ?_
    refine hc_get (v := .int (wc 1 0)) hC hW 1 0 1 inX0 rfl rfl (by decide) q_110 rfl dX3_count_48 ?_
    exact hc_iret hC (wh, wc) hW hq dX3_count_51
  by_cases hs1 : x1 = 1
  · refine lv_tableIn (tgt := 52) hC.x hC.b dX3_count_1 (by rw [hs1]; decide) (by rw [hs1]; decide) (by rw [hs1]; rfl) (by decide) ?_
    replace hq := hq.2.1 hs1
    refine lv_aload_n hC.x hC.b dX3_count_52 rfl (lv_at hl 0 rfl) ?_
    refine hc_get (v := .ref hc) hC hW 0 3 0 inX3 rfl rfl (by decide) q_15 rfl dX3_count_53 ?_
    refine hc_goI hC hW (hc_rV hC (c_X0_faces l D cy cz t1 t2 hc ac wc _ hq) (hc_preS hC hW [1, 2, 3, 4, 5, 6, 7, 8, 9, 10, 11, 12, 13, 14] rfl rfl) hW 1 0 rfl rfl q_176 q_68 q_69 q_14 q_70 hd_X0_faces ⟨rfl, rfl⟩ ⟨Nat.le_of_ble_eq_true rfl, Nat.le_of_ble_eq_true rfl⟩ rfl hl.1 rfl (Nat.le_of_ble_eq_true rfl) dX3_count_56 ⟨Nat.zero_le _, Nat.zero_le _⟩) [1, 2, 3, 4, 5, 6, 7, 8, 9, 10, 11, 12, 13, 14] [0] [0, 1, 2, 3, 4, 5, 6, 7, 8, 9, 10, 11, 12, 13, 14] (cH hh hc hi hj hs ht wh) (fun u => (cH hh hc hi hj hs ht wh ++ (cC cy hc ac u))) rfl rfl (by decide) (by decide) (by decide) (fun u => rfl) (fun r56 u9 H locs hq hW => ?_)
    obtain ⟨wc56, rfl⟩ : ∃ z, z = u9 := ⟨_, rfl⟩
    try dsimp only at hq hW
    exact hc_iret hC (wh, wc56) hW hq dX3_count_59
  by_cases hs2 : x1 = 2
  · refine lv_tableIn (tgt := 60) hC.x hC.b dX3_count_1 (by rw [hs2]; decide) (by rw [hs2]; decide) (by rw [hs2]; rfl) (by decide) ?_
    replace hq := hq.2.2.1 hs2
    refine lv_aload_n hC.x hC.b dX3_count_60 rfl (lv_at hl 0 rfl) ?_
    refine hc_get (v := .ref hc) hC hW 0 3 0 inX3 rfl rfl (by decide) q_15 rfl dX3_count_61 ?_
    refine hc_goI hC hW (hc_rV hC (c_X0_corners l D cy cz t1 t2 hc ac wc _ hq) (hc_preS hC hW [1, 2, 3, 4, 5, 6, 7, 8, 9, 10, 11, 12, 13, 14] rfl rfl) hW 1 0 rfl rfl q_550 q_132 q_133 q_14 q_134 hd_X0_corners ⟨rfl, rfl⟩ ⟨Nat.le_of_ble_eq_true rfl, Nat.le_of_ble_eq_true rfl⟩ rfl hl.1 rfl (Nat.le_of_ble_eq_true rfl) dX3_count_64 ⟨Nat.zero_le _, Nat.zero_le _⟩) [1, 2, 3, 4, 5, 6, 7, 8, 9, 10, 11, 12, 13, 14] [0] [0, 1, 2, 3, 4, 5, 6, 7, 8, 9, 10, 11, 12, 13, 14] (cH hh hc hi hj hs ht wh) (fun u => (cH hh hc hi hj hs ht wh ++ (cC cy hc ac u))) rfl rfl (by decide) (by decide) (by decide) (fun u => rfl) (fun r64 u9 H locs hq hW => ?_)
    obtain ⟨wc64, rfl⟩ : ∃ z, z = u9 := ⟨_, rfl⟩
    try dsimp only at hq hW
    exact hc_iret hC (wh, wc64) hW hq dX3_count_67
  by_cases hs3 : x1 = 3
  · refine lv_tableIn (tgt := 68) hC.x hC.b dX3_count_1 (by rw [hs3]; decide) (by rw [hs3]; decide) (by rw [hs3]; rfl) (by decide) ?_
    replace hq := hq.2.2.2.1 hs3
    refine lv_aload_n hC.x hC.b dX3_count_68 rfl (lv_at hl 0 rfl) ?_
    refine hc_get (v := .ref hc) hC hW 0 3 0 inX3 rfl rfl (by decide) q_15 rfl dX3_count_69 ?_
    refine hc_get (v := .int (wc 0 0)) hC hW 1 0 0 inX0 rfl rfl (by decide) q_111 rfl dX3_count_72 ?_
    exact hc_iret hC (wh, wc) hW hq dX3_count_75
  by_cases hs4 : x1 = 4
  · refine lv_tableIn (tgt := 76) hC.x hC.b dX3_count_1 (by rw [hs4]; decide) (by rw [hs4]; decide) (by rw [hs4]; rfl) (by decide) ?_
    replace hq := hq.2.2.2.2.1 hs4
    refine lv_aload_n hC.x hC.b dX3_count_76 rfl (lv_at hl 0 rfl) ?_
    refine hc_get (v := .ref hc) hC hW 0 3 0 inX3 rfl rfl (by decide) q_15 rfl dX3_count_77 ?_
    refine hc_goI hC hW (hc_rV hC (c_X0_sumOfSizes l D cy cz t1 t2 hc ac wc _ hq) (hc_preS hC hW [1, 2, 3, 4, 5, 6, 7, 8, 9, 10, 11, 12, 13, 14] rfl rfl) hW 1 0 rfl rfl q_551 q_552 q_553 q_14 q_554 hd_X0_sumOfSizes ⟨rfl, rfl⟩ ⟨Nat.le_of_ble_eq_true rfl, Nat.le_of_ble_eq_true rfl⟩ rfl hl.1 rfl (Nat.le_of_ble_eq_true rfl) dX3_count_80 ⟨Nat.zero_le _, Nat.zero_le _⟩) [1, 2, 3, 4, 5, 6, 7, 8, 9, 10, 11, 12, 13, 14] [0] [0, 1, 2, 3, 4, 5, 6, 7, 8, 9, 10, 11, 12, 13, 14] (cH hh hc hi hj hs ht wh) (fun u => (cH hh hc hi hj hs ht wh ++ (cC cy hc ac u))) rfl rfl (by decide) (by decide) (by decide) (fun u => rfl) (fun r80 u9 H locs hq hW => ?_)
    obtain ⟨wc80, rfl⟩ : ∃ z, z = u9 := ⟨_, rfl⟩
    try dsimp only at hq hW
    exact hc_iret hC (wh, wc80) hW hq dX3_count_83
  by_cases hs5 : x1 = 5
  · refine lv_tableIn (tgt := 84) hC.x hC.b dX3_count_1 (by rw [hs5]; decide) (by rw [hs5]; decide) (by rw [hs5]; rfl) (by decide) ?_
    replace hq := hq.2.2.2.2.2.1 hs5
    refine lv_aload_n hC.x hC.b dX3_count_84 rfl (lv_at hl 0 rfl) ?_
    refine hc_get (v := .ref hc) hC hW 0 3 0 inX3 rfl rfl (by decide) q_15 rfl dX3_count_85 ?_
    refine hc_goI hC hW (hc_rV hC (c_X0_placesOnFaces l D cy cz t1 t2 hc ac wc _ hq) (hc_preS hC hW [1, 2, 3, 4, 5, 6, 7, 8, 9, 10, 11, 12, 13, 14] rfl rfl) hW 1 0 rfl rfl q_555 q_556 q_557 q_14 q_558 hd_X0_placesOnFaces ⟨rfl, rfl⟩ ⟨Nat.le_of_ble_eq_true rfl, Nat.le_of_ble_eq_true rfl⟩ rfl hl.1 rfl (Nat.le_of_ble_eq_true rfl) dX3_count_88 ⟨Nat.zero_le _, Nat.zero_le _⟩) [1, 2, 3, 4, 5, 6, 7, 8, 9, 10, 11, 12, 13, 14] [0] [0, 1, 2, 3, 4, 5, 6, 7, 8, 9, 10, 11, 12, 13, 14] (cH hh hc hi hj hs ht wh) (fun u => (cH hh hc hi hj hs ht wh ++ (cC cy hc ac u))) rfl rfl (by decide) (by decide) (by decide) (fun u => rfl) (fun r88 u9 H locs hq hW => ?_)
    obtain ⟨wc88, rfl⟩ : ∃ z, z = u9 := ⟨_, rfl⟩
    try dsimp only at hq hW
    exact hc_iret hC (wh, wc88) hW hq dX3_count_91
  by_cases hs6 : x1 = 6
  · refine lv_tableIn (tgt := 92) hC.x hC.b dX3_count_1 (by rw [hs6]; decide) (by rw [hs6]; decide) (by rw [hs6]; rfl) (by decide) ?_
    replace hq := hq.2.2.2.2.2.2.1 hs6
    refine lv_aload_n hC.x hC.b dX3_count_92 rfl (lv_at hl 0 rfl) ?_
    refine hc_get (v := .int (wh 3 0)) hC hW 0 3 3 inX3 rfl rfl (by decide) q_18 rfl dX3_count_93 ?_
    exact hc_iret hC (wh, wc) hW hq dX3_count_96
  refine lv_tableOut (tgt := 97) hC.x hC.b dX3_count_1 (by have e0 := lv_neT (a := 0) hs0 rfl; have e1 := lv_neT (a := 1) hs1 rfl; have e2 := lv_neT (a := 2) hs2 rfl; have e3 := lv_neT (a := 3) hs3 rfl; have e4 := lv_neT (a := 4) hs4 rfl; have e5 := lv_neT (a := 5) hs5 rfl; have e6 := lv_neT (a := 6) hs6 rfl; omega) (by decide) ?_
  replace hq := hq.2.2.2.2.2.2.2 ⟨hs0, hs1, hs2, hs3, hs4, hs5, hs6⟩
  refine lv_bipush (v := (-2)) hC.x hC.b dX3_count_97 (by decide) ?_
  exact hc_iret hC (wh, wc) hW hq dX3_count_99
